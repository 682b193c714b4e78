/-! ===== the lines of a text ===== -/
def RoomR (c48 c54 m4 m5 m6 : Nat → Int32) (r : Nat) : Prop := (∃ x, x < 100 ∧ c48 r = jn x) ∧ m4 (9 + r) = c48 r ∧ (∃ x, x < 9 ∧ c54 (32 + r) = jn x) ∧ m5 (9 + r) = c54 (32 + r) ∧ (∃ x, x < 9 ∧ c54 (41 + r) = jn x) ∧ m6 (9 + r) = c54 (41 + r)
def MonkR (nr : Nat) (c49 c54 m7 m8 m9 m10 : Nat → Int32) (m : Nat) : Prop := (∃ x, x < 4 ∧ c49 m = jn x) ∧ m7 (8 + m) = c49 m ∧ m8 (8 + m) = c54 m ∧ (∃ x, x < 10 ∧ c54 (8 + m) = jn x) ∧ m9 (8 + m) = c54 (8 + m) ∧ (∃ x, x < nr ∧ c54 (16 + m) = jn x) ∧ m10 (8 + m) = c54 (16 + m)
def LXg (d1 d2 d3 : Int32) (c47 c48 c49 c54 : Nat → Int32) (m35 m36 m37 m38 : Int32) (m4 m5 m6 m7 m8 m9 m10 : Nat → Int32) (nr nm b : Nat) : Prop := nr ≤ 9 ∧ nm ≤ 8 ∧ b < 8 ∧ d1 = jn (b % 2) ∧ d2 = jn (b / 2 % 2) ∧ d3 = jn (b / 4) ∧ c47 0 = jn nr ∧ c47 1 = jn nm ∧ m35 = jn nr ∧ m36 = jn nm ∧ m37 = c47 2 ∧ m38 = c47 3 ∧ (∀ r, r < nr → RoomR c48 c54 m4 m5 m6 r) ∧ (∀ m, m < nm → MonkR nr c49 c54 m7 m8 m9 m10 m) ∧ (∀ m, m < 8 → c54 (24 + m) = 0) ∧ c54 50 = 0 ∧ c54 51 = 0 ∧ c54 52 = 0
def LX (wC wM : Wld) (nr nm b : Nat) : Prop := LXg (wC 44 1) (wC 44 2) (wC 44 3) (wC 47) (wC 48) (wC 49) (wC 54) (wM 3 5) (wM 3 6) (wM 3 7) (wM 3 8) (wM 4) (wM 5) (wM 6) (wM 7) (wM 8) (wM 9) (wM 10) nr nm b
def LR (wR : Wld) (tx : Nat → Nat) (L : Nat) (wC wM : Wld) (p n D nr nm b : Nat) : Prop := PR wR tx L wC wM p n D ∧ LX wC wM nr nm b ∧ (b < 4 → D = 0)
theorem LX_fr {wC wM wC' wM' : Wld} {nr nm b : Nat} (x : LX wC wM nr nm b) (f : Frm [51] KCe wC wC') (g : Frm [11] KMe wM wM') : LX wC' wM' nr nm b := by
  unfold LX at x ⊢
  rw [f 44 1 rfl, f 44 2 rfl, f 44 3 rfl, frm_cell f 47 (fun _ => rfl), frm_cell f 48 (fun _ => rfl), frm_cell f 49 (fun _ => rfl), frm_cell f 54 (fun _ => rfl), g 3 5 rfl, g 3 6 rfl, g 3 7 rfl, g 3 8 rfl, frm_cell g 4 (fun _ => rfl), frm_cell g 5 (fun _ => rfl), frm_cell g 6 (fun _ => rfl), frm_cell g 7 (fun _ => rfl), frm_cell g 8 (fun _ => rfl), frm_cell g 9 (fun _ => rfl), frm_cell g 10 (fun _ => rfl)]
  exact x
def LSc : List Nat := [47, 48, 49, 54]
def KSc : List (Nat × Nat) := [(44, 1), (44, 2), (44, 3), (44, 4)]
def LSm : List Nat := [4, 5, 6, 7, 8, 9, 10]
def KSm : List (Nat × Nat) := [(3, 5), (3, 6), (3, 7), (3, 8)]
theorem PR_fr {wR : Wld} {tx : Nat → Nat} {L : Nat} {wC wM wC' wM' : Wld} {p n D : Nat} (r : PR wR tx L wC wM p n D) (f : Frm LSc KSc wC wC') (g : Frm LSm KSm wM wM') (kp : LoK wM wM' := by first | exact LoK_rf | exact LoK_wup LoK_rf (noLo (by omega)) | exact LoK_wup (LoK_wup LoK_rf (noLo (by omega))) (noLo (by omega)) | exact LoK_wup (LoK_wup (LoK_wup LoK_rf (noLo (by omega))) (noLo (by omega))) (noLo (by omega)) | exact LoK_wup (LoK_wup (LoK_wup (LoK_wup LoK_rf (noLo (by omega))) (noLo (by omega))) (noLo (by omega))) (noLo (by omega))) : PR wR tx L wC' wM' p n D := by
  obtain ⟨r1, r2, r3, r4, r5, r6, r7, r8⟩ := r
  refine ⟨CTx_fr r1 f ⟨rfl, fun _ => rfl⟩, MTx_fr r2 g ⟨rfl, fun _ => rfl⟩, r3, CTk_fr r4 f ⟨rfl, rfl, rfl, rfl, rfl, rfl⟩, MTk_fr r5 g ⟨rfl, rfl, rfl, rfl, rfl⟩, (g 0 21 rfl).trans r6, ?_, r8⟩
  obtain ⟨d1, d2, d3, d4, d5, d6⟩ := r7
  refine ⟨(f 50 2 rfl).trans d1, (g 3 9 rfl).trans d2, fun k hk => ?_, ?_, ?_, LoK_tr d6 kp⟩
  · rw [g 11 _ rfl, f 51 _ rfl]; exact d3 k hk
  · rw [frm_cell f 51 (fun _ => rfl)]; exact d4
  · rw [frm_cell f 51 (fun _ => rfl)]; exact d5
theorem PF_fr {wR : Wld} {wC wM wC' wM' : Wld} (r : PF wR wC wM) (f : Frm LSc KSc wC wC') (g : Frm LSm KSm wM wM') (kp : LoK wM wM' := by first | exact LoK_rf | exact LoK_wup LoK_rf (noLo (by omega)) | exact LoK_wup (LoK_wup LoK_rf (noLo (by omega))) (noLo (by omega)) | exact LoK_wup (LoK_wup (LoK_wup LoK_rf (noLo (by omega))) (noLo (by omega))) (noLo (by omega)) | exact LoK_wup (LoK_wup (LoK_wup (LoK_wup LoK_rf (noLo (by omega))) (noLo (by omega))) (noLo (by omega))) (noLo (by omega))) : PF wR wC' wM' := by
  obtain ⟨r1, r2, r3, m, r4, r5, r6⟩ := r
  refine ⟨?_, ?_, ?_, m, r4, (f 50 2 rfl).trans r5, LoK_tr r6 kp⟩
  · rw [g 0 21 rfl, f 44 5 rfl]; exact r1
  · rw [f 44 5 rfl]; exact r2
  · rw [g 0 22 rfl, f 44 6 rfl]; exact r3
def LLc : List Nat := [44, 45, 47, 48, 49, 50, 51, 54]
def LLm : List Nat := [3, 4, 5, 6, 7, 8, 9, 10, 11]
def KLm : List (Nat × Nat) := [(0, 15), (0, 17), (0, 18), (0, 19), (0, 20), (0, 21), (0, 22)]
def BOut (wR : Wld) (tx : Nat → Nat) (L : Nat) (wC wM : Wld) (p b : Nat) (q : Int32 × Wld) (wM' : Wld) : Prop := Frm LLc [] wC q.2 ∧ Frm LLm KLm wM wM' ∧ ((q.1 = 1 ∧ ∃ p' n' D' nr' nm', p < p' ∧ LR wR tx L q.2 wM' p' n' D' nr' nm' b) ∨ (q.1 = 0 ∧ PF wR q.2 wM'))
def LnOut (wR : Wld) (tx : Nat → Nat) (L : Nat) (wC wM : Wld) (p : Nat) (q q' : Int32 × Wld) : Prop := Frm LLc [] wC q.2 ∧ Frm LLm KLm wM q'.2 ∧ ((q.1 = 1 ∧ ∃ p' n' D' nr' nm' b, p < p' ∧ q'.1 = jn b ∧ LR wR tx L q.2 q'.2 p' n' D' nr' nm' b) ∨ (q.1 = 0 ∧ PF wR q.2 q'.2))
theorem line_end {wR : Wld} {tx : Nat → Nat} {L : Nat} {wC wM wM' : Wld} {p b b' bit : Nat} {q : Int32 × Wld} {xC : Option (Int32 × Wld)} {yM : Option (Int32 × Wld)} (hb : jn b ||| jn bit = jn b') (hC : xC = some q) (hM : yM = K_M_readLine_165 (jn b) (jn bit) wM') (h : BOut wR tx L wC wM p b' q wM') : Ret2 (bd xC (fun i w => K_Reader_readLine_44_94 i w)) yM (LnOut wR tx L wC wM p) := by
  obtain ⟨f, g, res⟩ := h
  obtain ⟨v, a⟩ := q
  simp only at f res
  rw [hC, hM, bd_some, K_M_readLine_165, hb]
  simp only
  rcases res with ⟨rfl, p1, n1, D1, nr, nm, hp1, r1, x1, d1⟩ | ⟨rfl, f1⟩
  · rw [K_Reader_readLine_44_94, br_neg (by decide), li_59]
    by_cases hQ : mk tx L p1 59 = true
    · obtain ⟨a3, b3, ea3, eb3, fa3, fb3, p3, hp3, r3⟩ := both_step r1 (mk_lt r1.2.2.1 hQ)
      rw [(c_sign r1 (c := 59) (by omega) (by omega)).1 hQ, ea3, (m_mark r1 (c := 59) (by decide) (by omega)).1 hQ, eb3]
      refine ⟨(1, a3), (jn b', b3), ?_, rfl, frm_tr f (frm_up fa3 rfl), frm_tr g (frm_up fb3 rfl), Or.inl ⟨rfl, p3, n1, D1, nr, nm, b', by omega, rfl, r3, LX_fr x1 (frm_up fa3 rfl) (frm_up fb3 rfl), d1⟩⟩
      rw [bv_some, bd_some]
      simp only
      rw [br_neg (by decide), K_Reader_readLine_44_112, gd_pos (Or.inr rfl)]
    · rw [(c_sign r1 (c := 59) (by omega) (by omega)).2 hQ, (m_mark r1 (c := 59) (by decide) (by omega)).2 hQ]
      refine ⟨(0, wup (wup a 44 5 1) 44 6 (a 45 3)), (jn b', wup (wup wM' 0 21 1) 0 22 (wM' 0 19)), ?_, rfl, frm_tr f (frm_wup (frm_wup frm_rf _ _ _ rfl) _ _ _ rfl), frm_tr g (frm_wup (frm_wup frm_rf _ _ _ rfl) _ _ _ rfl), Or.inr ⟨rfl, fail_PF r1 (k := 1) (by decide)⟩⟩
      rw [bd_some]
      simp only
      rw [br_pos trivial, K_Reader_readLine_44_111, K_Reader_readLine_44_112, gd_pos (Or.inl rfl)]
  · rw [K_Reader_readLine_44_94, br_pos rfl, K_Reader_readLine_44_111, K_Reader_readLine_44_112, gd_pos (Or.inl rfl), m_markB (PF_b f1), bv_some]
    exact ⟨(0, a), (jn b', wM'), rfl, rfl, f, g, Or.inr ⟨rfl, f1⟩⟩
theorem bit_fail : ∀ b, b < 8 → (¬ b % 2 = 0 → ¬ ((1 : Int32) &&& jn b) = 0) ∧ (¬ b / 2 % 2 = 0 → ¬ ((2 : Int32) &&& jn b) = 0) ∧ (¬ b / 4 = 0 → ¬ ((4 : Int32) &&& jn b) = 0) ∧ (b % 2 = 0 → ((1 : Int32) &&& jn b) = 0) ∧ (b / 2 % 2 = 0 → ((2 : Int32) &&& jn b) = 0) ∧ (b / 4 = 0 → ((4 : Int32) &&& jn b) = 0) := by decide +kernel
theorem bit_or : ∀ b, b < 8 → (b % 2 = 0 → jn b ||| jn 1 = jn (b + 1)) ∧ (b / 2 % 2 = 0 → jn b ||| jn 2 = jn (b + 2)) ∧ (b / 4 = 0 → jn b ||| jn 4 = jn (b + 4)) ∧ jn b ||| jn 0 = jn b ∧ (¬ b % 2 = 0 → jn b ||| jn 1 = jn b) ∧ (¬ b / 2 % 2 = 0 → jn b ||| jn 2 = jn b) ∧ (¬ b / 4 = 0 → jn b ||| jn 4 = jn b) := by decide +kernel
theorem wup_n {w : Wld} {n i : Nat} {v : Int32} {n' i' : Nat} (h : ¬ (n' = n ∧ i' = i)) : wup w n i v n' i' = w n' i' := by
  by_cases e : n' = n
  · subst e
    rw [wup_s2 _ _ _ (fun z => h ⟨rfl, z⟩)]
  · rw [wup_o _ _ _ e]
theorem b_tires {wR : Wld} {tx : Nat → Nat} {L : Nat} {wC wM : Wld} {p n D nr nm b : Nat} (r : LR wR tx L wC wM p n D nr nm b) (hpL : p < L) (i1 : Int32) : Ret2 (bd (F_Reader_readTires_44 wC) (fun i w => K_Reader_readLine_44_94 i w)) (K_M_readLine_52 (jn b) i1 1 wM) (LnOut wR tx L wC wM p) := by
  obtain ⟨r1, x, hd⟩ := r
  have x0 := x
  obtain ⟨x1, x2, x3, x4, x5, x6, x7, x8, x9, x10, x11, x12, x13, x14, x15, x16, x17, x18⟩ := x0
  have r6 := r1.2.2.2.2.2.1
  have bf := bit_fail b x3
  have bo := bit_or b x3
  have vpi : vp_in (7 : Int32) 10 := vpK (k := 7) (by omega) (by omega)
  have cli : Int32.toNatClampNeg (7 : Int32) = 7 := rfl
  by_cases hb : b % 2 = 0
  · obtain ⟨a1, b1, ea1, eb1, fa1, fb1, p1, hp1, s1⟩ := both_step (PR_fr r1 (wC' := wup wC 44 1 1) (frm_wup frm_rf _ _ _ rfl) frm_rf) hpL
    obtain ⟨⟨v, a2⟩, ⟨v', b2⟩, ea2, eb2, fa2, fb2, res⟩ := both_num s1 (lo := 1) (hi := 50) (by omega) (by omega)
    simp only at fa2 fb2 res
    have FC : Frm [51] KCe (wup wC 44 1 1) a2 := frm_tr (frm_up fa1 rfl) (frm_up fa2 rfl)
    have FM : Frm [11] KMe wM b2 := frm_tr (frm_up fb1 rfl) (frm_up fb2 rfl)
    have eC : F_Reader_readTires_44 wC = br (¬ v = 0) (bw (wup a2 47 2 (a2 44 4)) (fun w5 => some (1, w5))) (some (0, a2)) := by
      rw [F_Reader_readTires_44, br_pos (by rw [x4, hb]; rfl), gd_pos (Or.inr rfl), bw_eq, ea1, bv_some, show F_Reader_readNumber_44 a1 1 50 = _ from ea2, bd_some]
    have eM : K_M_readLine_52 (jn b) i1 1 wM = K_M_readLine_165 (jn b) (jn 1) (wup b2 3 7 v') := by
      rw [K_M_readLine_52, br_pos (bf.2.2.2.1 hb), K_M_readLine_64, br_neg (by decide), r6, br_neg (fun z => z rfl), eb1, bv_some, K_M_readLine_79, br_neg (fun z => z rfl), show F_M_readNumber b1 1 50 = _ from eb2, bd_some]
      simp only
      rw [gd_pos vpi, bw_eq, cli]
      rfl
    rcases res with ⟨rfl, y, p2, y1, y2, y3, rfl, hp2, s2⟩ | ⟨rfl, rfl, f2⟩
    · rw [br_pos (by decide), bw_eq] at eC
      refine line_end (bo.1 hb) eC eM ⟨?_, ?_, Or.inl ⟨rfl, p2, n, D, nr, nm, by omega, ?_, ?_, fun z => hd (by omega)⟩⟩
      · exact frm_wup (frm_tr (frm_wup frm_rf _ _ _ rfl) (frm_up FC rfl)) _ _ _ rfl
      · exact frm_wup (frm_up FM rfl) _ _ _ rfl
      · exact PR_fr s2 (frm_wup frm_rf _ _ _ rfl) (frm_wup frm_rf _ _ _ rfl)
      · have FC2 : Frm [51] KCe (wup (wup wC 44 1 1) 47 2 (jn y)) (wup a2 47 2 (a2 44 4)) := by
          intro n9 j9 h9
          by_cases e : n9 = 47 ∧ j9 = 2
          · obtain ⟨rfl, rfl⟩ := e
            rw [wup_s1, wup_s1]; exact y3
          · rw [wup_n e, wup_n e]; exact FC n9 j9 h9
        have FM2 : Frm [11] KMe (wup wM 3 7 (jn y)) (wup b2 3 7 (jn y)) := by
          intro n9 j9 h9
          by_cases e : n9 = 3 ∧ j9 = 7
          · obtain ⟨rfl, rfl⟩ := e
            rw [wup_s1, wup_s1]
          · rw [wup_n e, wup_n e]; exact FM n9 j9 h9
        refine LX_fr ?_ FC2 FM2
        refine ⟨x1, x2, by omega, ?_, ?_, ?_, ?_, ?_, ?_, ?_, ?_, ?_, ?_, ?_, ?_, ?_, ?_, ?_⟩
        all_goals simp only [wup_o _ _ _ (by decide : (44 : Nat) ≠ 47), wup_o _ _ _ (by decide : (47 : Nat) ≠ 44), wup_o _ _ _ (by decide : (48 : Nat) ≠ 47), wup_o _ _ _ (by decide : (48 : Nat) ≠ 44), wup_o _ _ _ (by decide : (49 : Nat) ≠ 47), wup_o _ _ _ (by decide : (49 : Nat) ≠ 44), wup_o _ _ _ (by decide : (54 : Nat) ≠ 47), wup_o _ _ _ (by decide : (54 : Nat) ≠ 44), wup_o _ _ _ (by decide : (4 : Nat) ≠ 3), wup_o _ _ _ (by decide : (5 : Nat) ≠ 3), wup_o _ _ _ (by decide : (6 : Nat) ≠ 3), wup_o _ _ _ (by decide : (7 : Nat) ≠ 3), wup_o _ _ _ (by decide : (8 : Nat) ≠ 3), wup_o _ _ _ (by decide : (9 : Nat) ≠ 3), wup_o _ _ _ (by decide : (10 : Nat) ≠ 3), wup_s1, wup_s2 _ _ _ (by decide : (0 : Nat) ≠ 2), wup_s2 _ _ _ (by decide : (1 : Nat) ≠ 2), wup_s2 _ _ _ (by decide : (3 : Nat) ≠ 2), wup_s2 _ _ _ (by decide : (5 : Nat) ≠ 7), wup_s2 _ _ _ (by decide : (6 : Nat) ≠ 7), wup_s2 _ _ _ (by decide : (8 : Nat) ≠ 7), wup_s2 _ _ _ (by decide : (2 : Nat) ≠ 1), wup_s2 _ _ _ (by decide : (3 : Nat) ≠ 1)]
        all_goals first | assumption | skip
        · rw [show (b + 1) % 2 = 1 by omega]; rfl
        · rw [show (b + 1) / 2 % 2 = b / 2 % 2 by omega]; exact x5
        · rw [show (b + 1) / 4 = b / 4 by omega]; exact x6
    · rw [br_neg (fun z => z rfl)] at eC
      refine line_end (bo.1 hb) eC eM ⟨?_, ?_, Or.inr ⟨rfl, ?_⟩⟩
      · exact frm_tr (frm_wup frm_rf _ _ _ rfl) (frm_up FC rfl)
      · exact frm_wup (frm_up FM rfl) _ _ _ rfl
      · exact PF_fr f2 frm_rf (frm_wup frm_rf _ _ _ rfl)
  · have hb5 : ¬ (wup (wup wM 0 21 5) 0 22 (wM 0 19)) 0 21 = 0 := by rw [wup_s2 _ _ _ (by decide), wup_s1]; decide
    have hnz : ¬ wC 44 1 = 0 := by rw [x4, jn_e0 (by omega)]; exact hb
    have eC : F_Reader_readTires_44 wC = some (0, wup (wup wC 44 5 5) 44 6 (wC 45 3)) := by
      rw [F_Reader_readTires_44, br_neg hnz, c_failed, bd_some, gd_pos (Or.inl rfl)]
    have eM : K_M_readLine_52 (jn b) i1 1 wM = K_M_readLine_165 (jn b) (jn 1) (wup (wup (wup wM 0 21 5) 0 22 (wM 0 19)) 3 7 0) := by
      rw [K_M_readLine_52, br_neg (bf.1 hb), m_wrong0 r6, bv_some, K_M_readLine_64, br_neg (by decide), br_pos hb5, K_M_readLine_79, br_neg (fun z => z rfl), m_numB hb5, bd_some]
      simp only
      rw [gd_pos vpi, bw_eq, cli]
      rfl
    refine line_end (bo.2.2.2.2.1 hb) eC eM ⟨?_, ?_, Or.inr ⟨rfl, ?_⟩⟩
    · exact frm_wup (frm_wup frm_rf _ _ _ rfl) _ _ _ rfl
    · exact frm_wup (frm_wup (frm_wup frm_rf _ _ _ rfl) _ _ _ rfl) _ _ _ rfl
    · exact PF_fr (fail_PF r1 (k := 5) (by decide)) frm_rf (frm_wup frm_rf _ _ _ rfl)
theorem b_rests {wR : Wld} {tx : Nat → Nat} {L : Nat} {wC wM : Wld} {p n D nr nm b : Nat} (r : LR wR tx L wC wM p n D nr nm b) (hpL : p < L) (i1 : Int32) : Ret2 (bd (F_Reader_readRests_44 wC) (fun i w => K_Reader_readLine_44_94 i w)) (K_M_readLine_52 (jn b) i1 2 wM) (LnOut wR tx L wC wM p) := by
  obtain ⟨r1, x, hd⟩ := r
  have x0 := x
  obtain ⟨x1, x2, x3, x4, x5, x6, x7, x8, x9, x10, x11, x12, x13, x14, x15, x16, x17, x18⟩ := x0
  have r6 := r1.2.2.2.2.2.1
  have bf := bit_fail b x3
  have bo := bit_or b x3
  have vpi : vp_in (8 : Int32) 10 := vpK (k := 8) (by omega) (by omega)
  have cli : Int32.toNatClampNeg (8 : Int32) = 8 := rfl
  by_cases hb : b / 2 % 2 = 0
  · obtain ⟨a1, b1, ea1, eb1, fa1, fb1, p1, hp1, s1⟩ := both_step (PR_fr r1 (wC' := wup wC 44 2 1) (frm_wup frm_rf _ _ _ rfl) frm_rf) hpL
    obtain ⟨⟨v, a2⟩, ⟨v', b2⟩, ea2, eb2, fa2, fb2, res⟩ := both_num s1 (lo := 0) (hi := 50) (by omega) (by omega)
    simp only at fa2 fb2 res
    have FC : Frm [51] KCe (wup wC 44 2 1) a2 := frm_tr (frm_up fa1 rfl) (frm_up fa2 rfl)
    have FM : Frm [11] KMe wM b2 := frm_tr (frm_up fb1 rfl) (frm_up fb2 rfl)
    have eC : F_Reader_readRests_44 wC = br (¬ v = 0) (bw (wup a2 47 3 (a2 44 4)) (fun w5 => some (1, w5))) (some (0, a2)) := by
      rw [F_Reader_readRests_44, br_pos (by rw [x5, hb]; rfl), gd_pos (Or.inr rfl), bw_eq, ea1, bv_some, show F_Reader_readNumber_44 a1 0 50 = _ from ea2, bd_some]
    have eM : K_M_readLine_52 (jn b) i1 2 wM = K_M_readLine_165 (jn b) (jn 2) (wup b2 3 8 v') := by
      rw [K_M_readLine_52, br_pos (bf.2.2.2.2.1 hb), K_M_readLine_64, br_neg (by decide), r6, br_neg (fun z => z rfl), eb1, bv_some, K_M_readLine_79, br_pos (by decide), br_neg (fun z => z rfl), show F_M_readNumber b1 0 50 = _ from eb2, bd_some]
      simp only
      rw [gd_pos vpi, bw_eq, cli]
      rfl
    rcases res with ⟨rfl, y, p2, y1, y2, y3, rfl, hp2, s2⟩ | ⟨rfl, rfl, f2⟩
    · rw [br_pos (by decide), bw_eq] at eC
      refine line_end (bo.2.1 hb) eC eM ⟨?_, ?_, Or.inl ⟨rfl, p2, n, D, nr, nm, by omega, ?_, ?_, fun z => hd (by omega)⟩⟩
      · exact frm_wup (frm_tr (frm_wup frm_rf _ _ _ rfl) (frm_up FC rfl)) _ _ _ rfl
      · exact frm_wup (frm_up FM rfl) _ _ _ rfl
      · exact PR_fr s2 (frm_wup frm_rf _ _ _ rfl) (frm_wup frm_rf _ _ _ rfl)
      · have FC2 : Frm [51] KCe (wup (wup wC 44 2 1) 47 3 (jn y)) (wup a2 47 3 (a2 44 4)) := by
          intro n9 j9 h9
          by_cases e : n9 = 47 ∧ j9 = 3
          · obtain ⟨rfl, rfl⟩ := e
            rw [wup_s1, wup_s1]; exact y3
          · rw [wup_n e, wup_n e]; exact FC n9 j9 h9
        have FM2 : Frm [11] KMe (wup wM 3 8 (jn y)) (wup b2 3 8 (jn y)) := by
          intro n9 j9 h9
          by_cases e : n9 = 3 ∧ j9 = 8
          · obtain ⟨rfl, rfl⟩ := e
            rw [wup_s1, wup_s1]
          · rw [wup_n e, wup_n e]; exact FM n9 j9 h9
        refine LX_fr ?_ FC2 FM2
        refine ⟨x1, x2, by omega, ?_, ?_, ?_, ?_, ?_, ?_, ?_, ?_, ?_, ?_, ?_, ?_, ?_, ?_, ?_⟩
        all_goals simp only [wup_o _ _ _ (by decide : (44 : Nat) ≠ 47), wup_o _ _ _ (by decide : (47 : Nat) ≠ 44), wup_o _ _ _ (by decide : (48 : Nat) ≠ 47), wup_o _ _ _ (by decide : (48 : Nat) ≠ 44), wup_o _ _ _ (by decide : (49 : Nat) ≠ 47), wup_o _ _ _ (by decide : (49 : Nat) ≠ 44), wup_o _ _ _ (by decide : (54 : Nat) ≠ 47), wup_o _ _ _ (by decide : (54 : Nat) ≠ 44), wup_o _ _ _ (by decide : (4 : Nat) ≠ 3), wup_o _ _ _ (by decide : (5 : Nat) ≠ 3), wup_o _ _ _ (by decide : (6 : Nat) ≠ 3), wup_o _ _ _ (by decide : (7 : Nat) ≠ 3), wup_o _ _ _ (by decide : (8 : Nat) ≠ 3), wup_o _ _ _ (by decide : (9 : Nat) ≠ 3), wup_o _ _ _ (by decide : (10 : Nat) ≠ 3), wup_s1, wup_s2 _ _ _ (by decide : (0 : Nat) ≠ 3), wup_s2 _ _ _ (by decide : (1 : Nat) ≠ 3), wup_s2 _ _ _ (by decide : (2 : Nat) ≠ 3), wup_s2 _ _ _ (by decide : (5 : Nat) ≠ 8), wup_s2 _ _ _ (by decide : (6 : Nat) ≠ 8), wup_s2 _ _ _ (by decide : (7 : Nat) ≠ 8), wup_s2 _ _ _ (by decide : (1 : Nat) ≠ 2), wup_s2 _ _ _ (by decide : (3 : Nat) ≠ 2)]
        all_goals first | assumption | skip
        · rw [show (b + 2) % 2 = b % 2 by omega]; exact x4
        · rw [show (b + 2) / 2 % 2 = 1 by omega]; rfl
        · rw [show (b + 2) / 4 = b / 4 by omega]; exact x6
    · rw [br_neg (fun z => z rfl)] at eC
      refine line_end (bo.2.1 hb) eC eM ⟨?_, ?_, Or.inr ⟨rfl, ?_⟩⟩
      · exact frm_tr (frm_wup frm_rf _ _ _ rfl) (frm_up FC rfl)
      · exact frm_wup (frm_up FM rfl) _ _ _ rfl
      · exact PF_fr f2 frm_rf (frm_wup frm_rf _ _ _ rfl)
  · have hb5 : ¬ (wup (wup wM 0 21 5) 0 22 (wM 0 19)) 0 21 = 0 := by rw [wup_s2 _ _ _ (by decide), wup_s1]; decide
    have hnz : ¬ wC 44 2 = 0 := by rw [x5, jn_e0 (by omega)]; exact hb
    have eC : F_Reader_readRests_44 wC = some (0, wup (wup wC 44 5 5) 44 6 (wC 45 3)) := by
      rw [F_Reader_readRests_44, br_neg hnz, c_failed, bd_some, gd_pos (Or.inl rfl)]
    have eM : K_M_readLine_52 (jn b) i1 2 wM = K_M_readLine_165 (jn b) (jn 2) (wup (wup (wup wM 0 21 5) 0 22 (wM 0 19)) 3 8 0) := by
      rw [K_M_readLine_52, br_neg (bf.2.1 hb), m_wrong0 r6, bv_some, K_M_readLine_64, br_neg (by decide), br_pos hb5, K_M_readLine_79, br_pos (by decide), br_neg (fun z => z rfl), m_numB hb5, bd_some]
      simp only
      rw [gd_pos vpi, bw_eq, cli]
      rfl
    refine line_end (bo.2.2.2.2.2.1 hb) eC eM ⟨?_, ?_, Or.inr ⟨rfl, ?_⟩⟩
    · exact frm_wup (frm_wup frm_rf _ _ _ rfl) _ _ _ rfl
    · exact frm_wup (frm_wup (frm_wup frm_rf _ _ _ rfl) _ _ _ rfl) _ _ _ rfl
    · exact PF_fr (fail_PF r1 (k := 5) (by decide)) frm_rf (frm_wup frm_rf _ _ _ rfl)
