/-! ===== the lines of dreams, rooms and monks ===== -/
theorem frm_both {L : List Nat} {K : List (Nat × Nat)} {w w' : Wld} (f : Frm L K w w') (n i : Nat) (v : Int32) : Frm L K (wup w n i v) (wup w' n i v) := by
  intro n9 j9 h9
  by_cases e : n9 = n ∧ j9 = i
  · obtain ⟨rfl, rfl⟩ := e
    rw [wup_s1, wup_s1]
  · rw [wup_n e, wup_n e]; exact f n9 j9 h9
theorem b_dreams {wR : Wld} {tx : Nat → Nat} {L : Nat} {wC wM : Wld} {p n D nr nm b : Nat} (r : LR wR tx L wC wM p n D nr nm b) (hpL : p < L) (i1 : Int32) : Ret2 (bd (F_Reader_readDreams_44 wC) (fun i w => K_Reader_readLine_44_94 i w)) (K_M_readLine_52 (jn b) i1 4 wM) (LnOut wR tx L wC wM p) := by
  obtain ⟨r1, x, hd⟩ := r
  have x0 := x
  obtain ⟨x1, x2, x3, x4, x5, x6, x7, x8, x9, x10, x11, x12, x13, x14, x15, x16, x17, x18⟩ := x0
  have r6 := r1.2.2.2.2.2.1
  have bf := bit_fail b x3
  have bo := bit_or b x3
  by_cases hb : b / 4 = 0
  · have hD : D = 0 := hd (by omega)
    subst hD
    obtain ⟨a1, b1, ea1, eb1, fa1, fb1, p1, hp1, s1⟩ := both_step (PR_fr r1 (wC' := wup wC 44 3 1) (frm_wup frm_rf _ _ _ rfl) frm_rf) hpL
    obtain ⟨⟨v, a2⟩, b2, ea2, eb2, fa2, fb2, res⟩ := p_top s1
    simp only at fa2 res
    have FC : Frm [51] KCe (wup wC 44 3 1) a2 := frm_tr (frm_up fa1 rfl) fa2
    have FM : Frm [11] KMe wM b2 := frm_tr (frm_up fb1 rfl) fb2
    have hv : v = 0 ∨ v = 1 := by
      rcases res with ⟨h, _⟩ | ⟨h, _⟩
      · exact Or.inr h
      · exact Or.inl h
    have eC : F_Reader_readDreams_44 wC = some (v, a2) := by
      rw [F_Reader_readDreams_44, br_pos (by rw [x6, hb]; rfl), gd_pos (Or.inr rfl), bw_eq, ea1, bv_some, ea2, bd_some]
      simp only
      rw [gd_pos hv]
    have eM : K_M_readLine_52 (jn b) i1 4 wM = K_M_readLine_165 (jn b) (jn 4) b2 := by
      rw [K_M_readLine_52, br_pos (bf.2.2.2.2.2 hb), K_M_readLine_64, br_neg (by decide), r6, br_neg (fun z => z rfl), eb1, bv_some, K_M_readLine_79, br_pos (by decide), br_pos (by decide), eb2, bv_some]
      rfl
    have f1 : Frm LLc [] wC a2 := frm_tr (frm_wup frm_rf _ _ _ rfl) (frm_up FC rfl)
    have g1 : Frm LLm KLm wM b2 := frm_up FM rfl
    rcases res with ⟨rfl, p2, n2, hp2, hn2, s2⟩ | ⟨rfl, f2⟩
    · refine line_end (bo.2.2.1 hb) eC eM ⟨f1, g1, Or.inl ⟨rfl, p2, n2, 0 + 1, nr, nm, by omega, s2, ?_, fun z => by omega⟩⟩
      refine LX_fr ?_ FC FM
      refine ⟨x1, x2, by omega, ?_, ?_, ?_, ?_, ?_, x9, x10, ?_, ?_, ?_, ?_, ?_, ?_, ?_, ?_⟩
      all_goals simp (disch := omega) only [wup_s1, wup_s2, wup_o, wcp_o]
      all_goals first | assumption | skip
      · rw [show (b + 4) % 2 = b % 2 by omega]; exact x4
      · rw [show (b + 4) / 2 % 2 = b / 2 % 2 by omega]; exact x5
      · rw [show (b + 4) / 4 = 1 by omega]; rfl
    · exact line_end (bo.2.2.1 hb) eC eM ⟨f1, g1, Or.inr ⟨rfl, f2⟩⟩
  · have hb5 : ¬ (wup (wup wM 0 21 5) 0 22 (wM 0 19)) 0 21 = 0 := by rw [wup_s2 _ _ _ (by decide), wup_s1]; decide
    have hnz : ¬ wC 44 3 = 0 := by rw [x6, jn_e0 (by omega)]; exact hb
    have eC : F_Reader_readDreams_44 wC = some (0, wup (wup wC 44 5 5) 44 6 (wC 45 3)) := by
      rw [F_Reader_readDreams_44, br_neg hnz, c_failed, bd_some, gd_pos (Or.inl rfl)]
    have eM : K_M_readLine_52 (jn b) i1 4 wM = K_M_readLine_165 (jn b) (jn 4) (wup (wup wM 0 21 5) 0 22 (wM 0 19)) := by
      rw [K_M_readLine_52, br_neg (bf.2.2.1 hb), m_wrong0 r6, bv_some, K_M_readLine_64, br_neg (by decide), br_pos hb5, K_M_readLine_79, br_pos (by decide), br_pos (by decide), m_topB hb5, bv_some]
      rfl
    exact line_end (bo.2.2.2.2.2.2 hb) eC eM ⟨frm_wup (frm_wup frm_rf _ _ _ rfl) _ _ _ rfl, frm_wup (frm_wup frm_rf _ _ _ rfl) _ _ _ rfl, Or.inr ⟨rfl, fail_PF r1 (k := 5) (by decide)⟩⟩
theorem m_anR {wM : Wld} {nr : Nat} (h9 : nr ≤ 9) (e : wM 3 5 = jn nr) (hb : wM 0 21 = 0) : (nr < 9 → F_M_another wM 0 9 = bv (F_M_stepOn wM) (fun w1 => some (1, w1))) ∧ (¬ nr < 9 → F_M_another wM 0 9 = some (0, wup (wup wM 0 21 2) 0 22 (wM 0 19))) := by
  have e5 : (5 : Int32) + 0 = jn 5 := by decide
  have hb2 : ¬ (wup (wup wM 0 21 2) 0 22 (wM 0 19)) 0 21 = 0 := by rw [wup_s2 _ _ _ (by decide), wup_s1]; decide
  refine ⟨fun h => ?_, fun h => ?_⟩
  · rw [F_M_another, e5, gd_pos (vpK (by omega) (by omega)), jn_clamp (by omega), e, br_pos (by rw [li_9, jn_inj (by omega) (by omega)]; omega), K_M_another_17, br_pos hb]
  · have : nr = 9 := by omega
    subst this
    rw [F_M_another, e5, gd_pos (vpK (by omega) (by omega)), jn_clamp (by omega), e, br_neg (show ¬ ¬ jn 9 = 9 from fun z => z rfl), m_wrong0 hb, bv_some, K_M_another_17, br_neg hb2]
theorem m_anM {wM : Wld} {nm : Nat} (h9 : nm ≤ 8) (e : wM 3 6 = jn nm) (hb : wM 0 21 = 0) : (nm < 8 → F_M_another wM 1 8 = bv (F_M_stepOn wM) (fun w1 => some (1, w1))) ∧ (¬ nm < 8 → F_M_another wM 1 8 = some (0, wup (wup wM 0 21 2) 0 22 (wM 0 19))) := by
  have e5 : (5 : Int32) + 1 = jn 6 := by decide
  have hb2 : ¬ (wup (wup wM 0 21 2) 0 22 (wM 0 19)) 0 21 = 0 := by rw [wup_s2 _ _ _ (by decide), wup_s1]; decide
  refine ⟨fun h => ?_, fun h => ?_⟩
  · rw [F_M_another, e5, gd_pos (vpK (by omega) (by omega)), jn_clamp (by omega), e, br_pos (by rw [li_8, jn_inj (by omega) (by omega)]; omega), K_M_another_17, br_pos hb]
  · have : nm = 8 := by omega
    subst this
    rw [F_M_another, e5, gd_pos (vpK (by omega) (by omega)), jn_clamp (by omega), e, br_neg (show ¬ ¬ jn 8 = 8 from fun z => z rfl), m_wrong0 hb, bv_some, K_M_another_17, br_neg hb2]
theorem b_room {wR : Wld} {tx : Nat → Nat} {L : Nat} {wC wM : Wld} {p n D nr nm b : Nat} (r : LR wR tx L wC wM p n D nr nm b) (hpL : p < L) : ∃ q wM', F_Reader_readRoom_44 wC = some q ∧ F_M_sayRoom wM = some wM' ∧ BOut wR tx L wC wM p b q wM' := by
  obtain ⟨r1, x, hd⟩ := r
  have x0 := x
  obtain ⟨x1, x2, x3, x4, x5, x6, x7, x8, x9, x10, x11, x12, x13, x14, x15, x16, x17, x18⟩ := x0
  have r6 := r1.2.2.2.2.2.1
  have man := m_anR x1 x9 r6
  have v5 : vp_in (5 : Int32) 10 := vpK (k := 5) (by omega) (by omega)
  have c5 : Int32.toNatClampNeg (5 : Int32) = 5 := rfl
  by_cases hn9 : nr < 9
  · have vm : vp_in (jn (9 + nr)) 18 := vpK (by omega) (by omega)
    have cm : Int32.toNatClampNeg (jn (9 + nr)) = 9 + nr := jn_clamp (by omega)
    have va : vp_in (jn nr) 9 := vpK (by omega) (by omega)
    have ca : Int32.toNatClampNeg (jn nr) = nr := jn_clamp (by omega)
    have vb : vp_in (jn (32 + nr)) 53 := vpK (by omega) (by omega)
    have cb : Int32.toNatClampNeg (jn (32 + nr)) = 32 + nr := jn_clamp (by omega)
    have vc : vp_in (jn (41 + nr)) 53 := vpK (by omega) (by omega)
    have cc : Int32.toNatClampNeg (jn (41 + nr)) = 41 + nr := jn_clamp (by omega)
    obtain ⟨a1, b1, ea1, eb1, fa1, fb1, p1, hp1, s1⟩ := both_step r1 hpL
    have e35 : b1 3 5 = jn nr := (fb1 3 5 rfl).trans x9
    obtain ⟨zC, hC0⟩ : ∃ z, F_Reader_readRoom_44 wC = z := ⟨_, rfl⟩
    obtain ⟨zM, hM0⟩ : ∃ z, F_M_sayRoom wM = z := ⟨_, rfl⟩
    have hC := hC0
    have hM := hM0
    rw [F_Reader_readRoom_44, bi_eq, x7, br_pos (by rw [li_9, jn_lt (by omega) (by omega)]; exact hn9), ea1, bv_some, li_32, li_41, jn_add, jn_add] at hC
    rw [F_M_sayRoom, man.1 hn9, eb1, bv_some, bd_some] at hM
    simp only at hM
    rw [br_pos (by decide), gd_pos v5, c5, e35, li_9, jn_add, bi_eq] at hM
    obtain ⟨⟨v, a2⟩, ⟨v', b2⟩, ea2, eb2, fa2, fb2, res⟩ := both_num s1 (lo := 0) (hi := 99) (by omega) (by omega)
    simp only at fa2 fb2 res
    rw [show F_Reader_readNumber_44 a1 0 99 = _ from ea2, bd_some] at hC
    rw [show F_M_readNumber b1 0 99 = _ from eb2, bd_some] at hM
    simp only at hC hM
    rw [gd_pos vm, bw_eq, cm] at hM
    have FC2 : Frm [51] KCe wC a2 := frm_tr (frm_up fa1 rfl) (frm_up fa2 rfl)
    have FM2 : Frm [11] KMe wM b2 := frm_tr (frm_up fb1 rfl) (frm_up fb2 rfl)
    rcases res with ⟨rfl, y1, p2, -, hy1, ey1, rfl, hp2, s2⟩ | ⟨rfl, rfl, f2⟩
    · rw [br_pos (by decide), gd_pos va, bw_eq, ca, ey1] at hC
      have s2' : PR wR tx L (wup a2 48 nr (jn y1)) (wup b2 4 (9 + nr) (jn y1)) p2 n D := PR_fr s2 (frm_wup frm_rf _ _ _ rfl) (frm_wup frm_rf _ _ _ rfl)
      obtain ⟨⟨v, a3⟩, ⟨v', b3⟩, ea3, eb3, fa3, fb3, res⟩ := both_num s2' (lo := 0) (hi := 8) (by omega) (by omega)
      simp only at fa3 fb3 res
      rw [show F_Reader_readNumber_44 (wup a2 48 nr (jn y1)) 0 8 = _ from ea3, bd_some] at hC
      rw [show F_M_readNumber (wup b2 4 (9 + nr) (jn y1)) 0 8 = _ from eb3, bd_some] at hM
      simp only at hC hM
      rw [gd_pos vm, bw_eq] at hM
      have FC3 : Frm [51] KCe (wup wC 48 nr (jn y1)) a3 := frm_tr (frm_both FC2 _ _ _) (frm_up fa3 rfl)
      have FM3 : Frm [11] KMe (wup wM 4 (9 + nr) (jn y1)) b3 := frm_tr (frm_both FM2 _ _ _) (frm_up fb3 rfl)
      rcases res with ⟨rfl, y2, p3, -, hy2, ey2, rfl, hp3, s3⟩ | ⟨rfl, rfl, f3⟩
      · rw [br_pos (by decide), gd_pos vb, bw_eq, cb, ey2] at hC
        have s3' : PR wR tx L (wup a3 54 (32 + nr) (jn y2)) (wup b3 5 (9 + nr) (jn y2)) p3 n D := PR_fr s3 (frm_wup frm_rf _ _ _ rfl) (frm_wup frm_rf _ _ _ rfl)
        obtain ⟨⟨v, a4⟩, ⟨v', b4⟩, ea4, eb4, fa4, fb4, res⟩ := both_num s3' (lo := 0) (hi := 8) (by omega) (by omega)
        simp only at fa4 fb4 res
        rw [show F_Reader_readNumber_44 (wup a3 54 (32 + nr) (jn y2)) 0 8 = _ from ea4, bd_some] at hC
        rw [show F_M_readNumber (wup b3 5 (9 + nr) (jn y2)) 0 8 = _ from eb4, bd_some] at hM
        simp only at hC hM
        rw [gd_pos vm, bw_eq, gd_pos v5, gd_pos v5, bw_eq] at hM
        have FC4 : Frm [51] KCe (wup (wup wC 48 nr (jn y1)) 54 (32 + nr) (jn y2)) a4 := frm_tr (frm_both FC3 _ _ _) (frm_up fa4 rfl)
        have FM4 : Frm [11] KMe (wup (wup wM 4 (9 + nr) (jn y1)) 5 (9 + nr) (jn y2)) b4 := frm_tr (frm_both FM3 _ _ _) (frm_up fb4 rfl)
        have FCW : Frm LLc [] wC a4 := frm_tr (frm_wup (frm_wup frm_rf _ _ _ rfl) _ _ _ rfl) (frm_up FC4 rfl)
        have FMW : Frm LLm KLm wM b4 := frm_tr (frm_wup (frm_wup frm_rf _ _ _ rfl) _ _ _ rfl) (frm_up FM4 rfl)
        rcases res with ⟨rfl, y3, p4, -, hy3, ey3, rfl, hp4, s4⟩ | ⟨rfl, rfl, f4⟩
        · have e470 : (wup a4 54 (41 + nr) (jn y3)) 47 0 = jn nr := by
            rw [wup_o _ _ _ (by decide), FC4 47 0 rfl, wup_o _ _ _ (by decide), wup_o _ _ _ (by decide)]; exact x7
          have e350 : (wup b4 6 (9 + nr) (jn y3)) 3 5 = jn nr := by
            rw [wup_o _ _ _ (by decide), FM4 3 5 rfl, wup_o _ _ _ (by decide), wup_o _ _ _ (by decide)]; exact x9
          rw [br_pos (by decide), gd_pos vc, bw_eq, cc, ey3, bw_eq, e470, jn_1a] at hC
          rw [e350, jn_1a] at hM
          refine ⟨_, _, hC0.trans hC.symm, hM0.trans hM.symm, frm_wup (frm_wup FCW _ _ _ rfl) _ _ _ rfl, frm_wup (frm_wup FMW _ _ _ rfl) _ _ _ rfl, Or.inl ⟨rfl, p4, n, D, nr + 1, nm, by omega, PR_fr s4 (frm_wup (frm_wup frm_rf _ _ _ rfl) _ _ _ rfl) (frm_wup (frm_wup frm_rf _ _ _ rfl) _ _ _ rfl), ?_, hd⟩⟩
          refine LX_fr ?_ (frm_both (frm_both FC4 _ _ _) _ _ _) (frm_both (frm_both FM4 _ _ _) _ _ _)
          refine ⟨by omega, x2, x3, ?_, ?_, ?_, ?_, ?_, ?_, ?_, ?_, ?_, fun r hr => ?_, fun m hm => ?_, fun m hm => ?_, ?_, ?_, ?_⟩
          all_goals simp (disch := omega) only [wup_s1, wup_s2, wup_o, wcp_o]
          all_goals first | assumption | skip
          · unfold RoomR
            by_cases e : r = nr
            · subst e
              simp (disch := omega) only [wup_s1, wup_s2, wup_o, wcp_o]
              exact ⟨⟨y1, by omega, rfl⟩, trivial, ⟨y2, by omega, rfl⟩, trivial, ⟨y3, by omega, rfl⟩, trivial⟩
            · have hr' : r < nr := by omega
              simp (disch := omega) only [wup_s1, wup_s2, wup_o, wcp_o]
              exact x13 r hr'
          · obtain ⟨m1, m2, m3, m4, m5, ⟨mx, mx1, mx2⟩, m7⟩ := x14 m hm
            unfold MonkR
            simp (disch := omega) only [wup_s1, wup_s2, wup_o, wcp_o]
            exact ⟨m1, m2, m3, m4, m5, ⟨mx, by omega, mx2⟩, m7⟩
          · exact x15 m hm
        · rw [br_neg (fun z => z rfl)] at hC
          exact ⟨_, _, hC0.trans hC.symm, hM0.trans hM.symm, FCW, frm_wup (frm_wup FMW _ _ _ rfl) _ _ _ rfl, Or.inr ⟨rfl, PF_fr f4 frm_rf (frm_wup (frm_wup frm_rf _ _ _ rfl) _ _ _ rfl)⟩⟩
      · rw [br_neg (fun z => z rfl)] at hC
        have hbb : ¬ (wup b3 5 (9 + nr) 0) 0 21 = 0 := by rw [wup_o _ _ _ (by decide)]; exact PF_b f3
        rw [m_numB hbb, bd_some] at hM
        simp only at hM
        rw [gd_pos vm, bw_eq, gd_pos v5, gd_pos v5, bw_eq] at hM
        have FMW : Frm LLm KLm wM b3 := frm_tr (frm_wup frm_rf _ _ _ rfl) (frm_up FM3 rfl)
        exact ⟨_, _, hC0.trans hC.symm, hM0.trans hM.symm, frm_tr (frm_wup frm_rf _ _ _ rfl) (frm_up FC3 rfl), frm_wup (frm_wup (frm_wup FMW _ _ _ rfl) _ _ _ rfl) _ _ _ rfl, Or.inr ⟨rfl, PF_fr f3 frm_rf (frm_wup (frm_wup (frm_wup frm_rf _ _ _ rfl) _ _ _ rfl) _ _ _ rfl)⟩⟩
    · rw [br_neg (fun z => z rfl)] at hC
      have hbb : ¬ (wup b2 4 (9 + nr) 0) 0 21 = 0 := by rw [wup_o _ _ _ (by decide)]; exact PF_b f2
      have hbb2 : ¬ (wup (wup b2 4 (9 + nr) 0) 5 (9 + nr) 0) 0 21 = 0 := by rw [wup_o _ _ _ (by decide)]; exact hbb
      rw [m_numB hbb, bd_some] at hM
      simp only at hM
      rw [gd_pos vm, bw_eq, m_numB hbb2, bd_some] at hM
      simp only at hM
      rw [gd_pos vm, bw_eq, gd_pos v5, gd_pos v5, bw_eq] at hM
      exact ⟨_, _, hC0.trans hC.symm, hM0.trans hM.symm, frm_up FC2 rfl, frm_wup (frm_wup (frm_wup (frm_wup (frm_up FM2 rfl) _ _ _ rfl) _ _ _ rfl) _ _ _ rfl) _ _ _ rfl, Or.inr ⟨rfl, PF_fr f2 frm_rf (frm_wup (frm_wup (frm_wup (frm_wup frm_rf _ _ _ rfl) _ _ _ rfl) _ _ _ rfl) _ _ _ rfl)⟩⟩
  · refine ⟨(0, wup (wup wC 44 5 2) 44 6 (wC 45 3)), wup (wup wM 0 21 2) 0 22 (wM 0 19), ?_, ?_, frm_wup (frm_wup frm_rf _ _ _ rfl) _ _ _ rfl, frm_wup (frm_wup frm_rf _ _ _ rfl) _ _ _ rfl, Or.inr ⟨rfl, fail_PF r1 (k := 2) (by decide)⟩⟩
    · rw [F_Reader_readRoom_44, bi_eq, x7, br_neg (by rw [li_9, jn_lt (by omega) (by omega)]; exact hn9), c_failed, bd_some, gd_pos (Or.inl rfl)]
    · rw [F_M_sayRoom, man.2 hn9, bd_some]
      simp only
      rw [br_neg (fun z => z trivial)]
