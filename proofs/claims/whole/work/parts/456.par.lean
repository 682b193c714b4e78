/-! ===== house, both sides ===== -/
def LHo2 : List Nat := [57, 58, 60, 66]
def KHo2 : List (Nat × Nat) := [(42, 1), (42, 2), (42, 8), (56, 0), (56, 1), (56, 2), (56, 3), (59, 2), (67, 2), (69, 3)]
def KPh : List (Nat × Nat) := [(0, 2), (0, 14), (0, 15), (0, 16), (0, 17), (0, 18), (0, 19), (0, 20), (0, 21), (0, 22), (0, 23), (0, 31), (0, 32), (0, 33), (0, 34), (0, 35), (0, 55)]
def KPw : List (Nat × Nat) := [(0, 2), (0, 14), (0, 15), (0, 16), (0, 17), (0, 18), (0, 19), (0, 20), (0, 21), (0, 22), (0, 23), (0, 31), (0, 32), (0, 33), (0, 34), (0, 35), (0, 55), (42, 1), (42, 2), (42, 8), (56, 0), (56, 1), (56, 2), (56, 3), (59, 2), (67, 2), (69, 3)]
def KPf : List (Nat × Nat) := [(0, 2), (0, 14), (0, 15), (0, 16), (0, 17), (0, 18), (0, 19), (0, 20), (0, 21), (0, 22), (0, 23)]
theorem g_house {w : Wld} {h : Hs} (r : RelH w h) (a1 : Int32) : BothG cdI (F_C_house w a1) (fun w1 => F_M_house w1 a1) := by
  have r0 := r
  obtain ⟨r1, r2, r3, r4, r5, r6, r7, r8, r9⟩ := r0
  obtain ⟨⟨t, ht, t1, t2, tk⟩, t3⟩ := r9
  rcases rng_cases a1 0 t (by omega) (by omega) with ⟨L, -, hL, rfl⟩ | ⟨n1, n2⟩
  rotate_left
  · refine BothG_of (.inl 1) (fun w1 => w1 = w) ?_ (fun w1 w2 e f2 => ?_)
    · rw [F_C_house, t1, show F_C_needWithin w a1 0 (jn t) = _ from t_need_n w (a := 0) (b := t) n1, bn_some, ret_some]
      exact ⟨rfl, rfl⟩
    · subst e
      have e14 : (wup w2 0 2 0) 0 14 = jn t := by rw [wup_s2 _ _ _ (by decide), f2 0 14 rfl]; exact t2
      have eM : F_M_house w2 a1 = some (0, wup (wup w2 0 2 0) 0 2 1) := by
        rw [F_M_house, bw_eq, e14, K_M_house_17, t_fail, bd_some]
        by_cases h1 : a1 < 0
        · rw [br_pos h1]
        · rw [br_neg h1, br_neg (fun z => n2 ⟨Int32.not_lt.mp h1, z⟩)]
      have fa : Frm [12, 41, 73] [(0, 2)] w1 (wup (wup w2 0 2 0) 0 2 1) := frm_wup (frm_wup (frm_up f2 rfl) _ _ _ rfl) _ _ _ rfl
      have fb : Frm [41] [(0, 2)] w1 (wup (wup w2 0 2 0) 0 2 1) := frm_wup (frm_wup (frm_up f2 rfl) _ _ _ rfl) _ _ _ rfl
      show Ret (F_M_house w2 a1) _
      rw [eM, ret_some]
      refine ⟨?_, ⟨h, RelH_ref r fa (RU_fr r7 fb ⟨fun _ => rfl, fun _ => rfl⟩)⟩, ?_⟩
      · show (wup (wup w2 0 2 0) 0 2 1) 0 2 = cdI 1 ∧ ¬ cdI 1 = 9
        exact ⟨by rw [wup_s1]; rfl, by decide⟩
      show (wup (wup w2 0 2 0) 0 2 1) 41 0 = w2 41 0
      rw [wup_o _ _ _ (by decide), wup_o _ _ _ (by decide)]
  have hL7 : L ≤ 700 := by omega
  obtain ⟨tx, htx⟩ : ∃ tx : Nat → Nat, ∀ k, k < L → tx k < 256 ∧ w 43 k = sb (tx k) ∧ w 13 k = jn (tx k) := by
    refine ⟨fun k => (w 13 k).toNatClampNeg, fun k hk => ?_⟩
    obtain ⟨b, b1, b2, b3⟩ := tk k (by omega)
    have : (w 13 k).toNatClampNeg = b := by rw [b2, jn_clamp (by omega)]
    simp only [this]
    exact ⟨b1, b3, b2⟩
  obtain ⟨wC, eC, fC, ct, ck, c1, c2, c3, c4, c5, c6, c7, c8, c9⟩ := h_begin_c (w := w) (tx := tx) hL7 (fun k hk => ⟨(htx k hk).1, (htx k hk).2.1⟩)
  have need : F_C_needWithin w (jn L) 0 (w 42 1) = some none := by rw [t1]; exact t_need_y w (a := 0) (b := t) (by omega) (Nat.zero_le _) hL
  have run : ∀ w2 : Wld, w2 0 14 = w 0 14 → w2 13 = w 13 → ∃ wM wM', F_M_house w2 (jn L) = mTail wM' ∧ Frm [] KHb w2 wM ∧ (wM 0 2 = 0 ∧ wM 0 14 = 0 ∧ wM 0 23 = -1) ∧ Frm LLm KLm wM wM' ∧ ((∃ wC' p' n' D' nr' nm' b', loop B_Reader_readText_44_43_8 (0, wC) = some (.inl wC') ∧ Frm LLc [] wC wC' ∧ LR wM tx L wC' wM' p' n' D' nr' nm' b') ∨ (∃ wC', loop B_Reader_readText_44_43_8 (0, wC) = some (.inr (wC' 44 5, wC')) ∧ Frm LLc [] wC wC' ∧ PF wM wC' wM')) := by
    intro w2 hw hw'
    refine house_run (t := t) ht hL ?_ (fun k hk => ⟨(htx k hk).1, ?_⟩) ct ck c1 c2 c3 c4 c5 c6 c7 c8 c9
    · rw [hw]; exact t2
    · rw [hw']; exact (htx k hk).2.2
  obtain ⟨wM0, wM0', -, -, -, -, res⟩ := run w rfl rfl
  rcases res with ⟨wC', p', n', D', nr', nm', b', l1, l2, l3⟩ | ⟨wC', l1, l2, l3⟩
  · -- taken
    have x0 := l3.2.1
    obtain ⟨x1, x2, -, -, -, -, x7, x8, -, -, -, -, -, -, -, -, -, -⟩ := x0
    obtain ⟨a, ea, fa, ga⟩ := c_doors x1 x7
    obtain ⟨⟨o, wE⟩, eT, oT, fT, ⟨s1, s2, s3, s4⟩, ⟨s5, s6, s7, s8, s9⟩, s10, s11, s12, s13⟩ := c_tail (wup a 42 1 0)
    simp only at oT fT s1 s2 s3 s4 s5 s6 s7 s8 s9 s10 s11 s12 s13
    subst oT
    have f0 : Frm [44, 45, 46, 47, 48, 49, 50, 51, 54] [(42, 1)] w (wup a 42 1 0) := frm_wup (frm_tr (frm_up fC rfl) (frm_tr (frm_up l2 rfl) (frm_up fa rfl))) _ _ _ rfl
    have e421 : wE 42 1 = 0 := by rw [fT 42 1 rfl]; exact wup_s1 _ _ _ _
    have eTot : F_C_house w (jn L) = some (.inr (some 0), wE) := by
      rw [F_C_house, need, bn_none, c_textY eC l1 ea, bd_some, bw_eq, br_pos rfl]
      exact eT
    refine BothG_of (.inr (some 0)) (fun w1 => w1 = wE) (by rw [eTot, ret_some]; exact ⟨rfl, rfl⟩) (fun w1 w2 e f2 => ?_)
    subst e
    have fW : Frm [41, 44, 45, 46, 47, 48, 49, 50, 51, 54, 57, 58, 60, 66] KHo2 w w2 := frm_tr (frm_up f0 rfl) (frm_tr (frm_up fT rfl) (frm_up f2 rfl))
    obtain ⟨wM, wM', eM, fM, ⟨q1, q2, q3⟩, gM, res⟩ := run w2 (fW 0 14 rfl) (frm_cell fW 13 (fun _ => rfl))
    rcases res with ⟨wC2, p, n, D, nr, nm, b, k1, k2, k3⟩ | ⟨wC2, k1, -, -⟩
    rotate_left
    · rw [l1] at k1; cases k1
    rw [l1] at k1
    injection k1 with k1
    injection k1 with k1
    subst k1
    obtain ⟨pr, x, -⟩ := k3
    obtain ⟨y1, y2, y3, -, -, -, y7, y8, y9, y10, y11, y12, y13, y14, y15, y16, y17, y18⟩ := x
    have enr : nr' = nr := by rw [x7, jn_inj (by omega) (by omega)] at y7; exact y7
    subst enr
    obtain ⟨d1, d2, d3, d4, d5, d6⟩ := pr.2.2.2.2.2.2.1
    have hn7 : n ≤ 700 := by have z1 := pr.2.2.2.2.2.2.2; have z2 := pr.2.2.1; omega
    have pb := pr.2.2.2.2.2.1
    obtain ⟨pE, eO, fO, o1, o2, o3, o4, ⟨o5, o6, o7, o8, o9, o10⟩, o11, o12⟩ := m_over y1 y2 y9 y10
    show Ret (F_M_house w2 (jn L)) _
    rw [eM, mTail, br_pos pb, eO, bv_some, ret_some]
    have FP : Frm [3, 4, 5, 6, 7, 8, 9, 10, 11, 14, 15, 16, 17, 18, 19] KPh w2 pE := frm_tr (frm_up fM rfl) (frm_tr (frm_up gM rfl) (frm_up fO rfl))
    have FE : Frm [3, 4, 5, 6, 7, 8, 9, 10, 11, 14, 15, 16, 17, 18, 19, 41] KPh w1 pE := frm_tr (frm_up f2 rfl) (frm_up FP rfl)
    have FW : Frm [3, 4, 5, 6, 7, 8, 9, 10, 11, 14, 15, 16, 17, 18, 19, 41, 44, 45, 46, 47, 48, 49, 50, 51, 54, 57, 58, 60, 66] KPw w pE := frm_tr (frm_up fW rfl) (frm_up FP rfl)
    have eA : Frm [54] [(42, 1)] wC' (wup a 42 1 0) := frm_wup (frm_up fa rfl) _ _ _ rfl
    have c66 : ∀ i, i < 53 → pE 66 i = dm (wC' 54) nr' i := fun i hi => by
      rw [FE 66 i rfl, s13 i hi, wup_o _ _ _ (by decide)]; exact ga i
    have c66o : ∀ i, i < 53 → ¬ ((32 ≤ i ∧ i < 32 + nr') ∨ (41 ≤ i ∧ i < 41 + nr')) → pE 66 i = wC' 54 i := fun i hi hno => by
      rw [c66 i hi]; unfold dm; rw [if_neg hno]
    have c66a : ∀ r, r < nr' → pE 66 (32 + r) = md (wC' 54 (32 + r)) nr' := fun r hr => by
      rw [c66 _ (by omega)]; unfold dm; rw [if_pos (by omega)]; rfl
    have c66b : ∀ r, r < nr' → pE 66 (41 + r) = md (wC' 54 (41 + r)) nr' := fun r hr => by
      rw [c66 _ (by omega)]; unfold dm; rw [if_pos (by omega)]; rfl
    show Mat cdI (.inr (some 0)) 0 (pE 0 2) ∧ Rel pE ∧ pE 41 0 = w2 41 0
    refine ⟨⟨?_, rfl⟩, ⟨((nr', nm, wC' 47 2, wC' 47 3), wC' 48, wC' 49, wC' 51, n), ⟨y1, y2, fun r hr => (y13 r hr).1, fun m hm => (y14 m hm).1, hn7, d4⟩, ?_, ?_, ⟨?_, ?_⟩, ?_, ?_, ?_, ?_, ?_⟩, ?_⟩
    · show pE 0 2 = 0
      rw [fO 0 2 rfl, gM 0 2 rfl]; exact q1
    · refine ⟨?_, ?_, ?_, ?_, fun r hr => ?_, fun m hm => ?_, ?_, fun k hk => ?_⟩
      · show pE 56 0 = jn nr'
        rw [FE 56 0 rfl, s5, eA 47 0 rfl]; exact y7
      · show pE 56 1 = jn nm
        rw [FE 56 1 rfl, s6, eA 47 1 rfl]; exact y8
      · show pE 56 2 = wC' 47 2
        rw [FE 56 2 rfl, s7, eA 47 2 rfl]
      · show pE 56 3 = wC' 47 3
        rw [FE 56 3 rfl, s8, eA 47 3 rfl]
      · show pE 57 r = wC' 48 r
        have hr' : r < nr' := hr
        rw [FE 57 r rfl, s10 r (by omega), eA 48 r rfl]
      · show pE 58 m = wC' 49 m
        have hm' : m < nm := hm
        rw [FE 58 m rfl, s11 m (by omega), eA 49 m rfl]
      · show pE 59 2 = jn n
        rw [FE 59 2 rfl, s9, eA 50 2 rfl]; exact d1
      · show pE 60 k = wC' 51 k
        have hk' : k < n := hk
        rw [FE 60 k rfl, s12 k (by omega), eA 51 k rfl]
    · refine ⟨?_, ?_, ?_, ?_, ?_, fun r hr => ?_, fun m hm => ?_, fun k hk => ?_⟩
      · show pE 3 0 = jn nr'
        rw [o1 0 (by omega)]; exact y9
      · show pE 3 1 = jn nm
        rw [o1 1 (by omega)]; exact y10
      · show pE 3 2 = wC' 47 2
        rw [o1 2 (by omega)]; exact y11
      · show pE 3 3 = wC' 47 3
        rw [o1 3 (by omega)]; exact y12
      · show pE 3 4 = jn n
        rw [o1 4 (by omega)]; exact d2
      · show pE 4 r = wC' 48 r
        have hr' : r < nr' := hr
        rw [o2 r (by omega)]; exact (y13 r hr').2.1
      · show pE 7 m = wC' 49 m
        have hm' : m < nm := hm
        rw [o3 m (by omega)]; exact (y14 m hm').2.1
      · show pE 11 k = trc (wC' 51 k)
        have hk' : k < n := hk
        rw [o4 k (by omega)]; exact d3 k hk'
    · refine ⟨fun m hm => ?_, fun r hr => ?_, fun r hr => ?_, fun m hm => ?_, fun m hm => ?_, ⟨0, by omega, ?_⟩, ⟨0, by omega, ?_⟩⟩
      · have hm' : m < nm := hm
        obtain ⟨x9, h9, e9⟩ := (y14 m hm').2.2.2.2.2.1
        exact ⟨x9, h9, by rw [c66o _ (by omega) (by omega)]; exact e9⟩
      · have hr' : r < nr' := hr
        obtain ⟨x9, h9, e9⟩ := (y13 r hr').2.2.1
        obtain ⟨z9, g9, k9⟩ := md_lt (x := x9) y1 (by omega) h9
        exact ⟨z9, g9, by rw [c66a r hr', e9]; exact k9⟩
      · have hr' : r < nr' := hr
        obtain ⟨x9, h9, e9⟩ := (y13 r hr').2.2.2.2.1
        obtain ⟨z9, g9, k9⟩ := md_lt (x := x9) y1 (by omega) h9
        exact ⟨z9, g9, by rw [c66b r hr', e9]; exact k9⟩
      · have hm' : m < nm := hm
        obtain ⟨x9, h9, e9⟩ := (y14 m hm').2.2.2.1
        exact ⟨x9, h9, by rw [c66o _ (by omega) (by omega)]; exact e9⟩
      · have hm' : m < nm := hm
        exact ⟨0, by omega, by rw [c66o _ (by omega) (by omega)]; exact y15 m (by omega)⟩
      · rw [c66o _ (by omega) (by omega)]; exact y16
      · rw [c66o _ (by omega) (by omega)]; exact y17
    · refine ⟨fun m hm => ?_, fun r hr => ?_, ?_, ?_, ?_⟩
      · have hm' : m < nm := hm
        obtain ⟨z1, z2, z3, z4⟩ := o12 m hm'
        obtain ⟨-, -, g3, -, g5, -, g7⟩ := y14 m hm'
        rw [z1, z2, z3, z4, c66o m (by omega) (by omega), c66o (8 + m) (by omega) (by omega), c66o (16 + m) (by omega) (by omega), c66o (24 + m) (by omega) (by omega), y15 m (by omega)]
        exact ⟨g3, g5, g7, rfl⟩
      · have hr' : r < nr' := hr
        obtain ⟨z1, z2⟩ := o11 r hr'
        obtain ⟨-, -, -, g4, -, g6⟩ := y13 r hr'
        rw [z1, z2, c66a r hr', c66b r hr', g4, g6]
        exact ⟨rfl, rfl⟩
      · rw [o7, c66o 50 (by omega) (by omega), y16]
      · rw [o6, c66o 51 (by omega) (by omega), y17]
      · rw [o5, c66o 52 (by omega) (by omega), y18]
    · obtain ⟨n9, f9, h1, h2, h3, h4, h5, h6⟩ := r5
      refine ⟨0, f9, by omega, h2, ?_, ?_, o8, fun k hk => absurd hk (Nat.not_lt_zero k)⟩
      · show pE 67 2 = 0
        rw [FE 67 2 rfl]; exact s3
      · rw [FW 67 1 rfl]; exact h4
    · refine ⟨0, by omega, ?_, o9, fun k hk => absurd hk (Nat.not_lt_zero k)⟩
      show pE 69 3 = 0
      rw [FE 69 3 rfl]; exact s4
    · exact RU_fr r7 FW ⟨fun _ => rfl, fun _ => rfl⟩
    · refine Or.inl ⟨?_, o10⟩
      show pE 42 8 = 0
      rw [FE 42 8 rfl]; exact s2
    · refine ⟨⟨0, by omega, ?_, ?_, fun k hk => absurd hk (Nat.not_lt_zero k)⟩, ?_⟩
      · show pE 42 1 = 0
        rw [FE 42 1 rfl]; exact e421
      · show pE 0 14 = 0
        rw [fO 0 14 rfl, gM 0 14 rfl]; exact q2
      · show pE 42 2 = pE 0 23
        rw [FE 42 2 rfl, s1, fO 0 23 rfl, gM 0 23 rfl]; exact q3.symm
    · exact FP 41 0 rfl
  · -- a fault
    have v0 : vp_in (0 : Int32) 3 := vpK (k := 0) (by omega) (by omega)
    have hne := l3.2.1
    have e73 : wC' 73 = w 73 := by rw [frm_cell l2 73 (fun _ => rfl), frm_cell fC 73 (fun _ => rfl)]
    have eTot : F_C_house w (jn L) = some (.inr (some (wC' 44 5)), wup (wup (wup wC' 42 1 0) 42 2 (wC' 44 6)) 73 0 (w 73 0 + 1)) := by
      rw [F_C_house, need, bn_none, c_textN eC l1, bd_some, bw_eq, br_neg hne, bw_eq, gd_pos v0, gd_pos v0, cl_0, bw_eq, wup_o _ _ _ (by decide), wup_o _ _ _ (by decide), wup_o _ _ _ (by decide)]
      show some (Sum.inr (some (wC' 44 5)), wup (wup (wup wC' 42 1 0) 42 2 (wC' 44 6)) 73 0 (wC' 73 0 + 1)) = _
      rw [e73]
    have f0 : Frm [44, 45, 46, 47, 48, 49, 50, 51, 54, 73] [(42, 1), (42, 2)] w (wup (wup (wup wC' 42 1 0) 42 2 (wC' 44 6)) 73 0 (w 73 0 + 1)) := frm_wup (frm_wup (frm_wup (frm_tr (frm_up fC rfl) (frm_up l2 rfl)) _ _ _ rfl) _ _ _ rfl) _ _ _ rfl
    have g421 : (wup (wup (wup wC' 42 1 0) 42 2 (wC' 44 6)) 73 0 (w 73 0 + 1)) 42 1 = 0 := by simp (disch := omega) only [wup_s1, wup_s2, wup_o, wcp_o]
    have g422 : (wup (wup (wup wC' 42 1 0) 42 2 (wC' 44 6)) 73 0 (w 73 0 + 1)) 42 2 = wC' 44 6 := by simp (disch := omega) only [wup_s1, wup_s2, wup_o, wcp_o]
    have g73 : ∀ k, (wup (wup (wup wC' 42 1 0) 42 2 (wC' 44 6)) 73 0 (w 73 0 + 1)) 73 k = if k = 0 then w 73 0 + 1 else w 73 k := by
      intro k
      rw [wup_s, wup_o _ _ _ (by decide), wup_o _ _ _ (by decide), e73]
    generalize wup (wup (wup wC' 42 1 0) 42 2 (wC' 44 6)) 73 0 (w 73 0 + 1) = wE at eTot f0 g421 g422 g73
    refine BothG_of (.inr (some (wC' 44 5))) (fun w1 => w1 = wE) (by rw [eTot, ret_some]; exact ⟨rfl, rfl⟩) (fun w1 w2 e f2 => ?_)
    subst e
    have fW : Frm [41, 44, 45, 46, 47, 48, 49, 50, 51, 54, 73] [(42, 1), (42, 2)] w w2 := frm_tr (frm_up f0 rfl) (frm_up f2 rfl)
    obtain ⟨wM, wM', eM, fM, ⟨q1, q2, q3⟩, gM, res⟩ := run w2 (fW 0 14 rfl) (frm_cell fW 13 (fun _ => rfl))
    rcases res with ⟨wC2, p, n, D, nr, nm, b, k1, k2, k3⟩ | ⟨wC2, k1, k2, k3⟩
    · rw [l1] at k1; cases k1
    rw [l1] at k1
    injection k1 with k1
    injection k1 with k1
    injection k1 with k0 k1
    subst k1
    obtain ⟨p1, p2, p3, m9, -, -, p4⟩ := k3
    have pb : ¬ wM' 0 21 = 0 := by rw [p1]; exact p2
    have e12 : (wup wM' 0 23 (wM' 0 22)) 12 = w 12 := by
      rw [wup_o _ _ _ (by decide), frm_cell gM 12 (fun _ => rfl), frm_cell fM 12 (fun _ => rfl), frm_cell fW 12 (fun _ => rfl)]
    have eMT : F_M_house w2 (jn L) = some (wC' 44 5, wup (wup wM' 0 23 (wM' 0 22)) 12 0 (w 12 0 + 1)) := by
      rw [eM, mTail, br_neg pb, bw_eq, gd_pos v0, gd_pos v0, cl_0, bw_eq, e12, wup_o _ _ _ (by decide), wup_s2 _ _ _ (by decide), p1]
    show Ret (F_M_house w2 (jn L)) _
    rw [eMT, ret_some]
    have FP : Frm [3, 4, 5, 6, 7, 8, 9, 10, 11, 12] KPf w2 (wup (wup wM' 0 23 (wM' 0 22)) 12 0 (w 12 0 + 1)) := frm_wup (frm_wup (frm_tr (frm_up fM rfl) (frm_up gM rfl)) _ _ _ rfl) _ _ _ rfl
    have lk : LoK w (wup (wup wM' 0 23 (wM' 0 22)) 12 0 (w 12 0 + 1)) := by
      refine LoK_wup (LoK_wup (LoK_tr (w1 := w2) ?_ (LoK_tr ?_ p4)) (noLo (by omega))) (noLo (by omega))
      · exact LoK_frm fW ⟨fun _ => Or.inl rfl, fun _ => rfl, fun _ => rfl, fun _ => rfl⟩
      · refine LoK_frm fM ⟨fun i => ?_, fun _ => rfl, fun _ => rfl, fun _ => rfl⟩
        by_cases hi : i < 5
        · left
          rcases i with _ | _ | _ | _ | _ | i
          · rfl
          · rfl
          · rfl
          · rfl
          · rfl
          · omega
        · exact Or.inr hi
    have z1 : (wup (wup wM' 0 23 (wM' 0 22)) 12 0 (w 12 0 + 1)) 0 2 = 0 := by
      rw [wup_o _ _ _ (by decide), wup_s2 _ _ _ (by decide), gM 0 2 rfl]; exact q1
    have z2 : (wup (wup wM' 0 23 (wM' 0 22)) 12 0 (w 12 0 + 1)) 0 14 = 0 := by
      rw [wup_o _ _ _ (by decide), wup_s2 _ _ _ (by decide), gM 0 14 rfl]; exact q2
    have z3 : (wup (wup wM' 0 23 (wM' 0 22)) 12 0 (w 12 0 + 1)) 0 23 = wC' 44 6 := by
      rw [wup_o _ _ _ (by decide), wup_s1]; exact p3
    have z4 : ∀ k, (wup (wup wM' 0 23 (wM' 0 22)) 12 0 (w 12 0 + 1)) 12 k = if k = 0 then w 12 0 + 1 else w 12 k := by
      intro k
      rw [wup_s, e12]
    generalize wup (wup wM' 0 23 (wM' 0 22)) 12 0 (w 12 0 + 1) = pE at FP lk z1 z2 z3 z4 ⊢
    have FE : Frm [3, 4, 5, 6, 7, 8, 9, 10, 11, 12, 41] KPf w1 pE := frm_tr (frm_up f2 rfl) (frm_up FP rfl)
    show Mat cdI (.inr (some (wC' 44 5))) (wC' 44 5) (pE 0 2) ∧ Rel pE ∧ pE 41 0 = w2 41 0
    refine ⟨⟨z1, rfl⟩, ⟨h, RelH_fault r (frm_tr (frm_up fW rfl) (frm_up FP rfl)) lk (fun k hk => ?_) ⟨⟨0, by omega, ?_, z2, fun k hk => absurd hk (Nat.not_lt_zero k)⟩, ?_⟩⟩, FP 41 0 rfl⟩
    · rw [frm_cell FE 73 (fun _ => rfl), g73, z4]
      by_cases e : k = 0
      · rw [if_pos e, if_pos e, r7 0 (by omega)]
      · rw [if_neg e, if_neg e]; exact r7 k hk
    · show pE 42 1 = 0
      rw [FE 42 1 rfl]; exact g421
    · rw [FE 42 2 rfl, g422]; exact z3.symm
