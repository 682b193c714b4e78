/-! ===== 'and', 'or', the whole expression ===== -/
/-! and -/
def op_and (tx : Nat → Nat) (L p : Nat) : Option Int32 := if wsB tx L p 16 = true then some (-12) else none
theorem lp_andF (rx : Wld → Int32 → Option (Int32 × Wld)) (a i : Int32) (wC : Wld) : B_Reader_readAnd_44_8 rx a (0, i, wC) = some (.inr (0, wC)) := by
  by_cases h : (700 : Int32) ≤ i
  · rw [B_Reader_readAnd_44_8, br_pos h]
  · rw [B_Reader_readAnd_44_8, br_neg h, br_pos rfl]
theorem lp_andB {rx : Wld → Int32 → Option Wld} {a : Int32} {wM : Wld} (hb : ¬ wM 0 21 = 0) : B_M_readAnd_5 rx a wM = some (.inr wM) := by
  rw [B_M_readAnd_5, m_isB hb (by omega), bp_some, br_pos rfl]
theorem p_and {wR : Wld} {tx : Nat → Nat} {L : Nat} {rxC : Wld → Int32 → Option (Int32 × Wld)} {rxM : Wld → Int32 → Option Wld} {a : Nat} (hx : HX wR tx L rxC rxM a) (ha : a ≤ 5) {wC wM : Wld} {p n D : Nat} (r : PR wR tx L wC wM p n D) (hD : D ≤ 5 * a + 1) : Ret2 (F_Reader_readAnd_44 rxC wC (jn a)) (F_M_readAnd rxM wM (jn a)) (POut wR tx L wC wM p n D) := by
  rw [F_Reader_readAnd_44, F_M_readAnd]
  refine p_chain (p_not hx ha r (by omega)) (lp_andF rxC (jn a)) (fun w hb => lp_andB hb) (fun p1 n1 wC1 wM1 r1 => ?_)
  refine p_loop (op := op_and tx L) (subC := fun w => F_Reader_readNot_44 rxC w (jn a)) (subM := fun w => F_M_readNot rxM w (jn a)) (Bd := 5 * a + 1) ?_ ?_ ?_ ?_ (lp_andF rxC (jn a)) (fun w hb => lp_andB hb) ?_ (fun wC wM p n D r hD => p_not hx ha r (by omega)) (L - p1) p1 (Nat.le_refl _) 0 n1 D wC1 wM1 r1 hD (Nat.zero_le _)
  · intro i wC wM p n D r ho hi
    have hwl := c_wlt r.2.2.2.1
    have hc : (Int32.toNatClampNeg (wC 45 5) = 10) = (wsB tx L p 16 = true) := c_ws r.2.2.2.1 (i := 10) (by omega) (by omega)
    unfold op_and at ho
    by_cases m1 : wsB tx L p 16 = true
    · rw [if_pos m1] at ho; cases ho
    · by_cases h7 : (700 : Int32) ≤ jn i
      · rw [B_Reader_readAnd_44_8, br_pos h7]
      · rw [B_Reader_readAnd_44_8]
        simp only
        rw [br_neg h7, br_neg (by decide), gd_pos hwl, gd_pos (by decide), cl_10, br_pos (by rw [hc]; exact m1)]
  · intro wC wM p n D r ho
    have hm := m_is r.2.1 r.2.2.2.2.1 r.2.2.1 r.2.2.2.2.2.1 (k := 16) (by omega)
    unfold op_and at ho
    by_cases m1 : wsB tx L p 16 = true
    · rw [if_pos m1] at ho; cases ho
    · rw [B_M_readAnd_5, hm, if_neg m1, bp_some, br_pos rfl]
  · intro i wC wM p n D s r ho hi
    have hwl := c_wlt r.2.2.2.1
    have hc : (Int32.toNatClampNeg (wC 45 5) = 10) = (wsB tx L p 16 = true) := c_ws r.2.2.2.1 (i := 10) (by omega) (by omega)
    have h7 : ¬ (700 : Int32) ≤ jn i := by rw [li_700, jn_le (by omega) (by omega)]; omega
    have e1 : jn i + 1 = jn (i + 1) := jn_1a i
    unfold op_and at ho
    by_cases m1 : wsB tx L p 16 = true
    · rw [if_pos m1] at ho
      cases ho
      rw [B_Reader_readAnd_44_8]
      simp only
      rw [br_neg h7, br_neg (by decide), gd_pos hwl, gd_pos (by decide), cl_10, br_neg (by rw [hc]; exact fun z => z m1)]
      simp only [bi_eq, e1]
    · rw [if_neg m1] at ho; cases ho
  · intro wC wM p n D s r ho
    have hm := m_is r.2.1 r.2.2.2.2.1 r.2.2.1 r.2.2.2.2.2.1 (k := 16) (by omega)
    unfold op_and at ho
    by_cases m1 : wsB tx L p 16 = true
    · rw [if_pos m1] at ho
      cases ho
      rw [B_M_readAnd_5, hm, if_pos m1, bp_some, br_neg (by decide), show trc (-12) = -26 from by decide]
    · rw [if_neg m1] at ho; cases ho
  · intro p s ho hp
    unfold op_and at ho
    by_cases m1 : wsB tx L p 16 = true
    · rw [if_pos m1] at ho
      cases ho
      exact ⟨ws_lt hp m1, by decide, by decide⟩
    · rw [if_neg m1] at ho; cases ho
theorem m_andB {rx : Wld → Int32 → Option Wld} {a : Int32} {wM : Wld} (hb : ¬ wM 0 21 = 0) : F_M_readAnd rx wM a = some wM := by
  rw [F_M_readAnd, m_notB hb, bv_some, loop_eq, lp_andB hb, bl_some]
theorem c_andN {wR : Wld} {tx : Nat → Nat} {L : Nat} {wC wM : Wld} {p n D : Nat} (r : PR wR tx L wC wM p n D) (h1 : ¬ kd tx L p = 1) (h2 : ¬ kd tx L p = 2) (hP : ¬ mk tx L p 40 = true) (rx : Wld → Int32 → Option (Int32 × Wld)) (a : Int32) : F_Reader_readAnd_44 rx wC a = some (0, wup (wup wC 44 5 1) 44 6 (wC 45 3)) := by
  rw [F_Reader_readAnd_44, c_notN r h1 h2 hP, bd_some]
  simp only
  rw [loop_eq, lp_andF, bl_some]
  simp only
  rw [gd_pos (Or.inl trivial)]
/-- the class's expression at a depth that is allowed -/
noncomputable def cOr (rx : Wld → Int32 → Option (Int32 × Wld)) (w : Wld) (a1 : Int32) : Option (Int32 × Wld) := bd (F_Reader_readAnd_44 rx w a1) (fun i1 w2 => bl (loop (B_Reader_readExpr_44_30 rx a1) ((i1, 0, w2))) (fun r8 => gd (r8.1 = 0 ∨ r8.1 = 1) (some ((r8.1, r8.2)))))
/-! or -/
def op_or (tx : Nat → Nat) (L p : Nat) : Option Int32 := if wsB tx L p 17 = true then some (-11) else none
theorem lp_orF (rx : Wld → Int32 → Option (Int32 × Wld)) (a i : Int32) (wC : Wld) : B_Reader_readExpr_44_30 rx a (0, i, wC) = some (.inr (0, wC)) := by
  by_cases h : (700 : Int32) ≤ i
  · rw [B_Reader_readExpr_44_30, br_pos h]
  · rw [B_Reader_readExpr_44_30, br_neg h, br_pos rfl]
theorem lp_orB {rx : Wld → Int32 → Option Wld} {a : Int32} {wM : Wld} (hb : ¬ wM 0 21 = 0) : B_M_readExpression_67 rx a wM = some (.inr wM) := by
  rw [B_M_readExpression_67, m_isB hb (by omega), bp_some, br_pos rfl]
theorem p_or {wR : Wld} {tx : Nat → Nat} {L : Nat} {rxC : Wld → Int32 → Option (Int32 × Wld)} {rxM : Wld → Int32 → Option Wld} {a : Nat} (hx : HX wR tx L rxC rxM a) (ha : a ≤ 5) {wC wM : Wld} {p n D : Nat} (r : PR wR tx L wC wM p n D) (hD : D ≤ 5 * a + 0) : Ret2 (cOr rxC wC (jn a)) (K_M_readExpression_62 rxM (jn a) wM) (POut wR tx L wC wM p n D) := by
  rw [cOr, K_M_readExpression_62]
  refine p_chain (p_and hx ha r (by omega)) (lp_orF rxC (jn a)) (fun w hb => lp_orB hb) (fun p1 n1 wC1 wM1 r1 => ?_)
  refine p_loop (op := op_or tx L) (subC := fun w => F_Reader_readAnd_44 rxC w (jn a)) (subM := fun w => F_M_readAnd rxM w (jn a)) (Bd := 5 * a + 0) ?_ ?_ ?_ ?_ (lp_orF rxC (jn a)) (fun w hb => lp_orB hb) ?_ (fun wC wM p n D r hD => p_and hx ha r (by omega)) (L - p1) p1 (Nat.le_refl _) 0 n1 D wC1 wM1 r1 hD (Nat.zero_le _)
  · intro i wC wM p n D r ho hi
    have hwl := c_wlt r.2.2.2.1
    have hc : (Int32.toNatClampNeg (wC 45 5) = 9) = (wsB tx L p 17 = true) := c_ws r.2.2.2.1 (i := 9) (by omega) (by omega)
    unfold op_or at ho
    by_cases m1 : wsB tx L p 17 = true
    · rw [if_pos m1] at ho; cases ho
    · by_cases h7 : (700 : Int32) ≤ jn i
      · rw [B_Reader_readExpr_44_30, br_pos h7]
      · rw [B_Reader_readExpr_44_30]
        simp only
        rw [br_neg h7, br_neg (by decide), gd_pos hwl, gd_pos (by decide), cl_9, br_pos (by rw [hc]; exact m1)]
  · intro wC wM p n D r ho
    have hm := m_is r.2.1 r.2.2.2.2.1 r.2.2.1 r.2.2.2.2.2.1 (k := 17) (by omega)
    unfold op_or at ho
    by_cases m1 : wsB tx L p 17 = true
    · rw [if_pos m1] at ho; cases ho
    · rw [B_M_readExpression_67, hm, if_neg m1, bp_some, br_pos rfl]
  · intro i wC wM p n D s r ho hi
    have hwl := c_wlt r.2.2.2.1
    have hc : (Int32.toNatClampNeg (wC 45 5) = 9) = (wsB tx L p 17 = true) := c_ws r.2.2.2.1 (i := 9) (by omega) (by omega)
    have h7 : ¬ (700 : Int32) ≤ jn i := by rw [li_700, jn_le (by omega) (by omega)]; omega
    have e1 : jn i + 1 = jn (i + 1) := jn_1a i
    unfold op_or at ho
    by_cases m1 : wsB tx L p 17 = true
    · rw [if_pos m1] at ho
      cases ho
      rw [B_Reader_readExpr_44_30]
      simp only
      rw [br_neg h7, br_neg (by decide), gd_pos hwl, gd_pos (by decide), cl_9, br_neg (by rw [hc]; exact fun z => z m1)]
      simp only [bi_eq, e1]
    · rw [if_neg m1] at ho; cases ho
  · intro wC wM p n D s r ho
    have hm := m_is r.2.1 r.2.2.2.2.1 r.2.2.1 r.2.2.2.2.2.1 (k := 17) (by omega)
    unfold op_or at ho
    by_cases m1 : wsB tx L p 17 = true
    · rw [if_pos m1] at ho
      cases ho
      rw [B_M_readExpression_67, hm, if_pos m1, bp_some, br_neg (by decide), show trc (-11) = -27 from by decide]
    · rw [if_neg m1] at ho; cases ho
  · intro p s ho hp
    unfold op_or at ho
    by_cases m1 : wsB tx L p 17 = true
    · rw [if_pos m1] at ho
      cases ho
      exact ⟨ws_lt hp m1, by decide, by decide⟩
    · rw [if_neg m1] at ho; cases ho
theorem m_orB {rx : Wld → Int32 → Option Wld} {a : Int32} {wM : Wld} (hb : ¬ wM 0 21 = 0) : K_M_readExpression_62 rx a wM = some wM := by
  rw [K_M_readExpression_62, m_andB hb, bv_some, loop_eq, lp_orB hb, bl_some]
/-- the expression at level a -/
theorem p_expr {wR : Wld} {tx : Nat → Nat} {L : Nat} {rxC : Wld → Int32 → Option (Int32 × Wld)} {rxM : Wld → Int32 → Option Wld} {a : Nat} (hx : a ≤ 5 → HX wR tx L rxC rxM a) (ha : a ≤ 6) {wC wM : Wld} {p n D : Nat} (r : PR wR tx L wC wM p n D) (hD : D ≤ 5 * a) : Ret2 (F_Reader_readExpr_44 rxC wC (jn a)) (F_M_readExpression rxM wM (jn a)) (POut wR tx L wC wM p n D) := by
  have r0 := r
  obtain ⟨r1, r2, r3, r4, r5, r6, r7, r8⟩ := r0
  have hmk : (wC 45 7 = 40) = (mk tx L p 40 = true) := c_mk r1 r4 r3 (c := 40) (by omega) (by omega)
  have ck1 : (wC 45 4 = 1) = (kd tx L p = 1) := c_kind r4 (k := 1) (by omega)
  have ck2 : (wC 45 4 = 2) = (kd tx L p = 2) := c_kind r4 (k := 2) (by omega)
  have mk1 : (wM 0 17 = 1) = (kd tx L p = 1) := m_kind r5 (k := 1) (by omega)
  have mk2 : (wM 0 17 = 2) = (kd tx L p = 2) := m_kind r5 (k := 2) (by omega)
  have m40 : F_M_isMarked wM 40 = _ := m_mk r2 r5 r3 r6 (c := 40) (by decide) (by omega)
  have hb1 : ¬ (wup (wup wM 0 21 1) 0 22 (wM 0 19)) 0 21 = 0 := by rw [wup_s2 _ _ _ (by decide), wup_s1]; decide
  have hb2 : ¬ (wup (wup wM 0 21 2) 0 22 (wM 0 19)) 0 21 = 0 := by rw [wup_s2 _ _ _ (by decide), wup_s1]; decide
  have F1 : POut wR tx L wC wM p n D (0, wup (wup wC 44 5 1) 44 6 (wC 45 3)) (wup (wup wM 0 21 1) 0 22 (wM 0 19)) := ⟨frm_wup (frm_wup frm_rf _ _ _ rfl) _ _ _ rfl, frm_wup (frm_wup frm_rf _ _ _ rfl) _ _ _ rfl, Or.inr ⟨rfl, fail_PF r (by decide)⟩⟩
  have F2 : POut wR tx L wC wM p n D (0, wup (wup wC 44 5 2) 44 6 (wC 45 3)) (wup (wup wM 0 21 2) 0 22 (wM 0 19)) := ⟨frm_wup (frm_wup frm_rf _ _ _ rfl) _ _ _ rfl, frm_wup (frm_wup frm_rf _ _ _ rfl) _ _ _ rfl, Or.inr ⟨rfl, fail_PF r (by decide)⟩⟩
  by_cases hB : kd tx L p = 2 ∨ kd tx L p = 1 ∨ mk tx L p 40 = true
  · have eM : F_M_readExpression rxM wM (jn a) = K_M_readExpression_38 rxM (jn a) 1 wM := by
      rw [F_M_readExpression, br_pos r6]
      by_cases h2 : kd tx L p = 2
      · rw [br_pos (by rw [mk2]; exact h2), K_M_readExpression_33]
      · rw [br_neg (by rw [mk2]; exact h2)]
        by_cases h1 : kd tx L p = 1
        · rw [br_pos (by rw [mk1]; exact h1), K_M_readExpression_33]
        · have hP : mk tx L p 40 = true := by
            rcases hB with h | h | h
            · exact absurd h h2
            · exact absurd h h1
            · exact h
          rw [br_neg (by rw [mk1]; exact h1), m40, if_pos hP, bp_some, br_neg (by decide), K_M_readExpression_33]
    rw [eM, K_M_readExpression_38, br_pos (by decide)]
    by_cases h6 : a = 6
    · subst h6
      have eB : F_Reader_beginsPart_44 wC = some 1 := by
        rw [F_Reader_beginsPart_44]
        by_cases h2 : kd tx L p = 2
        · rw [br_pos (by rw [ck2]; exact h2), K_Reader_beginsPart_44_34, K_Reader_beginsPart_44_39, gd_pos (Or.inr rfl)]
        · rw [br_neg (by rw [ck2]; exact h2)]
          by_cases h1 : kd tx L p = 1
          · rw [br_pos (by rw [ck1]; exact h1), K_Reader_beginsPart_44_34, K_Reader_beginsPart_44_39, gd_pos (Or.inr rfl)]
          · have hP : mk tx L p 40 = true := by
              rcases hB with h | h | h
              · exact absurd h h2
              · exact absurd h h1
              · exact h
            rw [br_neg (by rw [ck1]; exact h1), br_neg (by rw [hmk]; exact fun z => z hP), K_Reader_beginsPart_44_34, K_Reader_beginsPart_44_39, gd_pos (Or.inr rfl)]
      refine ⟨(0, wup (wup wC 44 5 2) 44 6 (wC 45 3)), wup (wup wM 0 21 2) 0 22 (wM 0 19), ?_, ?_, F2⟩
      · rw [F_Reader_readExpr_44, br_neg (by decide), eB, bp_some, br_neg (by decide), K_Reader_readExpr_44_18, c_failed, bd_some, gd_pos (Or.inl rfl)]
      · rw [br_neg (show ¬ ¬ jn 6 = 6 from fun z => z rfl), m_wrong0 r6, bv_some, m_orB hb2]
    · have ha5 : a ≤ 5 := by omega
      have eC : F_Reader_readExpr_44 rxC wC (jn a) = cOr rxC wC (jn a) := by
        rw [F_Reader_readExpr_44, br_pos (by rw [li_5, jn_le (by omega) (by omega)]; exact ha5), cOr]
      rw [eC, br_pos (by rw [li_6, jn_inj (by omega) (by omega)]; exact h6)]
      exact p_or (hx ha5) ha5 r (by omega)
  · have h2 : ¬ kd tx L p = 2 := fun z => hB (Or.inl z)
    have h1 : ¬ kd tx L p = 1 := fun z => hB (Or.inr (Or.inl z))
    have hP : ¬ mk tx L p 40 = true := fun z => hB (Or.inr (Or.inr z))
    refine ⟨(0, wup (wup wC 44 5 1) 44 6 (wC 45 3)), wup (wup wM 0 21 1) 0 22 (wM 0 19), ?_, ?_, F1⟩
    · rw [F_Reader_readExpr_44]
      by_cases h5 : a ≤ 5
      · rw [br_pos (by rw [li_5, jn_le (by omega) (by omega)]; exact h5), c_andN r h1 h2 hP, bd_some]
        simp only
        rw [loop_eq, lp_orF, bl_some]
        simp only
        rw [gd_pos (Or.inl trivial)]
      · rw [br_neg (by rw [li_5, jn_le (by omega) (by omega)]; exact h5), F_Reader_beginsPart_44, br_neg (by rw [ck2]; exact h2), br_neg (by rw [ck1]; exact h1), br_pos (by rw [hmk]; exact hP), K_Reader_beginsPart_44_39, gd_pos (Or.inl rfl), bp_some, br_pos rfl, K_Reader_readExpr_44_18, c_failed, bd_some, gd_pos (Or.inl rfl)]
    · rw [F_M_readExpression, br_pos r6, br_neg (by rw [mk2]; exact h2), br_neg (by rw [mk1]; exact h1), m40, if_neg hP, bp_some, br_pos rfl, K_M_readExpression_38, br_neg (fun z => z rfl), m_wrong0 r6, bv_some, m_orB hb1]
theorem p_deep {wR : Wld} {tx : Nat → Nat} {L : Nat} : ∀ d a, 7 ≤ d + a → a ≤ 6 → ∀ wC wM p n D, PR wR tx L wC wM p n D → D ≤ 5 * a → Ret2 (X_Reader_readExpr_44 d wC (jn a)) (X_M_readExpression d wM (jn a)) (POut wR tx L wC wM p n D) := by
  intro d
  induction d with
  | zero => intro a h1 h2; omega
  | succ d ih =>
    intro a h1 h2 wC wM p n D r hD
    refine p_expr (rxC := X_Reader_readExpr_44 d) (rxM := X_M_readExpression d) (fun ha5 => ⟨fun wC wM p n D r hD => ih (a + 1) (by omega) (by omega) wC wM p n D r hD, fun w i hb => ?_⟩) h2 r hD
    obtain ⟨d', rfl⟩ : ∃ d', d = d' + 1 := ⟨d - 1, by omega⟩
    show F_M_readExpression (X_M_readExpression d') w i = some w
    rw [F_M_readExpression, br_neg hb]
theorem p_top {wR : Wld} {tx : Nat → Nat} {L : Nat} {wC wM : Wld} {p n : Nat} (r : PR wR tx L wC wM p n 0) : Ret2 (X_Reader_readExpr_44 10 wC 0) (X_M_readExpression 10 wM 0) (POut wR tx L wC wM p n 0) := p_deep 10 0 (by omega) (by omega) wC wM p n 0 r (by omega)
theorem m_topB {wM : Wld} (hb : ¬ wM 0 21 = 0) (i : Int32) : X_M_readExpression 10 wM i = some wM := by
  show F_M_readExpression (X_M_readExpression 9) wM i = some wM
  rw [F_M_readExpression, br_neg hb]
