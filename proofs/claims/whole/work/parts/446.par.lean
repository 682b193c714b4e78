/-! ===== products and sums ===== -/
theorem m_partB {rx : Wld → Int32 → Option Wld} {a : Int32} {wM : Wld} (hb : ¬ wM 0 21 = 0) : F_M_readPart rx wM a = some wM := by rw [F_M_readPart, br_neg hb]
theorem c_partN {wR : Wld} {tx : Nat → Nat} {L : Nat} {wC wM : Wld} {p n D : Nat} (r : PR wR tx L wC wM p n D) (h1 : ¬ kd tx L p = 1) (h2 : ¬ kd tx L p = 2) (hP : ¬ mk tx L p 40 = true) (rx : Wld → Int32 → Option (Int32 × Wld)) (a : Int32) : F_Reader_readPart_44 rx wC a = some (0, wup (wup wC 44 5 1) 44 6 (wC 45 3)) := by
  have hmk : (wC 45 7 = 40) = (mk tx L p 40 = true) := c_mk r.1 r.2.2.2.1 r.2.2.1 (c := 40) (by omega) (by omega)
  have hk1 : (wC 45 4 = 1) = (kd tx L p = 1) := c_kind r.2.2.2.1 (k := 1) (by omega)
  have hno : ¬ numOK tx L p 0 9999 := fun z => h2 z.1
  have ec := (c_num r (lo := 0) (hi := 9999) (by omega) (by omega)).2 hno
  rw [if_neg h2] at ec
  rw [F_Reader_readPart_44, br_pos (by rw [hmk]; exact hP), br_pos (by rw [hk1]; exact h1), show F_Reader_readNumber_44 wC 0 9999 = _ from ec, bd_some]
  simp only
  rw [br_neg (fun z => z trivial)]
/-! product -/
def op_product (tx : Nat → Nat) (L p : Nat) : Option Int32 := if mk tx L p 42 = true then some (-17) else if mk tx L p 47 = true then some (-18) else none
theorem lp_productF (rx : Wld → Int32 → Option (Int32 × Wld)) (a i : Int32) (wC : Wld) : B_Reader_readProduct_44_8 rx a (0, i, wC) = some (.inr (0, wC)) := by
  by_cases h : (700 : Int32) ≤ i
  · rw [B_Reader_readProduct_44_8, br_pos h]
  · rw [B_Reader_readProduct_44_8, br_neg h, br_pos rfl]
theorem lp_productB {rx : Wld → Int32 → Option Wld} {a : Int32} {wM : Wld} (hb : ¬ wM 0 21 = 0) : B_M_readProduct_5 rx a wM = some (.inr wM) := by
  rw [B_M_readProduct_5, m_mkB hb, bp_some, br_neg (fun z => z rfl), m_mkB hb, bp_some, br_pos rfl]
theorem p_product {wR : Wld} {tx : Nat → Nat} {L : Nat} {rxC : Wld → Int32 → Option (Int32 × Wld)} {rxM : Wld → Int32 → Option Wld} {a : Nat} (hx : HX wR tx L rxC rxM a) (ha : a ≤ 5) {wC wM : Wld} {p n D : Nat} (r : PR wR tx L wC wM p n D) (hD : D ≤ 5 * a + 4) : Ret2 (F_Reader_readProduct_44 rxC wC (jn a)) (F_M_readProduct rxM wM (jn a)) (POut wR tx L wC wM p n D) := by
  rw [F_Reader_readProduct_44, F_M_readProduct]
  refine p_chain (p_part hx ha r (by omega)) (lp_productF rxC (jn a)) (fun w hb => lp_productB hb) (fun p1 n1 wC1 wM1 r1 => ?_)
  refine p_loop (op := op_product tx L) (subC := fun w => F_Reader_readPart_44 rxC w (jn a)) (subM := fun w => F_M_readPart rxM w (jn a)) (Bd := 5 * a + 4) ?_ ?_ ?_ ?_ (lp_productF rxC (jn a)) (fun w hb => lp_productB hb) ?_ (fun wC wM p n D r hD => p_part hx ha r (by omega)) (L - p1) p1 (Nat.le_refl _) 0 n1 D wC1 wM1 r1 hD (Nat.zero_le _)
  · intro i wC wM p n D r ho hi
    have h1 : (wC 45 7 = 42) = (mk tx L p 42 = true) := c_mk r.1 r.2.2.2.1 r.2.2.1 (c := 42) (by omega) (by omega)
    have h2 : (wC 45 7 = 47) = (mk tx L p 47 = true) := c_mk r.1 r.2.2.2.1 r.2.2.1 (c := 47) (by omega) (by omega)
    unfold op_product at ho
    by_cases m1 : mk tx L p 42 = true
    · rw [if_pos m1] at ho; cases ho
    · by_cases m2 : mk tx L p 47 = true
      · rw [if_neg m1, if_pos m2] at ho; cases ho
      · by_cases h7 : (700 : Int32) ≤ jn i
        · rw [B_Reader_readProduct_44_8, br_pos h7]
        · rw [B_Reader_readProduct_44_8, br_neg h7, br_neg (show ¬ (1 : Int32) = 0 by decide), br_neg (show ¬ wC 45 7 = 42 by rw [h1]; exact m1), br_pos (show ¬ wC 45 7 = 47 by rw [h2]; exact m2)]
  · intro wC wM p n D r ho
    have h1 : F_M_isMarked wM 42 = _ := m_mk r.2.1 r.2.2.2.2.1 r.2.2.1 r.2.2.2.2.2.1 (c := 42) (by decide) (by omega)
    have h2 : F_M_isMarked wM 47 = _ := m_mk r.2.1 r.2.2.2.2.1 r.2.2.1 r.2.2.2.2.2.1 (c := 47) (by decide) (by omega)
    unfold op_product at ho
    by_cases m1 : mk tx L p 42 = true
    · rw [if_pos m1] at ho; cases ho
    · by_cases m2 : mk tx L p 47 = true
      · rw [if_neg m1, if_pos m2] at ho; cases ho
      · rw [B_M_readProduct_5, h1, if_neg m1, bp_some, br_neg (fun z => z rfl), h2, if_neg m2, bp_some, br_pos rfl]
  · intro i wC wM p n D s r ho hi
    have h1 : (wC 45 7 = 42) = (mk tx L p 42 = true) := c_mk r.1 r.2.2.2.1 r.2.2.1 (c := 42) (by omega) (by omega)
    have h2 : (wC 45 7 = 47) = (mk tx L p 47 = true) := c_mk r.1 r.2.2.2.1 r.2.2.1 (c := 47) (by omega) (by omega)
    have h7 : ¬ (700 : Int32) ≤ jn i := by rw [li_700, jn_le (by omega) (by omega)]; omega
    have e1 : jn i + 1 = jn (i + 1) := jn_1a i
    unfold op_product at ho
    by_cases m1 : mk tx L p 42 = true
    · rw [if_pos m1] at ho
      cases ho
      rw [B_Reader_readProduct_44_8, br_neg h7, br_neg (show ¬ (1 : Int32) = 0 by decide), br_pos (show wC 45 7 = 42 by rw [h1]; exact m1), K_Reader_readProduct_44_43, br_neg (show ¬ ¬ wC 45 7 = 42 by rw [h1]; exact fun z => z m1), K_Reader_readProduct_44_62]
      simp only [bi_eq, e1]
    · by_cases m2 : mk tx L p 47 = true
      · rw [if_neg m1, if_pos m2] at ho
        cases ho
        rw [B_Reader_readProduct_44_8, br_neg h7, br_neg (show ¬ (1 : Int32) = 0 by decide), br_neg (show ¬ wC 45 7 = 42 by rw [h1]; exact m1), br_neg (show ¬ ¬ wC 45 7 = 47 by rw [h2]; exact fun z => z m2), K_Reader_readProduct_44_43, br_pos (show ¬ wC 45 7 = 42 by rw [h1]; exact m1), K_Reader_readProduct_44_62]
        simp only [bi_eq, e1]
      · rw [if_neg m1, if_neg m2] at ho; cases ho
  · intro wC wM p n D s r ho
    have h1 : F_M_isMarked wM 42 = _ := m_mk r.2.1 r.2.2.2.2.1 r.2.2.1 r.2.2.2.2.2.1 (c := 42) (by decide) (by omega)
    have h2 : F_M_isMarked wM 47 = _ := m_mk r.2.1 r.2.2.2.2.1 r.2.2.1 r.2.2.2.2.2.1 (c := 47) (by decide) (by omega)
    unfold op_product at ho
    by_cases m1 : mk tx L p 42 = true
    · rw [if_pos m1] at ho
      cases ho
      rw [B_M_readProduct_5, h1, if_pos m1, bp_some, br_pos (by decide), K_M_readProduct_23, h1, if_pos m1, bp_some, br_neg (by decide), K_M_readProduct_39, show trc (-17) = -22 from by decide]
    · by_cases m2 : mk tx L p 47 = true
      · rw [if_neg m1, if_pos m2] at ho
        cases ho
        rw [B_M_readProduct_5, h1, if_neg m1, bp_some, br_neg (fun z => z rfl), h2, if_pos m2, bp_some, br_neg (by decide), K_M_readProduct_23, h1, if_neg m1, bp_some, br_pos rfl, K_M_readProduct_39, show trc (-18) = -23 from by decide]
      · rw [if_neg m1, if_neg m2] at ho; cases ho
  · intro p s ho hp
    unfold op_product at ho
    by_cases m1 : mk tx L p 42 = true
    · rw [if_pos m1] at ho
      cases ho
      exact ⟨mk_lt hp m1, by decide, by decide⟩
    · by_cases m2 : mk tx L p 47 = true
      · rw [if_neg m1, if_pos m2] at ho
        cases ho
        exact ⟨mk_lt hp m2, by decide, by decide⟩
      · rw [if_neg m1, if_neg m2] at ho; cases ho
theorem m_productB {rx : Wld → Int32 → Option Wld} {a : Int32} {wM : Wld} (hb : ¬ wM 0 21 = 0) : F_M_readProduct rx wM a = some wM := by
  rw [F_M_readProduct, m_partB hb, bv_some, loop_eq, lp_productB hb, bl_some]
/-- a token with which no part begins -/
theorem c_productN {wR : Wld} {tx : Nat → Nat} {L : Nat} {wC wM : Wld} {p n D : Nat} (r : PR wR tx L wC wM p n D) (h1 : ¬ kd tx L p = 1) (h2 : ¬ kd tx L p = 2) (hP : ¬ mk tx L p 40 = true) (rx : Wld → Int32 → Option (Int32 × Wld)) (a : Int32) : F_Reader_readProduct_44 rx wC a = some (0, wup (wup wC 44 5 1) 44 6 (wC 45 3)) := by
  rw [F_Reader_readProduct_44, c_partN r h1 h2 hP, bd_some]
  simp only
  rw [loop_eq, lp_productF, bl_some]
  simp only
  rw [gd_pos (Or.inl trivial)]
/-! sum -/
def op_sum (tx : Nat → Nat) (L p : Nat) : Option Int32 := if mk tx L p 43 = true then some (-15) else if mk tx L p 45 = true then some (-16) else none
theorem lp_sumF (rx : Wld → Int32 → Option (Int32 × Wld)) (a i : Int32) (wC : Wld) : B_Reader_readSum_44_8 rx a (0, i, wC) = some (.inr (0, wC)) := by
  by_cases h : (700 : Int32) ≤ i
  · rw [B_Reader_readSum_44_8, br_pos h]
  · rw [B_Reader_readSum_44_8, br_neg h, br_pos rfl]
theorem lp_sumB {rx : Wld → Int32 → Option Wld} {a : Int32} {wM : Wld} (hb : ¬ wM 0 21 = 0) : B_M_readSum_5 rx a wM = some (.inr wM) := by
  rw [B_M_readSum_5, m_mkB hb, bp_some, br_neg (fun z => z rfl), m_mkB hb, bp_some, br_pos rfl]
theorem p_sum {wR : Wld} {tx : Nat → Nat} {L : Nat} {rxC : Wld → Int32 → Option (Int32 × Wld)} {rxM : Wld → Int32 → Option Wld} {a : Nat} (hx : HX wR tx L rxC rxM a) (ha : a ≤ 5) {wC wM : Wld} {p n D : Nat} (r : PR wR tx L wC wM p n D) (hD : D ≤ 5 * a + 3) : Ret2 (F_Reader_readSum_44 rxC wC (jn a)) (F_M_readSum rxM wM (jn a)) (POut wR tx L wC wM p n D) := by
  rw [F_Reader_readSum_44, F_M_readSum]
  refine p_chain (p_product hx ha r (by omega)) (lp_sumF rxC (jn a)) (fun w hb => lp_sumB hb) (fun p1 n1 wC1 wM1 r1 => ?_)
  refine p_loop (op := op_sum tx L) (subC := fun w => F_Reader_readProduct_44 rxC w (jn a)) (subM := fun w => F_M_readProduct rxM w (jn a)) (Bd := 5 * a + 3) ?_ ?_ ?_ ?_ (lp_sumF rxC (jn a)) (fun w hb => lp_sumB hb) ?_ (fun wC wM p n D r hD => p_product hx ha r (by omega)) (L - p1) p1 (Nat.le_refl _) 0 n1 D wC1 wM1 r1 hD (Nat.zero_le _)
  · intro i wC wM p n D r ho hi
    have h1 : (wC 45 7 = 43) = (mk tx L p 43 = true) := c_mk r.1 r.2.2.2.1 r.2.2.1 (c := 43) (by omega) (by omega)
    have h2 : (wC 45 7 = 45) = (mk tx L p 45 = true) := c_mk r.1 r.2.2.2.1 r.2.2.1 (c := 45) (by omega) (by omega)
    unfold op_sum at ho
    by_cases m1 : mk tx L p 43 = true
    · rw [if_pos m1] at ho; cases ho
    · by_cases m2 : mk tx L p 45 = true
      · rw [if_neg m1, if_pos m2] at ho; cases ho
      · by_cases h7 : (700 : Int32) ≤ jn i
        · rw [B_Reader_readSum_44_8, br_pos h7]
        · rw [B_Reader_readSum_44_8, br_neg h7, br_neg (show ¬ (1 : Int32) = 0 by decide), br_neg (show ¬ wC 45 7 = 43 by rw [h1]; exact m1), br_pos (show ¬ wC 45 7 = 45 by rw [h2]; exact m2)]
  · intro wC wM p n D r ho
    have h1 : F_M_isMarked wM 43 = _ := m_mk r.2.1 r.2.2.2.2.1 r.2.2.1 r.2.2.2.2.2.1 (c := 43) (by decide) (by omega)
    have h2 : F_M_isMarked wM 45 = _ := m_mk r.2.1 r.2.2.2.2.1 r.2.2.1 r.2.2.2.2.2.1 (c := 45) (by decide) (by omega)
    unfold op_sum at ho
    by_cases m1 : mk tx L p 43 = true
    · rw [if_pos m1] at ho; cases ho
    · by_cases m2 : mk tx L p 45 = true
      · rw [if_neg m1, if_pos m2] at ho; cases ho
      · rw [B_M_readSum_5, h1, if_neg m1, bp_some, br_neg (fun z => z rfl), h2, if_neg m2, bp_some, br_pos rfl]
  · intro i wC wM p n D s r ho hi
    have h1 : (wC 45 7 = 43) = (mk tx L p 43 = true) := c_mk r.1 r.2.2.2.1 r.2.2.1 (c := 43) (by omega) (by omega)
    have h2 : (wC 45 7 = 45) = (mk tx L p 45 = true) := c_mk r.1 r.2.2.2.1 r.2.2.1 (c := 45) (by omega) (by omega)
    have h7 : ¬ (700 : Int32) ≤ jn i := by rw [li_700, jn_le (by omega) (by omega)]; omega
    have e1 : jn i + 1 = jn (i + 1) := jn_1a i
    unfold op_sum at ho
    by_cases m1 : mk tx L p 43 = true
    · rw [if_pos m1] at ho
      cases ho
      rw [B_Reader_readSum_44_8, br_neg h7, br_neg (show ¬ (1 : Int32) = 0 by decide), br_pos (show wC 45 7 = 43 by rw [h1]; exact m1), K_Reader_readSum_44_43, br_neg (show ¬ ¬ wC 45 7 = 43 by rw [h1]; exact fun z => z m1), K_Reader_readSum_44_62]
      simp only [bi_eq, e1]
    · by_cases m2 : mk tx L p 45 = true
      · rw [if_neg m1, if_pos m2] at ho
        cases ho
        rw [B_Reader_readSum_44_8, br_neg h7, br_neg (show ¬ (1 : Int32) = 0 by decide), br_neg (show ¬ wC 45 7 = 43 by rw [h1]; exact m1), br_neg (show ¬ ¬ wC 45 7 = 45 by rw [h2]; exact fun z => z m2), K_Reader_readSum_44_43, br_pos (show ¬ wC 45 7 = 43 by rw [h1]; exact m1), K_Reader_readSum_44_62]
        simp only [bi_eq, e1]
      · rw [if_neg m1, if_neg m2] at ho; cases ho
  · intro wC wM p n D s r ho
    have h1 : F_M_isMarked wM 43 = _ := m_mk r.2.1 r.2.2.2.2.1 r.2.2.1 r.2.2.2.2.2.1 (c := 43) (by decide) (by omega)
    have h2 : F_M_isMarked wM 45 = _ := m_mk r.2.1 r.2.2.2.2.1 r.2.2.1 r.2.2.2.2.2.1 (c := 45) (by decide) (by omega)
    unfold op_sum at ho
    by_cases m1 : mk tx L p 43 = true
    · rw [if_pos m1] at ho
      cases ho
      rw [B_M_readSum_5, h1, if_pos m1, bp_some, br_pos (by decide), K_M_readSum_23, h1, if_pos m1, bp_some, br_neg (by decide), K_M_readSum_39, show trc (-15) = -20 from by decide]
    · by_cases m2 : mk tx L p 45 = true
      · rw [if_neg m1, if_pos m2] at ho
        cases ho
        rw [B_M_readSum_5, h1, if_neg m1, bp_some, br_neg (fun z => z rfl), h2, if_pos m2, bp_some, br_neg (by decide), K_M_readSum_23, h1, if_neg m1, bp_some, br_pos rfl, K_M_readSum_39, show trc (-16) = -21 from by decide]
      · rw [if_neg m1, if_neg m2] at ho; cases ho
  · intro p s ho hp
    unfold op_sum at ho
    by_cases m1 : mk tx L p 43 = true
    · rw [if_pos m1] at ho
      cases ho
      exact ⟨mk_lt hp m1, by decide, by decide⟩
    · by_cases m2 : mk tx L p 45 = true
      · rw [if_neg m1, if_pos m2] at ho
        cases ho
        exact ⟨mk_lt hp m2, by decide, by decide⟩
      · rw [if_neg m1, if_neg m2] at ho; cases ho
theorem m_sumB {rx : Wld → Int32 → Option Wld} {a : Int32} {wM : Wld} (hb : ¬ wM 0 21 = 0) : F_M_readSum rx wM a = some wM := by
  rw [F_M_readSum, m_productB hb, bv_some, loop_eq, lp_sumB hb, bl_some]
/-- a token with which no part begins -/
theorem c_sumN {wR : Wld} {tx : Nat → Nat} {L : Nat} {wC wM : Wld} {p n D : Nat} (r : PR wR tx L wC wM p n D) (h1 : ¬ kd tx L p = 1) (h2 : ¬ kd tx L p = 2) (hP : ¬ mk tx L p 40 = true) (rx : Wld → Int32 → Option (Int32 × Wld)) (a : Int32) : F_Reader_readSum_44 rx wC a = some (0, wup (wup wC 44 5 1) 44 6 (wC 45 3)) := by
  rw [F_Reader_readSum_44, c_productN r h1 h2 hP, bd_some]
  simp only
  rw [loop_eq, lp_sumF, bl_some]
  simp only
  rw [gd_pos (Or.inl trivial)]
