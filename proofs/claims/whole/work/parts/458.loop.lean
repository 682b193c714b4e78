/-! ===== the law's loop ===== -/
theorem lw_step {xs : Nat → Int32} {L i : Nat} {w : Wld} (hL : L ≤ 3072) (hi : i + 6 ≤ L) (r : Rel w) : Ret (B_law xs L (jn i, w)) (LwP (jn i)) := by
  obtain ⟨h, r⟩ := r
  have v0 : vp_in (jn i) L := vpK (by omega) (by omega)
  have v1 : vp_in (jn i + (1 : Int32)) L := by rw [jn_1a]; exact vpK (by omega) (by omega)
  have v2 : vp_in (jn i + (2 : Int32)) L := by rw [li_2, jn_add]; exact vpK (by omega) (by omega)
  have v3 : vp_in (jn i + (3 : Int32)) L := by rw [li_3, jn_add]; exact vpK (by omega) (by omega)
  have v4 : vp_in (jn i + (4 : Int32)) L := by rw [li_4, jn_add]; exact vpK (by omega) (by omega)
  have v5 : vp_in (jn i + (5 : Int32)) L := by rw [li_5, jn_add]; exact vpK (by omega) (by omega)
  have e6 : (Int32.ofNat L) - (6 : Int32) = jn (L - 6) := by
    show jn L - jn 6 = jn (L - 6)
    rw [jn_sub (by omega)]
  rw [B_law]
  simp only
  rw [e6, br_neg (by rw [jn_lt (by omega) (by omega)]; omega), gd_pos v0]
  generalize (xs (Int32.toNatClampNeg (jn i))) &&& (63 : Int32) = c
  by_cases c0 : c = 0
  · rw [br_pos c0]; exact lc_0 r v1 v2 v3 v4 v5
  rw [br_neg c0]
  by_cases c1 : c = 1
  · rw [br_pos c1]; exact lc_1 r v1 v2 v3 v4 v5
  rw [br_neg c1]
  by_cases c2 : c = 2
  · rw [br_pos c2]; exact lc_2 r v1 v2 v3 v4 v5
  rw [br_neg c2]
  by_cases c3 : c = 3
  · rw [br_pos c3]; exact lc_3 r v1 v2 v3 v4 v5
  rw [br_neg c3]
  by_cases c4 : c = 4
  · rw [br_pos c4]; exact lc_4 r v1 v2 v3 v4 v5
  rw [br_neg c4]
  by_cases c5 : c = 5
  · rw [br_pos c5]; exact lc_5 r v1 v2 v3 v4 v5
  rw [br_neg c5]
  by_cases c6 : c = 6
  · rw [br_pos c6]; exact lc_6 r v1 v2 v3 v4 v5
  rw [br_neg c6]
  by_cases c7 : c = 7
  · rw [br_pos c7]; exact lc_7 r v1 v2 v3 v4 v5
  rw [br_neg c7]
  by_cases c8 : c = 8
  · rw [br_pos c8]; exact lc_8 r v1 v2 v3 v4 v5
  rw [br_neg c8]
  by_cases c9 : c = 9
  · rw [br_pos c9]; exact lc_9 r v1 v2 v3 v4 v5
  rw [br_neg c9]
  by_cases c10 : c = 10
  · rw [br_pos c10]; exact lc_10 r v1 v2 v3 v4 v5
  rw [br_neg c10]
  by_cases c11 : c = 11
  · rw [br_pos c11]; exact lc_11 r v1 v2 v3 v4 v5
  rw [br_neg c11]
  by_cases c12 : c = 12
  · rw [br_pos c12]; exact lc_12 r v1 v2 v3 v4 v5
  rw [br_neg c12]
  by_cases c13 : c = 13
  · rw [br_pos c13]; exact lc_13 r v1 v2 v3 v4 v5
  rw [br_neg c13]
  by_cases c14 : c = 14
  · rw [br_pos c14]; exact lc_14 r v1 v2 v3 v4 v5
  rw [br_neg c14]
  by_cases c15 : c = 15
  · rw [br_pos c15]; exact lc_15 r v1 v2 v3 v4 v5
  rw [br_neg c15]
  by_cases c16 : c = 16
  · rw [br_pos c16]; exact lc_16 r v1 v2 v3 v4 v5
  rw [br_neg c16]
  by_cases c17 : c = 17
  · rw [br_pos c17]; exact lc_17 r v1 v2 v3 v4 v5
  rw [br_neg c17]
  by_cases c18 : c = 18
  · rw [br_pos c18]; exact lc_18 r v1 v2 v3 v4 v5
  rw [br_neg c18]
  by_cases c19 : c = 19
  · rw [br_pos c19]; exact lc_19 r v1 v2 v3 v4 v5
  rw [br_neg c19]
  by_cases c20 : c = 20
  · rw [br_pos c20]; exact lc_20 r v1 v2 v3 v4 v5
  rw [br_neg c20]
  by_cases c21 : c = 21
  · rw [br_pos c21]; exact lc_21 r v1 v2 v3 v4 v5
  rw [br_neg c21]
  by_cases c22 : c = 22
  · rw [br_pos c22]; exact lc_22 r v1 v2 v3 v4 v5
  rw [br_neg c22]
  by_cases c23 : c = 23
  · rw [br_pos c23]; exact lc_23 r v1 v2 v3 v4 v5
  rw [br_neg c23]
  by_cases c24 : c = 24
  · rw [br_pos c24]; exact lc_24 r v1 v2 v3 v4 v5
  rw [br_neg c24]
  by_cases c25 : c = 25
  · rw [br_pos c25]; exact lc_25 r v1 v2 v3 v4 v5
  rw [br_neg c25]
  by_cases c26 : c = 26
  · rw [br_pos c26]; exact lc_26 r v1 v2 v3 v4 v5
  rw [br_neg c26]
  by_cases c27 : c = 27
  · rw [br_pos c27]; exact lc_27 r v1 v2 v3 v4 v5
  rw [br_neg c27]
  by_cases c28 : c = 28
  · rw [br_pos c28]; exact lc_28 r v1 v2 v3 v4 v5
  rw [br_neg c28]
  by_cases c29 : c = 29
  · rw [br_pos c29]; exact lc_29 r v1 v2 v3 v4 v5
  rw [br_neg c29]
  by_cases c30 : c = 30
  · rw [br_pos c30]; exact lc_30 r v1 v2 v3 v4 v5
  rw [br_neg c30]
  by_cases c31 : c = 31
  · rw [br_pos c31]; exact lc_31 r v1 v2 v3 v4 v5
  rw [br_neg c31]
  by_cases c32 : c = 32
  · rw [br_pos c32]; exact lc_32 r v1 v2 v3 v4 v5
  rw [br_neg c32]
  by_cases c33 : c = 33
  · rw [br_pos c33]; exact lc_33 r v1 v2 v3 v4 v5
  rw [br_neg c33]
  by_cases c34 : c = 34
  · rw [br_pos c34]; exact lc_34 r v1 v2 v3 v4 v5
  rw [br_neg c34]
  by_cases c35 : c = 35
  · rw [br_pos c35]; exact lc_35 r v1 v2 v3 v4 v5
  rw [br_neg c35]
  by_cases c36 : c = 36
  · rw [br_pos c36]; exact lc_36 r v1 v2 v3 v4 v5
  rw [br_neg c36]
  by_cases c37 : c = 37
  · rw [br_pos c37]; exact lc_37 r v1 v2 v3 v4 v5
  rw [br_neg c37]
  by_cases c38 : c = 38
  · rw [br_pos c38]; exact lc_38 r v1 v2 v3 v4 v5
  rw [br_neg c38]
  rw [bi_eq, ret_some]
  exact ⟨w, rfl, h, r⟩
theorem law_step (xs : Nat → Int32) (L k : Nat) (w : Wld) (hL : L ≤ 3072) (hk : 6 * k + 6 ≤ L) (r : Rel w) : ∃ w', B_law xs L (Int32.ofNat (6 * k), w) = some (.inl (Int32.ofNat (6 * (k + 1)), w')) ∧ Rel w' := by
  obtain ⟨x, e, w', rfl, r'⟩ := lw_step (xs := xs) (i := 6 * k) hL hk r
  refine ⟨w', ?_, r'⟩
  have e6 : jn (6 * k) + 6 = jn (6 * (k + 1)) := by rw [li_6, jn_add, show 6 * k + 6 = 6 * (k + 1) by omega]
  rw [e6] at e
  exact e
theorem ofs6 : ∀ L, L < 6 → (Int32.ofNat L) - (6 : Int32) < (0 : Int32) := by decide +kernel
theorem law_end (xs : Nat → Int32) (L k : Nat) (w : Wld) (hL : L ≤ 3072) (h1 : 6 * k ≤ L) (h2 : L < 6 * k + 6) : B_law xs L (Int32.ofNat (6 * k), w) = some (.inr w) := by
  have h : (Int32.ofNat L) - (6 : Int32) < Int32.ofNat (6 * k) := by
    by_cases h6 : L < 6
    · have : k = 0 := by omega
      subst this
      exact ofs6 L h6
    · show jn L - jn 6 < jn (6 * k)
      rw [jn_sub (by omega), jn_lt (by omega) (by omega)]
      omega
  rw [B_law]
  simp only
  rw [br_pos h]
