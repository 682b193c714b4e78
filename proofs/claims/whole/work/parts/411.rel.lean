/-! ===== how the class's world and the model's go together ===== -/
/-- acts that are kept: the class's ring, the model's row -/
def RAg (sz fi : Int32) (rows : Nat → Int32) (ms : Int32) (past : Nat → Int32) (h : Hs) : Prop := ∃ n f, n ≤ 40 ∧ f < 40 ∧ sz = jn n ∧ fi = jn f ∧ ms = jn n ∧ ∀ k, k < n → ∃ c : Sta, GdS h c ∧ (∀ i, i < 53 → rows (((f + k) % 40) * 53 + i) = c i) ∧ MRow (fun i => past (53 * k + i)) h c
def REg (cz : Int32) (cn cv cs : Nat → Int32) (mz : Int32) (mn mv ms : Nat → Int32) : Prop := ∃ n, n ≤ 8 ∧ cz = jn n ∧ mz = jn n ∧ ∀ k, k < n → (∃ x, 1 ≤ x ∧ x ≤ 20 ∧ cn k = jn x ∧ mn k = jn x) ∧ (∃ x, x < 100 ∧ cv k = jn x ∧ mv k = jn x) ∧ ∃ b : Int32, (b = 0 ∨ b = 1) ∧ cs k = b ∧ ms k = b
def RUg (c m : Nat → Int32) : Prop := ∀ k, k < 3 → c k = m k
/-- the byte b as the class has it -/
def sb (b : Nat) : Int32 := (jn b).toInt8.toInt32
def RS (w : Wld) (h : Hs) : Prop := GdS h (w 66) ∧ MSt w h (w 66)
def RA (w : Wld) (h : Hs) : Prop := RAg (w 67 2) (w 67 1) (w 68) (w 0 34) (w 20) h
def RE (w : Wld) : Prop := REg (w 69 3) (w 70) (w 71) (w 72) (w 0 35) (w 28) (w 29) (w 31)
def RU (w : Wld) : Prop := RUg (w 73) (w 12)
def RI (w : Wld) (h : Hs) : Prop := (w 42 8 = 0 ∧ w 0 55 = 0) ∨ (w 42 8 = 1 ∧ w 0 55 = 1 ∧ GdS h (w 76) ∧ MRow (w 35) h (w 76) ∧ RAg (w 77 2) (w 77 1) (w 78) (w 0 56) (w 36) h ∧ REg (w 79 3) (w 80) (w 81) (w 82) (w 0 57) (w 37) (w 38) (w 40) ∧ RUg (w 83) (w 39))
def RT (w : Wld) : Prop := (∃ t, t ≤ 700 ∧ w 42 1 = jn t ∧ w 0 14 = jn t ∧ ∀ k, k < t → ∃ b, b < 256 ∧ w 13 k = jn b ∧ w 43 k = sb b) ∧ w 42 2 = w 0 23
def RelH (w : Wld) (h : Hs) : Prop := GdH h ∧ CHs w h ∧ MHs w h ∧ RS w h ∧ RA w h ∧ RE w ∧ RU w ∧ RI w h ∧ RT w
def Rel (w : Wld) : Prop := ∃ h, RelH w h
theorem GdS_congr {h : Hs} {c d : Sta} (hh : GdH h) (g : GdS h c) (e : ∀ i, i < 53 → d i = c i) : GdS h d := by
  have hN := hh.1
  have hM := hh.2.1
  obtain ⟨g1, g2, g3, g4, g5, g6, g7⟩ := g
  refine ⟨fun m hm => ?_, fun r hr => ?_, fun r hr => ?_, fun m hm => ?_, fun m hm => ?_, ?_, ?_⟩
  · rw [e _ (by omega)]; exact g1 m hm
  · rw [e _ (by omega)]; exact g2 r hr
  · rw [e _ (by omega)]; exact g3 r hr
  · rw [e _ (by omega)]; exact g4 m hm
  · rw [e _ (by omega)]; exact g5 m hm
  · rw [e _ (by omega)]; exact g6
  · rw [e _ (by omega)]; exact g7
theorem MSt_congr {w : Wld} {h : Hs} {c d : Sta} (hh : GdH h) (g : MSt w h c) (e : ∀ i, i < 53 → d i = c i) : MSt w h d := by
  have hN := hh.1
  have hM := hh.2.1
  obtain ⟨g1, g2, g3, g4, g5⟩ := g
  refine ⟨fun m hm => ?_, fun r hr => ?_, ?_, ?_, ?_⟩
  · rw [e _ (by omega), e _ (by omega), e _ (by omega), e _ (by omega)]; exact g1 m hm
  · rw [e _ (by omega), e _ (by omega)]; exact g2 r hr
  · rw [e _ (by omega)]; exact g3
  · rw [e _ (by omega)]; exact g4
  · rw [e _ (by omega)]; exact g5
theorem MRow_congr {row row' : Nat → Int32} {h : Hs} {c d : Sta} (hh : GdH h) (g : MRow row h c) (e : ∀ i, i < 53 → d i = c i) (er : ∀ i, i < 53 → row' i = row i) : MRow row' h d := by
  have hN := hh.1
  have hM := hh.2.1
  obtain ⟨g1, g2, g3, g4, g5⟩ := g
  refine ⟨?_, ?_, ?_, fun m hm => ?_, fun r hr => ?_⟩
  · rw [e _ (by omega), er _ (by omega)]; exact g1
  · rw [e _ (by omega), er _ (by omega)]; exact g2
  · rw [e _ (by omega), er _ (by omega)]; exact g3
  · rw [e _ (by omega), e _ (by omega), e _ (by omega), e _ (by omega), er _ (by omega), er _ (by omega), er _ (by omega), er _ (by omega)]; exact g4 m hm
  · rw [e _ (by omega), e _ (by omega), er _ (by omega), er _ (by omega)]; exact g5 r hr
/-! frames -/
theorem RA_fr {L : List Nat} {K : List (Nat × Nat)} {w w' : Wld} {h : Hs} (r : RA w h) (f : Frm L K w w') (b : frB L K 67 2 = false ∧ frB L K 67 1 = false ∧ (∀ j, frB L K 68 j = false) ∧ frB L K 0 34 = false ∧ ∀ j, frB L K 20 j = false) : RA w' h := by
  unfold RA at r ⊢
  rw [f _ _ b.1, f _ _ b.2.1, frm_cell f 68 b.2.2.1, f _ _ b.2.2.2.1, frm_cell f 20 b.2.2.2.2]
  exact r
theorem RE_fr {L : List Nat} {K : List (Nat × Nat)} {w w' : Wld} (r : RE w) (f : Frm L K w w') (b : frB L K 69 3 = false ∧ (∀ j, frB L K 70 j = false) ∧ (∀ j, frB L K 71 j = false) ∧ (∀ j, frB L K 72 j = false) ∧ frB L K 0 35 = false ∧ (∀ j, frB L K 28 j = false) ∧ (∀ j, frB L K 29 j = false) ∧ (∀ j, frB L K 31 j = false)) : RE w' := by
  unfold RE at r ⊢
  obtain ⟨b0, b1, b2, b3, b4, b5, b6, b7⟩ := b
  rw [f _ _ b0, frm_cell f 70 b1, frm_cell f 71 b2, frm_cell f 72 b3, f _ _ b4, frm_cell f 28 b5, frm_cell f 29 b6, frm_cell f 31 b7]
  exact r
theorem RU_fr {L : List Nat} {K : List (Nat × Nat)} {w w' : Wld} (r : RU w) (f : Frm L K w w') (b : (∀ j, frB L K 73 j = false) ∧ (∀ j, frB L K 12 j = false)) : RU w' := by
  unfold RU at r ⊢
  rw [frm_cell f 73 b.1, frm_cell f 12 b.2]
  exact r
theorem RI_fr {L : List Nat} {K : List (Nat × Nat)} {w w' : Wld} {h : Hs} (r : RI w h) (f : Frm L K w w') (b : frB L K 42 8 = false ∧ frB L K 0 55 = false ∧ (∀ j, frB L K 76 j = false) ∧ (∀ j, frB L K 35 j = false) ∧ frB L K 77 2 = false ∧ frB L K 77 1 = false ∧ (∀ j, frB L K 78 j = false) ∧ frB L K 0 56 = false ∧ (∀ j, frB L K 36 j = false) ∧ frB L K 79 3 = false ∧ (∀ j, frB L K 80 j = false) ∧ (∀ j, frB L K 81 j = false) ∧ (∀ j, frB L K 82 j = false) ∧ frB L K 0 57 = false ∧ (∀ j, frB L K 37 j = false) ∧ (∀ j, frB L K 38 j = false) ∧ (∀ j, frB L K 40 j = false) ∧ (∀ j, frB L K 83 j = false) ∧ (∀ j, frB L K 39 j = false)) : RI w' h := by
  unfold RI at r ⊢
  obtain ⟨b0, b1, b2, b3, b4, b5, b6, b7, b8, b9, b10, b11, b12, b13, b14, b15, b16, b17, b18⟩ := b
  rw [f _ _ b0, f _ _ b1, frm_cell f 76 b2, frm_cell f 35 b3, f _ _ b4, f _ _ b5, frm_cell f 78 b6, f _ _ b7, frm_cell f 36 b8, f _ _ b9, frm_cell f 80 b10, frm_cell f 81 b11, frm_cell f 82 b12, f _ _ b13, frm_cell f 37 b14, frm_cell f 38 b15, frm_cell f 40 b16, frm_cell f 83 b17, frm_cell f 39 b18]
  exact r
theorem RT_fr {L : List Nat} {K : List (Nat × Nat)} {w w' : Wld} (r : RT w) (f : Frm L K w w') (b : frB L K 42 1 = false ∧ frB L K 0 14 = false ∧ (∀ j, frB L K 13 j = false) ∧ (∀ j, frB L K 43 j = false) ∧ frB L K 42 2 = false ∧ frB L K 0 23 = false) : RT w' := by
  unfold RT at r ⊢
  obtain ⟨b0, b1, b2, b3, b4, b5⟩ := b
  rw [f _ _ b0, f _ _ b1, frm_cell f 13 b2, frm_cell f 43 b3, f _ _ b4, f _ _ b5]
  exact r
/-- what questions may write -/
def LQu : List Nat := [5, 6, 8, 9, 10, 14, 15, 16, 17, 18, 19, 21, 22, 23, 24, 25, 26, 27, 30, 32, 33, 34, 41, 44, 45, 46, 47, 48, 49, 50, 51, 52, 53, 54, 61, 62, 63, 85, 86, 87, 88, 89]
def KQu : List (Nat × Nat) := [(0, 2), (0, 15), (0, 16), (0, 17), (0, 18), (0, 19), (0, 20), (0, 21), (0, 22), (0, 31), (0, 32), (0, 33), (0, 38), (0, 39), (0, 40), (0, 52), (0, 54), (55, 3)]
theorem RelH_q {w w' : Wld} {h : Hs} (r : RelH w h) (f : Frm LQu KQu w w') (hm : MSt w' h (w 66)) : RelH w' h := by
  obtain ⟨r1, r2, r3, r4, r5, r6, r7, r8, r9⟩ := r
  have e66 : w' 66 = w 66 := frm_cell f 66 (fun _ => rfl)
  refine ⟨r1, CHs_fr r2 f ⟨rfl, rfl, rfl, rfl, fun _ => rfl, fun _ => rfl, rfl, fun _ => rfl⟩, MHs_fr r3 f ⟨rfl, rfl, rfl, rfl, rfl, fun _ => rfl, fun _ => rfl, fun _ => rfl⟩, ?_, RA_fr r5 f ⟨rfl, rfl, fun _ => rfl, rfl, fun _ => rfl⟩, RE_fr r6 f ⟨rfl, fun _ => rfl, fun _ => rfl, fun _ => rfl, rfl, fun _ => rfl, fun _ => rfl, fun _ => rfl⟩, RU_fr r7 f ⟨fun _ => rfl, fun _ => rfl⟩, RI_fr r8 f ⟨rfl, rfl, fun _ => rfl, fun _ => rfl, rfl, rfl, fun _ => rfl, rfl, fun _ => rfl, rfl, fun _ => rfl, fun _ => rfl, fun _ => rfl, rfl, fun _ => rfl, fun _ => rfl, fun _ => rfl, fun _ => rfl, fun _ => rfl⟩, RT_fr r9 f ⟨rfl, rfl, fun _ => rfl, fun _ => rfl, rfl, rfl⟩⟩
  unfold RS
  rw [e66]
  exact ⟨r4.1, hm⟩
/-- the same where the model's state is left alone -/
def LQc : List Nat := [5, 6, 8, 9, 10, 21, 22, 23, 24, 25, 26, 27, 30, 32, 33, 34, 41, 44, 45, 46, 47, 48, 49, 50, 51, 52, 53, 54, 61, 62, 63, 85, 86, 87, 88, 89]
def KQc : List (Nat × Nat) := [(0, 2), (0, 15), (0, 16), (0, 17), (0, 18), (0, 19), (0, 20), (0, 21), (0, 22), (0, 38), (0, 39), (0, 40), (0, 52), (0, 54), (55, 3)]
theorem RelH_c {w w' : Wld} {h : Hs} (r : RelH w h) (f : Frm LQc KQc w w') : RelH w' h :=
  RelH_q r (frm_up f rfl) (MSt_fr r.2.2.2.1.2 f ⟨fun _ => rfl, fun _ => rfl, fun _ => rfl, fun _ => rfl, fun _ => rfl, fun _ => rfl, rfl, rfl, rfl⟩)
/-! ===== tests that calls make ===== -/
theorem t_isIn (w : Wld) (a b c : Int32) : F_M_isIn w (Int32.toInt64 a) (Int32.toInt64 b) (Int32.toInt64 c) = some (if b ≤ a ∧ a ≤ c then 1 else 0) := by
  simp only [F_M_isIn, K_M_isIn_17, K_M_isIn_18, lg_cmp_lt, lg_cmp_gt, Int32.toInt64_lt]
  by_cases h1 : a < b
  · rw [br_pos h1, gd_pos (Or.inl trivial), if_neg (fun z => absurd z.1 (Int32.not_le.mpr h1))]
  · rw [br_neg h1]
    by_cases h2 : c < a
    · rw [br_pos h2, gd_pos (Or.inl trivial), if_neg (fun z => absurd z.2 (Int32.not_le.mpr h2))]
    · rw [br_neg h2, gd_pos (Or.inr trivial), if_pos ⟨Int32.not_lt.mp h1, Int32.not_lt.mp h2⟩]
/-- a number is an index, or it isn't -/
theorem idx_cases (x : Int32) (n : Nat) (hn : n < 100) : (∃ k, k < n ∧ x = jn k) ∨ ((x < 0 ∨ jn n ≤ x) ∧ ¬ (0 ≤ x ∧ x ≤ jn n - 1)) := by
  rcases int32_cases x with ⟨h, _⟩ | ⟨k, hk, rfl⟩
  · exact Or.inr ⟨Or.inl h, fun z => absurd z.1 (Int32.not_le.mpr h)⟩
  · by_cases h1 : k < n
    · exact Or.inl ⟨k, h1, rfl⟩
    · refine Or.inr ⟨Or.inr (by rw [jn_le (by omega) hk]; omega), fun z => ?_⟩
      by_cases h0 : n = 0
      · subst h0
        have h2 : jn k ≤ jn 0 - 1 := z.2
        have h3 : (jn 0 - 1 : Int32) < 0 := by decide
        have h4 : (0 : Int32) ≤ jn k := z.1
        exact absurd (Int32.lt_of_le_of_lt (Int32.le_trans h4 h2) h3) (by decide)
      · have h2 : jn k ≤ jn n - 1 := z.2
        rw [jn_1s (by omega), jn_le hk (by omega)] at h2
        omega
theorem t_isMonk_y {w : Wld} {n k : Nat} (e1 : w 3 1 = jn n) (hn : n < 100) (hk : k < n) : F_M_isMonk w (jn k) = some 1 := by
  have h1 : (0 : Int32) ≤ jn k ∧ jn k ≤ jn n - 1 := ⟨by rw [jn_0le (by omega)]; trivial, by rw [jn_1s (by omega), jn_le (by omega) (by omega)]; omega⟩
  simp only [F_M_isMonk, cl_1, vp_1, e1, t_isIn, bp_some]
  rw [if_pos h1, gd_pos (by decide), gd_pos (Or.inr rfl)]
theorem t_isMonk_n {w : Wld} {n : Nat} {x : Int32} (e1 : w 3 1 = jn n) (h : ¬ (0 ≤ x ∧ x ≤ jn n - 1)) : F_M_isMonk w x = some 0 := by
  simp only [F_M_isMonk, cl_1, vp_1, e1, t_isIn, bp_some]
  rw [if_neg h, gd_pos (by decide), gd_pos (Or.inl rfl)]
theorem t_isRoom_y {w : Wld} {n k : Nat} (e1 : w 3 0 = jn n) (hn : n < 100) (hk : k < n) : F_M_isRoom w (jn k) = some 1 := by
  have h1 : (0 : Int32) ≤ jn k ∧ jn k ≤ jn n - 1 := ⟨by rw [jn_0le (by omega)]; trivial, by rw [jn_1s (by omega), jn_le (by omega) (by omega)]; omega⟩
  simp only [F_M_isRoom, cl_0, vp_0, e1, t_isIn, bp_some]
  rw [if_pos h1, gd_pos (by decide), gd_pos (Or.inr rfl)]
theorem t_isRoom_n {w : Wld} {n : Nat} {x : Int32} (e1 : w 3 0 = jn n) (h : ¬ (0 ≤ x ∧ x ≤ jn n - 1)) : F_M_isRoom w x = some 0 := by
  simp only [F_M_isRoom, cl_0, vp_0, e1, t_isIn, bp_some]
  rw [if_neg h, gd_pos (by decide), gd_pos (Or.inl rfl)]
theorem t_needMonk_y {w : Wld} {n k : Nat} (e1 : w 56 1 = jn n) (hn : n < 100) (hk : k < n) : F_C_needMonk w (jn k) = some none := by
  simp (disch := omega) only [F_C_needMonk, ↓bi_eq, ↓bw_eq, gd_pos, br_pos, br_neg, br_T, br_F, gd_T, bp_some, bd_some, bv_some, bl_some, bx_inl, bx_inr, bn_none, bn_some, bt_inl, bt_inr, not_true_eq_false, not_false_eq_true, eq_self, Bool.false_eq_true, if_true, if_false, jn_clamp, jn_lt, jn_le, jn_inj, jn_add, jn_sub, jn_mul, jn_vp, jn_0a, jn_1a, jn_1b, jn_1s, jn_1m, jn_neg0, jn_le0, jn_0le, jn_0lt, jn_1le, jn_le1, jn_lt1, jn_1lt, jn_e0, jn_e1, jn_em, ↓qB_f, ↓qT_f, cl_0, cl_1, vp_0, vp_1, e1]
theorem t_needMonk_n {w : Wld} {n : Nat} {x : Int32} (e1 : w 56 1 = jn n) (h : x < 0 ∨ jn n ≤ x) : F_C_needMonk w x = some (some 0) := by
  simp only [F_C_needMonk, K_C_needMonk_15, e1]
  by_cases h1 : x < 0
  · rw [br_pos h1]
  · rw [br_neg h1, br_neg (Int32.not_lt.mpr (h.resolve_left h1))]
theorem t_needRoom_y {w : Wld} {n k : Nat} (e1 : w 56 0 = jn n) (hn : n < 100) (hk : k < n) : F_C_needRoom w (jn k) = some none := by
  simp (disch := omega) only [F_C_needRoom, ↓bi_eq, ↓bw_eq, gd_pos, br_pos, br_neg, br_T, br_F, gd_T, bp_some, bd_some, bv_some, bl_some, bx_inl, bx_inr, bn_none, bn_some, bt_inl, bt_inr, not_true_eq_false, not_false_eq_true, eq_self, Bool.false_eq_true, if_true, if_false, jn_clamp, jn_lt, jn_le, jn_inj, jn_add, jn_sub, jn_mul, jn_vp, jn_0a, jn_1a, jn_1b, jn_1s, jn_1m, jn_neg0, jn_le0, jn_0le, jn_0lt, jn_1le, jn_le1, jn_lt1, jn_1lt, jn_e0, jn_e1, jn_em, ↓qB_f, ↓qT_f, cl_0, cl_1, vp_0, vp_1, e1]
theorem t_needRoom_n {w : Wld} {n : Nat} {x : Int32} (e1 : w 56 0 = jn n) (h : x < 0 ∨ jn n ≤ x) : F_C_needRoom w x = some (some 0) := by
  simp only [F_C_needRoom, K_C_needRoom_15, e1]
  by_cases h1 : x < 0
  · rw [br_pos h1]
  · rw [br_neg h1, br_neg (Int32.not_lt.mpr (h.resolve_left h1))]
/-- a number lies from a to b, or it doesn't -/
theorem rng_cases (x : Int32) (a b : Nat) (ha : a < 2147483648) (hb : b < 2147483648) : (∃ k, a ≤ k ∧ k ≤ b ∧ x = jn k) ∨ ((x < jn a ∨ jn b < x) ∧ ¬ (jn a ≤ x ∧ x ≤ jn b)) := by
  by_cases h1 : x < jn a
  · exact Or.inr ⟨Or.inl h1, fun z => absurd z.1 (Int32.not_le.mpr h1)⟩
  by_cases h2 : jn b < x
  · exact Or.inr ⟨Or.inr h2, fun z => absurd z.2 (Int32.not_le.mpr h2)⟩
  have h1 := Int32.not_lt.mp h1
  have h2 := Int32.not_lt.mp h2
  have h0 : ¬ x < 0 := fun z => by
    have h3 := Int32.lt_of_le_of_lt h1 z
    rw [jn_neg0 ha] at h3
    exact h3
  rcases int32_cases x with ⟨h, _⟩ | ⟨k, hk, rfl⟩
  · exact absurd h h0
  · rw [jn_le ha hk] at h1
    rw [jn_le hk hb] at h2
    exact Or.inl ⟨k, h1, h2, rfl⟩
theorem t_need_y (w : Wld) {a b k : Nat} (hb : b < 2147483648) (h1 : a ≤ k) (h2 : k ≤ b) : F_C_needWithin w (jn k) (jn a) (jn b) = some none := by
  simp (disch := omega) only [F_C_needWithin, ↓bi_eq, ↓bw_eq, gd_pos, br_pos, br_neg, br_T, br_F, gd_T, bp_some, bd_some, bv_some, bl_some, bx_inl, bx_inr, bn_none, bn_some, bt_inl, bt_inr, not_true_eq_false, not_false_eq_true, eq_self, Bool.false_eq_true, if_true, if_false, jn_clamp, jn_lt, jn_le, jn_inj, jn_add, jn_sub, jn_mul, jn_vp, jn_0a, jn_1a, jn_1b, jn_1s, jn_1m, jn_neg0, jn_le0, jn_0le, jn_0lt, jn_1le, jn_le1, jn_lt1, jn_1lt, jn_e0, jn_e1, jn_em, ↓qB_f, ↓qT_f, cl_0, cl_1, vp_0, vp_1]
theorem t_need_n (w : Wld) {a b : Nat} {x : Int32} (h : x < jn a ∨ jn b < x) : F_C_needWithin w x (jn a) (jn b) = some (some 1) := by
  simp only [F_C_needWithin, K_C_needWithin_10]
  by_cases h1 : x < jn a
  · rw [br_pos h1]
  · rw [br_neg h1, br_neg (Int32.not_le.mpr (h.resolve_left h1))]
theorem t_what_y (w : Wld) {b k : Nat} (hb : b < 2147483648) (h2 : k ≤ b) : F_C_needWhat w (jn k) (jn b) = some none := by
  simp (disch := omega) only [F_C_needWhat, ↓bi_eq, ↓bw_eq, gd_pos, br_pos, br_neg, br_T, br_F, gd_T, bp_some, bd_some, bv_some, bl_some, bx_inl, bx_inr, bn_none, bn_some, bt_inl, bt_inr, not_true_eq_false, not_false_eq_true, eq_self, Bool.false_eq_true, if_true, if_false, jn_clamp, jn_lt, jn_le, jn_inj, jn_add, jn_sub, jn_mul, jn_vp, jn_0a, jn_1a, jn_1b, jn_1s, jn_1m, jn_neg0, jn_le0, jn_0le, jn_0lt, jn_1le, jn_le1, jn_lt1, jn_1lt, jn_e0, jn_e1, jn_em, ↓qB_f, ↓qT_f, cl_0, cl_1, vp_0, vp_1]
theorem t_what_n (w : Wld) {b : Nat} {x : Int32} (h : x < jn 0 ∨ jn b < x) : F_C_needWhat w x (jn b) = some (some 0) := by
  simp only [F_C_needWhat, K_C_needWhat_9]
  have h : x < 0 ∨ jn b < x := h
  by_cases h1 : x < 0
  · rw [br_pos h1]
  · rw [br_neg h1, br_neg (Int32.not_le.mpr (h.resolve_left h1))]
