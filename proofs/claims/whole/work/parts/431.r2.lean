/-! ===== rooms: from, meeting ===== -/
def stJ (c : Sta) (A : Nat) : Nat → Nat := fl (fun r a => if A.testBit r = true then (a ||| 2 ^ (c (32 + r)).toNatClampNeg) ||| 2 ^ (c (41 + r)).toNatClampNeg else a) 0
theorem stJ_s (c : Sta) (A r : Nat) : stJ c A (r + 1) = if A.testBit r = true then (stJ c A r ||| 2 ^ (c (32 + r)).toNatClampNeg) ||| 2 ^ (c (41 + r)).toNatClampNeg else stJ c A r := rfl
def stS (h : Hs) (c : Sta) (A : Nat) : Nat := stJ c A (hsN h)
theorem stJ_lt {h : Hs} {c : Sta} (g : GdS h c) (hN : hsN h ≤ 9) (A : Nat) : ∀ r, r ≤ hsN h → stJ c A r < 2 ^ hsN h := by
  intro r
  induction r with
  | zero => intro _; exact Nat.pow_pos (by decide)
  | succ r ih =>
    intro hr
    have i0 := ih (by omega)
    rw [stJ_s]
    split
    · obtain ⟨x, hx, ex⟩ := g.2.1 r (by omega)
      obtain ⟨y, hy, ey⟩ := g.2.2.1 r (by omega)
      rw [ex, ey, jn_clamp (by omega), jn_clamp (by omega)]
      exact Nat.or_lt_two_pow (Nat.or_lt_two_pow i0 (Nat.pow_lt_pow_right (by decide) hx)) (Nat.pow_lt_pow_right (by decide) hy)
    · exact i0
theorem stS_lt {h : Hs} {c : Sta} (g : GdS h c) (hN : hsN h ≤ 9) (A : Nat) : stS h c A < 2 ^ hsN h := stJ_lt g hN A _ (Nat.le_refl _)
theorem pow9 {n : Nat} (h : n ≤ 9) : 2 ^ n ≤ 512 := pow_le (k := 9) h
theorem c_step {w : Wld} {h : Hs} (hc : CHs w h) (hh : GdH h) (hg : GdS h (w 66)) {A : Nat} (hA : A < 512) : F_C_stepFrom w (jn A) = some (jn (stS h (w 66) A)) := by
  have hN := hh.1
  have e0 := hc.1
  have key : loop (B_C_stepFrom_4 (jn A) w) (0, 0) = some (jn (stJ (w 66) A (hsN h))) := by
    refine loop_for (V := fun k => (jn (stJ (w 66) A k), jn k)) (hsN h) (fun k hk => ?_) ?_
    · obtain ⟨x, hx, ex⟩ := hg.2.1 k hk
      obtain ⟨y, hy, ey⟩ := hg.2.2.1 k hk
      rw [stJ_s, ex, ey, jn_clamp (by omega), jn_clamp (by omega)]
      by_cases hz : A.testBit k = true
      · simp (disch := omega) only [B_C_stepFrom_4, K_C_stepFrom_64, ↓bi_eq, ↓bw_eq, gd_pos, br_pos, br_neg, br_T, br_F, gd_T, bq_some, bd_some, bv_some, bl_some, bx_inl, bx_inr, bn_none, bn_some, bt_inl, bt_inr, not_true_eq_false, not_false_eq_true, eq_self, Bool.false_eq_true, if_true, if_false, jn_clamp, jn_lt, jn_le, jn_inj, jn_add, jn_sub, jn_mul, jn_vp, jn_0a, jn_1a, jn_1b, jn_1s, jn_1m, jn_neg0, jn_le0, jn_0le, jn_0lt, jn_1le, jn_le1, jn_lt1, jn_1lt, jn_e0, jn_e1, jn_em, ↓qB_f, ↓qT_f, cl_0, cl_1, vp_0, vp_1, e0, li_32, li_41, ex, ey, qT_1, hz, qB_jn, jn_or]
      · simp (disch := omega) only [B_C_stepFrom_4, K_C_stepFrom_64, ↓bi_eq, ↓bw_eq, gd_pos, br_pos, br_neg, br_T, br_F, gd_T, bq_some, bd_some, bv_some, bl_some, bx_inl, bx_inr, bn_none, bn_some, bt_inl, bt_inr, not_true_eq_false, not_false_eq_true, eq_self, Bool.false_eq_true, if_true, if_false, jn_clamp, jn_lt, jn_le, jn_inj, jn_add, jn_sub, jn_mul, jn_vp, jn_0a, jn_1a, jn_1b, jn_1s, jn_1m, jn_neg0, jn_le0, jn_0le, jn_0lt, jn_1le, jn_le1, jn_lt1, jn_1lt, jn_e0, jn_e1, jn_em, ↓qB_f, ↓qT_f, cl_0, cl_1, vp_0, vp_1, e0, qT_1, hz]
    · simp (disch := omega) only [B_C_stepFrom_4, ↓bi_eq, ↓bw_eq, gd_pos, br_pos, br_neg, br_T, br_F, gd_T, bq_some, bd_some, bv_some, bl_some, bx_inl, bx_inr, bn_none, bn_some, bt_inl, bt_inr, not_true_eq_false, not_false_eq_true, eq_self, Bool.false_eq_true, if_true, if_false, jn_clamp, jn_lt, jn_le, jn_inj, jn_add, jn_sub, jn_mul, jn_vp, jn_0a, jn_1a, jn_1b, jn_1s, jn_1m, jn_neg0, jn_le0, jn_0le, jn_0lt, jn_1le, jn_le1, jn_lt1, jn_1lt, jn_e0, jn_e1, jn_em, ↓qB_f, ↓qT_f, cl_0, cl_1, vp_0, vp_1, e0, br_pos (Nat.le_refl (hsN h))]
  rw [F_C_stepFrom, key]; rfl
theorem m_step {w : Wld} {h : Hs} {c : Sta} (hw : MHs w h) (hs : MSt w h c) (hh : GdH h) (hg : GdS h c) {A : Nat} (hA : A < 512) : F_M_stepped w (jn A) = some (jn (stS h c A)) := by
  have hN := hh.1
  have e0 := hw.1
  have key : loop (B_M_stepped_4 (jn A) w) (0, 0) = some (jn (stJ c A (hsN h))) := by
    refine loop_for (V := fun k => (jn (stJ c A k), jn k)) (hsN h) (fun k hk => ?_) ?_
    · obtain ⟨x, hx, ex⟩ := hg.2.1 k hk
      obtain ⟨y, hy, ey⟩ := hg.2.2.1 k hk
      obtain ⟨b0, b1⟩ := hs.2.1 k hk
      rw [ex] at b0
      rw [ey] at b1
      rw [stJ_s, ex, ey, jn_clamp (by omega), jn_clamp (by omega)]
      by_cases hz : A.testBit k = true
      · simp (disch := omega) only [B_M_stepped_4, K_M_stepped_44, ↓bi_eq, ↓bw_eq, gd_pos, br_pos, br_neg, br_T, br_F, gd_T, bq_some, bd_some, bv_some, bl_some, bx_inl, bx_inr, bn_none, bn_some, bt_inl, bt_inr, not_true_eq_false, not_false_eq_true, eq_self, Bool.false_eq_true, if_true, if_false, jn_clamp, jn_lt, jn_le, jn_inj, jn_add, jn_sub, jn_mul, jn_vp, jn_0a, jn_1a, jn_1b, jn_1s, jn_1m, jn_neg0, jn_le0, jn_0le, jn_0lt, jn_1le, jn_le1, jn_lt1, jn_1lt, jn_e0, jn_e1, jn_em, ↓qB_f, ↓qT_f, cl_0, cl_1, vp_0, vp_1, e0, b0, b1, t_isOf, hz, qB_jn, jn_or, (by decide : ((1 : Int32) = 0) = False), Nat.or_assoc]
      · simp (disch := omega) only [B_M_stepped_4, K_M_stepped_44, ↓bi_eq, ↓bw_eq, gd_pos, br_pos, br_neg, br_T, br_F, gd_T, bq_some, bd_some, bv_some, bl_some, bx_inl, bx_inr, bn_none, bn_some, bt_inl, bt_inr, not_true_eq_false, not_false_eq_true, eq_self, Bool.false_eq_true, if_true, if_false, jn_clamp, jn_lt, jn_le, jn_inj, jn_add, jn_sub, jn_mul, jn_vp, jn_0a, jn_1a, jn_1b, jn_1s, jn_1m, jn_neg0, jn_le0, jn_0le, jn_0lt, jn_1le, jn_le1, jn_lt1, jn_1lt, jn_e0, jn_e1, jn_em, ↓qB_f, ↓qT_f, cl_0, cl_1, vp_0, vp_1, e0, t_isOf, hz, Int32.or_zero]
    · simp (disch := omega) only [B_M_stepped_4, ↓bi_eq, ↓bw_eq, gd_pos, br_pos, br_neg, br_T, br_F, gd_T, bq_some, bd_some, bv_some, bl_some, bx_inl, bx_inr, bn_none, bn_some, bt_inl, bt_inr, not_true_eq_false, not_false_eq_true, eq_self, Bool.false_eq_true, if_true, if_false, jn_clamp, jn_lt, jn_le, jn_inj, jn_add, jn_sub, jn_mul, jn_vp, jn_0a, jn_1a, jn_1b, jn_1s, jn_1m, jn_neg0, jn_le0, jn_0le, jn_0lt, jn_1le, jn_le1, jn_lt1, jn_1lt, jn_e0, jn_e1, jn_em, ↓qB_f, ↓qT_f, cl_0, cl_1, vp_0, vp_1, e0, br_pos (Nat.le_refl (hsN h))]
  rw [F_M_stepped, key]; rfl
/-- one comes to more and more rooms -/
def frQ (h : Hs) (c : Sta) (a : Nat) : Nat → Nat := fl (fun _ A => A ||| stS h c A) a
theorem frQ_s (h : Hs) (c : Sta) (a k : Nat) : frQ h c a (k + 1) = frQ h c a k ||| stS h c (frQ h c a k) := rfl
theorem frQ_lt {h : Hs} {c : Sta} (g : GdS h c) (hN : hsN h ≤ 9) {a : Nat} (ha : a < 2 ^ hsN h) (k : Nat) : frQ h c a k < 2 ^ hsN h := by
  induction k with
  | zero => exact ha
  | succ k ih => rw [frQ_s]; exact Nat.or_lt_two_pow ih (stS_lt g hN _)
theorem frQ_sub (h : Hs) (c : Sta) (a k : Nat) : ∀ d x, (frQ h c a k).testBit x = true → (frQ h c a (k + d)).testBit x = true := by
  intro d
  induction d with
  | zero => intro x hx; exact hx
  | succ d ih => intro x hx; rw [← Nat.add_assoc, frQ_s, Nat.testBit_or, ih x hx]; rfl
theorem frQ_st (h : Hs) (c : Sta) (a k : Nat) (e : frQ h c a (k + 1) = frQ h c a k) : ∀ d, frQ h c a (k + d) = frQ h c a k := by
  intro d
  induction d with
  | zero => rfl
  | succ d ih => rw [← Nat.add_assoc, frQ_s, ih, ← frQ_s, e]
theorem bit_lt {a n x : Nat} (h : a < 2 ^ n) (hx : a.testBit x = true) : x < n := by
  rcases Nat.lt_or_ge x n with h1 | h1
  · exact h1
  · have : a.testBit x = false := Nat.testBit_lt_two_pow (Nat.lt_of_lt_of_le h (pow_le h1))
    rw [this] at hx; cases hx
theorem frQ_stable {h : Hs} {c : Sta} (g : GdS h c) (hN : hsN h ≤ 9) {a : Nat} (ha : a < 2 ^ hsN h) : ∃ k, k ≤ hsN h ∧ frQ h c a (k + 1) = frQ h c a k := by
  refine Classical.byContradiction (fun hno => ?_)
  have hne : ∀ k, k ≤ hsN h → ∃ x, (frQ h c a (k + 1)).testBit x = true ∧ ¬ (frQ h c a k).testBit x = true := by
    intro k hk
    refine Classical.byContradiction (fun hn2 => hno ⟨k, hk, ?_⟩)
    apply Nat.eq_of_testBit_eq
    intro x
    cases h1 : (frQ h c a (k + 1)).testBit x with
    | true =>
      cases h2 : (frQ h c a k).testBit x with
      | true => rfl
      | false => exact absurd ⟨x, h1, by rw [h2]; decide⟩ hn2
    | false =>
      cases h2 : (frQ h c a k).testBit x with
      | true => have := frQ_sub h c a k 1 x h2; rw [h1] at this; cases this
      | false => rfl
  obtain ⟨i, j, h1, h2, h3⟩ := pigeon (hsN h) (fun k => if hk : k ≤ hsN h then Classical.choose (hne k hk) else 0) (fun i hi => by
    simp only [hi, dif_pos]
    exact bit_lt (frQ_lt g hN ha _) (Classical.choose_spec (hne i hi)).1)
  have hi : i ≤ hsN h := by omega
  simp only [hi, h2, dif_pos] at h3
  have a1 := (Classical.choose_spec (hne i hi)).1
  have a2 := (Classical.choose_spec (hne j h2)).2
  rw [h3] at a1
  have := frQ_sub h c a (i + 1) (j - (i + 1)) _ a1
  rw [show i + 1 + (j - (i + 1)) = j by omega] at this
  exact a2 this
theorem frQ_same {h : Hs} {c : Sta} (g : GdS h c) (hN : hsN h ≤ 9) {a : Nat} (ha : a < 2 ^ hsN h) : frQ h c a 9 = frQ h c a (hsN h) := by
  obtain ⟨k, hk, e⟩ := frQ_stable g hN ha
  have e1 := frQ_st h c a k e (9 - k)
  have e2 := frQ_st h c a k e (hsN h - k)
  rw [show k + (9 - k) = 9 by omega] at e1
  rw [show k + (hsN h - k) = hsN h by omega] at e2
  rw [e1, e2]
theorem q_from {w : Wld} {h : Hs} (r : RelH w h) (a1 : Int32) : BothQ cdN w h (F_C_from w a1) (fun w1 => F_M_from w1 a1) := by
  have hh := r.1
  have hc := r.2.1
  have hN := hh.1
  have hg := r.2.2.2.1.1
  have hp9 := pow9 hN
  rcases idx_cases a1 (hsN h) (by omega) with ⟨m, hm, rfl⟩ | ⟨n1, n2⟩
  rotate_left
  · refine q_bad 0 1 ?_ (fun w1 r1 => ?_) rfl
    · rw [F_C_from, t_needRoom_n hc.1 n1, bn_some]
    · simp only [F_M_from, bw_eq, t_isRoom_n (m_ent r1).1.1 n2, bp_some, eq_self, not_true_eq_false, br_F, t_fail, bd_some]
  have ha : 2 ^ m < 2 ^ hsN h := Nat.pow_lt_pow_right (by decide) hm
  have hlt := frQ_lt hg hN ha
  refine ⟨.inr (some (jn (frQ h (w 66) (2 ^ m) (hsN h)))), ?_, fun w1 r1 e66 => ?_⟩
  · have key : loop (B_C_from_11 w) (jn (2 ^ m), 0) = some (jn (frQ h (w 66) (2 ^ m) (hsN h))) := by
      refine loop_for (V := fun k => (jn (frQ h (w 66) (2 ^ m) k), jn k)) (hsN h) (fun k hk => ?_) ?_
      · have h1 := hlt k
        have e0 := hc.1
        simp (disch := omega) only [B_C_from_11, ↓bi_eq, ↓bw_eq, gd_pos, br_pos, br_neg, br_T, br_F, gd_T, bq_some, bd_some, bv_some, bl_some, bx_inl, bx_inr, bn_none, bn_some, bt_inl, bt_inr, not_true_eq_false, not_false_eq_true, eq_self, Bool.false_eq_true, if_true, if_false, jn_clamp, jn_lt, jn_le, jn_inj, jn_add, jn_sub, jn_mul, jn_vp, jn_0a, jn_1a, jn_1b, jn_1s, jn_1m, jn_neg0, jn_le0, jn_0le, jn_0lt, jn_1le, jn_le1, jn_lt1, jn_1lt, jn_e0, jn_e1, jn_em, ↓qB_f, ↓qT_f, cl_0, cl_1, vp_0, vp_1, e0, c_step hc hh hg, jn_or, frQ_s]
      · have e0 := hc.1
        simp (disch := omega) only [B_C_from_11, ↓bi_eq, ↓bw_eq, gd_pos, br_pos, br_neg, br_T, br_F, gd_T, bq_some, bd_some, bv_some, bl_some, bx_inl, bx_inr, bn_none, bn_some, bt_inl, bt_inr, not_true_eq_false, not_false_eq_true, eq_self, Bool.false_eq_true, if_true, if_false, jn_clamp, jn_lt, jn_le, jn_inj, jn_add, jn_sub, jn_mul, jn_vp, jn_0a, jn_1a, jn_1b, jn_1s, jn_1m, jn_neg0, jn_le0, jn_0le, jn_0lt, jn_1le, jn_le1, jn_lt1, jn_1lt, jn_e0, jn_e1, jn_em, ↓qB_f, ↓qT_f, cl_0, cl_1, vp_0, vp_1, e0, br_pos (Nat.le_refl (hsN h))]
    rw [F_C_from, t_needRoom_y hc.1 (by omega) hm, bn_none, bi_eq, qB_f, qB_jn (by omega), key, bl_some, ret_some]
    exact ⟨rfl, frm_rf⟩
  · obtain ⟨z1, z2, z3, z4⟩ := m_ent r1
    rw [e66] at z2
    obtain ⟨u1, u2⟩ := q_ans r1 e66 z3 z2
    show Ret (F_M_from w1 (jn m)) _
    rw [F_M_from, bw_eq, t_isRoom_y z1.1 (by omega) hm, bp_some, br_pos (by decide), bi_eq, qB_f, qB_jn (by omega)]
    generalize wup w1 0 2 0 = wa at z1 z2 z3 z4 u1 u2 ⊢
    have key : loop (B_M_from_25 wa) (jn (2 ^ m), 0) = some (jn (frQ h (w 66) (2 ^ m) 9)) := by
      refine loop_for (V := fun k => (jn (frQ h (w 66) (2 ^ m) k), jn k)) 9 (fun k hk => ?_) ?_
      · have h1 := hlt k
        simp (disch := omega) only [B_M_from_25, ↓bi_eq, ↓bw_eq, gd_pos, br_pos, br_neg, br_T, br_F, gd_T, bq_some, bd_some, bv_some, bl_some, bx_inl, bx_inr, bn_none, bn_some, bt_inl, bt_inr, not_true_eq_false, not_false_eq_true, eq_self, Bool.false_eq_true, if_true, if_false, jn_clamp, jn_lt, jn_le, jn_inj, jn_add, jn_sub, jn_mul, jn_vp, jn_0a, jn_1a, jn_1b, jn_1s, jn_1m, jn_neg0, jn_le0, jn_0le, jn_0lt, jn_1le, jn_le1, jn_lt1, jn_1lt, jn_e0, jn_e1, jn_em, ↓qB_f, ↓qT_f, cl_0, cl_1, vp_0, vp_1, li_9, m_step z1 z2 hh hg, jn_or, frQ_s]
      · simp (disch := omega) only [B_M_from_25, ↓bi_eq, ↓bw_eq, gd_pos, br_pos, br_neg, br_T, br_F, gd_T, bq_some, bd_some, bv_some, bl_some, bx_inl, bx_inr, bn_none, bn_some, bt_inl, bt_inr, not_true_eq_false, not_false_eq_true, eq_self, Bool.false_eq_true, if_true, if_false, jn_clamp, jn_lt, jn_le, jn_inj, jn_add, jn_sub, jn_mul, jn_vp, jn_0a, jn_1a, jn_1b, jn_1s, jn_1m, jn_neg0, jn_le0, jn_0le, jn_0lt, jn_1le, jn_le1, jn_lt1, jn_1lt, jn_e0, jn_e1, jn_em, ↓qB_f, ↓qT_f, cl_0, cl_1, vp_0, vp_1, li_9, br_pos (Nat.le_refl 9)]
    rw [key, bl_some, ret_some]
    refine ⟨⟨z4, ?_⟩, u1, u2⟩
    rw [frQ_same hg hN ha]
/-! meeting -/
def mtS (h : Hs) (c : Sta) (m : Nat) : Nat → Nat := fl (fun _ A => stS h c A) (2 ^ (c (16 + m)).toNatClampNeg)
theorem mtS_s (h : Hs) (c : Sta) (m k : Nat) : mtS h c m (k + 1) = stS h c (mtS h c m k) := by unfold mtS; rw [fl_s]
theorem mtS_lt {h : Hs} {c : Sta} (g : GdS h c) (hN : hsN h ≤ 9) {m : Nat} (hm : m < hsM h) (k : Nat) : mtS h c m k < 2 ^ hsN h := by
  cases k with
  | zero =>
    obtain ⟨x, hx, ex⟩ := g.1 m hm
    show 2 ^ (c (16 + m)).toNatClampNeg < _
    rw [ex, jn_clamp (by omega)]
    exact Nat.pow_lt_pow_right (by decide) hx
  | succ k => rw [mtS_s]; exact stS_lt g hN _
def mtA (h : Hs) (c : Sta) (k : Nat) : Nat → Nat := fl (fun m a => a &&& mtS h c m k) (2 ^ hsN h - 1)
theorem mtA_s (h : Hs) (c : Sta) (k m : Nat) : mtA h c k (m + 1) = mtA h c k m &&& mtS h c m k := rfl
theorem mtA_0 (h : Hs) (c : Sta) (k : Nat) : mtA h c k 0 = 2 ^ hsN h - 1 := rfl
theorem mtA_lt (h : Hs) (c : Sta) (k m : Nat) : mtA h c k m < 2 ^ hsN h := by
  induction m with
  | zero => have : 0 < 2 ^ hsN h := Nat.pow_pos (by decide); show 2 ^ hsN h - 1 < _; omega
  | succ m ih => rw [mtA_s]; exact Nat.lt_of_le_of_lt Nat.and_le_left ih
def mtP (h : Hs) (c : Sta) : Nat → Bool := fun k => decide (mtA h c k (hsM h) ≠ 0)
def mtI (h : Hs) (c : Sta) (what : Nat) (o : Option Nat) : Int32 := match o with
  | none => -1
  | some k => if what = 0 then jn (ltz (mtA h c k (hsM h))) else jn k
theorem c_meeting {w : Wld} {h : Hs} (hc : CHs w h) (hh : GdH h) (hg : GdS h (w 66)) {k1 : Nat} (h1 : k1 ≤ 1) : Ret (F_C_meeting w (jn k1)) (fun q => q.1 = .inr (some (mtI h (w 66) k1 (srch (mtP h (w 66)) 0 81))) ∧ Frm [86] [] w q.2) := by
  have hN := hh.1
  have hM := hh.2.1
  have hp9 := pow9 hN
  rw [F_C_meeting, show F_C_needWhat w (jn k1) 1 = some none from t_what_y w (b := 1) (by omega) h1, bn_none, ret_bl]
  refine ret_mono (P := fun w1 => Frm [86] [] w w1 ∧ ∀ m, m < hsM h → w1 86 m = jn (mtS h (w 66) m 0)) ?_ (fun w1 hq => ?_)
  · refine loop_inv (I := fun m s => s.1 = jn m ∧ Frm [86] [] w s.2 ∧ ∀ m', m' < m → s.2 86 m' = jn (mtS h (w 66) m' 0)) (hsM h) ⟨rfl, frm_rf, fun m hm => absurd hm (Nat.not_lt_zero m)⟩ (fun m s hm hi => ?_) (fun s hi => ?_)
    · obtain ⟨i, w1⟩ := s
      obtain ⟨i1, i2, i3⟩ := hi
      simp only at i1 i2 i3
      subst i1
      have e1 : w1 56 1 = jn (hsM h) := (i2 56 1 rfl).trans hc.2.1
      obtain ⟨x, hx, ex⟩ := hg.1 m hm
      have e66 : w1 66 (16 + m) = jn x := (i2 66 _ rfl).trans ex
      simp (disch := omega) only [B_C_meeting_7, ↓bi_eq, ↓bw_eq, gd_pos, br_pos, br_neg, br_T, br_F, gd_T, bq_some, bd_some, bv_some, bl_some, bx_inl, bx_inr, bn_none, bn_some, bt_inl, bt_inr, not_true_eq_false, not_false_eq_true, eq_self, Bool.false_eq_true, if_true, if_false, jn_clamp, jn_lt, jn_le, jn_inj, jn_add, jn_sub, jn_mul, jn_vp, jn_0a, jn_1a, jn_1b, jn_1s, jn_1m, jn_neg0, jn_le0, jn_0le, jn_0lt, jn_1le, jn_le1, jn_lt1, jn_1lt, jn_e0, jn_e1, jn_em, ↓qB_f, ↓qT_f, cl_0, cl_1, vp_0, vp_1, e1, li_16, e66, qB_jn, ret_some, LQ_inl]
      refine ⟨trivial, frm_wup i2 _ _ _ rfl, fun m' hm' => ?_⟩
      rw [wup_s]
      by_cases e : m' = m
      · rw [if_pos e, e]
        show _ = jn (2 ^ (w 66 (16 + m)).toNatClampNeg)
        rw [ex, jn_clamp (by omega)]
      · rw [if_neg e]; exact i3 m' (by omega)
    · obtain ⟨i, w1⟩ := s
      obtain ⟨i1, i2, i3⟩ := hi
      simp only at i1 i2 i3
      subst i1
      have e1 : w1 56 1 = jn (hsM h) := (i2 56 1 rfl).trans hc.2.1
      simp (disch := omega) only [B_C_meeting_7, ↓bi_eq, ↓bw_eq, gd_pos, br_pos, br_neg, br_T, br_F, gd_T, bq_some, bd_some, bv_some, bl_some, bx_inl, bx_inr, bn_none, bn_some, bt_inl, bt_inr, not_true_eq_false, not_false_eq_true, eq_self, Bool.false_eq_true, if_true, if_false, jn_clamp, jn_lt, jn_le, jn_inj, jn_add, jn_sub, jn_mul, jn_vp, jn_0a, jn_1a, jn_1b, jn_1s, jn_1m, jn_neg0, jn_le0, jn_0le, jn_0lt, jn_1le, jn_le1, jn_lt1, jn_1lt, jn_e0, jn_e1, jn_em, ↓qB_f, ↓qT_f, cl_0, cl_1, vp_0, vp_1, e1, br_pos (Nat.le_refl (hsM h)), ret_some, LQ_inr]
      exact ⟨i2, i3⟩
  · obtain ⟨q1, q2⟩ := hq
    rw [ret_bx]
    refine loop_inv (I := fun k s => s.1 = jn k ∧ Frm [86] [] w s.2 ∧ (∀ m, m < hsM h → s.2 86 m = jn (mtS h (w 66) m k)) ∧ srch (mtP h (w 66)) k (81 - k) = srch (mtP h (w 66)) 0 81) 81 ⟨rfl, q1, q2, rfl⟩ (fun k s hk hi => ?_) (fun s hi => ?_)
    · obtain ⟨i, w2⟩ := s
      obtain ⟨i1, i2, i3, i4⟩ := hi
      simp only at i1 i2 i3 i4
      subst i1
      have e0 : w2 56 0 = jn (hsN h) := (i2 56 0 rfl).trans hc.1
      have hpm := pow_m1 (hsN h) (by omega)
      simp (disch := omega) only [B_C_meeting_49, ↓bi_eq, ↓bw_eq, gd_pos, br_pos, br_neg, br_T, br_F, gd_T, bq_some, bd_some, bv_some, bl_some, bx_inl, bx_inr, bn_none, bn_some, bt_inl, bt_inr, not_true_eq_false, not_false_eq_true, eq_self, Bool.false_eq_true, if_true, if_false, jn_clamp, jn_lt, jn_le, jn_inj, jn_add, jn_sub, jn_mul, jn_vp, jn_0a, jn_1a, jn_1b, jn_1s, jn_1m, jn_neg0, jn_le0, jn_0le, jn_0lt, jn_1le, jn_le1, jn_lt1, jn_1lt, jn_e0, jn_e1, jn_em, ↓qB_f, ↓qT_f, cl_0, cl_1, vp_0, vp_1, li_80, e0, hpm, ret_bl]
      refine ret_mono (P := fun q => q.1 = jn (mtA h (w 66) k (hsM h)) ∧ Frm [86] [] w q.2 ∧ ∀ m, m < hsM h → q.2 86 m = jn (mtS h (w 66) m (k + 1))) ?_ (fun q hq => ?_)
      · refine loop_inv (I := fun m s => s.1 = jn (mtA h (w 66) k m) ∧ s.2.1 = jn m ∧ Frm [86] [] w s.2.2 ∧ (∀ m', m' < m → s.2.2 86 m' = jn (mtS h (w 66) m' (k + 1))) ∧ ∀ m', m ≤ m' → m' < hsM h → s.2.2 86 m' = jn (mtS h (w 66) m' k)) (hsM h) ⟨by rw [mtA_0], rfl, i2, fun m hm => absurd hm (Nat.not_lt_zero m), fun m' _ hm' => i3 m' hm'⟩ (fun m s hm hi => ?_) (fun s hi => ?_)
        · obtain ⟨a, i, w3⟩ := s
          obtain ⟨j0, j1, j2, j3, j4⟩ := hi
          simp only at j0 j1 j2 j3 j4
          subst j0 j1
          have e1 : w3 56 1 = jn (hsM h) := (j2 56 1 rfl).trans hc.2.1
          have e86 := j4 m (Nat.le_refl _) hm
          have hl := mtS_lt hg hN hm k
          have e66 : w3 66 = w 66 := frm_cell j2 66 (fun _ => rfl)
          have hst := c_step (A := mtS h (w 66) m k) (CHs_fr hc j2 ⟨rfl, rfl, rfl, rfl, fun _ => rfl, fun _ => rfl, rfl, fun _ => rfl⟩) hh (by rw [e66]; exact hg) (by omega)
          rw [e66] at hst
          simp (disch := omega) only [B_C_meeting_70, ↓bi_eq, ↓bw_eq, gd_pos, br_pos, br_neg, br_T, br_F, gd_T, bq_some, bd_some, bv_some, bl_some, bx_inl, bx_inr, bn_none, bn_some, bt_inl, bt_inr, not_true_eq_false, not_false_eq_true, eq_self, Bool.false_eq_true, if_true, if_false, jn_clamp, jn_lt, jn_le, jn_inj, jn_add, jn_sub, jn_mul, jn_vp, jn_0a, jn_1a, jn_1b, jn_1s, jn_1m, jn_neg0, jn_le0, jn_0le, jn_0lt, jn_1le, jn_le1, jn_lt1, jn_1lt, jn_e0, jn_e1, jn_em, ↓qB_f, ↓qT_f, cl_0, cl_1, vp_0, vp_1, e1, e86, hst, jn_and, ret_some, LQ_inl]
          refine ⟨by rw [mtA_s], trivial, frm_wup j2 _ _ _ rfl, fun m' hm' => ?_, fun m' h1 h2 => ?_⟩
          · rw [wup_s]
            by_cases e : m' = m
            · rw [if_pos e, e, mtS_s]
            · rw [if_neg e]; exact j3 m' (by omega)
          · rw [wup_s2 _ _ _ (by omega)]; exact j4 m' (by omega) h2
        · obtain ⟨a, i, w3⟩ := s
          obtain ⟨j0, j1, j2, j3, j4⟩ := hi
          simp only at j0 j1 j2 j3 j4
          subst j0 j1
          have e1 : w3 56 1 = jn (hsM h) := (j2 56 1 rfl).trans hc.2.1
          simp (disch := omega) only [B_C_meeting_70, ↓bi_eq, ↓bw_eq, gd_pos, br_pos, br_neg, br_T, br_F, gd_T, bq_some, bd_some, bv_some, bl_some, bx_inl, bx_inr, bn_none, bn_some, bt_inl, bt_inr, not_true_eq_false, not_false_eq_true, eq_self, Bool.false_eq_true, if_true, if_false, jn_clamp, jn_lt, jn_le, jn_inj, jn_add, jn_sub, jn_mul, jn_vp, jn_0a, jn_1a, jn_1b, jn_1s, jn_1m, jn_neg0, jn_le0, jn_0le, jn_0lt, jn_1le, jn_le1, jn_lt1, jn_1lt, jn_e0, jn_e1, jn_em, ↓qB_f, ↓qT_f, cl_0, cl_1, vp_0, vp_1, e1, br_pos (Nat.le_refl (hsM h)), ret_some, LQ_inr]
          exact ⟨trivial, j2, j3⟩
      · obtain ⟨a, w3⟩ := q
        obtain ⟨x0, x1, x2⟩ := hq
        simp only at x0 x1 x2
        subst x0
        have hl := mtA_lt h (w 66) k (hsM h)
        by_cases hz : mtA h (w 66) k (hsM h) = 0
        · have hp : ¬ mtP h (w 66) k = true := by unfold mtP; simp [hz]
          rw [srch_n hp (by omega)] at i4
          simp (disch := omega) only [↓bi_eq, ↓bw_eq, gd_pos, br_pos, br_neg, br_T, br_F, gd_T, bq_some, bd_some, bv_some, bl_some, bx_inl, bx_inr, bn_none, bn_some, bt_inl, bt_inr, not_true_eq_false, not_false_eq_true, eq_self, Bool.false_eq_true, if_true, if_false, jn_clamp, jn_lt, jn_le, jn_inj, jn_add, jn_sub, jn_mul, jn_vp, jn_0a, jn_1a, jn_1b, jn_1s, jn_1m, jn_neg0, jn_le0, jn_0le, jn_0lt, jn_1le, jn_le1, jn_lt1, jn_1lt, jn_e0, jn_e1, jn_em, ↓qB_f, ↓qT_f, cl_0, cl_1, vp_0, vp_1, hz, ret_some, LQ_inl]
          exact ⟨trivial, x1, x2, by rw [← i4]; rfl⟩
        · have hp : mtP h (w 66) k = true := by unfold mtP; simp [hz]
          rw [srch_y hp (by omega)] at i4
          rw [← i4]
          have hz' : ¬ jn (mtA h (w 66) k (hsM h)) = 0 := by rw [jn_e0 (by omega)]; exact hz
          rw [br_neg hz']
          have hb : k1 = 0 ∨ k1 = 1 := by omega
          rcases hb with rfl | rfl
          · rw [br_neg (fun z => z rfl), t_ntz w3 (by omega) hz, bp_some, K_C_meeting_132t, ret_some, LQ_inr]
            exact ⟨rfl, x1⟩
          · rw [br_pos (by decide), K_C_meeting_132t, ret_some, LQ_inr]
            exact ⟨rfl, x1⟩
    · obtain ⟨i, w2⟩ := s
      obtain ⟨i1, i2, i3, i4⟩ := hi
      simp only at i1 i2 i3 i4
      subst i1
      simp (disch := omega) only [B_C_meeting_49, ↓bi_eq, ↓bw_eq, gd_pos, br_pos, br_neg, br_T, br_F, gd_T, bq_some, bd_some, bv_some, bl_some, bx_inl, bx_inr, bn_none, bn_some, bt_inl, bt_inr, not_true_eq_false, not_false_eq_true, eq_self, Bool.false_eq_true, if_true, if_false, jn_clamp, jn_lt, jn_le, jn_inj, jn_add, jn_sub, jn_mul, jn_vp, jn_0a, jn_1a, jn_1b, jn_1s, jn_1m, jn_neg0, jn_le0, jn_0le, jn_0lt, jn_1le, jn_le1, jn_lt1, jn_1lt, jn_e0, jn_e1, jn_em, ↓qB_f, ↓qT_f, cl_0, cl_1, vp_0, vp_1, li_80, ret_some, LQ_inr, LQ_inl]
      refine ⟨?_, i2⟩
      rw [← i4]; rfl
theorem m_meetR {w : Wld} {h : Hs} (hw : MHs w h) (hN : hsN h ≤ 9) {A : Nat} (hA : A < 2 ^ hsN h) (a1 a2 : Int32) : Ret (loop (B_M_meeting_104 a1 a2 (jn A) w) 0) (fun x => (A = 0 ∧ x = .inl ()) ∨ (A ≠ 0 ∧ x = .inr (.inr (.inr ((if a1 = 0 then jn (ltz A) else a2), w))))) := by
  have hp9 := pow9 hN
  have e0 := hw.1
  refine loop_inv (I := fun k s => s = jn k ∧ ∀ j, j < k → ¬ A.testBit j = true) (hsN h) ⟨rfl, fun j hj => absurd hj (Nat.not_lt_zero j)⟩ (fun k s hk hi => ?_) (fun s hi => ?_)
  · obtain ⟨rfl, i2⟩ := hi
    by_cases hz : A.testBit k = true
    · have hne : A ≠ 0 := fun e => by rw [e] at hz; simp at hz
      obtain ⟨l1, l2⟩ := ltz_bit A (by omega) hne
      have hk9 : ltz A = k := by
        rcases Nat.lt_trichotomy (ltz A) k with h1 | h1 | h1
        · exact absurd l1 (i2 _ h1)
        · exact h1
        · rw [l2 k h1] at hz; cases hz
      by_cases ha : a1 = 0
      · simp (disch := omega) only [B_M_meeting_104, K_M_meeting_134t, ↓bi_eq, ↓bw_eq, gd_pos, br_pos, br_neg, br_T, br_F, gd_T, bq_some, bd_some, bv_some, bl_some, bx_inl, bx_inr, bn_none, bn_some, bt_inl, bt_inr, not_true_eq_false, not_false_eq_true, eq_self, Bool.false_eq_true, if_true, if_false, jn_clamp, jn_lt, jn_le, jn_inj, jn_add, jn_sub, jn_mul, jn_vp, jn_0a, jn_1a, jn_1b, jn_1s, jn_1m, jn_neg0, jn_le0, jn_0le, jn_0lt, jn_1le, jn_le1, jn_lt1, jn_1lt, jn_e0, jn_e1, jn_em, ↓qB_f, ↓qT_f, cl_0, cl_1, vp_0, vp_1, e0, t_isOf, hz, ha, (by decide : ((1 : Int32) = 0) = False), ret_some, LQ_inr]
        exact Or.inr ⟨hne, by rw [hk9]⟩
      · simp (disch := omega) only [B_M_meeting_104, K_M_meeting_134t, ↓bi_eq, ↓bw_eq, gd_pos, br_pos, br_neg, br_T, br_F, gd_T, bq_some, bd_some, bv_some, bl_some, bx_inl, bx_inr, bn_none, bn_some, bt_inl, bt_inr, not_true_eq_false, not_false_eq_true, eq_self, Bool.false_eq_true, if_true, if_false, jn_clamp, jn_lt, jn_le, jn_inj, jn_add, jn_sub, jn_mul, jn_vp, jn_0a, jn_1a, jn_1b, jn_1s, jn_1m, jn_neg0, jn_le0, jn_0le, jn_0lt, jn_1le, jn_le1, jn_lt1, jn_1lt, jn_e0, jn_e1, jn_em, ↓qB_f, ↓qT_f, cl_0, cl_1, vp_0, vp_1, e0, t_isOf, hz, ha, (by decide : ((1 : Int32) = 0) = False), ret_some, LQ_inr]
        exact Or.inr ⟨hne, trivial⟩
    · simp (disch := omega) only [B_M_meeting_104, ↓bi_eq, ↓bw_eq, gd_pos, br_pos, br_neg, br_T, br_F, gd_T, bq_some, bd_some, bv_some, bl_some, bx_inl, bx_inr, bn_none, bn_some, bt_inl, bt_inr, not_true_eq_false, not_false_eq_true, eq_self, Bool.false_eq_true, if_true, if_false, jn_clamp, jn_lt, jn_le, jn_inj, jn_add, jn_sub, jn_mul, jn_vp, jn_0a, jn_1a, jn_1b, jn_1s, jn_1m, jn_neg0, jn_le0, jn_0le, jn_0lt, jn_1le, jn_le1, jn_lt1, jn_1lt, jn_e0, jn_e1, jn_em, ↓qB_f, ↓qT_f, cl_0, cl_1, vp_0, vp_1, e0, t_isOf, hz, ret_some, LQ_inl]
      refine ⟨trivial, fun j hj => ?_⟩
      by_cases e : j = k
      · rw [e]; exact hz
      · exact i2 j (by omega)
  · obtain ⟨rfl, i2⟩ := hi
    simp (disch := omega) only [B_M_meeting_104, ↓bi_eq, ↓bw_eq, gd_pos, br_pos, br_neg, br_T, br_F, gd_T, bq_some, bd_some, bv_some, bl_some, bx_inl, bx_inr, bn_none, bn_some, bt_inl, bt_inr, not_true_eq_false, not_false_eq_true, eq_self, Bool.false_eq_true, if_true, if_false, jn_clamp, jn_lt, jn_le, jn_inj, jn_add, jn_sub, jn_mul, jn_vp, jn_0a, jn_1a, jn_1b, jn_1s, jn_1m, jn_neg0, jn_le0, jn_0le, jn_0lt, jn_1le, jn_le1, jn_lt1, jn_1lt, jn_e0, jn_e1, jn_em, ↓qB_f, ↓qT_f, cl_0, cl_1, vp_0, vp_1, e0, br_pos (Nat.le_refl (hsN h)), ret_some, LQ_inr]
    refine Or.inl ⟨?_, trivial⟩
    apply Nat.eq_of_testBit_eq
    intro x
    rw [Nat.zero_testBit]
    cases h1 : A.testBit x with
    | false => rfl
    | true => exact absurd h1 (i2 x (bit_lt hA h1))
theorem m_meeting {w1 : Wld} {h : Hs} {c : Sta} (r1 : RelH w1 h) (e66 : w1 66 = c) (hg : GdS h c) {k1 : Nat} (h1 : k1 ≤ 1) : Ret (F_M_meeting w1 (jn k1)) (fun p => p.1 = mtI h c k1 (srch (mtP h c) 0 81) ∧ p.2 0 2 = 0 ∧ RelH p.2 h ∧ p.2 41 0 = w1 41 0) := by
  have hh := r1.1
  have hN := hh.1
  have hM := hh.2.1
  have hp9 := pow9 hN
  have hk0 : ¬ (jn k1 : Int32) < 0 := by rw [jn_neg0 (by omega)]; exact id
  have hk1 : (jn k1 : Int32) ≤ 1 := by rw [jn_le1 (by omega)]; exact h1
  obtain ⟨z1, z2, z3, z4⟩ := m_ent r1
  rw [e66] at z2
  rw [F_M_meeting, bw_eq, br_neg hk0, br_pos hk1, ret_bl]
  generalize wup w1 0 2 0 = wa at z1 z2 z3 z4 ⊢
  have fin : ∀ w', Frm [26] [] wa w' → w' 0 2 = 0 ∧ RelH w' h ∧ w' 41 0 = w1 41 0 := by
    intro w' f
    obtain ⟨u1, u2⟩ := q_ans r1 e66 (frm_tr z3 (frm_up f rfl)) (MSt_fr z2 f ⟨fun _ => rfl, fun _ => rfl, fun _ => rfl, fun _ => rfl, fun _ => rfl, fun _ => rfl, rfl, rfl, rfl⟩)
    exact ⟨(f 0 2 rfl).trans z4, u1, u2⟩
  refine ret_mono (P := fun w2 => Frm [26] [] wa w2 ∧ ∀ m, m < hsM h → w2 26 m = jn (mtS h c m 0)) ?_ (fun w2 hq => ?_)
  · refine loop_inv (I := fun m s => s.1 = jn m ∧ Frm [26] [] wa s.2 ∧ ∀ m', m' < m → s.2 26 m' = jn (mtS h c m' 0)) (hsM h) ⟨rfl, frm_rf, fun m hm => absurd hm (Nat.not_lt_zero m)⟩ (fun m s hm hi => ?_) (fun s hi => ?_)
    · obtain ⟨i, w2⟩ := s
      obtain ⟨i1, i2, i3⟩ := hi
      simp only at i1 i2 i3
      subst i1
      have e1 : w2 3 1 = jn (hsM h) := (i2 3 1 rfl).trans z1.2.1
      obtain ⟨x, hx, ex⟩ := hg.1 m hm
      have e16 : w2 16 m = jn x := ((i2 16 m rfl).trans (z2.1 m hm).2.2.1).trans ex
      simp (disch := omega) only [B_M_meeting_22, ↓bi_eq, ↓bw_eq, gd_pos, br_pos, br_neg, br_T, br_F, gd_T, bq_some, bd_some, bv_some, bl_some, bx_inl, bx_inr, bn_none, bn_some, bt_inl, bt_inr, not_true_eq_false, not_false_eq_true, eq_self, Bool.false_eq_true, if_true, if_false, jn_clamp, jn_lt, jn_le, jn_inj, jn_add, jn_sub, jn_mul, jn_vp, jn_0a, jn_1a, jn_1b, jn_1s, jn_1m, jn_neg0, jn_le0, jn_0le, jn_0lt, jn_1le, jn_le1, jn_lt1, jn_1lt, jn_e0, jn_e1, jn_em, ↓qB_f, ↓qT_f, cl_0, cl_1, vp_0, vp_1, e1, e16, qB_jn, ret_some, LQ_inl]
      refine ⟨trivial, frm_wup i2 _ _ _ rfl, fun m' hm' => ?_⟩
      rw [wup_s]
      by_cases e : m' = m
      · rw [if_pos e, e]
        show _ = jn (2 ^ (c (16 + m)).toNatClampNeg)
        rw [ex, jn_clamp (by omega)]
      · rw [if_neg e]; exact i3 m' (by omega)
    · obtain ⟨i, w2⟩ := s
      obtain ⟨i1, i2, i3⟩ := hi
      simp only at i1 i2 i3
      subst i1
      have e1 : w2 3 1 = jn (hsM h) := (i2 3 1 rfl).trans z1.2.1
      simp (disch := omega) only [B_M_meeting_22, ↓bi_eq, ↓bw_eq, gd_pos, br_pos, br_neg, br_T, br_F, gd_T, bq_some, bd_some, bv_some, bl_some, bx_inl, bx_inr, bn_none, bn_some, bt_inl, bt_inr, not_true_eq_false, not_false_eq_true, eq_self, Bool.false_eq_true, if_true, if_false, jn_clamp, jn_lt, jn_le, jn_inj, jn_add, jn_sub, jn_mul, jn_vp, jn_0a, jn_1a, jn_1b, jn_1s, jn_1m, jn_neg0, jn_le0, jn_0le, jn_0lt, jn_1le, jn_le1, jn_lt1, jn_1lt, jn_e0, jn_e1, jn_em, ↓qB_f, ↓qT_f, cl_0, cl_1, vp_0, vp_1, e1, br_pos (Nat.le_refl (hsM h)), ret_some, LQ_inr]
      exact ⟨i2, i3⟩
  · obtain ⟨q1, q2⟩ := hq
    rw [ret_bx]
    refine loop_inv (I := fun k s => s.1 = jn k ∧ Frm [26] [] wa s.2 ∧ (∀ m, m < hsM h → s.2 26 m = jn (mtS h c m k)) ∧ srch (mtP h c) k (81 - k) = srch (mtP h c) 0 81) 81 ⟨rfl, q1, q2, rfl⟩ (fun k s hk hi => ?_) (fun s hi => ?_)
    · obtain ⟨i, w2⟩ := s
      obtain ⟨i1, i2, i3, i4⟩ := hi
      simp only at i1 i2 i3 i4
      subst i1
      have h2 : MHs w2 h := MHs_fr z1 i2 ⟨rfl, rfl, rfl, rfl, rfl, fun _ => rfl, fun _ => rfl, fun _ => rfl⟩
      have e0 := h2.1
      have e1 := h2.2.1
      have hpm := pow_m1 (hsN h) (by omega)
      have ka : loop (B_M_meeting_74 (jn k1) (jn k) w2) (jn (2 ^ hsN h - 1), 0) = some (jn (mtA h c k (hsM h))) := by
        refine loop_for (V := fun m => (jn (mtA h c k m), jn m)) (hsM h) (fun m hm => ?_) ?_
        · have e26 := i3 m hm
          simp (disch := omega) only [B_M_meeting_74, ↓bi_eq, ↓bw_eq, gd_pos, br_pos, br_neg, br_T, br_F, gd_T, bq_some, bd_some, bv_some, bl_some, bx_inl, bx_inr, bn_none, bn_some, bt_inl, bt_inr, not_true_eq_false, not_false_eq_true, eq_self, Bool.false_eq_true, if_true, if_false, jn_clamp, jn_lt, jn_le, jn_inj, jn_add, jn_sub, jn_mul, jn_vp, jn_0a, jn_1a, jn_1b, jn_1s, jn_1m, jn_neg0, jn_le0, jn_0le, jn_0lt, jn_1le, jn_le1, jn_lt1, jn_1lt, jn_e0, jn_e1, jn_em, ↓qB_f, ↓qT_f, cl_0, cl_1, vp_0, vp_1, e1, e26, jn_and, mtA_s]
        · simp (disch := omega) only [B_M_meeting_74, ↓bi_eq, ↓bw_eq, gd_pos, br_pos, br_neg, br_T, br_F, gd_T, bq_some, bd_some, bv_some, bl_some, bx_inl, bx_inr, bn_none, bn_some, bt_inl, bt_inr, not_true_eq_false, not_false_eq_true, eq_self, Bool.false_eq_true, if_true, if_false, jn_clamp, jn_lt, jn_le, jn_inj, jn_add, jn_sub, jn_mul, jn_vp, jn_0a, jn_1a, jn_1b, jn_1s, jn_1m, jn_neg0, jn_le0, jn_0le, jn_0lt, jn_1le, jn_le1, jn_lt1, jn_1lt, jn_e0, jn_e1, jn_em, ↓qB_f, ↓qT_f, cl_0, cl_1, vp_0, vp_1, e1, br_pos (Nat.le_refl (hsM h))]
      have hl := mtA_lt h c k (hsM h)
      simp (disch := omega) only [B_M_meeting_54, ↓bi_eq, ↓bw_eq, gd_pos, br_pos, br_neg, br_T, br_F, gd_T, bq_some, bd_some, bv_some, bl_some, bx_inl, bx_inr, bn_none, bn_some, bt_inl, bt_inr, not_true_eq_false, not_false_eq_true, eq_self, Bool.false_eq_true, if_true, if_false, jn_clamp, jn_lt, jn_le, jn_inj, jn_add, jn_sub, jn_mul, jn_vp, jn_0a, jn_1a, jn_1b, jn_1s, jn_1m, jn_neg0, jn_le0, jn_0le, jn_0lt, jn_1le, jn_le1, jn_lt1, jn_1lt, jn_e0, jn_e1, jn_em, ↓qB_f, ↓qT_f, cl_0, cl_1, vp_0, vp_1, li_80, e0, hpm, ka]
      obtain ⟨x, ex, hx⟩ := m_meetR h2 hN hl (jn k1) (jn k)
      rw [ex]
      rcases hx with ⟨hz, rfl⟩ | ⟨hz, rfl⟩
      · have hp : ¬ mtP h c k = true := by unfold mtP; simp [hz]
        rw [srch_n hp (by omega)] at i4
        rw [bx_inl, ret_bl]
        refine ret_mono (P := fun w3 => Frm [26] [] wa w3 ∧ ∀ m, m < hsM h → w3 26 m = jn (mtS h c m (k + 1))) ?_ (fun w3 hq => ?_)
        · refine loop_inv (I := fun m s => s.1 = jn m ∧ Frm [26] [] wa s.2 ∧ (∀ m', m' < m → s.2 26 m' = jn (mtS h c m' (k + 1))) ∧ ∀ m', m ≤ m' → m' < hsM h → s.2 26 m' = jn (mtS h c m' k)) (hsM h) ⟨rfl, i2, fun m hm => absurd hm (Nat.not_lt_zero m), fun m' _ hm' => i3 m' hm'⟩ (fun m s hm hi => ?_) (fun s hi => ?_)
          · obtain ⟨i, w3⟩ := s
            obtain ⟨j1, j2, j3, j4⟩ := hi
            simp only at j1 j2 j3 j4
            subst j1
            have h3 : MHs w3 h := MHs_fr z1 j2 ⟨rfl, rfl, rfl, rfl, rfl, fun _ => rfl, fun _ => rfl, fun _ => rfl⟩
            have e1 := h3.2.1
            have e26 := j4 m (Nat.le_refl _) hm
            have hl := mtS_lt hg hN hm k
            have hst := m_step (A := mtS h c m k) h3 (MSt_fr z2 j2 ⟨fun _ => rfl, fun _ => rfl, fun _ => rfl, fun _ => rfl, fun _ => rfl, fun _ => rfl, rfl, rfl, rfl⟩) hh hg (by omega)
            simp (disch := omega) only [B_M_meeting_144, ↓bi_eq, ↓bw_eq, gd_pos, br_pos, br_neg, br_T, br_F, gd_T, bq_some, bd_some, bv_some, bl_some, bx_inl, bx_inr, bn_none, bn_some, bt_inl, bt_inr, not_true_eq_false, not_false_eq_true, eq_self, Bool.false_eq_true, if_true, if_false, jn_clamp, jn_lt, jn_le, jn_inj, jn_add, jn_sub, jn_mul, jn_vp, jn_0a, jn_1a, jn_1b, jn_1s, jn_1m, jn_neg0, jn_le0, jn_0le, jn_0lt, jn_1le, jn_le1, jn_lt1, jn_1lt, jn_e0, jn_e1, jn_em, ↓qB_f, ↓qT_f, cl_0, cl_1, vp_0, vp_1, e1, e26, hst, ret_some, LQ_inl]
            refine ⟨trivial, frm_wup j2 _ _ _ rfl, fun m' hm' => ?_, fun m' h1 h2 => ?_⟩
            · rw [wup_s]
              by_cases e : m' = m
              · rw [if_pos e, e, mtS_s]
              · rw [if_neg e]; exact j3 m' (by omega)
            · rw [wup_s2 _ _ _ (by omega)]; exact j4 m' (by omega) h2
          · obtain ⟨i, w3⟩ := s
            obtain ⟨j1, j2, j3, j4⟩ := hi
            simp only at j1 j2 j3 j4
            subst j1
            have e1 := (MHs_fr z1 j2 ⟨rfl, rfl, rfl, rfl, rfl, fun _ => rfl, fun _ => rfl, fun _ => rfl⟩).2.1
            simp (disch := omega) only [B_M_meeting_144, ↓bi_eq, ↓bw_eq, gd_pos, br_pos, br_neg, br_T, br_F, gd_T, bq_some, bd_some, bv_some, bl_some, bx_inl, bx_inr, bn_none, bn_some, bt_inl, bt_inr, not_true_eq_false, not_false_eq_true, eq_self, Bool.false_eq_true, if_true, if_false, jn_clamp, jn_lt, jn_le, jn_inj, jn_add, jn_sub, jn_mul, jn_vp, jn_0a, jn_1a, jn_1b, jn_1s, jn_1m, jn_neg0, jn_le0, jn_0le, jn_0lt, jn_1le, jn_le1, jn_lt1, jn_1lt, jn_e0, jn_e1, jn_em, ↓qB_f, ↓qT_f, cl_0, cl_1, vp_0, vp_1, e1, br_pos (Nat.le_refl (hsM h)), ret_some, LQ_inr]
            exact ⟨j2, j3⟩
        · rw [ret_some, LQ_inl]
          exact ⟨rfl, hq.1, hq.2, by rw [← i4]; rfl⟩
      · have hp : mtP h c k = true := by unfold mtP; simp [hz]
        rw [srch_y hp (by omega)] at i4
        rw [bx_inr, ret_some, LQ_inr, LQ_inr, ← i4]
        refine ⟨?_, fin w2 i2⟩
        have hb : k1 = 0 ∨ k1 = 1 := by omega
        rcases hb with rfl | rfl
        · rfl
        · rfl
    · obtain ⟨i, w2⟩ := s
      obtain ⟨i1, i2, i3, i4⟩ := hi
      simp only at i1 i2 i3 i4
      subst i1
      simp (disch := omega) only [B_M_meeting_54, ↓bi_eq, ↓bw_eq, gd_pos, br_pos, br_neg, br_T, br_F, gd_T, bq_some, bd_some, bv_some, bl_some, bx_inl, bx_inr, bn_none, bn_some, bt_inl, bt_inr, not_true_eq_false, not_false_eq_true, eq_self, Bool.false_eq_true, if_true, if_false, jn_clamp, jn_lt, jn_le, jn_inj, jn_add, jn_sub, jn_mul, jn_vp, jn_0a, jn_1a, jn_1b, jn_1s, jn_1m, jn_neg0, jn_le0, jn_0le, jn_0lt, jn_1le, jn_le1, jn_lt1, jn_1lt, jn_e0, jn_e1, jn_em, ↓qB_f, ↓qT_f, cl_0, cl_1, vp_0, vp_1, li_80, ret_some, LQ_inr, LQ_inl]
      refine ⟨?_, fin w2 i2⟩
      rw [← i4]; rfl
theorem q_meeting {w : Wld} {h : Hs} (r : RelH w h) (a1 : Int32) : BothQ cdN w h (F_C_meeting w a1) (fun w1 => F_M_meeting w1 a1) := by
  rcases rng_cases a1 0 1 (by omega) (by omega) with ⟨k, -, hk, rfl⟩ | ⟨n1, n2⟩
  rotate_left
  · have n2 : ¬ ((0 : Int32) ≤ a1 ∧ a1 ≤ 1) := n2
    refine q_bad 0 1 ?_ (fun w1 r1 => ?_) rfl
    · rw [F_C_meeting, jn_11, t_what_n w n1, bn_some]
    · rw [F_M_meeting, bw_eq]
      by_cases h1 : a1 < 0
      · rw [br_pos h1, K_M_meeting_14, t_fail, bd_some]
      · rw [br_neg h1, br_neg (fun z => n2 ⟨Int32.not_lt.mp h1, z⟩), K_M_meeting_14, t_fail, bd_some]
  exact ⟨_, ret_mono (c_meeting r.2.1 r.1 r.2.2.2.1.1 hk) (fun q hq => ⟨hq.1, frm_up hq.2 rfl⟩), fun w1 r1 e66 => ret_mono (m_meeting r1 e66 r.2.2.2.1.1 hk) (fun p hp => ⟨⟨hp.2.1, hp.1⟩, hp.2.2⟩)⟩
