/-! ===== monks: choir, couples ===== -/
theorem sVoiJ_iff {h : Hs} (p : Nat → Bool) (n x : Nat) : (sVoiJ h p n).testBit x = true ↔ ∃ m, m < n ∧ p m = true ∧ (hsO h m).toNatClampNeg = x := by
  induction n with
  | zero =>
    constructor
    · intro z; simp [sVoiJ, fl] at z
    · intro ⟨m, hm, _⟩; omega
  | succ n ih =>
    show ((if p n = true then sVoiJ h p n ||| 2 ^ (hsO h n).toNatClampNeg else sVoiJ h p n).testBit x = true) ↔ _
    by_cases hp : p n = true
    · rw [if_pos hp, Nat.testBit_or, Bool.or_eq_true, ih, Nat.testBit_two_pow]
      constructor
      · intro z
        rcases z with ⟨m, hm, z⟩ | z
        · exact ⟨m, by omega, z⟩
        · exact ⟨n, by omega, hp, by simpa using z⟩
      · intro ⟨m, hm, z1, z2⟩
        by_cases e : m = n
        · subst e; exact Or.inr (by simpa using z2)
        · exact Or.inl ⟨m, by omega, z1, z2⟩
    · rw [if_neg hp, ih]
      constructor
      · intro ⟨m, hm, z⟩; exact ⟨m, by omega, z⟩
      · intro ⟨m, hm, z1, z2⟩
        by_cases e : m = n
        · subst e; exact absurd z1 hp
        · exact ⟨m, by omega, z1, z2⟩
theorem bool_ext {a b : Bool} (h : a = true ↔ b = true) : a = b := by
  cases a <;> cases b <;> simp_all
theorem sVoi_or {h : Hs} (A : Nat) {m : Nat} (hm : m < hsM h) : sVoi h (fun j => (A ||| 2 ^ m).testBit j) = sVoi h (fun j => A.testBit j) ||| 2 ^ (hsO h m).toNatClampNeg := by
  apply Nat.eq_of_testBit_eq
  intro x
  apply bool_ext
  unfold sVoi
  rw [Nat.testBit_or, Bool.or_eq_true, sVoiJ_iff, sVoiJ_iff, Nat.testBit_two_pow]
  constructor
  · intro ⟨j, hj, z1, z2⟩
    rw [Nat.testBit_or, Bool.or_eq_true, Nat.testBit_two_pow] at z1
    rcases z1 with z1 | z1
    · exact Or.inl ⟨j, hj, z1, z2⟩
    · have : m = j := by simpa using z1
      subst this
      exact Or.inr (by simpa using z2)
  · intro z
    rcases z with ⟨j, hj, z1, z2⟩ | z
    · exact ⟨j, hj, by rw [Nat.testBit_or, z1]; rfl, z2⟩
    · exact ⟨m, hm, by rw [Nat.testBit_or, Nat.testBit_two_pow]; simp, by simpa using z⟩
def chB (h : Hs) : Nat → Nat := fl (fun m A => if (sVoi h (fun j => A.testBit j)).testBit (hsO h m).toNatClampNeg = true then A else A ||| 2 ^ m) 0
theorem chB_s (h : Hs) (m : Nat) : chB h (m + 1) = if (sVoi h (fun j => (chB h m).testBit j)).testBit (hsO h m).toNatClampNeg = true then chB h m else chB h m ||| 2 ^ m := rfl
theorem chB_lt {h : Hs} (m : Nat) (hm : m ≤ 8) : chB h m < 256 := by
  induction m with
  | zero => exact (by decide : 0 < 256)
  | succ m ih =>
    rw [chB_s]
    split
    · exact ih (by omega)
    · exact Nat.or_lt_two_pow (n := 8) (ih (by omega)) (Nat.pow_lt_pow_right (by decide) (by omega))
theorem v_and : ∀ V, V < 16 → ∀ v, v < 4 → ((jn V &&& jn (2 ^ v) = 0) = (V.testBit v = false)) := by
  have : ∀ V, V < 16 → ∀ v, v < 4 → ((jn V &&& jn (2 ^ v) = 0) ↔ (V.testBit v = false)) := by decide +kernel
  exact fun V hV v hv => propext (this V hV v hv)
theorem c_choir {w : Wld} {h : Hs} (hc : CHs w h) (hh : GdH h) : F_C_choir w = some (jn (chB h (hsM h))) := by
  have hM := hh.2.1
  have e1 := hc.2.1
  have key : loop (B_C_choir_6 w) (0, 0, 0) = some (jn (chB h (hsM h))) := by
    have h9 := loop_for (f := B_C_choir_6 w) (V := fun m => (jn (sVoi h (fun j => (chB h m).testBit j)), jn (chB h m), jn m)) (hsM h) (r := jn (chB h (hsM h))) (fun m hm => ?_) ?_
    · have e0 : sVoi h (fun j => (chB h 0).testBit j) = 0 := by
        apply Nat.eq_of_testBit_eq
        intro x
        rw [Nat.zero_testBit]
        cases hx : (sVoi h (fun j => (chB h 0).testBit j)).testBit x with
        | false => rfl
        | true =>
          unfold sVoi at hx
          obtain ⟨j, hj, z1, z2⟩ := (sVoiJ_iff _ _ _).mp hx
          simp [chB, fl] at z1
      simp only [e0] at h9
      exact h9
    · obtain ⟨x, hx, ex⟩ := hh.2.2.2.1 m hm
      have e58 := (hc.2.2.2.2.2.1 m hm).trans ex
      have hV := sVoi_lt hh (fun j => (chB h m).testBit j)
      have hv := v_and _ hV x hx
      rw [chB_s, ex, jn_clamp (by omega)]
      by_cases hz : (sVoi h (fun j => (chB h m).testBit j)).testBit x = true
      · simp only [if_pos hz]
        have hv' : ¬ (jn (sVoi h (fun j => (chB h m).testBit j)) &&& jn (2 ^ x) = 0) := by rw [hv, hz]; decide
        simp (disch := omega) only [B_C_choir_6, K_C_choir_48, ↓bi_eq, ↓bw_eq, gd_pos, br_pos, br_neg, br_T, br_F, gd_T, bq_some, bd_some, bv_some, bl_some, bx_inl, bx_inr, bn_none, bn_some, bt_inl, bt_inr, not_true_eq_false, not_false_eq_true, eq_self, Bool.false_eq_true, if_true, if_false, jn_clamp, jn_lt, jn_le, jn_inj, jn_add, jn_sub, jn_mul, jn_vp, jn_0a, jn_1a, jn_1b, jn_1s, jn_1m, jn_neg0, jn_le0, jn_0le, jn_0lt, jn_1le, jn_le1, jn_lt1, jn_1lt, jn_e0, jn_e1, jn_em, ↓qB_f, ↓qT_f, cl_0, cl_1, vp_0, vp_1, e1, e58, qB_jn, hv']
      · simp only [if_neg hz]
        have hv' : (jn (sVoi h (fun j => (chB h m).testBit j)) &&& jn (2 ^ x) = 0) := by rw [hv]; exact Bool.eq_false_iff.mpr hz
        have hor := sVoi_or (h := h) (chB h m) hm
        rw [ex, jn_clamp (by omega)] at hor
        rw [hor]
        simp (disch := omega) only [B_C_choir_6, K_C_choir_48, ↓bi_eq, ↓bw_eq, gd_pos, br_pos, br_neg, br_T, br_F, gd_T, bq_some, bd_some, bv_some, bl_some, bx_inl, bx_inr, bn_none, bn_some, bt_inl, bt_inr, not_true_eq_false, not_false_eq_true, eq_self, Bool.false_eq_true, if_true, if_false, jn_clamp, jn_lt, jn_le, jn_inj, jn_add, jn_sub, jn_mul, jn_vp, jn_0a, jn_1a, jn_1b, jn_1s, jn_1m, jn_neg0, jn_le0, jn_0le, jn_0lt, jn_1le, jn_le1, jn_lt1, jn_1lt, jn_e0, jn_e1, jn_em, ↓qB_f, ↓qT_f, cl_0, cl_1, vp_0, vp_1, e1, e58, qB_jn, hv', jn_or]
    · simp (disch := omega) only [B_C_choir_6, ↓bi_eq, ↓bw_eq, gd_pos, br_pos, br_neg, br_T, br_F, gd_T, bq_some, bd_some, bv_some, bl_some, bx_inl, bx_inr, bn_none, bn_some, bt_inl, bt_inr, not_true_eq_false, not_false_eq_true, eq_self, Bool.false_eq_true, if_true, if_false, jn_clamp, jn_lt, jn_le, jn_inj, jn_add, jn_sub, jn_mul, jn_vp, jn_0a, jn_1a, jn_1b, jn_1s, jn_1m, jn_neg0, jn_le0, jn_0le, jn_0lt, jn_1le, jn_le1, jn_lt1, jn_1lt, jn_e0, jn_e1, jn_em, ↓qB_f, ↓qT_f, cl_0, cl_1, vp_0, vp_1, e1, br_pos (Nat.le_refl (hsM h))]
  rw [F_C_choir, key]; rfl
theorem m_choir {w1 : Wld} {h : Hs} (r1 : RelH w1 h) : Ret (F_M_choir w1) (fun p => p.1 = jn (chB h (hsM h)) ∧ RelH p.2 h) := by
  have hh := r1.1
  have hM := hh.2.1
  obtain ⟨z1, z2, z3, z4⟩ := m_ent r1
  obtain ⟨u1, u2⟩ := q_ans r1 rfl z3 z2
  rw [F_M_choir, bw_eq]
  generalize wup w1 0 2 0 = wa at z1 u1 ⊢
  have e1 := z1.2.1
  have key : loop (B_M_choir_9 wa) (0, 0) = some (jn (chB h (hsM h))) := by
    refine loop_for (V := fun m => (jn (chB h m), jn m)) (hsM h) (fun m hm => ?_) ?_
    · obtain ⟨x, hx, ex⟩ := hh.2.2.2.1 m hm
      have e7 := (z1.2.2.2.2.2.2.1 m hm).trans ex
      have hl := chB_lt (h := h) m (by omega)
      have hV := sVoi_lt hh (fun j => (chB h m).testBit j)
      rw [chB_s, ex, jn_clamp (by omega)]
      by_cases hz : (sVoi h (fun j => (chB h m).testBit j)).testBit x = true
      · simp (disch := omega) only [B_M_choir_9, K_M_choir_44, ↓bi_eq, ↓bw_eq, gd_pos, br_pos, br_neg, br_T, br_F, gd_T, bq_some, bd_some, bv_some, bl_some, bx_inl, bx_inr, bn_none, bn_some, bt_inl, bt_inr, not_true_eq_false, not_false_eq_true, eq_self, Bool.false_eq_true, if_true, if_false, jn_clamp, jn_lt, jn_le, jn_inj, jn_add, jn_sub, jn_mul, jn_vp, jn_0a, jn_1a, jn_1b, jn_1s, jn_1m, jn_neg0, jn_le0, jn_0le, jn_0lt, jn_1le, jn_le1, jn_lt1, jn_1lt, jn_e0, jn_e1, jn_em, ↓qB_f, ↓qT_f, cl_0, cl_1, vp_0, vp_1, e1, e7, t_voicesOf z1 hh, t_isOf, hz, Int32.or_zero, (by decide : ((1 : Int32) = 0) = False)]
      · simp (disch := omega) only [B_M_choir_9, K_M_choir_44, ↓bi_eq, ↓bw_eq, gd_pos, br_pos, br_neg, br_T, br_F, gd_T, bq_some, bd_some, bv_some, bl_some, bx_inl, bx_inr, bn_none, bn_some, bt_inl, bt_inr, not_true_eq_false, not_false_eq_true, eq_self, Bool.false_eq_true, if_true, if_false, jn_clamp, jn_lt, jn_le, jn_inj, jn_add, jn_sub, jn_mul, jn_vp, jn_0a, jn_1a, jn_1b, jn_1s, jn_1m, jn_neg0, jn_le0, jn_0le, jn_0lt, jn_1le, jn_le1, jn_lt1, jn_1lt, jn_e0, jn_e1, jn_em, ↓qB_f, ↓qT_f, cl_0, cl_1, vp_0, vp_1, e1, e7, t_voicesOf z1 hh, t_isOf, hz, qB_jn, jn_or]
    · simp (disch := omega) only [B_M_choir_9, ↓bi_eq, ↓bw_eq, gd_pos, br_pos, br_neg, br_T, br_F, gd_T, bq_some, bd_some, bv_some, bl_some, bx_inl, bx_inr, bn_none, bn_some, bt_inl, bt_inr, not_true_eq_false, not_false_eq_true, eq_self, Bool.false_eq_true, if_true, if_false, jn_clamp, jn_lt, jn_le, jn_inj, jn_add, jn_sub, jn_mul, jn_vp, jn_0a, jn_1a, jn_1b, jn_1s, jn_1m, jn_neg0, jn_le0, jn_0le, jn_0lt, jn_1le, jn_le1, jn_lt1, jn_1lt, jn_e0, jn_e1, jn_em, ↓qB_f, ↓qT_f, cl_0, cl_1, vp_0, vp_1, e1, br_pos (Nat.le_refl (hsM h))]
  rw [key, bl_some, ret_some]
  exact ⟨rfl, u1⟩
/-! couples -/
def cpF (M : Nat) (mt : Nat → Nat) : Nat → Nat → Nat
  | 0, _ => 0
  | d + 1, a => if a = 0 then 0 else fl (fun o b => if (clr a (ltz a) &&& mt (ltz a)).testBit o = true then max b (1 + cpF M mt d (clr (clr a (ltz a)) o)) else b) (cpF M mt d (clr a (ltz a))) M
theorem cpF_s (M : Nat) (mt : Nat → Nat) (d a : Nat) : cpF M mt (d + 1) a = if a = 0 then 0 else fl (fun o b => if (clr a (ltz a) &&& mt (ltz a)).testBit o = true then max b (1 + cpF M mt d (clr (clr a (ltz a)) o)) else b) (cpF M mt d (clr a (ltz a))) M := rfl
theorem fl_le {f : Nat → Nat → Nat} {a B : Nat} (ha : a ≤ B) (hf : ∀ k x, x ≤ B → f k x ≤ B) (n : Nat) : fl f a n ≤ B := by
  induction n with
  | zero => exact ha
  | succ n ih => rw [fl_s]; exact hf _ _ ih
theorem cpF_le (M : Nat) (mt : Nat → Nat) (d : Nat) : ∀ a, cpF M mt d a ≤ d := by
  induction d with
  | zero => intro a; exact Nat.le_refl _
  | succ d ih =>
    intro a
    rw [cpF_s]
    split
    · exact Nat.zero_le _
    · refine fl_le (Nat.le_succ_of_le (ih _)) (fun k x hx => ?_) M
      split
      · have := ih (clr (clr a (ltz a)) k); omega
      · exact hx
theorem pcn_clr : ∀ a, a < 256 → ∀ k, k < 8 → (pcn (clr a k) ≤ pcn a ∧ (a.testBit k = true → pcn (clr a k) + 1 = pcn a)) := by decide +kernel
theorem pcn_8 : ∀ a, a < 256 → (pcn a ≤ 8 ∧ (a ≠ 0 → ltz a < 8 ∧ a.testBit (ltz a) = true ∧ clr a (ltz a) < a)) := by decide +kernel
theorem cpF_fuel (M : Nat) (hM : M ≤ 8) (mt : Nat → Nat) : ∀ d a e, a < 256 → pcn a < d → pcn a < e → cpF M mt d a = cpF M mt e a := by
  intro d
  induction d with
  | zero => intro a e _ h; omega
  | succ d ih =>
    intro a e ha hd he
    cases e with
    | zero => omega
    | succ e =>
      rw [cpF_s, cpF_s]
      by_cases h0 : a = 0
      · rw [if_pos h0, if_pos h0]
      · rw [if_neg h0, if_neg h0]
        obtain ⟨p1, p2⟩ := pcn_8 a ha
        obtain ⟨q1, q2, q3⟩ := p2 h0
        have c1 := (pcn_clr a ha (ltz a) q1).2 q2
        have hr : clr a (ltz a) < 256 := Nat.lt_of_le_of_lt (clr_le _ _) ha
        rw [ih (clr a (ltz a)) e hr (by omega) (by omega)]
        refine fl_congr (fun o x ho => ?_)
        have c2 := (pcn_clr (clr a (ltz a)) hr o (by omega)).1
        rw [ih (clr (clr a (ltz a)) o) e (Nat.lt_of_le_of_lt (clr_le _ _) hr) (by omega) (by omega)]
def cpS (h : Hs) (c : Sta) (a : Nat) : Nat := cpF (hsM h) (fun m => (c (24 + m)).toNatClampNeg) 10 a
def cpJ (h : Hs) (c : Sta) (a : Nat) : Nat → Nat := fl (fun o b => if (clr a (ltz a) &&& (c (24 + ltz a)).toNatClampNeg).testBit o = true then max b (1 + cpS h c (clr (clr a (ltz a)) o)) else b) (cpS h c (clr a (ltz a)))
theorem cpJ_s (h : Hs) (c : Sta) (a o : Nat) : cpJ h c a (o + 1) = if (clr a (ltz a) &&& (c (24 + ltz a)).toNatClampNeg).testBit o = true then max (cpJ h c a o) (1 + cpS h c (clr (clr a (ltz a)) o)) else cpJ h c a o := rfl
theorem cpJ_0 (h : Hs) (c : Sta) (a : Nat) : cpJ h c a 0 = cpS h c (clr a (ltz a)) := rfl
theorem cpS_0 (h : Hs) (c : Sta) : cpS h c 0 = 0 := by unfold cpS; rw [cpF_s, if_pos rfl]
theorem cpS_le (h : Hs) (c : Sta) (a : Nat) : cpS h c a ≤ 10 := cpF_le _ _ _ _
theorem cpJ_le (h : Hs) (c : Sta) (a o : Nat) : cpJ h c a o ≤ 11 := by
  refine fl_le (Nat.le_succ_of_le (cpS_le h c _)) (fun k x hx => ?_) o
  split
  · have := cpS_le h c (clr (clr a (ltz a)) k); omega
  · exact hx
theorem cpS_e {h : Hs} (hh : GdH h) (c : Sta) {a : Nat} (ha : a < 256) (h0 : a ≠ 0) : cpS h c a = cpJ h c a (hsM h) := by
  have hM := hh.2.1
  obtain ⟨p1, p2⟩ := pcn_8 a ha
  obtain ⟨q1, q2, q3⟩ := p2 h0
  have c1 := (pcn_clr a ha (ltz a) q1).2 q2
  have hr : clr a (ltz a) < 256 := Nat.lt_of_le_of_lt (clr_le _ _) ha
  unfold cpS cpJ
  rw [cpF_s, if_neg h0]
  unfold cpS
  rw [cpF_fuel _ hM _ 9 (clr a (ltz a)) 10 hr (by omega) (by omega)]
  refine fl_congr (fun o x ho => ?_)
  have c2 := (pcn_clr (clr a (ltz a)) hr o (by omega)).1
  rw [cpF_fuel _ hM _ 9 (clr (clr a (ltz a)) o) 10 (Nat.lt_of_le_of_lt (clr_le _ _) hr) (by omega) (by omega)]
theorem c_most {w : Wld} {h : Hs} {c : Sta} (e1 : w 56 1 = jn (hsM h)) (e66 : w 66 = c) (hh : GdH h) (hg : GdS h c) {a : Nat} (ha : a < 256) (h0 : a ≠ 0) (hl : ltz a < hsM h) (hw : ∀ b, b < a → w 87 b = jn (cpS h c b)) : F_C_mostPairs w (jn a) = some (jn (cpS h c a)) := by
  have hM := hh.2.1
  obtain ⟨p1, p2⟩ := pcn_8 a ha
  obtain ⟨q1, q2, q3⟩ := p2 h0
  obtain ⟨x, hx, ex⟩ := hg.2.2.2.2.1 (ltz a) hl
  have ew : w 66 (24 + ltz a) = jn x := by rw [e66]; exact ex
  have hr : clr a (ltz a) < 256 := Nat.lt_of_le_of_lt (clr_le _ _) ha
  have hrx : clr a (ltz a) &&& x < 512 := Nat.lt_of_le_of_lt Nat.and_le_left (by omega)
  have e87 := hw (clr a (ltz a)) q3
  have key : loop (B_C_mostPairs_43 (jn (clr a (ltz a))) (jn (clr a (ltz a) &&& x)) w) (jn (cpS h c (clr a (ltz a))), 0) = some (jn (cpJ h c a (hsM h))) := by
    refine loop_for (V := fun o => (jn (cpJ h c a o), jn o)) (hsM h) (fun o ho => ?_) ?_
    · have hc2 : clr (clr a (ltz a)) o < a := Nat.lt_of_le_of_lt (clr_le _ _) q3
      have e9 := hw _ hc2
      have hj := cpJ_le h c a o
      have hs := cpS_le h c (clr (clr a (ltz a)) o)
      rw [cpJ_s, ex, jn_clamp (by omega)]
      by_cases hz : (clr a (ltz a) &&& x).testBit o = true
      · simp (disch := omega) only [B_C_mostPairs_43, K_C_mostPairs_88, ↓bi_eq, ↓bw_eq, gd_pos, br_pos, br_neg, br_T, br_F, gd_T, bq_some, bd_some, bv_some, bl_some, bx_inl, bx_inr, bn_none, bn_some, bt_inl, bt_inr, not_true_eq_false, not_false_eq_true, eq_self, Bool.false_eq_true, if_true, if_false, jn_clamp, jn_lt, jn_le, jn_inj, jn_add, jn_sub, jn_mul, jn_vp, jn_0a, jn_1a, jn_1b, jn_1s, jn_1m, jn_neg0, jn_le0, jn_0le, jn_0lt, jn_1le, jn_le1, jn_lt1, jn_1lt, jn_e0, jn_e1, jn_em, ↓qB_f, ↓qT_f, cl_0, cl_1, vp_0, vp_1, e1, qT_1, hz, jn_clr, e9, imax_jn]
      · simp (disch := omega) only [B_C_mostPairs_43, K_C_mostPairs_88, ↓bi_eq, ↓bw_eq, gd_pos, br_pos, br_neg, br_T, br_F, gd_T, bq_some, bd_some, bv_some, bl_some, bx_inl, bx_inr, bn_none, bn_some, bt_inl, bt_inr, not_true_eq_false, not_false_eq_true, eq_self, Bool.false_eq_true, if_true, if_false, jn_clamp, jn_lt, jn_le, jn_inj, jn_add, jn_sub, jn_mul, jn_vp, jn_0a, jn_1a, jn_1b, jn_1s, jn_1m, jn_neg0, jn_le0, jn_0le, jn_0lt, jn_1le, jn_le1, jn_lt1, jn_1lt, jn_e0, jn_e1, jn_em, ↓qB_f, ↓qT_f, cl_0, cl_1, vp_0, vp_1, e1, qT_1, hz]
    · simp (disch := omega) only [B_C_mostPairs_43, ↓bi_eq, ↓bw_eq, gd_pos, br_pos, br_neg, br_T, br_F, gd_T, bq_some, bd_some, bv_some, bl_some, bx_inl, bx_inr, bn_none, bn_some, bt_inl, bt_inr, not_true_eq_false, not_false_eq_true, eq_self, Bool.false_eq_true, if_true, if_false, jn_clamp, jn_lt, jn_le, jn_inj, jn_add, jn_sub, jn_mul, jn_vp, jn_0a, jn_1a, jn_1b, jn_1s, jn_1m, jn_neg0, jn_le0, jn_0le, jn_0lt, jn_1le, jn_le1, jn_lt1, jn_1lt, jn_e0, jn_e1, jn_em, ↓qB_f, ↓qT_f, cl_0, cl_1, vp_0, vp_1, e1, br_pos (Nat.le_refl (hsM h))]
  rw [F_C_mostPairs, t_ntz w (by omega) h0, bq_some, qB_f, jn_clr a (by omega), bi_eq]
  simp (disch := omega) only [↓bi_eq, ↓bw_eq, gd_pos, br_pos, br_neg, br_T, br_F, gd_T, bq_some, bd_some, bv_some, bl_some, bx_inl, bx_inr, bn_none, bn_some, bt_inl, bt_inr, not_true_eq_false, not_false_eq_true, eq_self, Bool.false_eq_true, if_true, if_false, jn_clamp, jn_lt, jn_le, jn_inj, jn_add, jn_sub, jn_mul, jn_vp, jn_0a, jn_1a, jn_1b, jn_1s, jn_1m, jn_neg0, jn_le0, jn_0le, jn_0lt, jn_1le, jn_le1, jn_lt1, jn_1lt, jn_e0, jn_e1, jn_em, ↓qB_f, ↓qT_f, cl_0, cl_1, vp_0, vp_1, li_24, ew, e87, jn_and, key]
  rw [cpS_e hh c ha h0]
theorem ltz_lt {a n : Nat} (ha : a < 2 ^ n) (h0 : a ≠ 0) (h9 : a < 256) : ltz a < n := bit_lt ha ((pcn_8 a h9).2 h0).2.1
theorem c_couples {w : Wld} {h : Hs} (r : RelH w h) : Ret (F_C_couples w) (fun q => q.1 = jn (cpS h (w 66) (2 ^ hsM h - 1)) ∧ Frm [87] [] w q.2) := by
  have hh := r.1
  have hc := r.2.1
  have hg := r.2.2.2.1.1
  have hM := hh.2.1
  have hpw : 2 ^ hsM h ≤ 256 := pow_le (k := 8) hM
  have hp0 : 0 < 2 ^ hsM h := Nat.pow_pos (by decide)
  have hpm := pow_m1 (hsM h) (by omega)
  have e1 := hc.2.1
  simp (disch := omega) only [F_C_couples, ↓bi_eq, ↓bw_eq, gd_pos, br_pos, br_neg, br_T, br_F, gd_T, bq_some, bd_some, bv_some, bl_some, bx_inl, bx_inr, bn_none, bn_some, bt_inl, bt_inr, not_true_eq_false, not_false_eq_true, eq_self, Bool.false_eq_true, if_true, if_false, jn_clamp, jn_lt, jn_le, jn_inj, jn_add, jn_sub, jn_mul, jn_vp, jn_0a, jn_1a, jn_1b, jn_1s, jn_1m, jn_neg0, jn_le0, jn_0le, jn_0lt, jn_1le, jn_le1, jn_lt1, jn_1lt, jn_e0, jn_e1, jn_em, ↓qB_f, ↓qT_f, cl_0, cl_1, vp_0, vp_1, e1, hpm, ret_bl]
  refine ret_mono (P := fun w' => Frm [87] [] w w' ∧ ∀ b, b ≤ 2 ^ hsM h - 1 → w' 87 b = jn (cpS h (w 66) b)) ?_ (fun w' hq => ?_)
  · refine loop_inv (I := fun k s => s.1 = jn (k + 1) ∧ Frm [87] [] w s.2 ∧ ∀ b, b ≤ k → s.2 87 b = jn (cpS h (w 66) b)) (2 ^ hsM h - 1) ⟨rfl, frm_wup frm_rf _ _ _ rfl, fun b hb => ?_⟩ (fun k s hk hi => ?_) (fun s hi => ?_)
    · rw [show b = 0 by omega, cpS_0]
      show wup w 87 0 0 87 0 = 0
      exact wup_s1 _ _ _ _
    · obtain ⟨i, w2⟩ := s
      obtain ⟨i1, i2, i3⟩ := hi
      simp only at i1 i2 i3
      subst i1
      have e1 : w2 56 1 = jn (hsM h) := (i2 56 1 rfl).trans hc.2.1
      have e66 : w2 66 = w 66 := frm_cell i2 66 (fun _ => rfl)
      have hmp := c_most e1 e66 hh hg (a := k + 1) (by omega) (by omega) (ltz_lt (by omega) (by omega) (by omega)) (fun b hb => i3 b (by omega))
      simp (disch := omega) only [B_C_couples_21, ↓bi_eq, ↓bw_eq, gd_pos, br_pos, br_neg, br_T, br_F, gd_T, bq_some, bd_some, bv_some, bl_some, bx_inl, bx_inr, bn_none, bn_some, bt_inl, bt_inr, not_true_eq_false, not_false_eq_true, eq_self, Bool.false_eq_true, if_true, if_false, jn_clamp, jn_lt, jn_le, jn_inj, jn_add, jn_sub, jn_mul, jn_vp, jn_0a, jn_1a, jn_1b, jn_1s, jn_1m, jn_neg0, jn_le0, jn_0le, jn_0lt, jn_1le, jn_le1, jn_lt1, jn_1lt, jn_e0, jn_e1, jn_em, ↓qB_f, ↓qT_f, cl_0, cl_1, vp_0, vp_1, hmp, ret_some, LQ_inl]
      refine ⟨trivial, frm_wup i2 _ _ _ rfl, fun b hb => ?_⟩
      rw [wup_s]
      by_cases e : b = k + 1
      · rw [if_pos e, e]
      · rw [if_neg e]; exact i3 b (by omega)
    · obtain ⟨i, w2⟩ := s
      obtain ⟨i1, i2, i3⟩ := hi
      simp only at i1 i2 i3
      subst i1
      simp (disch := omega) only [B_C_couples_21, ↓bi_eq, ↓bw_eq, gd_pos, br_pos, br_neg, br_T, br_F, gd_T, bq_some, bd_some, bv_some, bl_some, bx_inl, bx_inr, bn_none, bn_some, bt_inl, bt_inr, not_true_eq_false, not_false_eq_true, eq_self, Bool.false_eq_true, if_true, if_false, jn_clamp, jn_lt, jn_le, jn_inj, jn_add, jn_sub, jn_mul, jn_vp, jn_0a, jn_1a, jn_1b, jn_1s, jn_1m, jn_neg0, jn_le0, jn_0le, jn_0lt, jn_1le, jn_le1, jn_lt1, jn_1lt, jn_e0, jn_e1, jn_em, ↓qB_f, ↓qT_f, cl_0, cl_1, vp_0, vp_1, ret_some, LQ_inr]
      exact ⟨i2, i3⟩
  · have e9 := hq.2 _ (Nat.le_refl _)
    simp (disch := omega) only [↓bi_eq, ↓bw_eq, gd_pos, br_pos, br_neg, br_T, br_F, gd_T, bq_some, bd_some, bv_some, bl_some, bx_inl, bx_inr, bn_none, bn_some, bt_inl, bt_inr, not_true_eq_false, not_false_eq_true, eq_self, Bool.false_eq_true, if_true, if_false, jn_clamp, jn_lt, jn_le, jn_inj, jn_add, jn_sub, jn_mul, jn_vp, jn_0a, jn_1a, jn_1b, jn_1s, jn_1m, jn_neg0, jn_le0, jn_0le, jn_0lt, jn_1le, jn_le1, jn_lt1, jn_1lt, jn_e0, jn_e1, jn_em, ↓qB_f, ↓qT_f, cl_0, cl_1, vp_0, vp_1, e9, ret_some]
    exact ⟨trivial, hq.1⟩
theorem m_couplesOf {w : Wld} {h : Hs} {c : Sta} (hw : MHs w h) (hs : MSt w h c) (hh : GdH h) (hg : GdS h c) : ∀ d a, d ≤ 10 → a < 2 ^ hsM h → pcn a < d → X_M_couplesOf d w (jn a) = some (jn (cpF (hsM h) (fun m => (c (24 + m)).toNatClampNeg) d a)) := by
  have hM := hh.2.1
  have hpw : 2 ^ hsM h ≤ 256 := pow_le (k := 8) hM
  have e1 := hw.2.1
  intro d
  induction d with
  | zero => intro a _ _ h; omega
  | succ d ih =>
    intro a h10 ha hd
    have ih := fun a => ih a (by omega)
    have ha2 : a < 256 := by omega
    show F_M_couplesOf (X_M_couplesOf d) w (jn a) = _
    rw [cpF_s]
    by_cases h0 : a = 0
    · rw [if_pos h0]
      have k1 : loop (B_M_couplesOf_2 (X_M_couplesOf d) (jn a) w) 0 = some (jn (hsM h)) := by
        refine loop_for (V := fun m => jn m) (hsM h) (fun m hm => ?_) ?_
        · have hz : ¬ a.testBit m = true := by rw [h0]; simp
          simp (disch := omega) only [B_M_couplesOf_2, ↓bi_eq, ↓bw_eq, gd_pos, br_pos, br_neg, br_T, br_F, gd_T, bq_some, bd_some, bv_some, bl_some, bx_inl, bx_inr, bn_none, bn_some, bt_inl, bt_inr, not_true_eq_false, not_false_eq_true, eq_self, Bool.false_eq_true, if_true, if_false, jn_clamp, jn_lt, jn_le, jn_inj, jn_add, jn_sub, jn_mul, jn_vp, jn_0a, jn_1a, jn_1b, jn_1s, jn_1m, jn_neg0, jn_le0, jn_0le, jn_0lt, jn_1le, jn_le1, jn_lt1, jn_1lt, jn_e0, jn_e1, jn_em, ↓qB_f, ↓qT_f, cl_0, cl_1, vp_0, vp_1, e1, t_isOf, hz]
        · simp (disch := omega) only [B_M_couplesOf_2, ↓bi_eq, ↓bw_eq, gd_pos, br_pos, br_neg, br_T, br_F, gd_T, bq_some, bd_some, bv_some, bl_some, bx_inl, bx_inr, bn_none, bn_some, bt_inl, bt_inr, not_true_eq_false, not_false_eq_true, eq_self, Bool.false_eq_true, if_true, if_false, jn_clamp, jn_lt, jn_le, jn_inj, jn_add, jn_sub, jn_mul, jn_vp, jn_0a, jn_1a, jn_1b, jn_1s, jn_1m, jn_neg0, jn_le0, jn_0le, jn_0lt, jn_1le, jn_le1, jn_lt1, jn_1lt, jn_e0, jn_e1, jn_em, ↓qB_f, ↓qT_f, cl_0, cl_1, vp_0, vp_1, e1, br_pos (Nat.le_refl (hsM h))]
      rw [F_M_couplesOf, k1, bl_some]
      simp (disch := omega) only [↓bi_eq, ↓bw_eq, gd_pos, br_pos, br_neg, br_T, br_F, gd_T, bq_some, bd_some, bv_some, bl_some, bx_inl, bx_inr, bn_none, bn_some, bt_inl, bt_inr, not_true_eq_false, not_false_eq_true, eq_self, Bool.false_eq_true, if_true, if_false, jn_clamp, jn_lt, jn_le, jn_inj, jn_add, jn_sub, jn_mul, jn_vp, jn_0a, jn_1a, jn_1b, jn_1s, jn_1m, jn_neg0, jn_le0, jn_0le, jn_0lt, jn_1le, jn_le1, jn_lt1, jn_1lt, jn_e0, jn_e1, jn_em, ↓qB_f, ↓qT_f, cl_0, cl_1, vp_0, vp_1, e1]
      rfl
    · rw [if_neg h0]
      obtain ⟨p1, p2⟩ := pcn_8 a ha2
      obtain ⟨q1, q2, q3⟩ := p2 h0
      have hl := ltz_lt ha h0 ha2
      have hlz := (ltz_bit a (by omega) h0).2
      have k1 : Ret (loop (B_M_couplesOf_2 (X_M_couplesOf d) (jn a) w) 0) (fun x => x = jn (ltz a)) := by
        refine loop_inv (I := fun m s => s = jn m) (ltz a) rfl (fun m s hm hi => ?_) (fun s hi => ?_)
        · subst hi
          have hz : ¬ a.testBit m = true := by rw [hlz m hm]; decide
          simp (disch := omega) only [B_M_couplesOf_2, ↓bi_eq, ↓bw_eq, gd_pos, br_pos, br_neg, br_T, br_F, gd_T, bq_some, bd_some, bv_some, bl_some, bx_inl, bx_inr, bn_none, bn_some, bt_inl, bt_inr, not_true_eq_false, not_false_eq_true, eq_self, Bool.false_eq_true, if_true, if_false, jn_clamp, jn_lt, jn_le, jn_inj, jn_add, jn_sub, jn_mul, jn_vp, jn_0a, jn_1a, jn_1b, jn_1s, jn_1m, jn_neg0, jn_le0, jn_0le, jn_0lt, jn_1le, jn_le1, jn_lt1, jn_1lt, jn_e0, jn_e1, jn_em, ↓qB_f, ↓qT_f, cl_0, cl_1, vp_0, vp_1, e1, t_isOf, hz, ret_some, LQ_inl]
        · subst hi
          simp (disch := omega) only [B_M_couplesOf_2, ↓bi_eq, ↓bw_eq, gd_pos, br_pos, br_neg, br_T, br_F, gd_T, bq_some, bd_some, bv_some, bl_some, bx_inl, bx_inr, bn_none, bn_some, bt_inl, bt_inr, not_true_eq_false, not_false_eq_true, eq_self, Bool.false_eq_true, if_true, if_false, jn_clamp, jn_lt, jn_le, jn_inj, jn_add, jn_sub, jn_mul, jn_vp, jn_0a, jn_1a, jn_1b, jn_1s, jn_1m, jn_neg0, jn_le0, jn_0le, jn_0lt, jn_1le, jn_le1, jn_lt1, jn_1lt, jn_e0, jn_e1, jn_em, ↓qB_f, ↓qT_f, cl_0, cl_1, vp_0, vp_1, e1, t_isOf, q2, (by decide : ((1 : Int32) = 0) = False), ret_some, LQ_inr]
      have c1 := (pcn_clr a ha2 (ltz a) q1).2 q2
      have hr : clr a (ltz a) < 256 := Nat.lt_of_le_of_lt (clr_le _ _) ha2
      have hr2 : clr a (ltz a) < 2 ^ hsM h := Nat.lt_of_le_of_lt (clr_le _ _) ha
      obtain ⟨x, hx, ex⟩ := hg.2.2.2.2.1 (ltz a) hl
      have e17 : w 17 (ltz a) = jn x := (hs.1 (ltz a) hl).2.2.2.trans ex
      have hrx : clr a (ltz a) &&& x < 512 := Nat.lt_of_le_of_lt Nat.and_le_left (by omega)
      have i0 := ih (clr a (ltz a)) hr2 (by omega)
      have hne : ¬ ltz a = hsM h := by omega
      rw [F_M_couplesOf, ret_of k1, bl_some]
      have ex2 : (c (24 + ltz a)).toNatClampNeg = x := by rw [ex, jn_clamp (by omega)]
      generalize hG : (fun o b => if (clr a (ltz a) &&& (fun m => (c (24 + m)).toNatClampNeg) (ltz a)).testBit o = true then max b (1 + cpF (hsM h) (fun m => (c (24 + m)).toNatClampNeg) d (clr (clr a (ltz a)) o)) else b) = G
      have hGe : ∀ o b, G o b = if (clr a (ltz a) &&& x).testBit o = true then max b (1 + cpF (hsM h) (fun m => (c (24 + m)).toNatClampNeg) d (clr (clr a (ltz a)) o)) else b := fun o b => by
        rw [← hG]; simp only [ex2]
      have hGl : ∀ o, fl G (cpF (hsM h) (fun m => (c (24 + m)).toNatClampNeg) d (clr a (ltz a))) o ≤ d + 1 := fun o => fl_le (Nat.le_succ_of_le (cpF_le _ _ _ _)) (fun k y hy => by
        rw [hGe]
        split
        · have := cpF_le (hsM h) (fun m => (c (24 + m)).toNatClampNeg) d (clr (clr a (ltz a)) k); omega
        · exact hy) o
      have key : loop (B_M_couplesOf_56 (X_M_couplesOf d) (jn (ltz a)) (jn (clr a (ltz a))) w) (jn (cpF (hsM h) (fun m => (c (24 + m)).toNatClampNeg) d (clr a (ltz a))), 0) = some (jn (fl G (cpF (hsM h) (fun m => (c (24 + m)).toNatClampNeg) d (clr a (ltz a))) (hsM h))) := by
        refine loop_for (V := fun o => (jn (fl G (cpF (hsM h) (fun m => (c (24 + m)).toNatClampNeg) d (clr a (ltz a))) o), jn o)) (hsM h) (fun o ho => ?_) ?_
        · have c2 := (pcn_clr (clr a (ltz a)) hr o (by omega)).1
          have i1 := ih (clr (clr a (ltz a)) o) (Nat.lt_of_le_of_lt (clr_le _ _) hr2) (by omega)
          have l1 := hGl o
          have l2 := cpF_le (hsM h) (fun m => (c (24 + m)).toNatClampNeg) d (clr (clr a (ltz a)) o)
          rw [fl_s, hGe]
          by_cases hz : (clr a (ltz a) &&& x).testBit o = true
          · simp (disch := omega) only [B_M_couplesOf_56, K_M_couplesOf_104, ↓bi_eq, ↓bw_eq, gd_pos, br_pos, br_neg, br_T, br_F, gd_T, bq_some, bd_some, bv_some, bl_some, bx_inl, bx_inr, bn_none, bn_some, bt_inl, bt_inr, not_true_eq_false, not_false_eq_true, eq_self, Bool.false_eq_true, if_true, if_false, jn_clamp, jn_lt, jn_le, jn_inj, jn_add, jn_sub, jn_mul, jn_vp, jn_0a, jn_1a, jn_1b, jn_1s, jn_1m, jn_neg0, jn_le0, jn_0le, jn_0lt, jn_1le, jn_le1, jn_lt1, jn_1lt, jn_e0, jn_e1, jn_em, ↓qB_f, ↓qT_f, cl_0, cl_1, vp_0, vp_1, e1, e17, jn_and, t_isOf, hz, (by decide : ((1 : Int32) = 0) = False), jn_clr, i1, imax_jn]
          · simp (disch := omega) only [B_M_couplesOf_56, K_M_couplesOf_104, ↓bi_eq, ↓bw_eq, gd_pos, br_pos, br_neg, br_T, br_F, gd_T, bq_some, bd_some, bv_some, bl_some, bx_inl, bx_inr, bn_none, bn_some, bt_inl, bt_inr, not_true_eq_false, not_false_eq_true, eq_self, Bool.false_eq_true, if_true, if_false, jn_clamp, jn_lt, jn_le, jn_inj, jn_add, jn_sub, jn_mul, jn_vp, jn_0a, jn_1a, jn_1b, jn_1s, jn_1m, jn_neg0, jn_le0, jn_0le, jn_0lt, jn_1le, jn_le1, jn_lt1, jn_1lt, jn_e0, jn_e1, jn_em, ↓qB_f, ↓qT_f, cl_0, cl_1, vp_0, vp_1, e1, e17, jn_and, t_isOf, hz]
        · simp (disch := omega) only [B_M_couplesOf_56, ↓bi_eq, ↓bw_eq, gd_pos, br_pos, br_neg, br_T, br_F, gd_T, bq_some, bd_some, bv_some, bl_some, bx_inl, bx_inr, bn_none, bn_some, bt_inl, bt_inr, not_true_eq_false, not_false_eq_true, eq_self, Bool.false_eq_true, if_true, if_false, jn_clamp, jn_lt, jn_le, jn_inj, jn_add, jn_sub, jn_mul, jn_vp, jn_0a, jn_1a, jn_1b, jn_1s, jn_1m, jn_neg0, jn_le0, jn_0le, jn_0lt, jn_1le, jn_le1, jn_lt1, jn_1lt, jn_e0, jn_e1, jn_em, ↓qB_f, ↓qT_f, cl_0, cl_1, vp_0, vp_1, e1, br_pos (Nat.le_refl (hsM h))]
      simp (disch := omega) only [↓bi_eq, ↓bw_eq, gd_pos, br_pos, br_neg, br_T, br_F, gd_T, bq_some, bd_some, bv_some, bl_some, bx_inl, bx_inr, bn_none, bn_some, bt_inl, bt_inr, not_true_eq_false, not_false_eq_true, eq_self, Bool.false_eq_true, if_true, if_false, jn_clamp, jn_lt, jn_le, jn_inj, jn_add, jn_sub, jn_mul, jn_vp, jn_0a, jn_1a, jn_1b, jn_1s, jn_1m, jn_neg0, jn_le0, jn_0le, jn_0lt, jn_1le, jn_le1, jn_lt1, jn_1lt, jn_e0, jn_e1, jn_em, ↓qB_f, ↓qT_f, cl_0, cl_1, vp_0, vp_1, e1, hne, jn_clr, i0, key]
theorem m_couples {w1 : Wld} {h : Hs} {c : Sta} (r1 : RelH w1 h) (e66 : w1 66 = c) (hg : GdS h c) : Ret (F_M_couples w1) (fun p => p.1 = jn (cpS h c (2 ^ hsM h - 1)) ∧ RelH p.2 h) := by
  have hh := r1.1
  have hM := hh.2.1
  have hpw : 2 ^ hsM h ≤ 256 := pow_le (k := 8) hM
  have hp0 : 0 < 2 ^ hsM h := Nat.pow_pos (by decide)
  obtain ⟨z1, z2, z3, z4⟩ := m_ent r1
  rw [e66] at z2
  obtain ⟨u1, u2⟩ := q_ans r1 e66 z3 z2
  have p8 := (pcn_8 (2 ^ hsM h - 1) (by omega)).1
  rw [F_M_couples, bw_eq, t_everybody z1.2.1 hM, bp_some, m_couplesOf z1 z2 hh hg 10 (2 ^ hsM h - 1) (by omega) (by omega) (by omega), bp_some, ret_some]
  exact ⟨rfl, u1⟩
theorem j_couples {w : Wld} {h : Hs} (r : RelH w h) : BothJ (F_C_couples w) F_M_couples := BothJ_of r _ (ret_mono (c_couples r) (fun q hq => ⟨hq.1, frm_up hq.2 rfl⟩)) (fun w1 r1 e66 => m_couples r1 e66 r.2.2.2.1.1)
