/-! ===== rooms: rings ===== -/
theorem pigeon : ∀ (n : Nat) (g : Nat → Nat), (∀ i, i ≤ n → g i < n) → ∃ i j, i < j ∧ j ≤ n ∧ g i = g j := by
  intro n
  induction n with
  | zero => intro g h; exact absurd (h 0 (Nat.le_refl 0)) (Nat.not_lt_zero _)
  | succ n ih =>
    intro g h
    by_cases hx : ∃ i, i ≤ n ∧ g i = g (n + 1)
    · obtain ⟨i, h1, h2⟩ := hx
      exact ⟨i, n + 1, by omega, Nat.le_refl _, h2⟩
    · have hx' : ∀ i, i ≤ n → g i ≠ g (n + 1) := fun i hi e => hx ⟨i, hi, e⟩
      obtain ⟨i, j, h1, h2, h3⟩ := ih (fun i => if g (n + 1) < g i then g i - 1 else g i) (fun i hi => by
        have a := h i (by omega)
        have b := h (n + 1) (Nat.le_refl _)
        have c := hx' i hi
        split <;> omega)
      have a := hx' i (by omega)
      have b := hx' j h2
      refine ⟨i, j, h1, by omega, ?_⟩
      split at h3 <;> split at h3 <;> omega
def itr (f : Nat → Nat) (r : Nat) : Nat → Nat := fl (fun _ x => f x) r
theorem itr_s (f : Nat → Nat) (r k : Nat) : itr f r (k + 1) = f (itr f r k) := rfl
theorem itr_lt {f : Nat → Nat} {N r : Nat} (hf : ∀ x, x < N → f x < N) (hr : r < N) (k : Nat) : itr f r k < N := by
  induction k with
  | zero => exact hr
  | succ k ih => rw [itr_s]; exact hf _ ih
theorem itr_per {f : Nat → Nat} {r a p : Nat} (h : itr f r (a + p) = itr f r a) : ∀ d, itr f r (a + d + p) = itr f r (a + d) := by
  intro d
  induction d with
  | zero => exact h
  | succ d ih =>
    rw [show a + (d + 1) + p = a + d + p + 1 by omega, show a + (d + 1) = a + d + 1 by omega, itr_s, itr_s, ih]
/-- from b on, all comes within one round -/
theorem itr_red {f : Nat → Nat} {r a p b : Nat} (h : itr f r (a + p) = itr f r a) (hp : 0 < p) (hb : a ≤ b) : ∀ n k, k < n → b ≤ k → ∃ u, u < p ∧ itr f r (b + u) = itr f r k := by
  intro n
  induction n with
  | zero => intro k hk; omega
  | succ n ih =>
    intro k hk hbk
    by_cases h1 : k < b + p
    · exact ⟨k - b, by omega, by rw [show b + (k - b) = k by omega]⟩
    · obtain ⟨u, hu, e⟩ := ih (k - p) (by omega) (by omega)
      refine ⟨u, hu, e.trans ?_⟩
      have := itr_per h (k - p - a)
      rw [show a + (k - p - a) + p = k by omega, show a + (k - p - a) = k - p by omega] at this
      exact this.symm
def bsS (g : Nat → Nat) : Nat → Nat := fl (fun u a => a ||| 2 ^ g u) 0
theorem bsS_s (g : Nat → Nat) (u : Nat) : bsS g (u + 1) = bsS g u ||| 2 ^ g u := rfl
theorem bsS_bit (g : Nat → Nat) (t x : Nat) : (bsS g t).testBit x = true ↔ ∃ u, u < t ∧ g u = x := by
  induction t with
  | zero => constructor
            · intro h; simp [bsS, fl] at h
            · intro ⟨u, hu, _⟩; omega
  | succ t ih =>
    rw [bsS_s, Nat.testBit_or, Bool.or_eq_true, ih, Nat.testBit_two_pow]
    constructor
    · intro h
      rcases h with ⟨u, hu, e⟩ | h
      · exact ⟨u, by omega, e⟩
      · exact ⟨t, by omega, by simpa using h⟩
    · intro ⟨u, hu, e⟩
      by_cases h : u = t
      · exact Or.inr (by rw [← h]; simpa using e)
      · exact Or.inl ⟨u, by omega, e⟩
theorem bsS_lt {g : Nat → Nat} (hg : ∀ u, g u < 9) (t : Nat) : bsS g t < 512 := by
  induction t with
  | zero => exact (by decide : 0 < 512)
  | succ t ih => rw [bsS_s]; exact Nat.or_lt_two_pow (n := 9) ih (Nat.pow_lt_pow_right (by decide) (hg t))
theorem or_grow {a x : Nat} (h : ¬ a.testBit x = true) : a < a ||| 2 ^ x := by
  have h1 : a ≤ a ||| 2 ^ x := Nat.left_le_or
  have h2 : a ≠ a ||| 2 ^ x := fun e => by
    apply h
    rw [e, Nat.testBit_or, Nat.testBit_two_pow]
    simp
  omega
/-- the ring's rooms: however they were gathered -/
theorem ring_same {f : Nat → Nat} {N r s t : Nat} (hf : ∀ x, x < N → f x < N) (hr : r < N) (hN : N ≤ s) (ht : (bsS (fun u => itr f r (s + u)) t).testBit (itr f r (s + t)) = true) : bsS (fun u => itr f r (s + u)) t = bsS (fun u => itr f r (N + u)) N := by
  obtain ⟨i, j, h1, h2, h3⟩ := pigeon N (itr f r) (fun i _ => itr_lt hf hr i)
  have hp : itr f r (i + (j - i)) = itr f r i := by rw [show i + (j - i) = j by omega]; exact h3.symm
  obtain ⟨u0, hu0, e0⟩ := (bsS_bit _ _ _).mp ht
  have hq : itr f r (s + u0 + (t - u0)) = itr f r (s + u0) := by rw [show s + u0 + (t - u0) = s + t by omega]; exact e0.symm
  apply Nat.eq_of_testBit_eq
  intro x
  have key : (bsS (fun u => itr f r (s + u)) t).testBit x = true ↔ (bsS (fun u => itr f r (N + u)) N).testBit x = true := by
    rw [bsS_bit, bsS_bit]
    constructor
    · intro ⟨u, hu, e⟩
      obtain ⟨v, hv, e2⟩ := itr_red hp (by omega) (b := N) (by omega) (s + u + 1) (s + u) (by omega) (by omega)
      exact ⟨v, by omega, e2.trans e⟩
    · intro ⟨u, hu, e⟩
      obtain ⟨v, hv, e2⟩ := itr_red hp (by omega) (b := s) (by omega) (N + u + s * (j - i) + 1) (N + u + s * (j - i)) (by omega) (by
        have : s * 1 ≤ s * (j - i) := Nat.mul_le_mul_left s (by omega)
        omega)
      have e3 : ∀ m, itr f r (N + u + m * (j - i)) = itr f r (N + u) := by
        intro m
        induction m with
        | zero => rw [Nat.zero_mul]; rfl
        | succ m ih =>
          have h9 := itr_per hp (N + u + m * (j - i) - i)
          rw [show i + (N + u + m * (j - i) - i) = N + u + m * (j - i) by omega] at h9
          rw [Nat.add_mul, Nat.one_mul, ← Nat.add_assoc, h9, ih]
      rw [e3 s] at e2
      by_cases hv2 : v < t
      · exact ⟨v, hv2, e2.trans e⟩
      · obtain ⟨y, hy, e4⟩ := itr_red hq (by omega) (b := s + u0) (Nat.le_refl _) (s + v + 1) (s + v) (by omega) (by omega)
        exact ⟨u0 + y, by omega, by rw [← e, ← e2, ← e4, Nat.add_assoc]⟩
  cases h5 : (bsS (fun u => itr f r (s + u)) t).testBit x with
  | true => exact (key.mp h5).symm
  | false =>
    cases h6 : (bsS (fun u => itr f r (N + u)) N).testBit x with
    | true => rw [key.mpr h6] at h5; exact h5.symm
    | false => rfl
theorem ring_in {f : Nat → Nat} {N r : Nat} (hr : r < N) : (bsS (fun u => itr f r (N + u)) N).testBit (itr f r N) = true := (bsS_bit _ _ _).mpr ⟨0, by omega, rfl⟩
/-- the first step into the set -/
def Fst1 (A : Nat) (g : Nat → Nat) (r : Int32) : Prop := ∃ n, n ≤ 9 ∧ r = jn n ∧ A.testBit (g n) = true ∧ ∀ k, k < n → ¬ A.testBit (g k) = true
theorem Fst1_u {A : Nat} {g : Nat → Nat} {a b : Int32} (ha : Fst1 A g a) (hb : Fst1 A g b) : a = b := by
  obtain ⟨n, _, rfl, n1, n2⟩ := ha
  obtain ⟨m, _, rfl, m1, m2⟩ := hb
  rcases Nat.lt_trichotomy n m with h | h | h
  · exact absurd n1 (m2 n h)
  · rw [h]
  · exact absurd m1 (n2 m h)
theorem c_ringBits {w : Wld} {f : Nat → Nat} {N D r : Nat} (e0 : w 56 0 = jn N) (hN : N ≤ 9) (hD : D ≤ 41) (hf : ∀ x, x < N → f x < N ∧ w 66 (D + x) = jn (f x)) (hr : r < N) : F_C_ringBits w (jn D) (jn r) = some (jn (bsS (fun u => itr f r (N + u)) N)) := by
  have hlt := itr_lt (fun x hx => (hf x hx).1) hr
  have k1 : loop (B_C_ringBits_5 (jn D) w) (jn r, 0) = some (jn (itr f r N)) := by
    refine loop_for (V := fun k => (jn (itr f r k), jn k)) N (fun k hk => ?_) ?_
    · have h1 := hlt k
      have e := (hf _ h1).2
      simp (disch := omega) only [B_C_ringBits_5, ↓bi_eq, ↓bw_eq, gd_pos, br_pos, br_neg, br_T, br_F, gd_T, bq_some, bd_some, bv_some, bl_some, bx_inl, bx_inr, bn_none, bn_some, bt_inl, bt_inr, not_true_eq_false, not_false_eq_true, eq_self, Bool.false_eq_true, if_true, if_false, jn_clamp, jn_lt, jn_le, jn_inj, jn_add, jn_sub, jn_mul, jn_vp, jn_0a, jn_1a, jn_1b, jn_1s, jn_1m, jn_neg0, jn_le0, jn_0le, jn_0lt, jn_1le, jn_le1, jn_lt1, jn_1lt, jn_e0, jn_e1, jn_em, ↓qB_f, ↓qT_f, cl_0, cl_1, vp_0, vp_1, e0, e, itr_s]
    · simp (disch := omega) only [B_C_ringBits_5, ↓bi_eq, ↓bw_eq, gd_pos, br_pos, br_neg, br_T, br_F, gd_T, bq_some, bd_some, bv_some, bl_some, bx_inl, bx_inr, bn_none, bn_some, bt_inl, bt_inr, not_true_eq_false, not_false_eq_true, eq_self, Bool.false_eq_true, if_true, if_false, jn_clamp, jn_lt, jn_le, jn_inj, jn_add, jn_sub, jn_mul, jn_vp, jn_0a, jn_1a, jn_1b, jn_1s, jn_1m, jn_neg0, jn_le0, jn_0le, jn_0lt, jn_1le, jn_le1, jn_lt1, jn_1lt, jn_e0, jn_e1, jn_em, ↓qB_f, ↓qT_f, cl_0, cl_1, vp_0, vp_1, e0, br_pos (Nat.le_refl N)]
  have k2 : loop (B_C_ringBits_44 (jn D) w) (jn (itr f r N), 0, 0) = some (jn (bsS (fun u => itr f r (N + u)) N)) := by
    refine loop_for (V := fun k => (jn (itr f r (N + k)), jn (bsS (fun u => itr f r (N + u)) k), jn k)) N (fun k hk => ?_) ?_
    · have h1 := hlt (N + k)
      have e := (hf _ h1).2
      have e9 : itr f r (N + (k + 1)) = f (itr f r (N + k)) := rfl
      simp (disch := omega) only [B_C_ringBits_44, ↓bi_eq, ↓bw_eq, gd_pos, br_pos, br_neg, br_T, br_F, gd_T, bq_some, bd_some, bv_some, bl_some, bx_inl, bx_inr, bn_none, bn_some, bt_inl, bt_inr, not_true_eq_false, not_false_eq_true, eq_self, Bool.false_eq_true, if_true, if_false, jn_clamp, jn_lt, jn_le, jn_inj, jn_add, jn_sub, jn_mul, jn_vp, jn_0a, jn_1a, jn_1b, jn_1s, jn_1m, jn_neg0, jn_le0, jn_0le, jn_0lt, jn_1le, jn_le1, jn_lt1, jn_1lt, jn_e0, jn_e1, jn_em, ↓qB_f, ↓qT_f, cl_0, cl_1, vp_0, vp_1, e0, e, e9, bsS_s, qB_jn, jn_or]
    · simp (disch := omega) only [B_C_ringBits_44, ↓bi_eq, ↓bw_eq, gd_pos, br_pos, br_neg, br_T, br_F, gd_T, bq_some, bd_some, bv_some, bl_some, bx_inl, bx_inr, bn_none, bn_some, bt_inl, bt_inr, not_true_eq_false, not_false_eq_true, eq_self, Bool.false_eq_true, if_true, if_false, jn_clamp, jn_lt, jn_le, jn_inj, jn_add, jn_sub, jn_mul, jn_vp, jn_0a, jn_1a, jn_1b, jn_1s, jn_1m, jn_neg0, jn_le0, jn_0le, jn_0lt, jn_1le, jn_le1, jn_lt1, jn_1lt, jn_e0, jn_e1, jn_em, ↓qB_f, ↓qT_f, cl_0, cl_1, vp_0, vp_1, e0, br_pos (Nat.le_refl N)]
  rw [F_C_ringBits, k1, bl_some, k2, bl_some]
theorem c_into {w : Wld} {f : Nat → Nat} {N D r A : Nat} (e0 : w 56 0 = jn N) (hN : N ≤ 9) (hD : D ≤ 41) (hf : ∀ x, x < N → f x < N ∧ w 66 (D + x) = jn (f x)) (hr : r < N) (hA : A < 512) (hin : A.testBit (itr f r N) = true) : Ret (F_C_stepsInto w (jn A) (jn D) (jn r)) (Fst1 A (itr f r)) := by
  have hlt := itr_lt (fun x hx => (hf x hx).1) hr
  rw [F_C_stepsInto, ret_bl]
  refine ret_mono (P := Fst1 A (itr f r)) ?_ (fun x hx => by rw [ret_some]; exact hx)
  refine loop_inv (I := fun k s => s.1 = jn (itr f r k) ∧ s.2 = jn k ∧ ∀ j, j < k → ¬ A.testBit (itr f r j) = true) N ⟨rfl, rfl, fun j hj => absurd hj (Nat.not_lt_zero j)⟩ (fun k s hk hi => ?_) (fun s hi => ?_)
  · obtain ⟨a, i⟩ := s
    obtain ⟨i0, i1, i2⟩ := hi
    simp only at i0 i1 i2
    subst i0 i1
    have h1 := hlt k
    have e := (hf _ h1).2
    by_cases hz : A.testBit (itr f r k) = true
    · simp (disch := omega) only [B_C_stepsInto_6, ↓bi_eq, ↓bw_eq, gd_pos, br_pos, br_neg, br_T, br_F, gd_T, bq_some, bd_some, bv_some, bl_some, bx_inl, bx_inr, bn_none, bn_some, bt_inl, bt_inr, not_true_eq_false, not_false_eq_true, eq_self, Bool.false_eq_true, if_true, if_false, jn_clamp, jn_lt, jn_le, jn_inj, jn_add, jn_sub, jn_mul, jn_vp, jn_0a, jn_1a, jn_1b, jn_1s, jn_1m, jn_neg0, jn_le0, jn_0le, jn_0lt, jn_1le, jn_le1, jn_lt1, jn_1lt, jn_e0, jn_e1, jn_em, ↓qB_f, ↓qT_f, cl_0, cl_1, vp_0, vp_1, e0, qT_0, hz, (by decide : (true = false) = False), ret_some, LQ_inr]
      exact ⟨k, by omega, rfl, hz, i2⟩
    · have hz' := Bool.eq_false_iff.mpr hz
      simp (disch := omega) only [B_C_stepsInto_6, ↓bi_eq, ↓bw_eq, gd_pos, br_pos, br_neg, br_T, br_F, gd_T, bq_some, bd_some, bv_some, bl_some, bx_inl, bx_inr, bn_none, bn_some, bt_inl, bt_inr, not_true_eq_false, not_false_eq_true, eq_self, Bool.false_eq_true, if_true, if_false, jn_clamp, jn_lt, jn_le, jn_inj, jn_add, jn_sub, jn_mul, jn_vp, jn_0a, jn_1a, jn_1b, jn_1s, jn_1m, jn_neg0, jn_le0, jn_0le, jn_0lt, jn_1le, jn_le1, jn_lt1, jn_1lt, jn_e0, jn_e1, jn_em, ↓qB_f, ↓qT_f, cl_0, cl_1, vp_0, vp_1, e0, e, qT_0, hz', ret_some, LQ_inl]
      refine ⟨rfl, trivial, fun j hj => ?_⟩
      by_cases hjk : j = k
      · rw [hjk]; exact hz
      · exact i2 j (by omega)
  · obtain ⟨a, i⟩ := s
    obtain ⟨i0, i1, i2⟩ := hi
    simp only at i0 i1 i2
    subst i0 i1
    simp (disch := omega) only [B_C_stepsInto_6, ↓bi_eq, ↓bw_eq, gd_pos, br_pos, br_neg, br_T, br_F, gd_T, bq_some, bd_some, bv_some, bl_some, bx_inl, bx_inr, bn_none, bn_some, bt_inl, bt_inr, not_true_eq_false, not_false_eq_true, eq_self, Bool.false_eq_true, if_true, if_false, jn_clamp, jn_lt, jn_le, jn_inj, jn_add, jn_sub, jn_mul, jn_vp, jn_0a, jn_1a, jn_1b, jn_1s, jn_1m, jn_neg0, jn_le0, jn_0le, jn_0lt, jn_1le, jn_le1, jn_lt1, jn_1lt, jn_e0, jn_e1, jn_em, ↓qB_f, ↓qT_f, cl_0, cl_1, vp_0, vp_1, e0, br_pos (Nat.le_refl N), ret_some, LQ_inr]
    exact ⟨N, hN, rfl, hin, i2⟩
theorem q_ring {w : Wld} {h : Hs} (r : RelH w h) (a1 a2 a3 : Int32) : BothQ cdN w h (F_C_ring w a1 a2 a3) (fun w1 => F_M_ring w1 a1 a2 a3) := by
  have hh := r.1
  have hc := r.2.1
  have hN := hh.1
  have hg := r.2.2.2.1.1
  rcases idx_cases a1 (hsN h) (by omega) with ⟨m, hm, rfl⟩ | ⟨n1, n2⟩
  rotate_left
  · refine q_bad 0 1 ?_ (fun w1 r1 => ?_) rfl
    · rw [F_C_ring, t_needRoom_n hc.1 n1, bn_some]
    · simp only [F_M_ring, bw_eq, t_isRoom_n (m_ent r1).1.1 n2, bp_some, eq_self, br_T, K_M_ring_22, t_fail, bd_some]
  have y1 := t_needRoom_y hc.1 (by omega) hm
  rcases rng_cases a3 0 1 (by omega) (by omega) with ⟨k3, -, h3, rfl⟩ | ⟨n1, n2⟩
  rotate_left
  · refine q_bad 0 1 ?_ (fun w1 r1 => ?_) rfl
    · rw [F_C_ring, y1, bn_none, jn_11, t_what_n w n1, bn_some]
    · have n2 : ¬ ((0 : Int32) ≤ a3 ∧ a3 ≤ 1) := n2
      simp only [F_M_ring, bw_eq, t_isRoom_y (m_ent r1).1.1 (show hsN h < 100 by omega) hm, bp_some, br_F, (by decide : ((1 : Int32) = 0) = False), K_M_ring_22, t_fail, bd_some]
      by_cases h1 : a3 < 0
      · rw [br_pos h1]
      · rw [br_neg h1, br_neg (fun z => n2 ⟨Int32.not_lt.mp h1, z⟩)]
  have hk0 : ¬ (jn k3 : Int32) < 0 := by rw [jn_neg0 (by omega)]; exact id
  have hk1 : (jn k3 : Int32) ≤ 1 := by rw [jn_le1 (by omega)]; exact h3
  have hD : ∃ D, D ≤ 41 ∧ (a2 = 0 → D = 32) ∧ (¬ a2 = 0 → D = 41) := by
    by_cases z : a2 = 0
    · exact ⟨32, by omega, fun _ => rfl, fun n => absurd z n⟩
    · exact ⟨41, by omega, fun n => absurd n z, fun _ => rfl⟩
  obtain ⟨D, hD, hD1, hD2⟩ := hD
  have hf : ∀ x, x < hsN h → (w 66 (D + x)).toNatClampNeg < hsN h ∧ w 66 (D + x) = jn (w 66 (D + x)).toNatClampNeg := by
    intro x hx
    by_cases z : a2 = 0
    · rw [hD1 z]
      obtain ⟨y, hy, ey⟩ := hg.2.1 x hx
      rw [ey, jn_clamp (by omega)]; exact ⟨hy, rfl⟩
    · rw [hD2 z]
      obtain ⟨y, hy, ey⟩ := hg.2.2.1 x hx
      rw [ey, jn_clamp (by omega)]; exact ⟨hy, rfl⟩
  have hby : ∀ w1, MSt w1 h (w 66) → ∀ x, x < hsN h → F_M_by w1 (jn x) a2 = some (jn (w 66 (D + x)).toNatClampNeg) := by
    intro w1 s1 x hx
    obtain ⟨b0, b1⟩ := s1.2.1 x hx
    have e := (hf x hx).2
    by_cases z : a2 = 0
    · rw [← e, hD1 z]
      simp (disch := omega) only [F_M_by, K_M_by_19, ↓bi_eq, ↓bw_eq, gd_pos, br_pos, br_neg, br_T, br_F, gd_T, bq_some, bd_some, bv_some, bl_some, bx_inl, bx_inr, bn_none, bn_some, bt_inl, bt_inr, not_true_eq_false, not_false_eq_true, eq_self, Bool.false_eq_true, if_true, if_false, jn_clamp, jn_lt, jn_le, jn_inj, jn_add, jn_sub, jn_mul, jn_vp, jn_0a, jn_1a, jn_1b, jn_1s, jn_1m, jn_neg0, jn_le0, jn_0le, jn_0lt, jn_1le, jn_le1, jn_lt1, jn_1lt, jn_e0, jn_e1, jn_em, ↓qB_f, ↓qT_f, cl_0, cl_1, vp_0, vp_1, z, b0]
    · rw [← e, hD2 z]
      simp (disch := omega) only [F_M_by, K_M_by_19, ↓bi_eq, ↓bw_eq, gd_pos, br_pos, br_neg, br_T, br_F, gd_T, bq_some, bd_some, bv_some, bl_some, bx_inl, bx_inr, bn_none, bn_some, bt_inl, bt_inr, not_true_eq_false, not_false_eq_true, eq_self, Bool.false_eq_true, if_true, if_false, jn_clamp, jn_lt, jn_le, jn_inj, jn_add, jn_sub, jn_mul, jn_vp, jn_0a, jn_1a, jn_1b, jn_1s, jn_1m, jn_neg0, jn_le0, jn_0le, jn_0lt, jn_1le, jn_le1, jn_lt1, jn_1lt, jn_e0, jn_e1, jn_em, ↓qB_f, ↓qT_f, cl_0, cl_1, vp_0, vp_1, z, b1]
  have hC0 : F_C_ring w (jn m) a2 (jn k3) = K_C_ring_21 (jn m) (jn k3) (jn D) w := by
    rw [F_C_ring, y1, bn_none, show F_C_needWhat w (jn k3) 1 = some none from t_what_y w (b := 1) (by omega) h3, bn_none]
    by_cases z : a2 = 0
    · rw [br_pos z, hD1 z]; rfl
    · rw [br_neg z, hD2 z]; rfl
  generalize hF : (fun x => (w 66 (D + x)).toNatClampNeg) = f
  have hf : ∀ x, x < hsN h → f x < hsN h ∧ w 66 (D + x) = jn (f x) := by rw [← hF]; exact hf
  have hby : ∀ w1, MSt w1 h (w 66) → ∀ x, x < hsN h → F_M_by w1 (jn x) a2 = some (jn (f x)) := by rw [← hF]; exact hby
  clear hF
  have hf1 : ∀ x, x < hsN h → f x < hsN h := fun x hx => (hf x hx).1
  have hlt := itr_lt hf1 hm
  have hA : bsS (fun u => itr f m (hsN h + u)) (hsN h) < 512 := bsS_lt (fun u => by have := hlt (hsN h + u); omega) _
  have hin := ring_in (f := f) hm
  have crb := c_ringBits hc.1 hN hD hf hm
  obtain ⟨sv, es, fs⟩ := c_into (A := bsS (fun u => itr f m (hsN h + u)) (hsN h)) hc.1 hN hD hf hm hA hin
  refine ⟨.inr (some (if k3 = 0 then jn (pcn (bsS (fun u => itr f m (hsN h + u)) (hsN h))) else sv)), ?_, fun w1 r1 e66 => ?_⟩
  · rw [hC0, K_C_ring_21, crb, bp_some]
    have hb : k3 = 0 ∨ k3 = 1 := by omega
    rcases hb with rfl | rfl
    · rw [br_neg (fun z => z rfl), t_bitCount w hA, bp_some, K_C_ring_53, ret_some, if_pos rfl]
      exact ⟨rfl, frm_rf⟩
    · rw [br_pos (by decide), es, bp_some, K_C_ring_53, ret_some, if_neg (by decide)]
      exact ⟨rfl, frm_rf⟩
  · obtain ⟨z1, z2, z3, z4⟩ := m_ent r1
    rw [e66] at z2
    obtain ⟨u1, u2⟩ := q_ans r1 e66 z3 z2
    show Ret (F_M_ring w1 (jn m) a2 (jn k3)) _
    rw [F_M_ring, bw_eq, t_isRoom_y z1.1 (by omega) hm, bp_some, br_neg (by decide), br_neg hk0, br_pos hk1]
    have hby := hby _ z2
    generalize wup w1 0 2 0 = wa at z1 z2 z3 z4 u1 u2 hby ⊢
    have k1 : loop (B_M_ring_34 (jn m) a2 (jn k3) wa) (jn m, 0) = some (jn (itr f m 9)) := by
      refine loop_for (V := fun k => (jn (itr f m k), jn k)) 9 (fun k hk => ?_) ?_
      · have h1 := hlt k
        simp (disch := omega) only [B_M_ring_34, ↓bi_eq, ↓bw_eq, gd_pos, br_pos, br_neg, br_T, br_F, gd_T, bq_some, bd_some, bv_some, bl_some, bx_inl, bx_inr, bn_none, bn_some, bt_inl, bt_inr, not_true_eq_false, not_false_eq_true, eq_self, Bool.false_eq_true, if_true, if_false, jn_clamp, jn_lt, jn_le, jn_inj, jn_add, jn_sub, jn_mul, jn_vp, jn_0a, jn_1a, jn_1b, jn_1s, jn_1m, jn_neg0, jn_le0, jn_0le, jn_0lt, jn_1le, jn_le1, jn_lt1, jn_1lt, jn_e0, jn_e1, jn_em, ↓qB_f, ↓qT_f, cl_0, cl_1, vp_0, vp_1, li_9, hby _ h1, itr_s]
      · simp (disch := omega) only [B_M_ring_34, ↓bi_eq, ↓bw_eq, gd_pos, br_pos, br_neg, br_T, br_F, gd_T, bq_some, bd_some, bv_some, bl_some, bx_inl, bx_inr, bn_none, bn_some, bt_inl, bt_inr, not_true_eq_false, not_false_eq_true, eq_self, Bool.false_eq_true, if_true, if_false, jn_clamp, jn_lt, jn_le, jn_inj, jn_add, jn_sub, jn_mul, jn_vp, jn_0a, jn_1a, jn_1b, jn_1s, jn_1m, jn_neg0, jn_le0, jn_0le, jn_0lt, jn_1le, jn_le1, jn_lt1, jn_1lt, jn_e0, jn_e1, jn_em, ↓qB_f, ↓qT_f, cl_0, cl_1, vp_0, vp_1, li_9, br_pos (Nat.le_refl 9)]
    have hl9 : ∀ t, bsS (fun u => itr f m (9 + u)) t < 512 := fun t => bsS_lt (fun u => by have := hlt (9 + u); omega) t
    have k2 : Ret (loop (B_M_ring_59 (jn m) a2 (jn k3) wa) (jn (itr f m 9), 0)) (fun x => x = jn (bsS (fun u => itr f m (hsN h + u)) (hsN h))) := by
      refine loop_ms (I := fun n s => ∃ t, s.1 = jn (itr f m (9 + t)) ∧ s.2 = jn (bsS (fun u => itr f m (9 + u)) t) ∧ n = 512 - bsS (fun u => itr f m (9 + u)) t) (n := 512) ⟨0, rfl, rfl, rfl⟩ (fun n s hi => ?_)
      obtain ⟨a, b⟩ := s
      obtain ⟨t, i0, i1, i2⟩ := hi
      simp only at i0 i1 i2
      subst i0 i1
      have h1 := hlt (9 + t)
      have hb := hl9 t
      by_cases hz : (bsS (fun u => itr f m (9 + u)) t).testBit (itr f m (9 + t)) = true
      · simp (disch := omega) only [B_M_ring_59, ↓bi_eq, ↓bw_eq, gd_pos, br_pos, br_neg, br_T, br_F, gd_T, bq_some, bd_some, bv_some, bl_some, bx_inl, bx_inr, bn_none, bn_some, bt_inl, bt_inr, not_true_eq_false, not_false_eq_true, eq_self, Bool.false_eq_true, if_true, if_false, jn_clamp, jn_lt, jn_le, jn_inj, jn_add, jn_sub, jn_mul, jn_vp, jn_0a, jn_1a, jn_1b, jn_1s, jn_1m, jn_neg0, jn_le0, jn_0le, jn_0lt, jn_1le, jn_le1, jn_lt1, jn_1lt, jn_e0, jn_e1, jn_em, ↓qB_f, ↓qT_f, cl_0, cl_1, vp_0, vp_1, t_isOf, hz, (by decide : ((1 : Int32) = 0) = False), ret_some, LQ_inr]
        rw [ring_same hf1 hm hN hz]
      · have hgr := or_grow hz
        have hb2 := hl9 (t + 1)
        simp (disch := omega) only [B_M_ring_59, ↓bi_eq, ↓bw_eq, gd_pos, br_pos, br_neg, br_T, br_F, gd_T, bq_some, bd_some, bv_some, bl_some, bx_inl, bx_inr, bn_none, bn_some, bt_inl, bt_inr, not_true_eq_false, not_false_eq_true, eq_self, Bool.false_eq_true, if_true, if_false, jn_clamp, jn_lt, jn_le, jn_inj, jn_add, jn_sub, jn_mul, jn_vp, jn_0a, jn_1a, jn_1b, jn_1s, jn_1m, jn_neg0, jn_le0, jn_0le, jn_0lt, jn_1le, jn_le1, jn_lt1, jn_1lt, jn_e0, jn_e1, jn_em, ↓qB_f, ↓qT_f, cl_0, cl_1, vp_0, vp_1, t_isOf, hz, hby _ h1, qB_jn, jn_or, ret_some, LQ_inl]
        refine ⟨_, ?_, t + 1, rfl, rfl, rfl⟩
        rw [bsS_s, i2]
        rw [bsS_s] at hb2
        omega
    rw [k1, bl_some, ret_of k2, bl_some]
    have hb : k3 = 0 ∨ k3 = 1 := by omega
    rcases hb with rfl | rfl
    · rw [br_neg (fun z => z rfl), t_bitsOf wa hA, bp_some, ret_some, if_pos rfl]
      exact ⟨⟨z4, rfl⟩, u1, u2⟩
    · rw [br_pos (by decide), ret_bl, if_neg (by decide)]
      generalize bsS (fun u => itr f m (hsN h + u)) (hsN h) = A at hA hin fs ⊢
      refine ret_mono (P := Fst1 A (itr f m)) ?_ (fun x hx => ?_)
      · refine loop_inv (I := fun k s => s.1 = jn k ∧ s.2 = jn (itr f m k) ∧ ∀ j, j < k → ¬ A.testBit (itr f m j) = true) (hsN h) ⟨rfl, rfl, fun j hj => absurd hj (Nat.not_lt_zero j)⟩ (fun k s hk hi => ?_) (fun s hi => ?_)
        · obtain ⟨i, a⟩ := s
          obtain ⟨i0, i1, i2⟩ := hi
          simp only at i0 i1 i2
          subst i0 i1
          have h1 := hlt k
          by_cases hz : A.testBit (itr f m k) = true
          · simp (disch := omega) only [B_M_ring_106, ↓bi_eq, ↓bw_eq, gd_pos, br_pos, br_neg, br_T, br_F, gd_T, bq_some, bd_some, bv_some, bl_some, bx_inl, bx_inr, bn_none, bn_some, bt_inl, bt_inr, not_true_eq_false, not_false_eq_true, eq_self, Bool.false_eq_true, if_true, if_false, jn_clamp, jn_lt, jn_le, jn_inj, jn_add, jn_sub, jn_mul, jn_vp, jn_0a, jn_1a, jn_1b, jn_1s, jn_1m, jn_neg0, jn_le0, jn_0le, jn_0lt, jn_1le, jn_le1, jn_lt1, jn_1lt, jn_e0, jn_e1, jn_em, ↓qB_f, ↓qT_f, cl_0, cl_1, vp_0, vp_1, t_isOf, hz, (by decide : ((1 : Int32) = 0) = False), ret_some, LQ_inr]
            exact ⟨k, by omega, rfl, hz, i2⟩
          · simp (disch := omega) only [B_M_ring_106, ↓bi_eq, ↓bw_eq, gd_pos, br_pos, br_neg, br_T, br_F, gd_T, bq_some, bd_some, bv_some, bl_some, bx_inl, bx_inr, bn_none, bn_some, bt_inl, bt_inr, not_true_eq_false, not_false_eq_true, eq_self, Bool.false_eq_true, if_true, if_false, jn_clamp, jn_lt, jn_le, jn_inj, jn_add, jn_sub, jn_mul, jn_vp, jn_0a, jn_1a, jn_1b, jn_1s, jn_1m, jn_neg0, jn_le0, jn_0le, jn_0lt, jn_1le, jn_le1, jn_lt1, jn_1lt, jn_e0, jn_e1, jn_em, ↓qB_f, ↓qT_f, cl_0, cl_1, vp_0, vp_1, t_isOf, hz, hby _ h1, ret_some, LQ_inl]
            refine ⟨trivial, rfl, fun j hj => ?_⟩
            by_cases hjk : j = k
            · rw [hjk]; exact hz
            · exact i2 j (by omega)
        · obtain ⟨i, a⟩ := s
          obtain ⟨i0, i1, i2⟩ := hi
          simp only at i0 i1 i2
          subst i0 i1
          have h1 := hlt (hsN h)
          simp (disch := omega) only [B_M_ring_106, ↓bi_eq, ↓bw_eq, gd_pos, br_pos, br_neg, br_T, br_F, gd_T, bq_some, bd_some, bv_some, bl_some, bx_inl, bx_inr, bn_none, bn_some, bt_inl, bt_inr, not_true_eq_false, not_false_eq_true, eq_self, Bool.false_eq_true, if_true, if_false, jn_clamp, jn_lt, jn_le, jn_inj, jn_add, jn_sub, jn_mul, jn_vp, jn_0a, jn_1a, jn_1b, jn_1s, jn_1m, jn_neg0, jn_le0, jn_0le, jn_0lt, jn_1le, jn_le1, jn_lt1, jn_1lt, jn_e0, jn_e1, jn_em, ↓qB_f, ↓qT_f, cl_0, cl_1, vp_0, vp_1, t_isOf, hin, (by decide : ((1 : Int32) = 0) = False), ret_some, LQ_inr]
          exact ⟨hsN h, hN, rfl, hin, i2⟩
      · rw [ret_some]
        exact ⟨⟨z4, Fst1_u hx fs⟩, u1, u2⟩
