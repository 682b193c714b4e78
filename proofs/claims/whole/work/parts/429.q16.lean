/-! ===== questions: leastFish, the end ===== -/
theorem sVoiJ_bit {h : Hs} (p : Nat → Bool) {m n : Nat} (hm : m < n) (hp : p m = true) : (sVoiJ h p n).testBit (hsO h m).toNatClampNeg = true := by
  induction n with
  | zero => omega
  | succ n ih =>
    show (if p n = true then sVoiJ h p n ||| 2 ^ (hsO h n).toNatClampNeg else sVoiJ h p n).testBit _ = true
    by_cases e : m = n
    · subst e
      rw [if_pos hp, Nat.testBit_or, Nat.testBit_two_pow]
      simp
    · have := ih (by omega)
      split
      · rw [Nat.testBit_or, this]; rfl
      · exact this
theorem eat_voice {h : Hs} {c : Sta} {v : Nat} (hv : v < 4) (hz : ¬ (sAllV h).testBit v = true) : eat h c v = none := by
  cases he : eat h c v with
  | none => rfl
  | some p =>
    obtain ⟨a, b, _⟩ := eat_ok he
    have := sVoiJ_bit (h := h) (fun _ => true) a rfl
    rw [b, jn_clamp (by omega)] at this
    exact absurd this hz
/-- of the first voices: all together, of a monk, whether it can be -/
def ltV (a : Option (Nat × Nat)) : Nat := match a with
  | none => 0
  | some p => p.2
def ltM (k : Nat) (a : Option (Nat × Nat)) : Nat := match a with
  | none => 0
  | some p => if p.1 = k then p.2 else 0
def totN (h : Hs) (c : Sta) : Nat → Nat := fl (fun v a => a + ltV (eat h c v)) 0
def shrN (h : Hs) (c : Sta) (k : Nat) : Nat → Nat := fl (fun v a => a + ltM k (eat h c v)) 0
def canN (h : Hs) (c : Sta) : Nat → Bool := fl (fun v a => a && ((eat h c v).isSome || !(sAllV h).testBit v)) true
theorem totN_s (h : Hs) (c : Sta) (v : Nat) : totN h c (v + 1) = totN h c v + ltV (eat h c v) := rfl
theorem shrN_s (h : Hs) (c : Sta) (k v : Nat) : shrN h c k (v + 1) = shrN h c k v + ltM k (eat h c v) := rfl
theorem canN_s (h : Hs) (c : Sta) (v : Nat) : canN h c (v + 1) = (canN h c v && ((eat h c v).isSome || !(sAllV h).testBit v)) := rfl
theorem canN_f {h : Hs} {c : Sta} {k : Nat} (e : canN h c k = false) : ∀ j, k ≤ j → canN h c j = false := by
  intro j
  induction j with
  | zero => intro hj; rw [show (0 : Nat) = k by omega]; exact e
  | succ j ih =>
    intro hj
    by_cases hi : k = j + 1
    · rw [← hi]; exact e
    · rw [canN_s, ih (by omega)]; rfl
theorem ltV_le {h : Hs} {c : Sta} (v : Nat) : ltV (eat h c v) ≤ 9 := by
  cases he : eat h c v with
  | none => exact Nat.zero_le _
  | some p => have := frT_le (eat_ok he).2.2; show p.2 ≤ 9; omega
theorem ltM_le {h : Hs} {c : Sta} (k v : Nat) : ltM k (eat h c v) ≤ 9 := by
  cases he : eat h c v with
  | none => exact Nat.zero_le _
  | some p =>
    have := frT_le (eat_ok he).2.2
    show (if p.1 = k then p.2 else 0) ≤ 9
    split <;> omega
theorem totN_le (h : Hs) (c : Sta) (v : Nat) : totN h c v ≤ 9 * v := by
  induction v with
  | zero => exact Nat.le_refl _
  | succ v ih => rw [totN_s]; have := ltV_le (h := h) (c := c) v; omega
theorem shrN_le (h : Hs) (c : Sta) (k v : Nat) : shrN h c k v ≤ 9 * v := by
  induction v with
  | zero => exact Nat.le_refl _
  | succ v ih => rw [shrN_s]; have := ltM_le (h := h) (c := c) k v; omega
theorem c_least {w : Wld} {h : Hs} (hc : CHs w h) (hh : GdH h) (hg : GdS h (w 66)) (a1 : Int32) (k : Nat) (hk : ∀ m, m < 8 → (jn m = a1 ↔ m = k)) : Ret (K_C_leastFish_10 a1 w) (fun q => q.1 = .inr (some (if canN h (w 66) 4 = true then (if a1 = -1 then jn (totN h (w 66) 4) else jn (shrN h (w 66) k 4)) else -1)) ∧ Frm [61, 62, 85] [] w q.2) := by
  have hM := hh.2.1
  have hA := sVoi_lt hh (fun _ => true)
  have hA : sAllV h < 16 := hA
  rw [K_C_leastFish_10, t_voices hc hh, bp_some, ret_bx]
  refine loop_inv (I := fun v s => s.1 = jn (totN h (w 66) v) ∧ s.2.1 = jn (shrN h (w 66) k v) ∧ s.2.2.1 = jn v ∧ Frm [61, 62, 85] [] w s.2.2.2 ∧ canN h (w 66) v = true) 4 ⟨rfl, rfl, rfl, frm_rf, rfl⟩ (fun v s hv hi => ?_) (fun s hi => ?_)
  · obtain ⟨t, u, i, w1⟩ := s
    obtain ⟨i0, i1, i2, i3, i4⟩ := hi
    simp only at i0 i1 i2 i3 i4
    subst i0 i1 i2
    have e66 : w1 66 = w 66 := frm_cell i3 66 (fun _ => rfl)
    by_cases hz : (sAllV h).testBit v = true
    · simp (disch := omega) only [B_C_leastFish_26, ↓bi_eq, ↓bw_eq, gd_pos, br_pos, br_neg, br_T, br_F, gd_T, bq_some, bd_some, bv_some, bl_some, bx_inl, bx_inr, bn_none, bn_some, bt_inl, bt_inr, not_true_eq_false, not_false_eq_true, eq_self, Bool.false_eq_true, if_true, if_false, jn_clamp, jn_lt, jn_le, jn_inj, jn_add, jn_sub, jn_mul, jn_vp, jn_0a, jn_1a, jn_1b, jn_1s, jn_1m, jn_neg0, jn_le0, jn_0le, jn_0lt, jn_1le, jn_le1, jn_lt1, jn_1lt, jn_e0, jn_e1, jn_em, ↓qB_f, ↓qT_f, cl_0, cl_1, vp_0, vp_1, li_4, qT_1, hz, ret_bd]
      refine ret_mono (c_cheap (CHs_fr hc i3 ⟨rfl, rfl, rfl, rfl, fun _ => rfl, fun _ => rfl, rfl, fun _ => rfl⟩) hh (by rw [e66]; exact hg) hv) (fun q hq => ?_)
      obtain ⟨r, w2⟩ := q
      obtain ⟨p1, p2⟩ := hq
      simp only at p1 p2
      rw [e66] at p1
      have f2 := frm_tr i3 p2
      cases he : eat h (w 66) v with
      | none =>
        rw [he] at p1
        have p1 : r = -1 := p1
        subst p1
        have hf : canN h (w 66) 4 = false := canN_f (k := v + 1) (by rw [canN_s, he, hz]; simp) 4 (by omega)
        simp only [not_true_eq_false, eq_self, br_F, ret_some, LQ_inr, hf, if_false, Bool.false_eq_true, true_and]
        exact f2
      | some p =>
        obtain ⟨o1, o2, o3⟩ := eat_ok he
        have o4 := frT_le o3
        rw [he] at p1
        have p1 : r = jn p.1 := p1
        subst p1
        have e66' : w2 66 = w 66 := frm_cell f2 66 (fun _ => rfl)
        have hne : ¬ jn p.1 = -1 := by rw [jn_em (by omega)]; exact id
        rw [br_pos hne, ret_bd]
        refine ret_mono (c_rise (CHs_fr hc f2 ⟨rfl, rfl, rfl, rfl, fun _ => rfl, fun _ => rfl, rfl, fun _ => rfl⟩) hh (by rw [e66']; exact hg) o1) (fun q hq => ?_)
        obtain ⟨r, w3⟩ := q
        obtain ⟨x1, x2⟩ := hq
        simp only at x1 x2
        rw [e66', o3] at x1
        have x1 : r = jn p.2 := x1
        subst x1
        have f3 := frm_tr f2 x2
        have hcn : canN h (w 66) (v + 1) = true := by rw [canN_s, i4, he]; rfl
        have hl1 : ltV (eat h (w 66) v) = p.2 := by rw [he]; rfl
        have hl2 : ltM k (eat h (w 66) v) = if p.1 = k then p.2 else 0 := by rw [he]; rfl
        rw [totN_s, shrN_s, hl1, hl2]
        have hkk := hk p.1 (by omega)
        by_cases hp : p.1 = k
        · subst hp
          have hp' : jn p.1 = a1 := hkk.mpr rfl
          simp only [bi_eq, hp', not_true_eq_false, eq_self, br_F, K_C_leastFish_85, K_C_leastFish_87, jn_add, jn_1a, ret_some, LQ_inl, if_true]
          exact ⟨trivial, trivial, trivial, f3, hcn⟩
        · have hp' : ¬ jn p.1 = a1 := fun z => hp (hkk.mp z)
          simp only [bi_eq, hp', not_false_eq_true, br_T, K_C_leastFish_85, K_C_leastFish_87, jn_add, jn_1a, ret_some, LQ_inl, hp, if_false, Int32.add_zero, Nat.add_zero]
          exact ⟨trivial, trivial, trivial, f3, hcn⟩
    · have he := eat_voice (c := w 66) hv hz
      have hcn : canN h (w 66) (v + 1) = true := by rw [canN_s, i4, Bool.eq_false_iff.mpr hz]; simp
      have hl1 : ltV (eat h (w 66) v) = 0 := by rw [he]; rfl
      have hl2 : ltM k (eat h (w 66) v) = 0 := by rw [he]; rfl
      rw [totN_s, shrN_s, hl1, hl2, Nat.add_zero, Nat.add_zero]
      simp (disch := omega) only [B_C_leastFish_26, K_C_leastFish_87, ↓bi_eq, ↓bw_eq, gd_pos, br_pos, br_neg, br_T, br_F, gd_T, bq_some, bd_some, bv_some, bl_some, bx_inl, bx_inr, bn_none, bn_some, bt_inl, bt_inr, not_true_eq_false, not_false_eq_true, eq_self, Bool.false_eq_true, if_true, if_false, jn_clamp, jn_lt, jn_le, jn_inj, jn_add, jn_sub, jn_mul, jn_vp, jn_0a, jn_1a, jn_1b, jn_1s, jn_1m, jn_neg0, jn_le0, jn_0le, jn_0lt, jn_1le, jn_le1, jn_lt1, jn_1lt, jn_e0, jn_e1, jn_em, ↓qB_f, ↓qT_f, cl_0, cl_1, vp_0, vp_1, li_4, qT_1, hz, ret_some, LQ_inl]
      exact ⟨trivial, trivial, trivial, i3, hcn⟩
  · obtain ⟨t, u, i, w1⟩ := s
    obtain ⟨i0, i1, i2, i3, i4⟩ := hi
    simp only at i0 i1 i2 i3 i4
    subst i0 i1 i2
    rw [i4]
    by_cases h9 : a1 = -1
    · subst h9
      simp (disch := omega) only [B_C_leastFish_26, K_C_leastFish_103, ↓bi_eq, ↓bw_eq, gd_pos, br_pos, br_neg, br_T, br_F, gd_T, bq_some, bd_some, bv_some, bl_some, bx_inl, bx_inr, bn_none, bn_some, bt_inl, bt_inr, not_true_eq_false, not_false_eq_true, eq_self, Bool.false_eq_true, if_true, if_false, jn_clamp, jn_lt, jn_le, jn_inj, jn_add, jn_sub, jn_mul, jn_vp, jn_0a, jn_1a, jn_1b, jn_1s, jn_1m, jn_neg0, jn_le0, jn_0le, jn_0lt, jn_1le, jn_le1, jn_lt1, jn_1lt, jn_e0, jn_e1, jn_em, ↓qB_f, ↓qT_f, cl_0, cl_1, vp_0, vp_1, li_4, br_pos (Nat.le_refl 4), ret_some, LQ_inr, LQ_inl, true_and]
      exact i3
    · simp (disch := omega) only [B_C_leastFish_26, K_C_leastFish_103, ↓bi_eq, ↓bw_eq, gd_pos, br_pos, br_neg, br_T, br_F, gd_T, bq_some, bd_some, bv_some, bl_some, bx_inl, bx_inr, bn_none, bn_some, bt_inl, bt_inr, not_true_eq_false, not_false_eq_true, eq_self, Bool.false_eq_true, if_true, if_false, jn_clamp, jn_lt, jn_le, jn_inj, jn_add, jn_sub, jn_mul, jn_vp, jn_0a, jn_1a, jn_1b, jn_1s, jn_1m, jn_neg0, jn_le0, jn_0le, jn_0lt, jn_1le, jn_le1, jn_lt1, jn_1lt, jn_e0, jn_e1, jn_em, ↓qB_f, ↓qT_f, cl_0, cl_1, vp_0, vp_1, li_4, br_pos (Nat.le_refl 4), h9, ret_some, LQ_inr, LQ_inl, true_and]
      exact i3
/-! the model's row of shares -/
def gtN (h : Hs) (c : Sta) : Nat → Nat → Nat := fl (fun v g => match eat h c v with
  | none => g
  | some p => fun m => if m = p.1 then p.2 else g m) (fun _ => 0)
theorem gtN_s (h : Hs) (c : Sta) (v : Nat) : gtN h c (v + 1) = match eat h c v with
  | none => gtN h c v
  | some p => fun m => if m = p.1 then p.2 else gtN h c v m := rfl
theorem gtN_0 {h : Hs} {c : Sta} (m : Nat) : ∀ v, v ≤ 4 → (∀ u, u < v → hsO h m ≠ jn u) → gtN h c v m = 0 := by
  intro v
  induction v with
  | zero => intro _ _; rfl
  | succ v ih =>
    intro hv hu
    have i0 := ih (by omega) (fun u h9 => hu u (by omega))
    rw [gtN_s]
    cases he : eat h c v with
    | none => exact i0
    | some p =>
      simp only
      have := (eat_ok he).2.1
      rw [if_neg (fun z => hu v (by omega) (by rw [z]; exact this))]
      exact i0
theorem gtN_new {h : Hs} {c : Sta} {v : Nat} (hv : v < 4) {p : Nat × Nat} (he : eat h c v = some p) : gtN h c v p.1 = 0 := by
  refine gtN_0 p.1 v (by omega) (fun u hu z => ?_)
  have := (eat_ok he).2.1
  rw [this, jn_inj (by omega) (by omega)] at z
  omega
theorem gtN_sh (h : Hs) (c : Sta) (k : Nat) : ∀ v, v ≤ 4 → gtN h c v k = shrN h c k v := by
  intro v
  induction v with
  | zero => intro _; rfl
  | succ v ih =>
    intro hv
    rw [gtN_s, shrN_s, ← ih (by omega)]
    cases he : eat h c v with
    | none => rfl
    | some p =>
      simp only [ltM]
      by_cases hk : k = p.1
      · rw [if_pos hk, if_pos hk.symm, hk, gtN_new (by omega) he, Nat.zero_add]
      · rw [if_neg hk, if_neg (fun z => hk z.symm), Nat.add_zero]
def smN (g : Nat → Nat) : Nat → Nat := fl (fun m a => a + g m) 0
theorem smN_s (g : Nat → Nat) (m : Nat) : smN g (m + 1) = smN g m + g m := rfl
theorem smN_0 (m : Nat) : smN (fun _ => 0) m = 0 := by
  induction m with
  | zero => rfl
  | succ m ih => rw [smN_s, ih]
theorem smN_up (g : Nat → Nat) (b l : Nat) (hb : g b = 0) (n : Nat) : smN (fun m => if m = b then l else g m) n = smN g n + (if b < n then l else 0) := by
  induction n with
  | zero => rfl
  | succ n ih =>
    rw [smN_s, smN_s, ih]
    by_cases h1 : n = b
    · subst h1
      rw [if_pos rfl, if_neg (by omega), if_pos (by omega), hb]
    · rw [if_neg h1]
      by_cases h2 : b < n
      · rw [if_pos h2, if_pos (by omega)]; omega
      · rw [if_neg h2, if_neg (by omega)]; omega
theorem smN_tot (h : Hs) (c : Sta) : ∀ v, v ≤ 4 → smN (gtN h c v) (hsM h) = totN h c v := by
  intro v
  induction v with
  | zero => intro _; exact smN_0 _
  | succ v ih =>
    intro hv
    rw [gtN_s, totN_s, ← ih (by omega)]
    cases he : eat h c v with
    | none => rfl
    | some p =>
      simp only [ltV]
      rw [smN_up _ _ _ (gtN_new (by omega) he), if_pos (eat_ok he).1]
theorem gtN_le (h : Hs) (c : Sta) (m : Nat) : gtN h c 4 m ≤ 36 := by rw [gtN_sh h c m 4 (by omega)]; exact shrN_le h c m 4
theorem m_shares {w : Wld} {h : Hs} {c : Sta} (hw : MHs w h) (hs : MSt w h c) (hh : GdH h) (hg : GdS h c) : Ret (F_M_shares w) (fun q => q.1 = (if canN h c 4 = true then 1 else 0) ∧ Frm [15, 21, 22, 27] [] w q.2 ∧ MSt q.2 h c ∧ ∀ m, m < hsM h → q.2 27 m = jn (gtN h c 4 m)) := by
  have hM := hh.2.1
  have hA := sVoi_lt hh (fun _ => true)
  have hA : sAllV h < 16 := hA
  rw [F_M_shares, ret_bl]
  refine ret_mono (P := fun w1 => Frm [27] [] w w1 ∧ ∀ m, m < hsM h → w1 27 m = 0) ?_ (fun w1 hq => ?_)
  · refine loop_inv (I := fun k s => s.1 = jn k ∧ Frm [27] [] w s.2 ∧ ∀ m, m < k → s.2 27 m = 0) (hsM h) ⟨rfl, frm_rf, fun m hm => absurd hm (Nat.not_lt_zero m)⟩ (fun k s hk hi => ?_) (fun s hi => ?_)
    · obtain ⟨i, w1⟩ := s
      obtain ⟨i1, i2, i3⟩ := hi
      simp only at i1 i2 i3
      subst i1
      have e1 : w1 3 1 = jn (hsM h) := (MHs_fr hw i2 ⟨rfl, rfl, rfl, rfl, rfl, fun _ => rfl, fun _ => rfl, fun _ => rfl⟩).2.1
      simp (disch := omega) only [B_M_shares_4, ↓bi_eq, ↓bw_eq, gd_pos, br_pos, br_neg, br_T, br_F, gd_T, bq_some, bd_some, bv_some, bl_some, bx_inl, bx_inr, bn_none, bn_some, bt_inl, bt_inr, not_true_eq_false, not_false_eq_true, eq_self, Bool.false_eq_true, if_true, if_false, jn_clamp, jn_lt, jn_le, jn_inj, jn_add, jn_sub, jn_mul, jn_vp, jn_0a, jn_1a, jn_1b, jn_1s, jn_1m, jn_neg0, jn_le0, jn_0le, jn_0lt, jn_1le, jn_le1, jn_lt1, jn_1lt, jn_e0, jn_e1, jn_em, ↓qB_f, ↓qT_f, cl_0, cl_1, vp_0, vp_1, e1, ret_some, LQ_inl]
      refine ⟨trivial, frm_wup i2 _ _ _ rfl, fun m hm => ?_⟩
      rw [wup_s]
      by_cases e : m = k
      · rw [if_pos e]
      · rw [if_neg e]; exact i3 m (by omega)
    · obtain ⟨i, w1⟩ := s
      obtain ⟨i1, i2, i3⟩ := hi
      simp only at i1 i2 i3
      subst i1
      have e1 : w1 3 1 = jn (hsM h) := (MHs_fr hw i2 ⟨rfl, rfl, rfl, rfl, rfl, fun _ => rfl, fun _ => rfl, fun _ => rfl⟩).2.1
      simp (disch := omega) only [B_M_shares_4, ↓bi_eq, ↓bw_eq, gd_pos, br_pos, br_neg, br_T, br_F, gd_T, bq_some, bd_some, bv_some, bl_some, bx_inl, bx_inr, bn_none, bn_some, bt_inl, bt_inr, not_true_eq_false, not_false_eq_true, eq_self, Bool.false_eq_true, if_true, if_false, jn_clamp, jn_lt, jn_le, jn_inj, jn_add, jn_sub, jn_mul, jn_vp, jn_0a, jn_1a, jn_1b, jn_1s, jn_1m, jn_neg0, jn_le0, jn_0le, jn_0lt, jn_1le, jn_le1, jn_lt1, jn_1lt, jn_e0, jn_e1, jn_em, ↓qB_f, ↓qT_f, cl_0, cl_1, vp_0, vp_1, e1, br_pos (Nat.le_refl (hsM h)), ret_some, LQ_inr]
      exact ⟨i2, i3⟩
  · obtain ⟨q1, q2⟩ := hq
    rw [ret_bl]
    refine ret_mono (P := fun q => q.1 = (if canN h c 4 = true then 1 else 0) ∧ Frm [15, 21, 22, 27] [] w q.2 ∧ MSt q.2 h c ∧ ∀ m, m < hsM h → q.2 27 m = jn (gtN h c 4 m)) ?_ (fun q hq => ?_)
    · refine loop_inv (I := fun v s => s.1 = (if canN h c v = true then 1 else 0) ∧ s.2.1 = jn v ∧ Frm [15, 21, 22, 27] [] w s.2.2 ∧ MSt s.2.2 h c ∧ ∀ m, m < hsM h → s.2.2 27 m = jn (gtN h c v m)) 4 ⟨rfl, rfl, frm_up q1 rfl, MSt_fr hs q1 ⟨fun _ => rfl, fun _ => rfl, fun _ => rfl, fun _ => rfl, fun _ => rfl, fun _ => rfl, rfl, rfl, rfl⟩, q2⟩ (fun v s hv hi => ?_) (fun s hi => ?_)
      · obtain ⟨b, i, w2⟩ := s
        obtain ⟨i0, i1, i2, i3, i4⟩ := hi
        simp only at i0 i1 i2 i3 i4
        subst i1
        rw [B_M_shares_29, br_neg (by rw [li_4, jn_le (by omega) (by omega)]; omega), ret_bl]
        refine ret_mono (m_cheap (MHs_fr hw i2 ⟨rfl, rfl, rfl, rfl, rfl, fun _ => rfl, fun _ => rfl, fun _ => rfl⟩) i3 hh hg b hv) (fun q hq => ?_)
        obtain ⟨r, l, w3⟩ := q
        obtain ⟨p1, p2, p3, p4⟩ := hq
        simp only at p1 p2 p3 p4
        have f3 : Frm [15, 21, 22, 27] [] w w3 := frm_tr i2 (frm_up p3 rfl)
        have h3 : MHs w3 h := MHs_fr hw f3 ⟨rfl, rfl, rfl, rfl, rfl, fun _ => rfl, fun _ => rfl, fun _ => rfl⟩
        have e27 : w3 27 = w2 27 := frm_cell p3 27 (fun _ => rfl)
        have hpw : 2 ^ hsM h ≤ 256 := pow_le (k := 8) hM
        have hev := t_everybody h3.2.1 hM
        have hvo : F_M_voicesOf w3 (jn (2 ^ hsM h - 1)) = some (jn (sAllV h)) := by
          rw [t_voicesOf h3 hh (by omega)]
          congr 2
          exact sVoi_congr (fun m hm => by rw [Nat.testBit_two_pow_sub_one]; simp [hm])
        rw [canN_s, gtN_s]
        cases he : eat h c v with
        | none =>
          rw [he] at p1 p2
          have p1 : r = -1 := p1
          have p2 : l = 0 := p2
          subst p1 p2
          have n3 : ∀ m, m < hsM h → w3 27 m = jn (gtN h c v m) := fun m hm => by rw [e27]; exact i4 m hm
          by_cases hb : canN h c v = true
          · rw [if_pos hb] at i0
            subst i0
            by_cases hz : (sAllV h).testBit v = true
            · simp (disch := omega) only [K_M_shares_123, K_M_shares_151, K_M_shares_147, K_M_shares_152, ↓bi_eq, ↓bw_eq, gd_pos, br_pos, br_neg, br_T, br_F, gd_T, bq_some, bd_some, bv_some, bl_some, bx_inl, bx_inr, bn_none, bn_some, bt_inl, bt_inr, not_true_eq_false, not_false_eq_true, eq_self, Bool.false_eq_true, if_true, if_false, jn_clamp, jn_lt, jn_le, jn_inj, jn_add, jn_sub, jn_mul, jn_vp, jn_0a, jn_1a, jn_1b, jn_1s, jn_1m, jn_neg0, jn_le0, jn_0le, jn_0lt, jn_1le, jn_le1, jn_lt1, jn_1lt, jn_e0, jn_e1, jn_em, ↓qB_f, ↓qT_f, cl_0, cl_1, vp_0, vp_1, hev, hvo, t_isOf, hz, (by decide : ((1 : Int32) = 0) = False), ret_some, LQ_inl]
              refine ⟨?_, trivial, f3, p4, n3⟩
              simp
            · simp (disch := omega) only [K_M_shares_123, K_M_shares_151, K_M_shares_147, K_M_shares_152, ↓bi_eq, ↓bw_eq, gd_pos, br_pos, br_neg, br_T, br_F, gd_T, bq_some, bd_some, bv_some, bl_some, bx_inl, bx_inr, bn_none, bn_some, bt_inl, bt_inr, not_true_eq_false, not_false_eq_true, eq_self, Bool.false_eq_true, if_true, if_false, jn_clamp, jn_lt, jn_le, jn_inj, jn_add, jn_sub, jn_mul, jn_vp, jn_0a, jn_1a, jn_1b, jn_1s, jn_1m, jn_neg0, jn_le0, jn_0le, jn_0lt, jn_1le, jn_le1, jn_lt1, jn_1lt, jn_e0, jn_e1, jn_em, ↓qB_f, ↓qT_f, cl_0, cl_1, vp_0, vp_1, hev, hvo, t_isOf, hz, (by decide : ((1 : Int32) = 0) = False), ret_some, LQ_inl]
              refine ⟨?_, trivial, f3, p4, n3⟩
              simp [hb]
          · rw [if_neg hb] at i0
            subst i0
            simp (disch := omega) only [K_M_shares_123, K_M_shares_151, K_M_shares_152, ↓bi_eq, ↓bw_eq, gd_pos, br_pos, br_neg, br_T, br_F, gd_T, bq_some, bd_some, bv_some, bl_some, bx_inl, bx_inr, bn_none, bn_some, bt_inl, bt_inr, not_true_eq_false, not_false_eq_true, eq_self, Bool.false_eq_true, if_true, if_false, jn_clamp, jn_lt, jn_le, jn_inj, jn_add, jn_sub, jn_mul, jn_vp, jn_0a, jn_1a, jn_1b, jn_1s, jn_1m, jn_neg0, jn_le0, jn_0le, jn_0lt, jn_1le, jn_le1, jn_lt1, jn_1lt, jn_e0, jn_e1, jn_em, ↓qB_f, ↓qT_f, cl_0, cl_1, vp_0, vp_1, ret_some, LQ_inl]
            refine ⟨?_, trivial, f3, p4, n3⟩
            simp [hb]
        | some p =>
          obtain ⟨o1, o2, o3⟩ := eat_ok he
          have o4 := frT_le o3
          rw [he] at p1 p2
          have p1 : r = jn p.1 := p1
          have p2 : l = jn p.2 := p2
          subst p1 p2
          have hne : ¬ jn p.1 = -1 := by rw [jn_em (by omega)]; exact id
          have f4 : Frm [27] [] w3 (wup w3 27 p.1 (jn p.2)) := frm_wup frm_rf _ _ _ rfl
          have n4 : ∀ m, m < hsM h → (wup w3 27 p.1 (jn p.2)) 27 m = jn (if m = p.1 then p.2 else gtN h c v m) := fun m hm => by
            rw [wup_s]
            by_cases e : m = p.1
            · rw [if_pos e, if_pos e]
            · rw [if_neg e, if_neg e, e27]; exact i4 m hm
          rw [br_neg hne]
          simp (disch := omega) only [↓bi_eq, ↓bw_eq, gd_pos, br_pos, br_neg, br_T, br_F, gd_T, bq_some, bd_some, bv_some, bl_some, bx_inl, bx_inr, bn_none, bn_some, bt_inl, bt_inr, not_true_eq_false, not_false_eq_true, eq_self, Bool.false_eq_true, if_true, if_false, jn_clamp, jn_lt, jn_le, jn_inj, jn_add, jn_sub, jn_mul, jn_vp, jn_0a, jn_1a, jn_1b, jn_1s, jn_1m, jn_neg0, jn_le0, jn_0le, jn_0lt, jn_1le, jn_le1, jn_lt1, jn_1lt, jn_e0, jn_e1, jn_em, ↓qB_f, ↓qT_f, cl_0, cl_1, vp_0, vp_1]
          by_cases hb : canN h c v = true
          · rw [if_pos hb] at i0
            subst i0
            simp (disch := omega) only [K_M_shares_123, K_M_shares_147, K_M_shares_152, ↓bi_eq, ↓bw_eq, gd_pos, br_pos, br_neg, br_T, br_F, gd_T, bq_some, bd_some, bv_some, bl_some, bx_inl, bx_inr, bn_none, bn_some, bt_inl, bt_inr, not_true_eq_false, not_false_eq_true, eq_self, Bool.false_eq_true, if_true, if_false, jn_clamp, jn_lt, jn_le, jn_inj, jn_add, jn_sub, jn_mul, jn_vp, jn_0a, jn_1a, jn_1b, jn_1s, jn_1m, jn_neg0, jn_le0, jn_0le, jn_0lt, jn_1le, jn_le1, jn_lt1, jn_1lt, jn_e0, jn_e1, jn_em, ↓qB_f, ↓qT_f, cl_0, cl_1, vp_0, vp_1, hne, (by decide : ((1 : Int32) = 0) = False), ret_some, LQ_inl]
            refine ⟨?_, trivial, frm_tr f3 (frm_up f4 rfl), MSt_fr p4 f4 ⟨fun _ => rfl, fun _ => rfl, fun _ => rfl, fun _ => rfl, fun _ => rfl, fun _ => rfl, rfl, rfl, rfl⟩, n4⟩
            simp [hb]
          · rw [if_neg hb] at i0
            subst i0
            simp (disch := omega) only [K_M_shares_123, K_M_shares_151, K_M_shares_152, ↓bi_eq, ↓bw_eq, gd_pos, br_pos, br_neg, br_T, br_F, gd_T, bq_some, bd_some, bv_some, bl_some, bx_inl, bx_inr, bn_none, bn_some, bt_inl, bt_inr, not_true_eq_false, not_false_eq_true, eq_self, Bool.false_eq_true, if_true, if_false, jn_clamp, jn_lt, jn_le, jn_inj, jn_add, jn_sub, jn_mul, jn_vp, jn_0a, jn_1a, jn_1b, jn_1s, jn_1m, jn_neg0, jn_le0, jn_0le, jn_0lt, jn_1le, jn_le1, jn_lt1, jn_1lt, jn_e0, jn_e1, jn_em, ↓qB_f, ↓qT_f, cl_0, cl_1, vp_0, vp_1, ret_some, LQ_inl]
            refine ⟨?_, trivial, frm_tr f3 (frm_up f4 rfl), MSt_fr p4 f4 ⟨fun _ => rfl, fun _ => rfl, fun _ => rfl, fun _ => rfl, fun _ => rfl, fun _ => rfl, rfl, rfl, rfl⟩, n4⟩
            simp [hb]
      · obtain ⟨b, i, w2⟩ := s
        obtain ⟨i0, i1, i2, i3, i4⟩ := hi
        simp only at i0 i1 i2 i3 i4
        subst i1
        simp (disch := omega) only [B_M_shares_29, ↓bi_eq, ↓bw_eq, gd_pos, br_pos, br_neg, br_T, br_F, gd_T, bq_some, bd_some, bv_some, bl_some, bx_inl, bx_inr, bn_none, bn_some, bt_inl, bt_inr, not_true_eq_false, not_false_eq_true, eq_self, Bool.false_eq_true, if_true, if_false, jn_clamp, jn_lt, jn_le, jn_inj, jn_add, jn_sub, jn_mul, jn_vp, jn_0a, jn_1a, jn_1b, jn_1s, jn_1m, jn_neg0, jn_le0, jn_0le, jn_0lt, jn_1le, jn_le1, jn_lt1, jn_1lt, jn_e0, jn_e1, jn_em, ↓qB_f, ↓qT_f, cl_0, cl_1, vp_0, vp_1, li_4, br_pos (Nat.le_refl 4), ret_some, LQ_inr]
        exact ⟨i0, i2, i3, i4⟩
    · obtain ⟨v, w2⟩ := q
      obtain ⟨z1, z2, z3, z4⟩ := hq
      simp only at z1 z2 z3 z4
      have hv : v = 0 ∨ v = 1 := by
        rw [z1]; split
        · exact Or.inr rfl
        · exact Or.inl rfl
      simp only
      rw [gd_pos hv, ret_some]
      exact ⟨z1, z2, z3, z4⟩
theorem q_leastFish {w : Wld} {h : Hs} (r : RelH w h) (a1 : Int32) : BothQ cdN w h (F_C_leastFish w a1) (fun w1 => F_M_leastFish w1 a1) := by
  have hh := r.1
  have hc := r.2.1
  have hM := hh.2.1
  have hg := r.2.2.2.1.1
  have main : ∀ k, (∀ m, m < 8 → (jn m = a1 ↔ m = k)) → (a1 = -1 ∨ (a1 = jn k ∧ k < hsM h)) → BothQ cdN w h (K_C_leastFish_10 a1 w) (fun w1 => F_M_leastFish w1 a1) := by
    intro k hk ha
    refine ⟨.inr (some (if canN h (w 66) 4 = true then (if a1 = -1 then jn (totN h (w 66) 4) else jn (shrN h (w 66) k 4)) else -1)), ret_mono (c_least hc hh hg a1 k hk) (fun q hq => ⟨hq.1, frm_up hq.2 rfl⟩), fun w1 r1 e66 => ?_⟩
    obtain ⟨z1, z2, z3, z4⟩ := m_ent r1
    rw [e66] at z2
    have e1 := z1.2.1
    have g1 : (-1 : Int32) ≤ a1 ∧ a1 ≤ jn (hsM h) - 1 := by
      rcases ha with rfl | ⟨rfl, hk9⟩
      · refine ⟨by decide, ?_⟩
        have : ∀ n, n ≤ 8 → (-1 : Int32) ≤ jn n - 1 := by decide +kernel
        exact this _ hM
      · refine ⟨?_, by rw [jn_1s (by omega), jn_le (by omega) (by omega)]; omega⟩
        have : ∀ n, n < 8 → (-1 : Int32) ≤ jn n := by decide +kernel
        exact this _ (by omega)
    show Ret (F_M_leastFish w1 a1) _
    rw [F_M_leastFish, bw_eq]
    generalize wup w1 0 2 0 = wa at z1 z2 z3 z4 e1 ⊢
    simp only [cl_1, vp_1, gd_pos (by decide : 1 < 10), e1, t_isIn, g1, and_self, if_true, bp_some, (by decide : ((1 : Int32) = 0) = False), not_false_eq_true, br_T, ret_bd]
    refine ret_mono (m_shares z1 z2 hh hg) (fun q hq => ?_)
    obtain ⟨v, w2⟩ := q
    obtain ⟨p1, p2, p3, p4⟩ := hq
    simp only at p1 p2 p3 p4
    obtain ⟨y1, y2⟩ := q_ans r1 e66 (frm_tr z3 (frm_up p2 rfl)) p3
    have c2 : w2 0 2 = 0 := (p2 0 2 rfl).trans z4
    have e31 : w2 3 1 = jn (hsM h) := (p2 3 1 rfl).trans e1
    by_cases hcan : canN h (w 66) 4 = true
    · rw [if_pos hcan] at p1
      subst p1
      rw [if_pos hcan, br_pos (by show ¬ (1 : Int32) = 0; decide)]
      rcases ha with rfl | ⟨rfl, hk9⟩
      · have key : loop (B_M_leastFish_44 (-1) w2) (0, 0) = some (jn (smN (gtN h (w 66) 4) (hsM h))) := by
          refine loop_for (V := fun m => (jn (smN (gtN h (w 66) 4) m), jn m)) (hsM h) (fun m hm => ?_) ?_
          · have e27 := p4 m hm
            simp (disch := omega) only [B_M_leastFish_44, K_M_leastFish_65, K_M_leastFish_75, ↓bi_eq, ↓bw_eq, gd_pos, br_pos, br_neg, br_T, br_F, gd_T, bq_some, bd_some, bv_some, bl_some, bx_inl, bx_inr, bn_none, bn_some, bt_inl, bt_inr, not_true_eq_false, not_false_eq_true, eq_self, Bool.false_eq_true, if_true, if_false, jn_clamp, jn_lt, jn_le, jn_inj, jn_add, jn_sub, jn_mul, jn_vp, jn_0a, jn_1a, jn_1b, jn_1s, jn_1m, jn_neg0, jn_le0, jn_0le, jn_0lt, jn_1le, jn_le1, jn_lt1, jn_1lt, jn_e0, jn_e1, jn_em, ↓qB_f, ↓qT_f, cl_0, cl_1, vp_0, vp_1, e31, e27, smN_s]
          · simp (disch := omega) only [B_M_leastFish_44, ↓bi_eq, ↓bw_eq, gd_pos, br_pos, br_neg, br_T, br_F, gd_T, bq_some, bd_some, bv_some, bl_some, bx_inl, bx_inr, bn_none, bn_some, bt_inl, bt_inr, not_true_eq_false, not_false_eq_true, eq_self, Bool.false_eq_true, if_true, if_false, jn_clamp, jn_lt, jn_le, jn_inj, jn_add, jn_sub, jn_mul, jn_vp, jn_0a, jn_1a, jn_1b, jn_1s, jn_1m, jn_neg0, jn_le0, jn_0le, jn_0lt, jn_1le, jn_le1, jn_lt1, jn_1lt, jn_e0, jn_e1, jn_em, ↓qB_f, ↓qT_f, cl_0, cl_1, vp_0, vp_1, e31, br_pos (Nat.le_refl (hsM h))]
        rw [key, bl_some, ret_some, if_pos rfl]
        refine ⟨⟨c2, ?_⟩, y1, y2⟩
        rw [smN_tot h (w 66) 4 (by omega)]
      · have key : loop (B_M_leastFish_44 (jn k) w2) (0, 0) = some (jn (gtN h (w 66) 4 k)) := by
          have h9 := loop_for (f := B_M_leastFish_44 (jn k) w2) (V := fun m => (jn (if k < m then gtN h (w 66) 4 k else 0), jn m)) (hsM h) (r := jn (gtN h (w 66) 4 k)) (fun m hm => ?_) ?_
          · exact h9
          · have e27 := p4 m hm
            by_cases hmk : m = k
            · subst hmk
              have q1 : ¬ m < m := Nat.lt_irrefl m
              have q2 : m < m + 1 := Nat.lt_succ_self m
              simp (disch := omega) only [B_M_leastFish_44, K_M_leastFish_65, K_M_leastFish_75, ↓bi_eq, ↓bw_eq, gd_pos, br_pos, br_neg, br_T, br_F, gd_T, bq_some, bd_some, bv_some, bl_some, bx_inl, bx_inr, bn_none, bn_some, bt_inl, bt_inr, not_true_eq_false, not_false_eq_true, eq_self, Bool.false_eq_true, if_true, if_false, jn_clamp, jn_lt, jn_le, jn_inj, jn_add, jn_sub, jn_mul, jn_vp, jn_0a, jn_1a, jn_1b, jn_1s, jn_1m, jn_neg0, jn_le0, jn_0le, jn_0lt, jn_1le, jn_le1, jn_lt1, jn_1lt, jn_e0, jn_e1, jn_em, ↓qB_f, ↓qT_f, cl_0, cl_1, vp_0, vp_1, e31, e27, q1, q2, Nat.zero_add]
            · have q1 : (k < m + 1) = (k < m) := propext ⟨fun z => by omega, fun z => by omega⟩
              simp (disch := omega) only [B_M_leastFish_44, K_M_leastFish_65, K_M_leastFish_75, ↓bi_eq, ↓bw_eq, gd_pos, br_pos, br_neg, br_T, br_F, gd_T, bq_some, bd_some, bv_some, bl_some, bx_inl, bx_inr, bn_none, bn_some, bt_inl, bt_inr, not_true_eq_false, not_false_eq_true, eq_self, Bool.false_eq_true, if_true, if_false, jn_clamp, jn_lt, jn_le, jn_inj, jn_add, jn_sub, jn_mul, jn_vp, jn_0a, jn_1a, jn_1b, jn_1s, jn_1m, jn_neg0, jn_le0, jn_0le, jn_0lt, jn_1le, jn_le1, jn_lt1, jn_1lt, jn_e0, jn_e1, jn_em, ↓qB_f, ↓qT_f, cl_0, cl_1, vp_0, vp_1, e31, hmk, q1, Int32.add_zero]
          · simp (disch := omega) only [B_M_leastFish_44, ↓bi_eq, ↓bw_eq, gd_pos, br_pos, br_neg, br_T, br_F, gd_T, bq_some, bd_some, bv_some, bl_some, bx_inl, bx_inr, bn_none, bn_some, bt_inl, bt_inr, not_true_eq_false, not_false_eq_true, eq_self, Bool.false_eq_true, if_true, if_false, jn_clamp, jn_lt, jn_le, jn_inj, jn_add, jn_sub, jn_mul, jn_vp, jn_0a, jn_1a, jn_1b, jn_1s, jn_1m, jn_neg0, jn_le0, jn_0le, jn_0lt, jn_1le, jn_le1, jn_lt1, jn_1lt, jn_e0, jn_e1, jn_em, ↓qB_f, ↓qT_f, cl_0, cl_1, vp_0, vp_1, e31, br_pos (Nat.le_refl (hsM h)), hk9]
        have hne : ¬ jn k = -1 := by rw [jn_em (by omega)]; exact id
        rw [key, bl_some, ret_some, if_neg hne]
        refine ⟨⟨c2, ?_⟩, y1, y2⟩
        rw [gtN_sh h (w 66) k 4 (by omega)]
    · rw [if_neg hcan] at p1
      subst p1
      rw [if_neg hcan, br_neg (fun z => z rfl), ret_some]
      exact ⟨⟨c2, rfl⟩, y1, y2⟩
  by_cases h9 : a1 = -1
  · rw [F_C_leastFish, br_pos h9]
    refine main 99 (fun m hm => ?_) (Or.inl h9)
    rw [h9, jn_em (by omega)]
    constructor
    · exact fun z => z.elim
    · intro z; omega
  · rw [F_C_leastFish, br_neg h9]
    rcases idx_cases a1 (hsM h) (by omega) with ⟨m, hm, rfl⟩ | ⟨n1, n2⟩
    · rw [t_needMonk_y hc.2.1 (by omega) hm, bn_none]
      exact main m (fun n hn => by rw [jn_inj (by omega) (by omega)]) (Or.inr ⟨rfl, hm⟩)
    · refine q_bad 0 1 ?_ (fun w1 r1 => ?_) rfl
      · rw [t_needMonk_n hc.2.1 n1, bn_some]
      · have e1 := (m_ent r1).1.2.1
        have n3 : ¬ ((-1 : Int32) ≤ a1 ∧ a1 ≤ jn (hsM h) - 1) := by
          intro z
          rcases n1 with n1 | n1
          · have a1l := Int32.lt_iff_toInt_lt.mp n1
            have a1m := Int32.le_iff_toInt_le.mp z.1
            have e0 : (0 : Int32).toInt = 0 := by decide
            have em : (-1 : Int32).toInt = -1 := by decide
            rw [e0] at a1l
            rw [em] at a1m
            exact h9 (i32_cases (n := -1) (by omega) (-1) em)
          · have hn0 : (0 : Int32) ≤ a1 := Int32.le_trans (by rw [jn_0le (by omega)]; trivial) n1
            exact n2 ⟨hn0, z.2⟩
        simp only [F_M_leastFish, bw_eq, cl_1, vp_1, gd_pos (by decide : 1 < 10), e1, t_isIn, n3, if_false, bp_some, eq_self, not_true_eq_false, br_F, t_fail, bd_some]
