/-! ===== questions: then, full, silent, meets, often ===== -/
theorem g_what (k n : Nat) (hn : n < 2147483648) (h : k ≤ n) : (0 : Int32) ≤ jn k ∧ jn k ≤ jn n := ⟨by rw [jn_0le (by omega)]; trivial, by rw [jn_le (by omega) hn]; exact h⟩
theorem g_rng (a k n : Nat) (hn : n < 2147483648) (h0 : a ≤ k) (h : k ≤ n) : jn a ≤ jn k ∧ jn k ≤ jn n := ⟨by rw [jn_le (by omega) (by omega)]; exact h0, by rw [jn_le (by omega) hn]; exact h⟩
/-- no such monk: the call is refused -/
theorem q_bad {cd : Nat → Int32} {w : Wld} {h : Hs} {C : Option (Oc × Wld)} {M : Wld → Option (Int32 × Wld)} (k : Nat) (v : Int32) (hC : C = some (.inl k, w)) (hM : ∀ w1, RelH w1 h → M w1 = some (0, wup (wup w1 0 2 0) 0 2 v)) (hv : v = cd k) (h9 : ¬ v = 9 := by decide) : BothQ cd w h C M := by
  refine ⟨.inl k, ?_, fun w1 r1 e66 => ?_⟩
  · rw [hC, ret_some]; exact ⟨rfl, frm_rf⟩
  · rw [hM w1 r1, ret_some]
    obtain ⟨y1, y2, y3⟩ := q_fail r1 v
    exact ⟨⟨y2.trans hv, by rw [← hv]; exact h9⟩, y1, y3⟩
theorem q_then {w : Wld} {h : Hs} (r : RelH w h) (a1 a2 a3 : Int32) : BothQ cdB w h (F_C_then w a1 a2 a3) (fun w1 => F_M_then w1 a1 a2 a3) := by
  have hh := r.1
  have hc := r.2.1
  have hM := hh.2.1
  have hg := r.2.2.2.1.1
  rcases idx_cases a1 (hsM h) (by omega) with ⟨m, hm, rfl⟩ | ⟨n1, n2⟩
  rotate_left
  · refine q_bad 0 1 ?_ (fun w1 r1 => ?_) rfl
    · rw [F_C_then, t_needMonk_n hc.2.1 n1, bn_some]
    · simp only [F_M_then, bw_eq, t_isMonk_n (m_ent r1).1.2.1 n2, bp_some, eq_self, br_T, K_M_then_22, t_fail, bd_some]
  have y1 := t_needMonk_y hc.2.1 (by omega) hm
  rcases rng_cases a3 0 1 (by omega) (by omega) with ⟨k3, -, h3, rfl⟩ | ⟨n1, n2⟩
  rotate_left
  · refine q_bad 0 1 ?_ (fun w1 r1 => ?_) rfl
    · rw [F_C_then, y1, bn_none, jn_11, t_what_n w n1, bn_some]
    · simp only [F_M_then, bw_eq, t_isMonk_y (m_ent r1).1.2.1 (by omega) hm, bp_some, (by decide : ((1 : Int32) = 0) = False), br_F, K_M_then_22, t_fail, bd_some]
      have n2 : ¬ ((0 : Int32) ≤ a3 ∧ a3 ≤ 1) := n2
      by_cases h1 : a3 < 0
      · rw [br_pos h1]
      · rw [br_neg h1, br_neg (fun z => n2 ⟨Int32.not_lt.mp h1, z⟩)]
  rcases rng_cases a2 0 60 (by omega) (by omega) with ⟨k2, -, h2, rfl⟩ | ⟨n1, n2⟩
  rotate_left
  · refine q_bad 1 2 ?_ (fun w1 r1 => ?_) rfl
    · rw [F_C_then, y1, bn_none, jn_11, t_what_y w (by omega) h3, bn_none, jn_00, li_60, t_need_n w n1, bn_some]
    · have n2 : ¬ ((0 : Int32) ≤ a2 ∧ a2 ≤ 60) := n2
      simp (disch := omega) only [F_M_then, ↓bi_eq, ↓bw_eq, gd_pos, br_pos, br_neg, br_T, br_F, gd_T, bp_some, bd_some, bv_some, bl_some, bx_inl, bx_inr, bn_none, bn_some, bt_inl, bt_inr, not_true_eq_false, not_false_eq_true, eq_self, Bool.false_eq_true, if_true, if_false, jn_clamp, jn_lt, jn_le, jn_inj, jn_add, jn_sub, jn_mul, jn_vp, jn_0a, jn_1a, jn_1b, jn_1s, jn_1m, jn_neg0, jn_le0, jn_0le, jn_0lt, jn_1le, jn_le1, jn_lt1, jn_1lt, jn_e0, jn_e1, jn_em, ↓qB_f, ↓qT_f, cl_0, cl_1, vp_0, vp_1, t_isMonk_y (m_ent r1).1.2.1 (by omega) hm, t_isIn, n2, (by decide : ((1 : Int32) = 0) = False), t_fail]
  have g2 : (0 : Int32) ≤ jn k2 ∧ jn k2 ≤ 60 := g_what k2 60 (by omega) h2
  refine ⟨.inr (some (if k3 = 0 then sGo h (w 66) k2 (16 + m) else sGo h (w 66) k2 m)), ?_, fun w1 r1 e66 => ?_⟩
  · rw [F_C_then, y1, bn_none, jn_11, t_what_y w (by omega) h3, bn_none, jn_00, li_60, t_need_y w (by omega) (Nat.zero_le _) h2, bn_none, ret_bv]
    refine ret_mono (t_goAhead hc hh hg (by omega)) (fun w2 hq => ?_)
    obtain ⟨q1, q2, q3⟩ := hq
    have hb : k3 = 0 ∨ k3 = 1 := by omega
    rcases hb with rfl | rfl
    · have e := q2 (16 + m) (by omega)
      simp (disch := omega) only [K_C_then_39, ↓bi_eq, ↓bw_eq, gd_pos, br_pos, br_neg, br_T, br_F, gd_T, bp_some, bd_some, bv_some, bl_some, bx_inl, bx_inr, bn_none, bn_some, bt_inl, bt_inr, not_true_eq_false, not_false_eq_true, eq_self, Bool.false_eq_true, if_true, if_false, jn_clamp, jn_lt, jn_le, jn_inj, jn_add, jn_sub, jn_mul, jn_vp, jn_0a, jn_1a, jn_1b, jn_1s, jn_1m, jn_neg0, jn_le0, jn_0le, jn_0lt, jn_1le, jn_le1, jn_lt1, jn_1lt, jn_e0, jn_e1, jn_em, ↓qB_f, ↓qT_f, cl_0, cl_1, vp_0, vp_1, li_16, ← jn_00, e, ret_some, true_and]
      exact frm_up q1 rfl
    · have e := q2 m (by omega)
      simp (disch := omega) only [K_C_then_39, ↓bi_eq, ↓bw_eq, gd_pos, br_pos, br_neg, br_T, br_F, gd_T, bp_some, bd_some, bv_some, bl_some, bx_inl, bx_inr, bn_none, bn_some, bt_inl, bt_inr, not_true_eq_false, not_false_eq_true, eq_self, Bool.false_eq_true, if_true, if_false, jn_clamp, jn_lt, jn_le, jn_inj, jn_add, jn_sub, jn_mul, jn_vp, jn_0a, jn_1a, jn_1b, jn_1s, jn_1m, jn_neg0, jn_le0, jn_0le, jn_0lt, jn_1le, jn_le1, jn_lt1, jn_1lt, jn_e0, jn_e1, jn_em, ↓qB_f, ↓qT_f, cl_0, cl_1, vp_0, vp_1, ← jn_00, e, ret_some, true_and, (by decide : (1 = 0) = False)]
      exact frm_up q1 rfl
  · obtain ⟨z1, z2, z3, z4⟩ := m_ent r1
    rw [e66] at z2
    simp (disch := omega) only [F_M_then, ↓bi_eq, ↓bw_eq, gd_pos, br_pos, br_neg, br_T, br_F, gd_T, bp_some, bd_some, bv_some, bl_some, bx_inl, bx_inr, bn_none, bn_some, bt_inl, bt_inr, not_true_eq_false, not_false_eq_true, eq_self, Bool.false_eq_true, if_true, if_false, jn_clamp, jn_lt, jn_le, jn_inj, jn_add, jn_sub, jn_mul, jn_vp, jn_0a, jn_1a, jn_1b, jn_1s, jn_1m, jn_neg0, jn_le0, jn_0le, jn_0lt, jn_1le, jn_le1, jn_lt1, jn_1lt, jn_e0, jn_e1, jn_em, ↓qB_f, ↓qT_f, cl_0, cl_1, vp_0, vp_1, t_isMonk_y z1.2.1 (show hsM h < 100 by omega) hm, t_isIn, g2, and_self, (by decide : ((1 : Int32) = 0) = False), ret_bv]
    refine ret_mono (m_pack z2 hh) (fun w2 hq => ?_)
    obtain ⟨q1, q2⟩ := hq
    refine ret_mono (t_goOn (MHs_fr z1 q1 ⟨rfl, rfl, rfl, rfl, rfl, fun _ => rfl, fun _ => rfl, fun _ => rfl⟩) (MSt_fr z2 q1 ⟨fun _ => rfl, fun _ => rfl, fun _ => rfl, fun _ => rfl, fun _ => rfl, fun _ => rfl, rfl, rfl, rfl⟩) hh hg (by omega)) (fun w3 hp => ?_)
    obtain ⟨p1, p2, p3⟩ := hp
    have hrow : MRow (w3 24) h (w 66) := by rw [frm_cell p1 24 (fun _ => rfl)]; exact q2
    have ec : w3 0 2 = 0 := by rw [p1 0 2 rfl, q1 0 2 rfl, z4]
    have key : ∀ t : Int32, Ret (K_M_then_79 t w3) (fun p => p.1 = t ∧ p.2 0 2 = 0 ∧ RelH p.2 h ∧ p.2 41 0 = w1 41 0) := by
      intro t
      rw [K_M_then_79, ret_bv]
      refine ret_mono (m_unpack hrow hh) (fun w4 hx => ?_)
      obtain ⟨x1, x2⟩ := hx
      obtain ⟨y1, y2⟩ := q_ans r1 e66 (frm_tr (frm_tr (frm_tr z3 (frm_up q1 rfl)) (frm_up p1 rfl)) (frm_up x1 rfl)) x2
      rw [ret_some]
      exact ⟨rfl, (x1 0 2 rfl).trans ec, y1, y2⟩
    obtain ⟨b0, b1, b2, b3⟩ := p2.1 m hm
    have hb : k3 = 0 ∨ k3 = 1 := by omega
    rcases hb with rfl | rfl
    · simp (disch := omega) only [↓bi_eq, ↓bw_eq, gd_pos, br_pos, br_neg, br_T, br_F, gd_T, bp_some, bd_some, bv_some, bl_some, bx_inl, bx_inr, bn_none, bn_some, bt_inl, bt_inr, not_true_eq_false, not_false_eq_true, eq_self, Bool.false_eq_true, if_true, if_false, jn_clamp, jn_lt, jn_le, jn_inj, jn_add, jn_sub, jn_mul, jn_vp, jn_0a, jn_1a, jn_1b, jn_1s, jn_1m, jn_neg0, jn_le0, jn_0le, jn_0lt, jn_1le, jn_le1, jn_lt1, jn_1lt, jn_e0, jn_e1, jn_em, ↓qB_f, ↓qT_f, cl_0, cl_1, vp_0, vp_1, b2]
      exact ret_mono (key _) (fun p hp => ⟨⟨hp.2.1, hp.1⟩, hp.2.2⟩)
    · simp (disch := omega) only [↓bi_eq, ↓bw_eq, gd_pos, br_pos, br_neg, br_T, br_F, gd_T, bp_some, bd_some, bv_some, bl_some, bx_inl, bx_inr, bn_none, bn_some, bt_inl, bt_inr, not_true_eq_false, not_false_eq_true, eq_self, Bool.false_eq_true, if_true, if_false, jn_clamp, jn_lt, jn_le, jn_inj, jn_add, jn_sub, jn_mul, jn_vp, jn_0a, jn_1a, jn_1b, jn_1s, jn_1m, jn_neg0, jn_le0, jn_0le, jn_0lt, jn_1le, jn_le1, jn_lt1, jn_1lt, jn_e0, jn_e1, jn_em, ↓qB_f, ↓qT_f, cl_0, cl_1, vp_0, vp_1, b0, (by decide : (1 = 0) = False)]
      exact ret_mono (key _) (fun p hp => ⟨⟨hp.2.1, hp.1⟩, hp.2.2⟩)
/-- the first of so many -/
def srch (p : Nat → Bool) : Nat → Nat → Option Nat
  | _, 0 => none
  | k, f + 1 => if p k = true then some k else srch p (k + 1) f
theorem srch_y {p : Nat → Bool} {k f : Nat} (h : p k = true) (hf : 0 < f) : srch p k f = some k := by
  cases f with
  | zero => omega
  | succ f => rw [srch, if_pos h]
theorem srch_n {p : Nat → Bool} {k f : Nat} (h : ¬ p k = true) (hf : 0 < f) : srch p k f = srch p (k + 1) (f - 1) := by
  cases f with
  | zero => omega
  | succ f => rw [srch, if_neg h]; rfl
theorem srch_le {p : Nat → Bool} {f x : Nat} : ∀ {k}, srch p k f = some x → k ≤ x ∧ x < k + f := by
  induction f with
  | zero => intro k h; cases h
  | succ f ih =>
    intro k h
    rw [srch] at h
    split at h
    · cases h; omega
    · have := ih h; omega
def oI (d : Nat) (o : Option Nat) : Int32 := match o with
  | none => -1
  | some k => jn (k + d)
/-- calls that never throw -/
def BothJ (C : Option (Int32 × Wld)) (M : Wld → Option (Int32 × Wld)) : Prop := Ret C (fun q => Ret (M q.2) (fun p => p.1 = q.1 ∧ Rel p.2))
theorem BothJ_of {w : Wld} {h : Hs} {C : Option (Int32 × Wld)} {M : Wld → Option (Int32 × Wld)} (r : RelH w h) (v : Int32) (hC : Ret C (fun q => q.1 = v ∧ Frm LQc KQc w q.2)) (hM : ∀ w1, RelH w1 h → w1 66 = w 66 → Ret (M w1) (fun p => p.1 = v ∧ RelH p.2 h)) : BothJ C M := by
  refine ret_mono hC (fun q hq => ?_)
  refine ret_mono (hM q.2 (RelH_c r hq.2) (frm_cell hq.2 66 (fun _ => rfl))) (fun p hp => ?_)
  exact ⟨hp.1.trans hq.1.symm, h, hp.2⟩
def nFrL : List Nat := [14, 15, 16, 17, 21, 22, 23]
def nFrK : List (Nat × Nat) := [(0, 31), (0, 32), (0, 38), (0, 39), (0, 40)]
def pFull (h : Hs) (c : Sta) : Nat → Bool := fun j => decide (sShort h (sGo h c j) = 0)
def pSil (h : Hs) (c : Sta) : Nat → Bool := fun j => decide (sRis h (sGo h c j) = 0)
theorem sShort_lt {h : Hs} (hh : GdH h) (c : Sta) : sShort h c < 16 := Nat.lt_of_le_of_lt Nat.and_le_left (sVoi_lt hh _)
theorem c_full {w : Wld} {h : Hs} (r : RelH w h) : Ret (F_C_full w) (fun q => q.1 = oI 1 (srch (pFull h (w 66)) 0 60) ∧ Frm LQc KQc w q.2) := by
  have hh := r.1
  have hc := r.2.1
  have hg := r.2.2.2.1.1
  rw [F_C_full, ret_bv]
  refine ret_mono (t_begin w) (fun w1 hq => ?_)
  obtain ⟨q1, q2⟩ := hq
  rw [ret_bx]
  refine loop_inv (I := fun k s => s.1 = jn (k + 1) ∧ Frm [61, 62, 63, 85] [(55, 3)] w s.2 ∧ Eq53 (s.2 85) (sGo h (w 66) k) ∧ srch (pFull h (w 66)) k (60 - k) = srch (pFull h (w 66)) 0 60) 60 ⟨rfl, frm_up q1 rfl, q2, rfl⟩ (fun k s hk hi => ?_) (fun s hi => ?_)
  · obtain ⟨i, w2⟩ := s
    obtain ⟨i1, i2, i3, i4⟩ := hi
    simp only at i1 i2 i3 i4
    subst i1
    simp (disch := omega) only [B_C_full_6, ↓bi_eq, ↓bw_eq, gd_pos, br_pos, br_neg, br_T, br_F, gd_T, bp_some, bd_some, bv_some, bl_some, bx_inl, bx_inr, bn_none, bn_some, bt_inl, bt_inr, not_true_eq_false, not_false_eq_true, eq_self, Bool.false_eq_true, if_true, if_false, jn_clamp, jn_lt, jn_le, jn_inj, jn_add, jn_sub, jn_mul, jn_vp, jn_0a, jn_1a, jn_1b, jn_1s, jn_1m, jn_neg0, jn_le0, jn_0le, jn_0lt, jn_1le, jn_le1, jn_lt1, jn_1lt, jn_e0, jn_e1, jn_em, ↓qB_f, ↓qT_f, cl_0, cl_1, vp_0, vp_1, li_60, ret_bv]
    refine ret_mono (t_passT (CHs_fr hc i2 ⟨rfl, rfl, rfl, rfl, fun _ => rfl, fun _ => rfl, rfl, fun _ => rfl⟩) hh (sGo_good hh hg k) i3) (fun w3 hq => ?_)
    obtain ⟨p1, p2, p3⟩ := hq
    have f3 := frm_tr i2 p1
    have hlt := sShort_lt hh (sGo h (w 66) k)
    rw [t_missing (CHs_fr hc f3 ⟨rfl, rfl, rfl, rfl, fun _ => rfl, fun _ => rfl, rfl, fun _ => rfl⟩) hh p3, bp_some]
    by_cases hz : sShort h (sGo h (w 66) k) = 0
    · have hp : pFull h (w 66) k = true := by unfold pFull; rw [hz]; rfl
      rw [srch_y hp (by omega)] at i4
      simp (disch := omega) only [↓bi_eq, ↓bw_eq, gd_pos, br_pos, br_neg, br_T, br_F, gd_T, bp_some, bd_some, bv_some, bl_some, bx_inl, bx_inr, bn_none, bn_some, bt_inl, bt_inr, not_true_eq_false, not_false_eq_true, eq_self, Bool.false_eq_true, if_true, if_false, jn_clamp, jn_lt, jn_le, jn_inj, jn_add, jn_sub, jn_mul, jn_vp, jn_0a, jn_1a, jn_1b, jn_1s, jn_1m, jn_neg0, jn_le0, jn_0le, jn_0lt, jn_1le, jn_le1, jn_lt1, jn_1lt, jn_e0, jn_e1, jn_em, ↓qB_f, ↓qT_f, cl_0, cl_1, vp_0, vp_1, hz, ret_some, LQ_inr]
      refine ⟨?_, frm_up f3 rfl⟩
      rw [← i4]; rfl
    · have hp : ¬ pFull h (w 66) k = true := by unfold pFull; simp [hz]
      rw [srch_n hp (by omega)] at i4
      simp (disch := omega) only [↓bi_eq, ↓bw_eq, gd_pos, br_pos, br_neg, br_T, br_F, gd_T, bp_some, bd_some, bv_some, bl_some, bx_inl, bx_inr, bn_none, bn_some, bt_inl, bt_inr, not_true_eq_false, not_false_eq_true, eq_self, Bool.false_eq_true, if_true, if_false, jn_clamp, jn_lt, jn_le, jn_inj, jn_add, jn_sub, jn_mul, jn_vp, jn_0a, jn_1a, jn_1b, jn_1s, jn_1m, jn_neg0, jn_le0, jn_0le, jn_0lt, jn_1le, jn_le1, jn_lt1, jn_1lt, jn_e0, jn_e1, jn_em, ↓qB_f, ↓qT_f, cl_0, cl_1, vp_0, vp_1, hz, ret_some, LQ_inl]
      exact ⟨trivial, f3, p2, by rw [← i4]; rfl⟩
  · obtain ⟨i, w2⟩ := s
    obtain ⟨i1, i2, i3, i4⟩ := hi
    simp only at i1 i2 i3 i4
    subst i1
    simp (disch := omega) only [B_C_full_6, ↓bi_eq, ↓bw_eq, gd_pos, br_pos, br_neg, br_T, br_F, gd_T, bp_some, bd_some, bv_some, bl_some, bx_inl, bx_inr, bn_none, bn_some, bt_inl, bt_inr, not_true_eq_false, not_false_eq_true, eq_self, Bool.false_eq_true, if_true, if_false, jn_clamp, jn_lt, jn_le, jn_inj, jn_add, jn_sub, jn_mul, jn_vp, jn_0a, jn_1a, jn_1b, jn_1s, jn_1m, jn_neg0, jn_le0, jn_0le, jn_0lt, jn_1le, jn_le1, jn_lt1, jn_1lt, jn_e0, jn_e1, jn_em, ↓qB_f, ↓qT_f, cl_0, cl_1, vp_0, vp_1, li_60, ret_some, LQ_inr, LQ_inl]
    refine ⟨?_, frm_up i2 rfl⟩
    rw [← i4]; rfl
theorem c_silent {w : Wld} {h : Hs} (r : RelH w h) : Ret (F_C_silent w) (fun q => q.1 = oI 1 (srch (pSil h (w 66)) 0 60) ∧ Frm LQc KQc w q.2) := by
  have hh := r.1
  have hc := r.2.1
  have hg := r.2.2.2.1.1
  rw [F_C_silent, ret_bv]
  refine ret_mono (t_begin w) (fun w1 hq => ?_)
  obtain ⟨q1, q2⟩ := hq
  rw [ret_bx]
  refine loop_inv (I := fun k s => s.1 = jn (k + 1) ∧ Frm [61, 62, 63, 85] [(55, 3)] w s.2 ∧ Eq53 (s.2 85) (sGo h (w 66) k) ∧ srch (pSil h (w 66)) k (60 - k) = srch (pSil h (w 66)) 0 60) 60 ⟨rfl, frm_up q1 rfl, q2, rfl⟩ (fun k s hk hi => ?_) (fun s hi => ?_)
  · obtain ⟨i, w2⟩ := s
    obtain ⟨i1, i2, i3, i4⟩ := hi
    simp only at i1 i2 i3 i4
    subst i1
    simp (disch := omega) only [B_C_silent_6, ↓bi_eq, ↓bw_eq, gd_pos, br_pos, br_neg, br_T, br_F, gd_T, bp_some, bd_some, bv_some, bl_some, bx_inl, bx_inr, bn_none, bn_some, bt_inl, bt_inr, not_true_eq_false, not_false_eq_true, eq_self, Bool.false_eq_true, if_true, if_false, jn_clamp, jn_lt, jn_le, jn_inj, jn_add, jn_sub, jn_mul, jn_vp, jn_0a, jn_1a, jn_1b, jn_1s, jn_1m, jn_neg0, jn_le0, jn_0le, jn_0lt, jn_1le, jn_le1, jn_lt1, jn_1lt, jn_e0, jn_e1, jn_em, ↓qB_f, ↓qT_f, cl_0, cl_1, vp_0, vp_1, li_60, ret_bv]
    refine ret_mono (t_passT (CHs_fr hc i2 ⟨rfl, rfl, rfl, rfl, fun _ => rfl, fun _ => rfl, rfl, fun _ => rfl⟩) hh (sGo_good hh hg k) i3) (fun w3 hq => ?_)
    obtain ⟨p1, p2, p3⟩ := hq
    have f3 := frm_tr i2 p1
    have hlt := sRis_lt hh (sGo h (w 66) k)
    rw [p3.1]
    by_cases hz : sRis h (sGo h (w 66) k) = 0
    · have hp : pSil h (w 66) k = true := by unfold pSil; rw [hz]; rfl
      rw [srch_y hp (by omega)] at i4
      simp (disch := omega) only [↓bi_eq, ↓bw_eq, gd_pos, br_pos, br_neg, br_T, br_F, gd_T, bp_some, bd_some, bv_some, bl_some, bx_inl, bx_inr, bn_none, bn_some, bt_inl, bt_inr, not_true_eq_false, not_false_eq_true, eq_self, Bool.false_eq_true, if_true, if_false, jn_clamp, jn_lt, jn_le, jn_inj, jn_add, jn_sub, jn_mul, jn_vp, jn_0a, jn_1a, jn_1b, jn_1s, jn_1m, jn_neg0, jn_le0, jn_0le, jn_0lt, jn_1le, jn_le1, jn_lt1, jn_1lt, jn_e0, jn_e1, jn_em, ↓qB_f, ↓qT_f, cl_0, cl_1, vp_0, vp_1, hz, ret_some, LQ_inr]
      refine ⟨?_, frm_up f3 rfl⟩
      rw [← i4]; rfl
    · have hp : ¬ pSil h (w 66) k = true := by unfold pSil; simp [hz]
      rw [srch_n hp (by omega)] at i4
      simp (disch := omega) only [↓bi_eq, ↓bw_eq, gd_pos, br_pos, br_neg, br_T, br_F, gd_T, bp_some, bd_some, bv_some, bl_some, bx_inl, bx_inr, bn_none, bn_some, bt_inl, bt_inr, not_true_eq_false, not_false_eq_true, eq_self, Bool.false_eq_true, if_true, if_false, jn_clamp, jn_lt, jn_le, jn_inj, jn_add, jn_sub, jn_mul, jn_vp, jn_0a, jn_1a, jn_1b, jn_1s, jn_1m, jn_neg0, jn_le0, jn_0le, jn_0lt, jn_1le, jn_le1, jn_lt1, jn_1lt, jn_e0, jn_e1, jn_em, ↓qB_f, ↓qT_f, cl_0, cl_1, vp_0, vp_1, hz, ret_some, LQ_inl]
      exact ⟨trivial, f3, p2, by rw [← i4]; rfl⟩
  · obtain ⟨i, w2⟩ := s
    obtain ⟨i1, i2, i3, i4⟩ := hi
    simp only at i1 i2 i3 i4
    subst i1
    simp (disch := omega) only [B_C_silent_6, ↓bi_eq, ↓bw_eq, gd_pos, br_pos, br_neg, br_T, br_F, gd_T, bp_some, bd_some, bv_some, bl_some, bx_inl, bx_inr, bn_none, bn_some, bt_inl, bt_inr, not_true_eq_false, not_false_eq_true, eq_self, Bool.false_eq_true, if_true, if_false, jn_clamp, jn_lt, jn_le, jn_inj, jn_add, jn_sub, jn_mul, jn_vp, jn_0a, jn_1a, jn_1b, jn_1s, jn_1m, jn_neg0, jn_le0, jn_0le, jn_0lt, jn_1le, jn_le1, jn_lt1, jn_1lt, jn_e0, jn_e1, jn_em, ↓qB_f, ↓qT_f, cl_0, cl_1, vp_0, vp_1, li_60, ret_some, LQ_inr, LQ_inl]
    refine ⟨?_, frm_up i2 rfl⟩
    rw [← i4]; rfl
