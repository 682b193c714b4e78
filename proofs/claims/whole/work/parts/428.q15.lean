/-! ===== questions: leastFish ===== -/
def frP (h : Hs) (c : Sta) (m x : Nat) : Nat → Bool := fun v => sUp h (upd c (8 + m) (jn (x + v))) m
/-- how many fish more he needs to be up -/
def frT (h : Hs) (c : Sta) (m : Nat) : Option Nat := srch (frP h c m (c (8 + m)).toNatClampNeg) 0 (10 - (c (8 + m)).toNatClampNeg)
theorem frT_le {h : Hs} {c : Sta} {m n : Nat} (e : frT h c m = some n) : n < 10 := by
  have := (srch_le e).2
  omega
theorem c_rise {w : Wld} {h : Hs} (hc : CHs w h) (hh : GdH h) (hg : GdS h (w 66)) {m : Nat} (hm : m < hsM h) : Ret (F_C_fishToRise w (jn m)) (fun q => q.1 = oI 0 (frT h (w 66) m) ∧ Frm [61, 62, 85] [] w q.2) := by
  have hM := hh.2.1
  obtain ⟨x, hx, ex⟩ := hg.2.2.2.1 m hm
  have eT : frT h (w 66) m = srch (frP h (w 66) m x) 0 (10 - x) := by unfold frT; rw [ex, jn_clamp (by omega)]
  rw [eT, F_C_fishToRise, ret_bv]
  refine ret_mono (t_begin w) (fun w1 hq => ?_)
  obtain ⟨q1, q2⟩ := hq
  have e66 : w1 66 (8 + m) = jn x := by rw [frm_cell q1 66 (fun _ => rfl)]; exact ex
  simp (disch := omega) only [↓bi_eq, ↓bw_eq, gd_pos, br_pos, br_neg, br_T, br_F, gd_T, bq_some, bd_some, bv_some, bl_some, bx_inl, bx_inr, bn_none, bn_some, bt_inl, bt_inr, not_true_eq_false, not_false_eq_true, eq_self, Bool.false_eq_true, if_true, if_false, jn_clamp, jn_lt, jn_le, jn_inj, jn_add, jn_sub, jn_mul, jn_vp, jn_0a, jn_1a, jn_1b, jn_1s, jn_1m, jn_neg0, jn_le0, jn_0le, jn_0lt, jn_1le, jn_le1, jn_lt1, jn_1lt, jn_e0, jn_e1, jn_em, ↓qB_f, ↓qT_f, cl_0, cl_1, vp_0, vp_1, li_8, e66, ret_bx]
  refine loop_inv (I := fun k s => s.1 = jn (x + k) ∧ Frm [61, 62, 85] [] w s.2 ∧ (∀ i, i < 53 → i ≠ 8 + m → s.2 85 i = w 66 i) ∧ srch (frP h (w 66) m x) k (10 - x - k) = srch (frP h (w 66) m x) 0 (10 - x)) (10 - x) ⟨rfl, frm_up q1 rfl, fun i hi _ => q2 i hi, rfl⟩ (fun k s hk hi => ?_) (fun s hi => ?_)
  · obtain ⟨i, w2⟩ := s
    obtain ⟨i1, i2, i3, i4⟩ := hi
    simp only at i1 i2 i3 i4
    subst i1
    have f3 : Frm [61, 62, 85] [] w (wup w2 85 (8 + m) (jn (x + k))) := frm_wup i2 _ _ _ rfl
    have e85 : Eq53 ((wup w2 85 (8 + m) (jn (x + k))) 85) (upd (w 66) (8 + m) (jn (x + k))) := by
      intro i hi
      rw [wup_s]
      unfold upd
      by_cases he : i = 8 + m
      · rw [if_pos he, if_pos he]
      · rw [if_neg he, if_neg he]; exact i3 i hi he
    have gk : GdS h (upd (w 66) (8 + m) (jn (x + k))) := GdS_fish hh hg (by omega) (by omega)
    simp (disch := omega) only [B_C_fishToRise_22, ↓bi_eq, ↓bw_eq, gd_pos, br_pos, br_neg, br_T, br_F, gd_T, bq_some, bd_some, bv_some, bl_some, bx_inl, bx_inr, bn_none, bn_some, bt_inl, bt_inr, not_true_eq_false, not_false_eq_true, eq_self, Bool.false_eq_true, if_true, if_false, jn_clamp, jn_lt, jn_le, jn_inj, jn_add, jn_sub, jn_mul, jn_vp, jn_0a, jn_1a, jn_1b, jn_1s, jn_1m, jn_neg0, jn_le0, jn_0le, jn_0lt, jn_1le, jn_le1, jn_lt1, jn_1lt, jn_e0, jn_e1, jn_em, ↓qB_f, ↓qT_f, cl_0, cl_1, vp_0, vp_1, li_8, li_9, ret_bd]
    generalize wup w2 85 (8 + m) (jn (x + k)) = w3 at f3 e85 ⊢
    refine ret_mono (t_rises_84 (CHs_fr hc f3 ⟨rfl, rfl, rfl, rfl, fun _ => rfl, fun _ => rfl, rfl, fun _ => rfl⟩) hh (GdS_congr hh gk e85) hm) (fun q hq => ?_)
    obtain ⟨v, w4⟩ := q
    obtain ⟨p1, p2⟩ := hq
    simp only at p1 p2
    rw [sUp_e hh e85 hm] at p1
    subst p1
    have f4 : Frm [61, 62, 85] [] w w4 := frm_tr f3 (frm_up p2 rfl)
    have e85' : w4 85 = w3 85 := frm_cell p2 85 (fun _ => rfl)
    by_cases hz : sUp h (upd (w 66) (8 + m) (jn (x + k))) m = true
    · have hp : frP h (w 66) m x k = true := hz
      rw [srch_y hp (by omega)] at i4
      simp (disch := omega) only [↓bi_eq, ↓bw_eq, gd_pos, br_pos, br_neg, br_T, br_F, gd_T, bq_some, bd_some, bv_some, bl_some, bx_inl, bx_inr, bn_none, bn_some, bt_inl, bt_inr, not_true_eq_false, not_false_eq_true, eq_self, Bool.false_eq_true, if_true, if_false, jn_clamp, jn_lt, jn_le, jn_inj, jn_add, jn_sub, jn_mul, jn_vp, jn_0a, jn_1a, jn_1b, jn_1s, jn_1m, jn_neg0, jn_le0, jn_0le, jn_0lt, jn_1le, jn_le1, jn_lt1, jn_1lt, jn_e0, jn_e1, jn_em, ↓qB_f, ↓qT_f, cl_0, cl_1, vp_0, vp_1, hz, (by decide : ((1 : Int32) = 0) = False), ret_some, LQ_inr]
      refine ⟨?_, f4⟩
      rw [← i4, show x + k - x = k by omega]; rfl
    · have hp : ¬ frP h (w 66) m x k = true := hz
      rw [srch_n hp (by omega)] at i4
      simp (disch := omega) only [↓bi_eq, ↓bw_eq, gd_pos, br_pos, br_neg, br_T, br_F, gd_T, bq_some, bd_some, bv_some, bl_some, bx_inl, bx_inr, bn_none, bn_some, bt_inl, bt_inr, not_true_eq_false, not_false_eq_true, eq_self, Bool.false_eq_true, if_true, if_false, jn_clamp, jn_lt, jn_le, jn_inj, jn_add, jn_sub, jn_mul, jn_vp, jn_0a, jn_1a, jn_1b, jn_1s, jn_1m, jn_neg0, jn_le0, jn_0le, jn_0lt, jn_1le, jn_le1, jn_lt1, jn_1lt, jn_e0, jn_e1, jn_em, ↓qB_f, ↓qT_f, cl_0, cl_1, vp_0, vp_1, hz, ret_some, LQ_inl]
      refine ⟨by omega, f4, fun i hi hne => ?_, by rw [← i4]; rfl⟩
      rw [e85', e85 i hi, upd_2 _ _ hne]
  · obtain ⟨i, w2⟩ := s
    obtain ⟨i1, i2, i3, i4⟩ := hi
    simp only at i1 i2 i3 i4
    subst i1
    rw [B_C_fishToRise_22, br_pos (by rw [li_9, jn_lt (by omega) (by omega)]; omega), ret_some, LQ_inr, LQ_inl, ret_some]
    refine ⟨?_, i2⟩
    rw [← i4, show 10 - x - (10 - x) = 0 by omega]; rfl
theorem m_rise {w : Wld} {h : Hs} {c : Sta} (hw : MHs w h) (hs : MSt w h c) (hh : GdH h) (hg : GdS h c) {m : Nat} (hm : m < hsM h) : Ret (F_M_fishFor w (jn m)) (fun q => q.1 = oI 0 (frT h c m) ∧ Frm [15, 21, 22] [] w q.2 ∧ MSt q.2 h c) := by
  have hM := hh.2.1
  obtain ⟨x, hx, ex⟩ := hg.2.2.2.1 m hm
  have eT : frT h c m = srch (frP h c m x) 0 (10 - x) := by unfold frT; rw [ex, jn_clamp (by omega)]
  have e15 : w 15 m = jn x := (hs.1 m hm).2.1.trans ex
  rw [eT]
  simp (disch := omega) only [F_M_fishFor, ↓bi_eq, ↓bw_eq, gd_pos, br_pos, br_neg, br_T, br_F, gd_T, bq_some, bd_some, bv_some, bl_some, bx_inl, bx_inr, bn_none, bn_some, bt_inl, bt_inr, not_true_eq_false, not_false_eq_true, eq_self, Bool.false_eq_true, if_true, if_false, jn_clamp, jn_lt, jn_le, jn_inj, jn_add, jn_sub, jn_mul, jn_vp, jn_0a, jn_1a, jn_1b, jn_1s, jn_1m, jn_neg0, jn_le0, jn_0le, jn_0lt, jn_1le, jn_le1, jn_lt1, jn_1lt, jn_e0, jn_e1, jn_em, ↓qB_f, ↓qT_f, cl_0, cl_1, vp_0, vp_1, e15, ret_bl]
  refine ret_mono (P := fun q => q.1 = oI 0 (srch (frP h c m x) 0 (10 - x)) ∧ Frm [15, 21, 22] [] w q.2 ∧ ∃ y, MSt q.2 h (upd c (8 + m) y)) ?_ (fun q hq => ?_)
  · refine loop_inv (I := fun k s => s.2.1 = jn k ∧ Frm [15, 21, 22] [] w s.2.2 ∧ (∃ y, MSt s.2.2 h (upd c (8 + m) y)) ∧ ((s.1 = -1 ∧ srch (frP h c m x) k (10 - x - k) = srch (frP h c m x) 0 (10 - x)) ∨ ∃ u, u < 10 ∧ srch (frP h c m x) 0 (10 - x) = some u ∧ s.1 = jn u)) (10 - x) ⟨rfl, frm_rf, ⟨c (8 + m), by rw [upd_id]; exact hs⟩, Or.inl ⟨rfl, rfl⟩⟩ (fun k s hk hi => ?_) (fun s hi => ?_)
    · obtain ⟨b, i, w2⟩ := s
      obtain ⟨i1, i2, ⟨y, i3⟩, i4⟩ := hi
      simp only at i1 i2 i3 i4
      subst i1
      rcases i4 with ⟨rfl, i4⟩ | ⟨u, hu, i4, rfl⟩
      · have f3 : Frm [15, 21, 22] [] w (wup w2 15 m (jn (x + k))) := frm_wup i2 _ _ _ rfl
        have s3 := MSt_fish hh i3 (m := m) (by omega) (jn (x + k))
        rw [upd_upd] at s3
        have gk : GdS h (upd c (8 + m) (jn (x + k))) := GdS_fish hh hg (by omega) (by omega)
        simp (disch := omega) only [B_M_fishFor_12, ↓bi_eq, ↓bw_eq, gd_pos, br_pos, br_neg, br_T, br_F, gd_T, bq_some, bd_some, bv_some, bl_some, bx_inl, bx_inr, bn_none, bn_some, bt_inl, bt_inr, not_true_eq_false, not_false_eq_true, eq_self, Bool.false_eq_true, if_true, if_false, jn_clamp, jn_lt, jn_le, jn_inj, jn_add, jn_sub, jn_mul, jn_vp, jn_0a, jn_1a, jn_1b, jn_1s, jn_1m, jn_neg0, jn_le0, jn_0le, jn_0lt, jn_1le, jn_le1, jn_lt1, jn_1lt, jn_e0, jn_e1, jn_em, ↓qB_f, ↓qT_f, cl_0, cl_1, vp_0, vp_1, li_9, ret_bd]
        generalize wup w2 15 m (jn (x + k)) = w3 at f3 s3 ⊢
        refine ret_mono (t_getsUp (MHs_fr hw f3 ⟨rfl, rfl, rfl, rfl, rfl, fun _ => rfl, fun _ => rfl, fun _ => rfl⟩) s3 hh gk hm) (fun q hq => ?_)
        obtain ⟨v, w4⟩ := q
        obtain ⟨p1, p2⟩ := hq
        simp only at p1 p2
        subst p1
        have f4 : Frm [15, 21, 22] [] w w4 := frm_tr f3 (frm_up p2 rfl)
        have s4 : MSt w4 h (upd c (8 + m) (jn (x + k))) := MSt_fr s3 p2 ⟨fun _ => rfl, fun _ => rfl, fun _ => rfl, fun _ => rfl, fun _ => rfl, fun _ => rfl, rfl, rfl, rfl⟩
        by_cases hz : sUp h (upd c (8 + m) (jn (x + k))) m = true
        · have hp : frP h c m x k = true := hz
          rw [srch_y hp (by omega)] at i4
          simp (disch := omega) only [K_M_fishFor_47, ↓bi_eq, ↓bw_eq, gd_pos, br_pos, br_neg, br_T, br_F, gd_T, bq_some, bd_some, bv_some, bl_some, bx_inl, bx_inr, bn_none, bn_some, bt_inl, bt_inr, not_true_eq_false, not_false_eq_true, eq_self, Bool.false_eq_true, if_true, if_false, jn_clamp, jn_lt, jn_le, jn_inj, jn_add, jn_sub, jn_mul, jn_vp, jn_0a, jn_1a, jn_1b, jn_1s, jn_1m, jn_neg0, jn_le0, jn_0le, jn_0lt, jn_1le, jn_le1, jn_lt1, jn_1lt, jn_e0, jn_e1, jn_em, ↓qB_f, ↓qT_f, cl_0, cl_1, vp_0, vp_1, hz, (by decide : ((1 : Int32) = 0) = False), ret_some, LQ_inl]
          exact ⟨trivial, f4, ⟨_, s4⟩, Or.inr ⟨k, by omega, i4.symm, rfl⟩⟩
        · have hp : ¬ frP h c m x k = true := hz
          rw [srch_n hp (by omega)] at i4
          simp (disch := omega) only [K_M_fishFor_47, ↓bi_eq, ↓bw_eq, gd_pos, br_pos, br_neg, br_T, br_F, gd_T, bq_some, bd_some, bv_some, bl_some, bx_inl, bx_inr, bn_none, bn_some, bt_inl, bt_inr, not_true_eq_false, not_false_eq_true, eq_self, Bool.false_eq_true, if_true, if_false, jn_clamp, jn_lt, jn_le, jn_inj, jn_add, jn_sub, jn_mul, jn_vp, jn_0a, jn_1a, jn_1b, jn_1s, jn_1m, jn_neg0, jn_le0, jn_0le, jn_0lt, jn_1le, jn_le1, jn_lt1, jn_1lt, jn_e0, jn_e1, jn_em, ↓qB_f, ↓qT_f, cl_0, cl_1, vp_0, vp_1, hz, ret_some, LQ_inl]
          exact ⟨trivial, f4, ⟨_, s4⟩, Or.inl ⟨trivial, by rw [← i4]; rfl⟩⟩
      · simp (disch := omega) only [B_M_fishFor_12, ↓bi_eq, ↓bw_eq, gd_pos, br_pos, br_neg, br_T, br_F, gd_T, bq_some, bd_some, bv_some, bl_some, bx_inl, bx_inr, bn_none, bn_some, bt_inl, bt_inr, not_true_eq_false, not_false_eq_true, eq_self, Bool.false_eq_true, if_true, if_false, jn_clamp, jn_lt, jn_le, jn_inj, jn_add, jn_sub, jn_mul, jn_vp, jn_0a, jn_1a, jn_1b, jn_1s, jn_1m, jn_neg0, jn_le0, jn_0le, jn_0lt, jn_1le, jn_le1, jn_lt1, jn_1lt, jn_e0, jn_e1, jn_em, ↓qB_f, ↓qT_f, cl_0, cl_1, vp_0, vp_1, li_9, ret_some, LQ_inr]
        exact ⟨by rw [i4]; rfl, i2, ⟨y, i3⟩⟩
    · obtain ⟨b, i, w2⟩ := s
      obtain ⟨i1, i2, i3, i4⟩ := hi
      simp only at i1 i2 i3 i4
      subst i1
      simp (disch := omega) only [B_M_fishFor_12, jn_add]
      rw [br_pos (by rw [li_9, jn_lt (by omega) (by omega)]; omega), ret_some, LQ_inr]
      rcases i4 with ⟨rfl, i4⟩ | ⟨u, hu, i4, rfl⟩
      · refine ⟨?_, i2, i3⟩
        rw [← i4, show 10 - x - (10 - x) = 0 by omega]; rfl
      · exact ⟨by rw [i4]; rfl, i2, i3⟩
  · obtain ⟨v, w2⟩ := q
    obtain ⟨q1, q2, y, q3⟩ := hq
    simp only at q1 q2 q3
    have s3 := MSt_fish hh q3 (m := m) (by omega) (c (8 + m))
    rw [upd_upd, upd_id, ex] at s3
    simp (disch := omega) only [↓bi_eq, ↓bw_eq, gd_pos, br_pos, br_neg, br_T, br_F, gd_T, bq_some, bd_some, bv_some, bl_some, bx_inl, bx_inr, bn_none, bn_some, bt_inl, bt_inr, not_true_eq_false, not_false_eq_true, eq_self, Bool.false_eq_true, if_true, if_false, jn_clamp, jn_lt, jn_le, jn_inj, jn_add, jn_sub, jn_mul, jn_vp, jn_0a, jn_1a, jn_1b, jn_1s, jn_1m, jn_neg0, jn_le0, jn_0le, jn_0lt, jn_1le, jn_le1, jn_lt1, jn_1lt, jn_e0, jn_e1, jn_em, ↓qB_f, ↓qT_f, cl_0, cl_1, vp_0, vp_1, ret_some]
    exact ⟨q1, frm_wup q2 _ _ _ rfl, s3⟩
/-- the cheapest of a voice: of like ones the last -/
def ckS (a : Option (Nat × Nat)) (m : Nat) (r : Option Nat) : Option (Nat × Nat) := match r with
  | none => a
  | some n => match a with
    | none => some (m, n)
    | some p => if n ≤ p.2 then some (m, n) else some p
def ckR (q : Nat → Option Nat) : Nat → Option (Nat × Nat) := fl (fun m a => ckS a m (q m)) none
theorem ckR_s (q : Nat → Option Nat) (m : Nat) : ckR q (m + 1) = ckS (ckR q m) m (q m) := rfl
theorem ckR_ok (q : Nat → Option Nat) : ∀ n p, ckR q n = some p → p.1 < n ∧ q p.1 = some p.2 := by
  intro n
  induction n with
  | zero => intro p h; cases h
  | succ n ih =>
    intro p h
    rw [ckR_s] at h
    unfold ckS at h
    split at h
    · obtain ⟨a, b⟩ := ih p h; exact ⟨by omega, b⟩
    · rename_i r e
      split at h
      · cases h; exact ⟨by simp, e⟩
      · rename_i p' e'
        split at h
        · cases h; exact ⟨by simp, e⟩
        · cases h
          obtain ⟨a, b⟩ := ih _ e'; exact ⟨by omega, b⟩
def vcQ (h : Hs) (c : Sta) (v : Nat) : Nat → Option Nat := fun m => if hsO h m = jn v then frT h c m else none
def eat (h : Hs) (c : Sta) (v : Nat) : Option (Nat × Nat) := ckR (vcQ h c v) (hsM h)
theorem eat_ok {h : Hs} {c : Sta} {v : Nat} {p : Nat × Nat} (e : eat h c v = some p) : p.1 < hsM h ∧ hsO h p.1 = jn v ∧ frT h c p.1 = some p.2 := by
  obtain ⟨a, b⟩ := ckR_ok _ _ _ e
  unfold vcQ at b
  split at b
  · exact ⟨a, by assumption, b⟩
  · cases b
def bsI (a : Option (Nat × Nat)) : Int32 := match a with
  | none => -1
  | some p => jn p.1
def lsI (d : Int32) (a : Option (Nat × Nat)) : Int32 := match a with
  | none => d
  | some p => jn p.2
theorem c_cheap {w : Wld} {h : Hs} (hc : CHs w h) (hh : GdH h) (hg : GdS h (w 66)) {v : Nat} (hv : v < 4) : Ret (F_C_cheapestRiser w (jn v)) (fun q => q.1 = bsI (eat h (w 66) v) ∧ Frm [61, 62, 85] [] w q.2) := by
  have hM := hh.2.1
  rw [F_C_cheapestRiser, ret_bl]
  refine ret_mono (P := fun q => q.1 = bsI (eat h (w 66) v) ∧ Frm [61, 62, 85] [] w q.2) ?_ (fun q hq => by rw [ret_some]; exact hq)
  refine loop_inv (I := fun m s => s.1 = bsI (ckR (vcQ h (w 66) v) m) ∧ s.2.1 = lsI 10 (ckR (vcQ h (w 66) v) m) ∧ s.2.2.1 = jn m ∧ Frm [61, 62, 85] [] w s.2.2.2) (hsM h) ⟨rfl, rfl, rfl, frm_rf⟩ (fun m s hm hi => ?_) (fun s hi => ?_)
  · obtain ⟨b, l, i, w1⟩ := s
    obtain ⟨i0, i1, i2, i3⟩ := hi
    simp only at i0 i1 i2 i3
    subst i2
    obtain ⟨o, ho, eo⟩ := hh.2.2.2.1 m hm
    have e1 : w1 56 1 = jn (hsM h) := (i3 56 1 rfl).trans hc.2.1
    have e58 : w1 58 m = jn o := ((i3 58 m rfl).trans (hc.2.2.2.2.2.1 m hm)).trans eo
    have e66 : w1 66 = w 66 := frm_cell i3 66 (fun _ => rfl)
    rw [ckR_s]
    by_cases hv9 : o = v
    · have eq : vcQ h (w 66) v m = frT h (w 66) m := by unfold vcQ; rw [eo, hv9, if_pos rfl]
      rw [eq]
      simp (disch := omega) only [B_C_cheapestRiser_8, ↓bi_eq, ↓bw_eq, gd_pos, br_pos, br_neg, br_T, br_F, gd_T, bq_some, bd_some, bv_some, bl_some, bx_inl, bx_inr, bn_none, bn_some, bt_inl, bt_inr, not_true_eq_false, not_false_eq_true, eq_self, Bool.false_eq_true, if_true, if_false, jn_clamp, jn_lt, jn_le, jn_inj, jn_add, jn_sub, jn_mul, jn_vp, jn_0a, jn_1a, jn_1b, jn_1s, jn_1m, jn_neg0, jn_le0, jn_0le, jn_0lt, jn_1le, jn_le1, jn_lt1, jn_1lt, jn_e0, jn_e1, jn_em, ↓qB_f, ↓qT_f, cl_0, cl_1, vp_0, vp_1, e1, e58, hv9, ret_bd]
      refine ret_mono (c_rise (CHs_fr hc i3 ⟨rfl, rfl, rfl, rfl, fun _ => rfl, fun _ => rfl, rfl, fun _ => rfl⟩) hh (by rw [e66]; exact hg) hm) (fun q hq => ?_)
      obtain ⟨r, w2⟩ := q
      obtain ⟨p1, p2⟩ := hq
      simp only at p1 p2
      rw [e66] at p1
      have f2 := frm_tr i3 p2
      have hle : ∀ n, frT h (w 66) m = some n → n < 10 := fun n e => frT_le e
      have hck := ckR_ok (vcQ h (w 66) v) m
      generalize frT h (w 66) m = R at p1 hle ⊢
      cases R with
      | none =>
        have p1 : r = -1 := p1
        subst p1
        simp (disch := omega) only [K_C_cheapestRiser_60, ↓bi_eq, ↓bw_eq, gd_pos, br_pos, br_neg, br_T, br_F, gd_T, bq_some, bd_some, bv_some, bl_some, bx_inl, bx_inr, bn_none, bn_some, bt_inl, bt_inr, not_true_eq_false, not_false_eq_true, eq_self, Bool.false_eq_true, if_true, if_false, jn_clamp, jn_lt, jn_le, jn_inj, jn_add, jn_sub, jn_mul, jn_vp, jn_0a, jn_1a, jn_1b, jn_1s, jn_1m, jn_neg0, jn_le0, jn_0le, jn_0lt, jn_1le, jn_le1, jn_lt1, jn_1lt, jn_e0, jn_e1, jn_em, ↓qB_f, ↓qT_f, cl_0, cl_1, vp_0, vp_1, ckS, ret_some, LQ_inl]
        exact ⟨i0, i1, trivial, f2⟩
      | some n =>
        have p1 : r = jn n := p1
        subst p1
        have hn := hle n rfl
        have hq9 : ∀ p, ckR (vcQ h (w 66) v) m = some p → p.2 < 10 := fun p e => by
          have := (hck p e).2
          unfold vcQ at this
          split at this
          · exact frT_le this
          · cases this
        generalize ckR (vcQ h (w 66) v) m = A at i0 i1 hq9 ⊢
        cases A with
        | none =>
          have i1 : l = jn 10 := i1
          subst i1
          simp (disch := omega) only [K_C_cheapestRiser_60, ↓bi_eq, ↓bw_eq, gd_pos, br_pos, br_neg, br_T, br_F, gd_T, bq_some, bd_some, bv_some, bl_some, bx_inl, bx_inr, bn_none, bn_some, bt_inl, bt_inr, not_true_eq_false, not_false_eq_true, eq_self, Bool.false_eq_true, if_true, if_false, jn_clamp, jn_lt, jn_le, jn_inj, jn_add, jn_sub, jn_mul, jn_vp, jn_0a, jn_1a, jn_1b, jn_1s, jn_1m, jn_neg0, jn_le0, jn_0le, jn_0lt, jn_1le, jn_le1, jn_lt1, jn_1lt, jn_e0, jn_e1, jn_em, ↓qB_f, ↓qT_f, cl_0, cl_1, vp_0, vp_1, ckS, ret_some, LQ_inl]
          exact ⟨rfl, rfl, trivial, f2⟩
        | some p =>
          have i1 : l = jn p.2 := i1
          have hp := hq9 p rfl
          subst i1
          by_cases hl : n ≤ p.2
          · simp (disch := omega) only [K_C_cheapestRiser_60, ↓bi_eq, ↓bw_eq, gd_pos, br_pos, br_neg, br_T, br_F, gd_T, bq_some, bd_some, bv_some, bl_some, bx_inl, bx_inr, bn_none, bn_some, bt_inl, bt_inr, not_true_eq_false, not_false_eq_true, eq_self, Bool.false_eq_true, if_true, if_false, jn_clamp, jn_lt, jn_le, jn_inj, jn_add, jn_sub, jn_mul, jn_vp, jn_0a, jn_1a, jn_1b, jn_1s, jn_1m, jn_neg0, jn_le0, jn_0le, jn_0lt, jn_1le, jn_le1, jn_lt1, jn_1lt, jn_e0, jn_e1, jn_em, ↓qB_f, ↓qT_f, cl_0, cl_1, vp_0, vp_1, ckS, hl, ret_some, LQ_inl]
            exact ⟨rfl, rfl, trivial, f2⟩
          · simp (disch := omega) only [K_C_cheapestRiser_60, ↓bi_eq, ↓bw_eq, gd_pos, br_pos, br_neg, br_T, br_F, gd_T, bq_some, bd_some, bv_some, bl_some, bx_inl, bx_inr, bn_none, bn_some, bt_inl, bt_inr, not_true_eq_false, not_false_eq_true, eq_self, Bool.false_eq_true, if_true, if_false, jn_clamp, jn_lt, jn_le, jn_inj, jn_add, jn_sub, jn_mul, jn_vp, jn_0a, jn_1a, jn_1b, jn_1s, jn_1m, jn_neg0, jn_le0, jn_0le, jn_0lt, jn_1le, jn_le1, jn_lt1, jn_1lt, jn_e0, jn_e1, jn_em, ↓qB_f, ↓qT_f, cl_0, cl_1, vp_0, vp_1, ckS, hl, ret_some, LQ_inl]
            exact ⟨i0, rfl, trivial, f2⟩
    · have hne : ¬ jn o = jn v := by rw [jn_inj (by omega) (by omega)]; exact hv9
      have eq : vcQ h (w 66) v m = none := by unfold vcQ; rw [eo, if_neg hne]
      rw [eq]
      simp (disch := omega) only [B_C_cheapestRiser_8, K_C_cheapestRiser_60, ↓bi_eq, ↓bw_eq, gd_pos, br_pos, br_neg, br_T, br_F, gd_T, bq_some, bd_some, bv_some, bl_some, bx_inl, bx_inr, bn_none, bn_some, bt_inl, bt_inr, not_true_eq_false, not_false_eq_true, eq_self, Bool.false_eq_true, if_true, if_false, jn_clamp, jn_lt, jn_le, jn_inj, jn_add, jn_sub, jn_mul, jn_vp, jn_0a, jn_1a, jn_1b, jn_1s, jn_1m, jn_neg0, jn_le0, jn_0le, jn_0lt, jn_1le, jn_le1, jn_lt1, jn_1lt, jn_e0, jn_e1, jn_em, ↓qB_f, ↓qT_f, cl_0, cl_1, vp_0, vp_1, e1, e58, hv9, ckS, ret_some, LQ_inl]
      exact ⟨i0, i1, trivial, i3⟩
  · obtain ⟨b, l, i, w1⟩ := s
    obtain ⟨i0, i1, i2, i3⟩ := hi
    simp only at i0 i1 i2 i3
    subst i2
    have e1 : w1 56 1 = jn (hsM h) := (i3 56 1 rfl).trans hc.2.1
    simp (disch := omega) only [B_C_cheapestRiser_8, ↓bi_eq, ↓bw_eq, gd_pos, br_pos, br_neg, br_T, br_F, gd_T, bq_some, bd_some, bv_some, bl_some, bx_inl, bx_inr, bn_none, bn_some, bt_inl, bt_inr, not_true_eq_false, not_false_eq_true, eq_self, Bool.false_eq_true, if_true, if_false, jn_clamp, jn_lt, jn_le, jn_inj, jn_add, jn_sub, jn_mul, jn_vp, jn_0a, jn_1a, jn_1b, jn_1s, jn_1m, jn_neg0, jn_le0, jn_0le, jn_0lt, jn_1le, jn_le1, jn_lt1, jn_1lt, jn_e0, jn_e1, jn_em, ↓qB_f, ↓qT_f, cl_0, cl_1, vp_0, vp_1, e1, br_pos (Nat.le_refl (hsM h)), ret_some, LQ_inr]
    exact ⟨i0, i3⟩
theorem m_cheap {w : Wld} {h : Hs} {c : Sta} (hw : MHs w h) (hs : MSt w h c) (hh : GdH h) (hg : GdS h c) (a1 : Int32) {v : Nat} (hv : v < 4) : Ret (loop (B_M_shares_42 a1 (jn v)) (-1, 0, 0, w)) (fun q => q.1 = bsI (eat h c v) ∧ q.2.1 = lsI 0 (eat h c v) ∧ Frm [15, 21, 22] [] w q.2.2 ∧ MSt q.2.2 h c) := by
  have hM := hh.2.1
  refine loop_inv (I := fun m s => s.1 = bsI (ckR (vcQ h c v) m) ∧ s.2.1 = lsI 0 (ckR (vcQ h c v) m) ∧ s.2.2.1 = jn m ∧ Frm [15, 21, 22] [] w s.2.2.2 ∧ MSt s.2.2.2 h c) (hsM h) ⟨rfl, rfl, rfl, frm_rf, hs⟩ (fun m s hm hi => ?_) (fun s hi => ?_)
  · obtain ⟨b, l, i, w1⟩ := s
    obtain ⟨i0, i1, i2, i3, i4⟩ := hi
    simp only at i0 i1 i2 i3 i4
    subst i2
    obtain ⟨o, ho, eo⟩ := hh.2.2.2.1 m hm
    have h1 : MHs w1 h := MHs_fr hw i3 ⟨rfl, rfl, rfl, rfl, rfl, fun _ => rfl, fun _ => rfl, fun _ => rfl⟩
    have e1 : w1 3 1 = jn (hsM h) := h1.2.1
    have e7 : w1 7 m = jn o := (h1.2.2.2.2.2.2.1 m hm).trans eo
    rw [ckR_s]
    by_cases hv9 : o = v
    · have eq : vcQ h c v m = frT h c m := by unfold vcQ; rw [eo, hv9, if_pos rfl]
      rw [eq]
      simp (disch := omega) only [B_M_shares_42, ↓bi_eq, ↓bw_eq, gd_pos, br_pos, br_neg, br_T, br_F, gd_T, bq_some, bd_some, bv_some, bl_some, bx_inl, bx_inr, bn_none, bn_some, bt_inl, bt_inr, not_true_eq_false, not_false_eq_true, eq_self, Bool.false_eq_true, if_true, if_false, jn_clamp, jn_lt, jn_le, jn_inj, jn_add, jn_sub, jn_mul, jn_vp, jn_0a, jn_1a, jn_1b, jn_1s, jn_1m, jn_neg0, jn_le0, jn_0le, jn_0lt, jn_1le, jn_le1, jn_lt1, jn_1lt, jn_e0, jn_e1, jn_em, ↓qB_f, ↓qT_f, cl_0, cl_1, vp_0, vp_1, e1, e7, hv9, ret_bd]
      refine ret_mono (m_rise h1 i4 hh hg hm) (fun q hq => ?_)
      obtain ⟨r, w2⟩ := q
      obtain ⟨p1, p2, p3⟩ := hq
      simp only at p1 p2 p3
      have f2 := frm_tr i3 p2
      have hle : ∀ n, frT h c m = some n → n < 10 := fun n e => frT_le e
      have hck := ckR_ok (vcQ h c v) m
      generalize frT h c m = R at p1 hle ⊢
      cases R with
      | none =>
        have p1 : r = -1 := p1
        subst p1
        simp (disch := omega) only [K_M_shares_74, K_M_shares_104, ↓bi_eq, ↓bw_eq, gd_pos, br_pos, br_neg, br_T, br_F, gd_T, bq_some, bd_some, bv_some, bl_some, bx_inl, bx_inr, bn_none, bn_some, bt_inl, bt_inr, not_true_eq_false, not_false_eq_true, eq_self, Bool.false_eq_true, if_true, if_false, jn_clamp, jn_lt, jn_le, jn_inj, jn_add, jn_sub, jn_mul, jn_vp, jn_0a, jn_1a, jn_1b, jn_1s, jn_1m, jn_neg0, jn_le0, jn_0le, jn_0lt, jn_1le, jn_le1, jn_lt1, jn_1lt, jn_e0, jn_e1, jn_em, ↓qB_f, ↓qT_f, cl_0, cl_1, vp_0, vp_1, ckS, ret_some, LQ_inl]
        exact ⟨i0, i1, trivial, f2, p3⟩
      | some n =>
        have p1 : r = jn n := p1
        subst p1
        have hn := hle n rfl
        have hq9 : ∀ p, ckR (vcQ h c v) m = some p → p.1 < m ∧ p.2 < 10 := fun p e => by
          have := (hck p e).2
          unfold vcQ at this
          split at this
          · exact ⟨(hck p e).1, frT_le this⟩
          · cases this
        generalize ckR (vcQ h c v) m = A at i0 i1 hq9 ⊢
        cases A with
        | none =>
          have i0 : b = -1 := i0
          subst i0
          simp (disch := omega) only [K_M_shares_74, K_M_shares_97, K_M_shares_104, ↓bi_eq, ↓bw_eq, gd_pos, br_pos, br_neg, br_T, br_F, gd_T, bq_some, bd_some, bv_some, bl_some, bx_inl, bx_inr, bn_none, bn_some, bt_inl, bt_inr, not_true_eq_false, not_false_eq_true, eq_self, Bool.false_eq_true, if_true, if_false, jn_clamp, jn_lt, jn_le, jn_inj, jn_add, jn_sub, jn_mul, jn_vp, jn_0a, jn_1a, jn_1b, jn_1s, jn_1m, jn_neg0, jn_le0, jn_0le, jn_0lt, jn_1le, jn_le1, jn_lt1, jn_1lt, jn_e0, jn_e1, jn_em, ↓qB_f, ↓qT_f, cl_0, cl_1, vp_0, vp_1, ckS, ret_some, LQ_inl]
          exact ⟨rfl, rfl, trivial, f2, p3⟩
        | some p =>
          have i1 : l = jn p.2 := i1
          have i0 : b = jn p.1 := i0
          obtain ⟨hp1, hp⟩ := hq9 p rfl
          subst i1 i0
          by_cases hl : n ≤ p.2
          · simp (disch := omega) only [K_M_shares_74, K_M_shares_97, K_M_shares_104, ↓bi_eq, ↓bw_eq, gd_pos, br_pos, br_neg, br_T, br_F, gd_T, bq_some, bd_some, bv_some, bl_some, bx_inl, bx_inr, bn_none, bn_some, bt_inl, bt_inr, not_true_eq_false, not_false_eq_true, eq_self, Bool.false_eq_true, if_true, if_false, jn_clamp, jn_lt, jn_le, jn_inj, jn_add, jn_sub, jn_mul, jn_vp, jn_0a, jn_1a, jn_1b, jn_1s, jn_1m, jn_neg0, jn_le0, jn_0le, jn_0lt, jn_1le, jn_le1, jn_lt1, jn_1lt, jn_e0, jn_e1, jn_em, ↓qB_f, ↓qT_f, cl_0, cl_1, vp_0, vp_1, ckS, hl, ret_some, LQ_inl]
            exact ⟨rfl, rfl, trivial, f2, p3⟩
          · simp (disch := omega) only [K_M_shares_74, K_M_shares_97, K_M_shares_104, ↓bi_eq, ↓bw_eq, gd_pos, br_pos, br_neg, br_T, br_F, gd_T, bq_some, bd_some, bv_some, bl_some, bx_inl, bx_inr, bn_none, bn_some, bt_inl, bt_inr, not_true_eq_false, not_false_eq_true, eq_self, Bool.false_eq_true, if_true, if_false, jn_clamp, jn_lt, jn_le, jn_inj, jn_add, jn_sub, jn_mul, jn_vp, jn_0a, jn_1a, jn_1b, jn_1s, jn_1m, jn_neg0, jn_le0, jn_0le, jn_0lt, jn_1le, jn_le1, jn_lt1, jn_1lt, jn_e0, jn_e1, jn_em, ↓qB_f, ↓qT_f, cl_0, cl_1, vp_0, vp_1, ckS, hl, ret_some, LQ_inl]
            exact ⟨rfl, rfl, trivial, f2, p3⟩
    · have hne : ¬ jn o = jn v := by rw [jn_inj (by omega) (by omega)]; exact hv9
      have eq : vcQ h c v m = none := by unfold vcQ; rw [eo, if_neg hne]
      rw [eq]
      simp (disch := omega) only [B_M_shares_42, K_M_shares_74, K_M_shares_104, ↓bi_eq, ↓bw_eq, gd_pos, br_pos, br_neg, br_T, br_F, gd_T, bq_some, bd_some, bv_some, bl_some, bx_inl, bx_inr, bn_none, bn_some, bt_inl, bt_inr, not_true_eq_false, not_false_eq_true, eq_self, Bool.false_eq_true, if_true, if_false, jn_clamp, jn_lt, jn_le, jn_inj, jn_add, jn_sub, jn_mul, jn_vp, jn_0a, jn_1a, jn_1b, jn_1s, jn_1m, jn_neg0, jn_le0, jn_0le, jn_0lt, jn_1le, jn_le1, jn_lt1, jn_1lt, jn_e0, jn_e1, jn_em, ↓qB_f, ↓qT_f, cl_0, cl_1, vp_0, vp_1, e1, e7, hv9, ckS, ret_some, LQ_inl]
      exact ⟨i0, i1, trivial, i3, i4⟩
  · obtain ⟨b, l, i, w1⟩ := s
    obtain ⟨i0, i1, i2, i3, i4⟩ := hi
    simp only at i0 i1 i2 i3 i4
    subst i2
    have e1 : w1 3 1 = jn (hsM h) := (MHs_fr hw i3 ⟨rfl, rfl, rfl, rfl, rfl, fun _ => rfl, fun _ => rfl, fun _ => rfl⟩).2.1
    simp (disch := omega) only [B_M_shares_42, ↓bi_eq, ↓bw_eq, gd_pos, br_pos, br_neg, br_T, br_F, gd_T, bq_some, bd_some, bv_some, bl_some, bx_inl, bx_inr, bn_none, bn_some, bt_inl, bt_inr, not_true_eq_false, not_false_eq_true, eq_self, Bool.false_eq_true, if_true, if_false, jn_clamp, jn_lt, jn_le, jn_inj, jn_add, jn_sub, jn_mul, jn_vp, jn_0a, jn_1a, jn_1b, jn_1s, jn_1m, jn_neg0, jn_le0, jn_0le, jn_0lt, jn_1le, jn_le1, jn_lt1, jn_1lt, jn_e0, jn_e1, jn_em, ↓qB_f, ↓qT_f, cl_0, cl_1, vp_0, vp_1, e1, br_pos (Nat.le_refl (hsM h)), ret_some, LQ_inr]
    exact ⟨i0, i1, i3, i4⟩
