/-! ===== questions: full, silent, meets, often, lonely ===== -/
theorem m_open {w1 : Wld} {h : Hs} {c : Sta} (r1 : RelH w1 h) (e66 : w1 66 = c) : Ret (F_M_pack_24 (wup w1 0 2 0) 0) (fun w2 => Frm LPu KPu w1 w2 ∧ MHs w2 h ∧ MSt w2 h c ∧ MRow (w2 24) h c ∧ w2 0 2 = 0) := by
  obtain ⟨z1, z2, z3, z4⟩ := m_ent r1
  rw [e66] at z2
  refine ret_mono (m_pack z2 r1.1) (fun w2 hq => ?_)
  obtain ⟨q1, q2⟩ := hq
  exact ⟨frm_tr z3 (frm_up q1 rfl), MHs_fr z1 q1 ⟨rfl, rfl, rfl, rfl, rfl, fun _ => rfl, fun _ => rfl, fun _ => rfl⟩, MSt_fr z2 q1 ⟨fun _ => rfl, fun _ => rfl, fun _ => rfl, fun _ => rfl, fun _ => rfl, fun _ => rfl, rfl, rfl, rfl⟩, q2, (q1 0 2 rfl).trans z4⟩
theorem m_close {w1 w3 : Wld} {h : Hs} {c : Sta} (r1 : RelH w1 h) (e66 : w1 66 = c) (f : Frm LPu KPu w1 w3) (hrow : MRow (w3 24) h c) (ec : w3 0 2 = 0) : Ret (F_M_unpack_24 w3 0) (fun w4 => w4 0 2 = 0 ∧ RelH w4 h ∧ w4 41 0 = w1 41 0 ∧ Frm [14, 15, 16, 17, 18, 19] [(0, 31), (0, 32), (0, 33)] w3 w4) := by
  refine ret_mono (m_unpack hrow r1.1) (fun w4 hx => ?_)
  obtain ⟨x1, x2⟩ := hx
  obtain ⟨y1, y2⟩ := q_ans r1 e66 (frm_tr f (frm_up x1 rfl)) x2
  exact ⟨(x1 0 2 rfl).trans ec, y1, y2, x1⟩
/-- a world in the midst of nights that the model looks ahead -/
def MAh (w2 : Wld) (h : Hs) (c : Sta) (w3 : Wld) : Prop := Frm nFrL nFrK w2 w3 ∧ MSt w3 h c
theorem m_night {w2 w3 : Wld} {h : Hs} {c : Sta} (hw : MHs w2 h) (hh : GdH h) (hg : GdS h c) (a : MAh w2 h c w3) : Ret (F_M_aNight w3) (fun w4 => MAh w2 h (sPass h c) w4 ∧ MSeen w4 h c) := by
  refine ret_mono (t_aNight (MHs_fr hw a.1 ⟨rfl, rfl, rfl, rfl, rfl, fun _ => rfl, fun _ => rfl, fun _ => rfl⟩) a.2 hh hg) (fun w4 hq => ?_)
  obtain ⟨q1, q2, q3⟩ := hq
  exact ⟨⟨frm_tr a.1 (frm_up q1 rfl), q2⟩, q3⟩
theorem MAh_row {w2 w3 : Wld} {h : Hs} {c d : Sta} (a : MAh w2 h c w3) (hr : MRow (w2 24) h d) : MRow (w3 24) h d := by
  rw [frm_cell a.1 24 (fun _ => rfl)]; exact hr
theorem MAh_c {w2 w3 : Wld} {h : Hs} {c : Sta} (a : MAh w2 h c w3) (e : w2 0 2 = 0) : w3 0 2 = 0 := (a.1 0 2 rfl).trans e
theorem MAh_f {w1 w2 w3 : Wld} {h : Hs} {c : Sta} (a : MAh w2 h c w3) (f : Frm LPu KPu w1 w2) : Frm LPu KPu w1 w3 := frm_tr f (frm_up a.1 rfl)
theorem MSt_last {w : Wld} {h : Hs} {c : Sta} (s : MSt w h (sPass h c)) : w 0 32 = jn (sRis h c) := by
  rw [s.2.2.2.1, sPass, if_pos rfl]
theorem m_full {w : Wld} {h : Hs} (r : RelH w h) (w1 : Wld) (r1 : RelH w1 h) (e66 : w1 66 = w 66) : Ret (F_M_full w1) (fun p => p.1 = oI 1 (srch (pFull h (w 66)) 0 60) ∧ RelH p.2 h) := by
  have hh := r.1
  have hg := r.2.2.2.1.1
  rw [F_M_full, bw_eq, ret_bv]
  refine ret_mono (m_open r1 e66) (fun w2 hq => ?_)
  obtain ⟨f2, h2, s2, row2, c2⟩ := hq
  rw [ret_bl]
  refine ret_mono (P := fun q => q.1 = oI 1 (srch (pFull h (w 66)) 0 60) ∧ ∃ c, MAh w2 h c q.2) ?_ (fun q hq => ?_)
  · refine loop_inv (I := fun k s => s.2.1 = jn (k + 1) ∧ ((s.1 = -1 ∧ MAh w2 h (sGo h (w 66) k) s.2.2 ∧ srch (pFull h (w 66)) k (60 - k) = srch (pFull h (w 66)) 0 60) ∨ (∃ x, x < 60 ∧ srch (pFull h (w 66)) 0 60 = some x ∧ s.1 = jn (x + 1) ∧ ∃ c, MAh w2 h c s.2.2))) 60 ⟨rfl, Or.inl ⟨rfl, ⟨frm_rf, s2⟩, rfl⟩⟩ (fun k s hk hi => ?_) (fun s hi => ?_)
    · obtain ⟨b, i, w3⟩ := s
      obtain ⟨i1, i2⟩ := hi
      simp only at i1 i2
      subst i1
      rcases i2 with ⟨rfl, i3, i4⟩ | ⟨x, hx, i3, rfl, i4⟩
      · simp (disch := omega) only [B_M_full_18, ↓bi_eq, ↓bw_eq, gd_pos, br_pos, br_neg, br_T, br_F, gd_T, bp_some, bd_some, bv_some, bl_some, bx_inl, bx_inr, bn_none, bn_some, bt_inl, bt_inr, not_true_eq_false, not_false_eq_true, eq_self, Bool.false_eq_true, if_true, if_false, jn_clamp, jn_lt, jn_le, jn_inj, jn_add, jn_sub, jn_mul, jn_vp, jn_0a, jn_1a, jn_1b, jn_1s, jn_1m, jn_neg0, jn_le0, jn_0le, jn_0lt, jn_1le, jn_le1, jn_lt1, jn_1lt, jn_e0, jn_e1, jn_em, ↓qB_f, ↓qT_f, cl_0, cl_1, vp_0, vp_1, li_60, ret_bv]
        refine ret_mono (m_night h2 hh (sGo_good hh hg k) i3) (fun w4 hq => ?_)
        obtain ⟨a4, m4⟩ := hq
        have hlt := sShort_lt hh (sGo h (w 66) k)
        have e9 : w4 0 39 = jn (sShort h (sGo h (w 66) k)) := by
          first | exact m4.2.1 | exact MSt_last a4.2
        rw [e9]
        by_cases hz : sShort h (sGo h (w 66) k) = 0
        · have hp : pFull h (w 66) k = true := by unfold pFull; rw [hz]; rfl
          rw [srch_y hp (by omega)] at i4
          simp (disch := omega) only [K_M_full_42, ↓bi_eq, ↓bw_eq, gd_pos, br_pos, br_neg, br_T, br_F, gd_T, bp_some, bd_some, bv_some, bl_some, bx_inl, bx_inr, bn_none, bn_some, bt_inl, bt_inr, not_true_eq_false, not_false_eq_true, eq_self, Bool.false_eq_true, if_true, if_false, jn_clamp, jn_lt, jn_le, jn_inj, jn_add, jn_sub, jn_mul, jn_vp, jn_0a, jn_1a, jn_1b, jn_1s, jn_1m, jn_neg0, jn_le0, jn_0le, jn_0lt, jn_1le, jn_le1, jn_lt1, jn_1lt, jn_e0, jn_e1, jn_em, ↓qB_f, ↓qT_f, cl_0, cl_1, vp_0, vp_1, hz, ret_some, LQ_inl]
          exact ⟨trivial, Or.inr ⟨k, hk, i4.symm, rfl, _, a4⟩⟩
        · have hp : ¬ pFull h (w 66) k = true := by unfold pFull; simp [hz]
          rw [srch_n hp (by omega)] at i4
          simp (disch := omega) only [K_M_full_42, ↓bi_eq, ↓bw_eq, gd_pos, br_pos, br_neg, br_T, br_F, gd_T, bp_some, bd_some, bv_some, bl_some, bx_inl, bx_inr, bn_none, bn_some, bt_inl, bt_inr, not_true_eq_false, not_false_eq_true, eq_self, Bool.false_eq_true, if_true, if_false, jn_clamp, jn_lt, jn_le, jn_inj, jn_add, jn_sub, jn_mul, jn_vp, jn_0a, jn_1a, jn_1b, jn_1s, jn_1m, jn_neg0, jn_le0, jn_0le, jn_0lt, jn_1le, jn_le1, jn_lt1, jn_1lt, jn_e0, jn_e1, jn_em, ↓qB_f, ↓qT_f, cl_0, cl_1, vp_0, vp_1, hz, ret_some, LQ_inl]
          exact ⟨trivial, Or.inl ⟨trivial, a4, by rw [← i4]; rfl⟩⟩
      · simp (disch := omega) only [B_M_full_18, ↓bi_eq, ↓bw_eq, gd_pos, br_pos, br_neg, br_T, br_F, gd_T, bp_some, bd_some, bv_some, bl_some, bx_inl, bx_inr, bn_none, bn_some, bt_inl, bt_inr, not_true_eq_false, not_false_eq_true, eq_self, Bool.false_eq_true, if_true, if_false, jn_clamp, jn_lt, jn_le, jn_inj, jn_add, jn_sub, jn_mul, jn_vp, jn_0a, jn_1a, jn_1b, jn_1s, jn_1m, jn_neg0, jn_le0, jn_0le, jn_0lt, jn_1le, jn_le1, jn_lt1, jn_1lt, jn_e0, jn_e1, jn_em, ↓qB_f, ↓qT_f, cl_0, cl_1, vp_0, vp_1, li_60, ret_some, LQ_inr]
        exact ⟨by rw [i3]; rfl, i4⟩
    · obtain ⟨b, i, w3⟩ := s
      obtain ⟨i1, i2⟩ := hi
      simp only at i1 i2
      subst i1
      simp (disch := omega) only [B_M_full_18, ↓bi_eq, ↓bw_eq, gd_pos, br_pos, br_neg, br_T, br_F, gd_T, bp_some, bd_some, bv_some, bl_some, bx_inl, bx_inr, bn_none, bn_some, bt_inl, bt_inr, not_true_eq_false, not_false_eq_true, eq_self, Bool.false_eq_true, if_true, if_false, jn_clamp, jn_lt, jn_le, jn_inj, jn_add, jn_sub, jn_mul, jn_vp, jn_0a, jn_1a, jn_1b, jn_1s, jn_1m, jn_neg0, jn_le0, jn_0le, jn_0lt, jn_1le, jn_le1, jn_lt1, jn_1lt, jn_e0, jn_e1, jn_em, ↓qB_f, ↓qT_f, cl_0, cl_1, vp_0, vp_1, li_60, ret_some, LQ_inr]
      rcases i2 with ⟨rfl, i3, i4⟩ | ⟨x, hx, i3, rfl, i4⟩
      · exact ⟨by rw [← i4]; rfl, _, i3⟩
      · exact ⟨by rw [i3]; rfl, i4⟩
  · obtain ⟨v, w3⟩ := q
    obtain ⟨q1, c, a3⟩ := hq
    simp only at q1 a3
    rw [ret_bv]
    refine ret_mono (m_close r1 e66 (MAh_f a3 f2) (MAh_row a3 row2) (MAh_c a3 c2)) (fun w4 hx => ?_)
    rw [ret_some]
    exact ⟨q1, hx.2.1⟩
theorem j_full {w : Wld} {h : Hs} (r : RelH w h) : BothJ (F_C_full w) F_M_full := BothJ_of r _ (c_full r) (fun w1 r1 e66 => m_full r w1 r1 e66)
theorem m_silent {w : Wld} {h : Hs} (r : RelH w h) (w1 : Wld) (r1 : RelH w1 h) (e66 : w1 66 = w 66) : Ret (F_M_silent w1) (fun p => p.1 = oI 1 (srch (pSil h (w 66)) 0 60) ∧ RelH p.2 h) := by
  have hh := r.1
  have hg := r.2.2.2.1.1
  rw [F_M_silent, bw_eq, ret_bv]
  refine ret_mono (m_open r1 e66) (fun w2 hq => ?_)
  obtain ⟨f2, h2, s2, row2, c2⟩ := hq
  rw [ret_bl]
  refine ret_mono (P := fun q => q.1 = oI 1 (srch (pSil h (w 66)) 0 60) ∧ ∃ c, MAh w2 h c q.2) ?_ (fun q hq => ?_)
  · refine loop_inv (I := fun k s => s.2.1 = jn (k + 1) ∧ ((s.1 = -1 ∧ MAh w2 h (sGo h (w 66) k) s.2.2 ∧ srch (pSil h (w 66)) k (60 - k) = srch (pSil h (w 66)) 0 60) ∨ (∃ x, x < 60 ∧ srch (pSil h (w 66)) 0 60 = some x ∧ s.1 = jn (x + 1) ∧ ∃ c, MAh w2 h c s.2.2))) 60 ⟨rfl, Or.inl ⟨rfl, ⟨frm_rf, s2⟩, rfl⟩⟩ (fun k s hk hi => ?_) (fun s hi => ?_)
    · obtain ⟨b, i, w3⟩ := s
      obtain ⟨i1, i2⟩ := hi
      simp only at i1 i2
      subst i1
      rcases i2 with ⟨rfl, i3, i4⟩ | ⟨x, hx, i3, rfl, i4⟩
      · simp (disch := omega) only [B_M_silent_18, ↓bi_eq, ↓bw_eq, gd_pos, br_pos, br_neg, br_T, br_F, gd_T, bp_some, bd_some, bv_some, bl_some, bx_inl, bx_inr, bn_none, bn_some, bt_inl, bt_inr, not_true_eq_false, not_false_eq_true, eq_self, Bool.false_eq_true, if_true, if_false, jn_clamp, jn_lt, jn_le, jn_inj, jn_add, jn_sub, jn_mul, jn_vp, jn_0a, jn_1a, jn_1b, jn_1s, jn_1m, jn_neg0, jn_le0, jn_0le, jn_0lt, jn_1le, jn_le1, jn_lt1, jn_1lt, jn_e0, jn_e1, jn_em, ↓qB_f, ↓qT_f, cl_0, cl_1, vp_0, vp_1, li_60, ret_bv]
        refine ret_mono (m_night h2 hh (sGo_good hh hg k) i3) (fun w4 hq => ?_)
        obtain ⟨a4, m4⟩ := hq
        have hlt := sRis_lt hh (sGo h (w 66) k)
        have e9 : w4 0 32 = jn (sRis h (sGo h (w 66) k)) := by
          first | exact m4.2.1 | exact MSt_last a4.2
        rw [e9]
        by_cases hz : sRis h (sGo h (w 66) k) = 0
        · have hp : pSil h (w 66) k = true := by unfold pSil; rw [hz]; rfl
          rw [srch_y hp (by omega)] at i4
          simp (disch := omega) only [K_M_silent_42, ↓bi_eq, ↓bw_eq, gd_pos, br_pos, br_neg, br_T, br_F, gd_T, bp_some, bd_some, bv_some, bl_some, bx_inl, bx_inr, bn_none, bn_some, bt_inl, bt_inr, not_true_eq_false, not_false_eq_true, eq_self, Bool.false_eq_true, if_true, if_false, jn_clamp, jn_lt, jn_le, jn_inj, jn_add, jn_sub, jn_mul, jn_vp, jn_0a, jn_1a, jn_1b, jn_1s, jn_1m, jn_neg0, jn_le0, jn_0le, jn_0lt, jn_1le, jn_le1, jn_lt1, jn_1lt, jn_e0, jn_e1, jn_em, ↓qB_f, ↓qT_f, cl_0, cl_1, vp_0, vp_1, hz, ret_some, LQ_inl]
          exact ⟨trivial, Or.inr ⟨k, hk, i4.symm, rfl, _, a4⟩⟩
        · have hp : ¬ pSil h (w 66) k = true := by unfold pSil; simp [hz]
          rw [srch_n hp (by omega)] at i4
          simp (disch := omega) only [K_M_silent_42, ↓bi_eq, ↓bw_eq, gd_pos, br_pos, br_neg, br_T, br_F, gd_T, bp_some, bd_some, bv_some, bl_some, bx_inl, bx_inr, bn_none, bn_some, bt_inl, bt_inr, not_true_eq_false, not_false_eq_true, eq_self, Bool.false_eq_true, if_true, if_false, jn_clamp, jn_lt, jn_le, jn_inj, jn_add, jn_sub, jn_mul, jn_vp, jn_0a, jn_1a, jn_1b, jn_1s, jn_1m, jn_neg0, jn_le0, jn_0le, jn_0lt, jn_1le, jn_le1, jn_lt1, jn_1lt, jn_e0, jn_e1, jn_em, ↓qB_f, ↓qT_f, cl_0, cl_1, vp_0, vp_1, hz, ret_some, LQ_inl]
          exact ⟨trivial, Or.inl ⟨trivial, a4, by rw [← i4]; rfl⟩⟩
      · simp (disch := omega) only [B_M_silent_18, ↓bi_eq, ↓bw_eq, gd_pos, br_pos, br_neg, br_T, br_F, gd_T, bp_some, bd_some, bv_some, bl_some, bx_inl, bx_inr, bn_none, bn_some, bt_inl, bt_inr, not_true_eq_false, not_false_eq_true, eq_self, Bool.false_eq_true, if_true, if_false, jn_clamp, jn_lt, jn_le, jn_inj, jn_add, jn_sub, jn_mul, jn_vp, jn_0a, jn_1a, jn_1b, jn_1s, jn_1m, jn_neg0, jn_le0, jn_0le, jn_0lt, jn_1le, jn_le1, jn_lt1, jn_1lt, jn_e0, jn_e1, jn_em, ↓qB_f, ↓qT_f, cl_0, cl_1, vp_0, vp_1, li_60, ret_some, LQ_inr]
        exact ⟨by rw [i3]; rfl, i4⟩
    · obtain ⟨b, i, w3⟩ := s
      obtain ⟨i1, i2⟩ := hi
      simp only at i1 i2
      subst i1
      simp (disch := omega) only [B_M_silent_18, ↓bi_eq, ↓bw_eq, gd_pos, br_pos, br_neg, br_T, br_F, gd_T, bp_some, bd_some, bv_some, bl_some, bx_inl, bx_inr, bn_none, bn_some, bt_inl, bt_inr, not_true_eq_false, not_false_eq_true, eq_self, Bool.false_eq_true, if_true, if_false, jn_clamp, jn_lt, jn_le, jn_inj, jn_add, jn_sub, jn_mul, jn_vp, jn_0a, jn_1a, jn_1b, jn_1s, jn_1m, jn_neg0, jn_le0, jn_0le, jn_0lt, jn_1le, jn_le1, jn_lt1, jn_1lt, jn_e0, jn_e1, jn_em, ↓qB_f, ↓qT_f, cl_0, cl_1, vp_0, vp_1, li_60, ret_some, LQ_inr]
      rcases i2 with ⟨rfl, i3, i4⟩ | ⟨x, hx, i3, rfl, i4⟩
      · exact ⟨by rw [← i4]; rfl, _, i3⟩
      · exact ⟨by rw [i3]; rfl, i4⟩
  · obtain ⟨v, w3⟩ := q
    obtain ⟨q1, c, a3⟩ := hq
    simp only at q1 a3
    rw [ret_bv]
    refine ret_mono (m_close r1 e66 (MAh_f a3 f2) (MAh_row a3 row2) (MAh_c a3 c2)) (fun w4 hx => ?_)
    rw [ret_some]
    exact ⟨q1, hx.2.1⟩
theorem j_silent {w : Wld} {h : Hs} (r : RelH w h) : BothJ (F_C_silent w) F_M_silent := BothJ_of r _ (c_silent r) (fun w1 r1 e66 => m_silent r w1 r1 e66)
/-! meets -/
def pMet (h : Hs) (c : Sta) (m o : Nat) : Nat → Bool := fun j => decide (qT (sGo h c j (24 + m)) o = 1)
theorem q_meets {w : Wld} {h : Hs} (r : RelH w h) (a1 a2 : Int32) : BothQ cdN w h (F_C_meets w a1 a2) (fun w1 => F_M_meets w1 a1 a2) := by
  have hh := r.1
  have hc := r.2.1
  have hM := hh.2.1
  have hg := r.2.2.2.1.1
  rcases idx_cases a1 (hsM h) (by omega) with ⟨m, hm, rfl⟩ | ⟨n1, n2⟩
  rotate_left
  · refine q_bad 0 1 ?_ (fun w1 r1 => ?_) rfl
    · rw [F_C_meets, t_needMonk_n hc.2.1 n1, bn_some]
    · simp only [F_M_meets, bw_eq, t_isMonk_n (m_ent r1).1.2.1 n2, bp_some, eq_self, br_T, K_M_meets_21, t_fail, bd_some]
  rcases idx_cases a2 (hsM h) (by omega) with ⟨o, ho, rfl⟩ | ⟨n1, n2⟩
  rotate_left
  · refine q_bad 0 1 ?_ (fun w1 r1 => ?_) rfl
    · rw [F_C_meets, t_needMonk_y hc.2.1 (by omega) hm, bn_none, t_needMonk_n hc.2.1 n1, bn_some]
    · simp only [F_M_meets, bw_eq, t_isMonk_y (m_ent r1).1.2.1 (show hsM h < 100 by omega) hm, t_isMonk_n (m_ent r1).1.2.1 n2, bp_some, eq_self, br_F, not_true_eq_false, (by decide : ((1 : Int32) = 0) = False), K_M_meets_21, t_fail, bd_some]
  by_cases he : m = o
  · refine ⟨.inr (some (-1)), ?_, fun w1 r1 e66 => ?_⟩
    · rw [F_C_meets, t_needMonk_y hc.2.1 (by omega) hm, bn_none, t_needMonk_y hc.2.1 (by omega) ho, bn_none, br_neg (by rw [he]; exact fun z => z rfl), ret_some]
      exact ⟨rfl, frm_rf⟩
    · obtain ⟨z1, z2, z3, z4⟩ := m_ent r1
      simp (disch := omega) only [F_M_meets, ↓bi_eq, ↓bw_eq, gd_pos, br_pos, br_neg, br_T, br_F, gd_T, bp_some, bd_some, bv_some, bl_some, bx_inl, bx_inr, bn_none, bn_some, bt_inl, bt_inr, not_true_eq_false, not_false_eq_true, eq_self, Bool.false_eq_true, if_true, if_false, jn_clamp, jn_lt, jn_le, jn_inj, jn_add, jn_sub, jn_mul, jn_vp, jn_0a, jn_1a, jn_1b, jn_1s, jn_1m, jn_neg0, jn_le0, jn_0le, jn_0lt, jn_1le, jn_le1, jn_lt1, jn_1lt, jn_e0, jn_e1, jn_em, ↓qB_f, ↓qT_f, cl_0, cl_1, vp_0, vp_1, t_isMonk_y z1.2.1 (show hsM h < 100 by omega) hm, t_isMonk_y z1.2.1 (show hsM h < 100 by omega) ho, (by decide : ((1 : Int32) = 0) = False), ret_some]
      rw [e66] at z2
      obtain ⟨y1, y2⟩ := q_ans r1 e66 z3 z2
      exact ⟨⟨z4, rfl⟩, y1, y2⟩
  refine ⟨.inr (some (oI 0 (srch (pMet h (w 66) m o) 0 61))), ?_, fun w1 r1 e66 => ?_⟩
  · rw [F_C_meets, t_needMonk_y hc.2.1 (by omega) hm, bn_none, t_needMonk_y hc.2.1 (by omega) ho, bn_none, br_pos (by rw [jn_inj (by omega) (by omega)]; exact he), ret_bv]
    refine ret_mono (t_begin w) (fun w1 hq => ?_)
    obtain ⟨q1, q2⟩ := hq
    rw [ret_bx]
    refine loop_inv (I := fun k s => s.1 = jn k ∧ Frm [61, 62, 63, 85] [(55, 3)] w s.2 ∧ Eq53 (s.2 85) (sGo h (w 66) k) ∧ srch (pMet h (w 66) m o) k (61 - k) = srch (pMet h (w 66) m o) 0 61) 61 ⟨rfl, frm_up q1 rfl, q2, rfl⟩ (fun k s hk hi => ?_) (fun s hi => ?_)
    · obtain ⟨i, w2⟩ := s
      obtain ⟨i1, i2, i3, i4⟩ := hi
      simp only at i1 i2 i3 i4
      subst i1
      have e24 := i3 (24 + m) (by omega)
      by_cases hp : qT (sGo h (w 66) k (24 + m)) o = 1
      · have hp' : pMet h (w 66) m o k = true := by unfold pMet; rw [hp]; rfl
        rw [srch_y hp' (by omega)] at i4
        simp (disch := omega) only [B_C_meets_23, ↓bi_eq, ↓bw_eq, gd_pos, br_pos, br_neg, br_T, br_F, gd_T, bp_some, bd_some, bv_some, bl_some, bx_inl, bx_inr, bn_none, bn_some, bt_inl, bt_inr, not_true_eq_false, not_false_eq_true, eq_self, Bool.false_eq_true, if_true, if_false, jn_clamp, jn_lt, jn_le, jn_inj, jn_add, jn_sub, jn_mul, jn_vp, jn_0a, jn_1a, jn_1b, jn_1s, jn_1m, jn_neg0, jn_le0, jn_0le, jn_0lt, jn_1le, jn_le1, jn_lt1, jn_1lt, jn_e0, jn_e1, jn_em, ↓qB_f, ↓qT_f, cl_0, cl_1, vp_0, vp_1, li_60, li_24, e24, hp, ret_some, LQ_inr]
        refine ⟨?_, frm_up i2 rfl⟩
        rw [← i4]; rfl
      · have hp' : ¬ pMet h (w 66) m o k = true := by unfold pMet; simp [hp]
        rw [srch_n hp' (by omega)] at i4
        simp (disch := omega) only [B_C_meets_23, ↓bi_eq, ↓bw_eq, gd_pos, br_pos, br_neg, br_T, br_F, gd_T, bp_some, bd_some, bv_some, bl_some, bx_inl, bx_inr, bn_none, bn_some, bt_inl, bt_inr, not_true_eq_false, not_false_eq_true, eq_self, Bool.false_eq_true, if_true, if_false, jn_clamp, jn_lt, jn_le, jn_inj, jn_add, jn_sub, jn_mul, jn_vp, jn_0a, jn_1a, jn_1b, jn_1s, jn_1m, jn_neg0, jn_le0, jn_0le, jn_0lt, jn_1le, jn_le1, jn_lt1, jn_1lt, jn_e0, jn_e1, jn_em, ↓qB_f, ↓qT_f, cl_0, cl_1, vp_0, vp_1, li_60, li_24, e24, hp, ret_bv]
        refine ret_mono (t_passT (CHs_fr hc i2 ⟨rfl, rfl, rfl, rfl, fun _ => rfl, fun _ => rfl, rfl, fun _ => rfl⟩) hh (sGo_good hh hg k) i3) (fun w3 hq => ?_)
        obtain ⟨p1, p2, p3⟩ := hq
        rw [ret_some, LQ_inl]
        exact ⟨rfl, frm_tr i2 p1, p2, by rw [← i4]; rfl⟩
    · obtain ⟨i, w2⟩ := s
      obtain ⟨i1, i2, i3, i4⟩ := hi
      simp only at i1 i2 i3 i4
      subst i1
      simp (disch := omega) only [B_C_meets_23, ↓bi_eq, ↓bw_eq, gd_pos, br_pos, br_neg, br_T, br_F, gd_T, bp_some, bd_some, bv_some, bl_some, bx_inl, bx_inr, bn_none, bn_some, bt_inl, bt_inr, not_true_eq_false, not_false_eq_true, eq_self, Bool.false_eq_true, if_true, if_false, jn_clamp, jn_lt, jn_le, jn_inj, jn_add, jn_sub, jn_mul, jn_vp, jn_0a, jn_1a, jn_1b, jn_1s, jn_1m, jn_neg0, jn_le0, jn_0le, jn_0lt, jn_1le, jn_le1, jn_lt1, jn_1lt, jn_e0, jn_e1, jn_em, ↓qB_f, ↓qT_f, cl_0, cl_1, vp_0, vp_1, li_60, ret_some, LQ_inr, LQ_inl]
      refine ⟨?_, frm_up i2 rfl⟩
      rw [← i4]; rfl
  · obtain ⟨z1, z2, z3, z4⟩ := m_ent r1
    have hne : ¬ jn m = jn o := by rw [jn_inj (by omega) (by omega)]; exact he
    simp only [F_M_meets, bw_eq, t_isMonk_y z1.2.1 (show hsM h < 100 by omega) hm, t_isMonk_y z1.2.1 (show hsM h < 100 by omega) ho, bp_some, br_F, br_T, hne, not_false_eq_true, (by decide : ((1 : Int32) = 0) = False), ret_bv]
    refine ret_mono (m_open r1 e66) (fun w2 hq => ?_)
    obtain ⟨f2, h2, s2, row2, c2⟩ := hq
    rw [ret_bl]
    refine ret_mono (P := fun q => q.1 = oI 0 (srch (pMet h (w 66) m o) 0 61) ∧ ∃ c, MAh w2 h c q.2) ?_ (fun q hq => ?_)
    · refine loop_inv (I := fun k s => s.2.1 = jn k ∧ ((s.1 = -1 ∧ MAh w2 h (sGo h (w 66) k) s.2.2 ∧ srch (pMet h (w 66) m o) k (61 - k) = srch (pMet h (w 66) m o) 0 61) ∨ (∃ x, x < 61 ∧ srch (pMet h (w 66) m o) 0 61 = some x ∧ s.1 = jn x ∧ ∃ c, MAh w2 h c s.2.2))) 61 ⟨rfl, Or.inl ⟨rfl, ⟨frm_rf, s2⟩, rfl⟩⟩ (fun k s hk hi => ?_) (fun s hi => ?_)
      · obtain ⟨b, i, w3⟩ := s
        obtain ⟨i1, i2⟩ := hi
        simp only at i1 i2
        subst i1
        rcases i2 with ⟨rfl, i3, i4⟩ | ⟨x, hx, i3, rfl, i4⟩
        · have hgk := sGo_good hh hg k
          have e17 := (i3.2.1 m hm).2.2.2
          obtain ⟨y, hy, ey⟩ := hgk.2.2.2.2.1 m hm
          rw [ey] at e17
          have hpm : pMet h (w 66) m o k = y.testBit o := by
            unfold pMet
            rw [ey, qT_jn (by omega) (by omega)]
            cases y.testBit o <;> simp
          by_cases hp : y.testBit o = true
          · rw [srch_y (hpm.trans hp) (by omega)] at i4
            simp (disch := omega) only [B_M_meets_48, K_M_meets_76, ↓bi_eq, ↓bw_eq, gd_pos, br_pos, br_neg, br_T, br_F, gd_T, bp_some, bd_some, bv_some, bl_some, bx_inl, bx_inr, bn_none, bn_some, bt_inl, bt_inr, not_true_eq_false, not_false_eq_true, eq_self, Bool.false_eq_true, if_true, if_false, jn_clamp, jn_lt, jn_le, jn_inj, jn_add, jn_sub, jn_mul, jn_vp, jn_0a, jn_1a, jn_1b, jn_1s, jn_1m, jn_neg0, jn_le0, jn_0le, jn_0lt, jn_1le, jn_le1, jn_lt1, jn_1lt, jn_e0, jn_e1, jn_em, ↓qB_f, ↓qT_f, cl_0, cl_1, vp_0, vp_1, li_60, e17, t_isOf, hp, (by decide : ((1 : Int32) = 0) = False), ret_bv]
            refine ret_mono (m_night h2 hh hgk i3) (fun w4 hq => ?_)
            rw [ret_some, LQ_inl]
            exact ⟨rfl, Or.inr ⟨k, hk, i4.symm, rfl, _, hq.1⟩⟩
          · rw [srch_n (by rw [hpm]; exact hp) (by omega)] at i4
            simp (disch := omega) only [B_M_meets_48, K_M_meets_76, ↓bi_eq, ↓bw_eq, gd_pos, br_pos, br_neg, br_T, br_F, gd_T, bp_some, bd_some, bv_some, bl_some, bx_inl, bx_inr, bn_none, bn_some, bt_inl, bt_inr, not_true_eq_false, not_false_eq_true, eq_self, Bool.false_eq_true, if_true, if_false, jn_clamp, jn_lt, jn_le, jn_inj, jn_add, jn_sub, jn_mul, jn_vp, jn_0a, jn_1a, jn_1b, jn_1s, jn_1m, jn_neg0, jn_le0, jn_0le, jn_0lt, jn_1le, jn_le1, jn_lt1, jn_1lt, jn_e0, jn_e1, jn_em, ↓qB_f, ↓qT_f, cl_0, cl_1, vp_0, vp_1, li_60, e17, t_isOf, hp, ret_bv]
            refine ret_mono (m_night h2 hh hgk i3) (fun w4 hq => ?_)
            rw [ret_some, LQ_inl]
            exact ⟨rfl, Or.inl ⟨rfl, hq.1, by rw [← i4]; rfl⟩⟩
        · simp (disch := omega) only [B_M_meets_48, ↓bi_eq, ↓bw_eq, gd_pos, br_pos, br_neg, br_T, br_F, gd_T, bp_some, bd_some, bv_some, bl_some, bx_inl, bx_inr, bn_none, bn_some, bt_inl, bt_inr, not_true_eq_false, not_false_eq_true, eq_self, Bool.false_eq_true, if_true, if_false, jn_clamp, jn_lt, jn_le, jn_inj, jn_add, jn_sub, jn_mul, jn_vp, jn_0a, jn_1a, jn_1b, jn_1s, jn_1m, jn_neg0, jn_le0, jn_0le, jn_0lt, jn_1le, jn_le1, jn_lt1, jn_1lt, jn_e0, jn_e1, jn_em, ↓qB_f, ↓qT_f, cl_0, cl_1, vp_0, vp_1, li_60, ret_some, LQ_inr]
          exact ⟨by rw [i3]; rfl, i4⟩
      · obtain ⟨b, i, w3⟩ := s
        obtain ⟨i1, i2⟩ := hi
        simp only at i1 i2
        subst i1
        simp (disch := omega) only [B_M_meets_48, ↓bi_eq, ↓bw_eq, gd_pos, br_pos, br_neg, br_T, br_F, gd_T, bp_some, bd_some, bv_some, bl_some, bx_inl, bx_inr, bn_none, bn_some, bt_inl, bt_inr, not_true_eq_false, not_false_eq_true, eq_self, Bool.false_eq_true, if_true, if_false, jn_clamp, jn_lt, jn_le, jn_inj, jn_add, jn_sub, jn_mul, jn_vp, jn_0a, jn_1a, jn_1b, jn_1s, jn_1m, jn_neg0, jn_le0, jn_0le, jn_0lt, jn_1le, jn_le1, jn_lt1, jn_1lt, jn_e0, jn_e1, jn_em, ↓qB_f, ↓qT_f, cl_0, cl_1, vp_0, vp_1, li_60, ret_some, LQ_inr]
        rcases i2 with ⟨rfl, i3, i4⟩ | ⟨x, hx, i3, rfl, i4⟩
        · exact ⟨by rw [← i4]; rfl, _, i3⟩
        · exact ⟨by rw [i3]; rfl, i4⟩
    · obtain ⟨v, w3⟩ := q
      obtain ⟨q1, c, a3⟩ := hq
      simp only at q1 a3
      rw [ret_bv]
      refine ret_mono (m_close r1 e66 (MAh_f a3 f2) (MAh_row a3 row2) (MAh_c a3 c2)) (fun w4 hx => ?_)
      rw [ret_some]
      exact ⟨⟨hx.1, q1⟩, hx.2.1, hx.2.2.1⟩
/-! often -/
def sOft (h : Hs) (c : Sta) (m : Nat) : Nat → Int32 := fl (fun k a => a + qT (jn (sRis h (sGo h c k))) m) 0
theorem q_often {w : Wld} {h : Hs} (r : RelH w h) (a1 a2 : Int32) : BothQ cdB w h (F_C_often w a1 a2) (fun w1 => F_M_often w1 a1 a2) := by
  have hh := r.1
  have hc := r.2.1
  have hM := hh.2.1
  have hg := r.2.2.2.1.1
  rcases idx_cases a1 (hsM h) (by omega) with ⟨m, hm, rfl⟩ | ⟨n1, n2⟩
  rotate_left
  · refine q_bad 0 1 ?_ (fun w1 r1 => ?_) rfl
    · rw [F_C_often, t_needMonk_n hc.2.1 n1, bn_some]
    · simp only [F_M_often, bw_eq, t_isMonk_n (m_ent r1).1.2.1 n2, bp_some, eq_self, not_true_eq_false, br_F, t_fail, bd_some]
  rcases rng_cases a2 0 60 (by omega) (by omega) with ⟨k2, -, h2, rfl⟩ | ⟨n1, n2⟩
  rotate_left
  · refine q_bad 1 2 ?_ (fun w1 r1 => ?_) rfl
    · rw [F_C_often, t_needMonk_y hc.2.1 (by omega) hm, bn_none, jn_00, li_60, t_need_n w n1, bn_some]
    · have n2 : ¬ ((0 : Int32) ≤ a2 ∧ a2 ≤ 60) := n2
      simp (disch := omega) only [F_M_often, ↓bi_eq, ↓bw_eq, gd_pos, br_pos, br_neg, br_T, br_F, gd_T, bp_some, bd_some, bv_some, bl_some, bx_inl, bx_inr, bn_none, bn_some, bt_inl, bt_inr, not_true_eq_false, not_false_eq_true, eq_self, Bool.false_eq_true, if_true, if_false, jn_clamp, jn_lt, jn_le, jn_inj, jn_add, jn_sub, jn_mul, jn_vp, jn_0a, jn_1a, jn_1b, jn_1s, jn_1m, jn_neg0, jn_le0, jn_0le, jn_0lt, jn_1le, jn_le1, jn_lt1, jn_1lt, jn_e0, jn_e1, jn_em, ↓qB_f, ↓qT_f, cl_0, cl_1, vp_0, vp_1, t_isMonk_y (m_ent r1).1.2.1 (show hsM h < 100 by omega) hm, t_isIn, n2, (by decide : ((1 : Int32) = 0) = False), t_fail]
  have g2 : (0 : Int32) ≤ jn k2 ∧ jn k2 ≤ 60 := g_what k2 60 (by omega) h2
  refine ⟨.inr (some (sOft h (w 66) m k2)), ?_, fun w1 r1 e66 => ?_⟩
  · rw [F_C_often, t_needMonk_y hc.2.1 (by omega) hm, bn_none, jn_00, li_60, t_need_y w (by omega) (Nat.zero_le _) h2, bn_none, ret_bv]
    refine ret_mono (t_begin w) (fun w1 hq => ?_)
    obtain ⟨q1, q2⟩ := hq
    rw [ret_bl]
    refine loop_inv (I := fun k s => s.1 = sOft h (w 66) m k ∧ s.2.1 = jn k ∧ Frm [61, 62, 63, 85] [(55, 3)] w s.2.2 ∧ Eq53 (s.2.2 85) (sGo h (w 66) k)) k2 ⟨rfl, rfl, frm_up q1 rfl, q2⟩ (fun k s hk hi => ?_) (fun s hi => ?_)
    · obtain ⟨b, i, w2⟩ := s
      obtain ⟨i0, i1, i2, i3⟩ := hi
      simp only at i0 i1 i2 i3
      subst i0 i1
      simp (disch := omega) only [B_C_often_21, ↓bi_eq, ↓bw_eq, gd_pos, br_pos, br_neg, br_T, br_F, gd_T, bp_some, bd_some, bv_some, bl_some, bx_inl, bx_inr, bn_none, bn_some, bt_inl, bt_inr, not_true_eq_false, not_false_eq_true, eq_self, Bool.false_eq_true, if_true, if_false, jn_clamp, jn_lt, jn_le, jn_inj, jn_add, jn_sub, jn_mul, jn_vp, jn_0a, jn_1a, jn_1b, jn_1s, jn_1m, jn_neg0, jn_le0, jn_0le, jn_0lt, jn_1le, jn_le1, jn_lt1, jn_1lt, jn_e0, jn_e1, jn_em, ↓qB_f, ↓qT_f, cl_0, cl_1, vp_0, vp_1, ret_bv]
      refine ret_mono (t_passT (CHs_fr hc i2 ⟨rfl, rfl, rfl, rfl, fun _ => rfl, fun _ => rfl, rfl, fun _ => rfl⟩) hh (sGo_good hh hg k) i3) (fun w3 hq => ?_)
      obtain ⟨p1, p2, p3⟩ := hq
      rw [p3.1, ret_some, LQ_inl]
      exact ⟨rfl, rfl, frm_tr i2 p1, p2⟩
    · obtain ⟨b, i, w2⟩ := s
      obtain ⟨i0, i1, i2, i3⟩ := hi
      simp only at i0 i1 i2 i3
      subst i0 i1
      simp (disch := omega) only [B_C_often_21, ↓bi_eq, ↓bw_eq, gd_pos, br_pos, br_neg, br_T, br_F, gd_T, bp_some, bd_some, bv_some, bl_some, bx_inl, bx_inr, bn_none, bn_some, bt_inl, bt_inr, not_true_eq_false, not_false_eq_true, eq_self, Bool.false_eq_true, if_true, if_false, jn_clamp, jn_lt, jn_le, jn_inj, jn_add, jn_sub, jn_mul, jn_vp, jn_0a, jn_1a, jn_1b, jn_1s, jn_1m, jn_neg0, jn_le0, jn_0le, jn_0lt, jn_1le, jn_le1, jn_lt1, jn_1lt, jn_e0, jn_e1, jn_em, ↓qB_f, ↓qT_f, cl_0, cl_1, vp_0, vp_1, br_pos (Nat.le_refl k2), ret_some, LQ_inr]
      exact ⟨trivial, frm_up i2 rfl⟩
  · obtain ⟨z1, z2, z3, z4⟩ := m_ent r1
    simp only [F_M_often, bw_eq, t_isMonk_y z1.2.1 (show hsM h < 100 by omega) hm, t_isIn, g2, and_self, if_true, bp_some, br_T, not_false_eq_true, (by decide : ((1 : Int32) = 0) = False), ret_bv]
    refine ret_mono (m_open r1 e66) (fun w2 hq => ?_)
    obtain ⟨f2, h2', s2, row2, c2⟩ := hq
    rw [ret_bl]
    refine ret_mono (P := fun q => q.1 = sOft h (w 66) m k2 ∧ MAh w2 h (sGo h (w 66) k2) q.2) ?_ (fun q hq => ?_)
    · refine loop_inv (I := fun k s => s.1 = sOft h (w 66) m k ∧ s.2.1 = jn k ∧ MAh w2 h (sGo h (w 66) k) s.2.2) k2 ⟨rfl, rfl, frm_rf, s2⟩ (fun k s hk hi => ?_) (fun s hi => ?_)
      · obtain ⟨b, i, w3⟩ := s
        obtain ⟨i0, i1, i2⟩ := hi
        simp only at i0 i1 i2
        subst i0 i1
        simp (disch := omega) only [B_M_often_51, ↓bi_eq, ↓bw_eq, gd_pos, br_pos, br_neg, br_T, br_F, gd_T, bp_some, bd_some, bv_some, bl_some, bx_inl, bx_inr, bn_none, bn_some, bt_inl, bt_inr, not_true_eq_false, not_false_eq_true, eq_self, Bool.false_eq_true, if_true, if_false, jn_clamp, jn_lt, jn_le, jn_inj, jn_add, jn_sub, jn_mul, jn_vp, jn_0a, jn_1a, jn_1b, jn_1s, jn_1m, jn_neg0, jn_le0, jn_0le, jn_0lt, jn_1le, jn_le1, jn_lt1, jn_1lt, jn_e0, jn_e1, jn_em, ↓qB_f, ↓qT_f, cl_0, cl_1, vp_0, vp_1, ret_bv]
        refine ret_mono (m_night h2' hh (sGo_good hh hg k) i2) (fun w4 hq => ?_)
        rw [MSt_last hq.1.2, ret_some, LQ_inl]
        exact ⟨rfl, rfl, hq.1⟩
      · obtain ⟨b, i, w3⟩ := s
        obtain ⟨i0, i1, i2⟩ := hi
        simp only at i0 i1 i2
        subst i0 i1
        simp (disch := omega) only [B_M_often_51, ↓bi_eq, ↓bw_eq, gd_pos, br_pos, br_neg, br_T, br_F, gd_T, bp_some, bd_some, bv_some, bl_some, bx_inl, bx_inr, bn_none, bn_some, bt_inl, bt_inr, not_true_eq_false, not_false_eq_true, eq_self, Bool.false_eq_true, if_true, if_false, jn_clamp, jn_lt, jn_le, jn_inj, jn_add, jn_sub, jn_mul, jn_vp, jn_0a, jn_1a, jn_1b, jn_1s, jn_1m, jn_neg0, jn_le0, jn_0le, jn_0lt, jn_1le, jn_le1, jn_lt1, jn_1lt, jn_e0, jn_e1, jn_em, ↓qB_f, ↓qT_f, cl_0, cl_1, vp_0, vp_1, br_pos (Nat.le_refl k2), ret_some, LQ_inr]
        exact ⟨trivial, i2⟩
    · obtain ⟨v, w3⟩ := q
      obtain ⟨q1, a3⟩ := hq
      simp only at q1 a3
      rw [ret_bv]
      refine ret_mono (m_close r1 e66 (MAh_f a3 f2) (MAh_row a3 row2) (MAh_c a3 c2)) (fun w4 hx => ?_)
      rw [ret_some]
      exact ⟨⟨hx.1, q1⟩, hx.2.1, hx.2.2.1⟩
/-! lonely -/
theorem q_lonely {w : Wld} {h : Hs} (r : RelH w h) (a1 : Int32) : BothQ cdI w h (F_C_lonely w a1) (fun w1 => F_M_lonely w1 a1) := by
  have hh := r.1
  have hc := r.2.1
  have hg := r.2.2.2.1.1
  rcases rng_cases a1 1 60 (by omega) (by omega) with ⟨k1, l1, h1, rfl⟩ | ⟨n1, n2⟩
  rotate_left
  · refine q_bad 1 1 ?_ (fun w1 r1 => ?_) rfl
    · rw [F_C_lonely, jn_11, li_60, t_need_n w n1, bn_some]
    · have n2 : ¬ ((1 : Int32) ≤ a1 ∧ a1 ≤ 60) := n2
      simp only [F_M_lonely, bw_eq, t_isIn, n2, if_false, bp_some, eq_self, not_true_eq_false, br_F, t_fail, bd_some]
  have g1 : (1 : Int32) ≤ jn k1 ∧ jn k1 ≤ 60 := g_rng 1 k1 60 (by omega) l1 h1
  refine ⟨.inr (some (jn (sLon h (sGo h (w 66) (k1 - 1))))), ?_, fun w1 r1 e66 => ?_⟩
  · rw [F_C_lonely, jn_11, li_60, t_need_y w (by omega) l1 h1, bn_none, ret_bv]
    refine ret_mono (t_goAhead hc hh hg (by omega)) (fun w2 hq => ?_)
    obtain ⟨q1, q2, q3⟩ := hq
    rw [t_single (CHs_fr hc q1 ⟨rfl, rfl, rfl, rfl, fun _ => rfl, fun _ => rfl, rfl, fun _ => rfl⟩) hh (q3 (by omega)), bp_some, ret_some]
    exact ⟨rfl, frm_up q1 rfl⟩
  · simp only [F_M_lonely, bw_eq, t_isIn, g1, and_self, if_true, bp_some, br_T, not_false_eq_true, (by decide : ((1 : Int32) = 0) = False), ret_bv]
    refine ret_mono (m_open r1 e66) (fun w2 hq => ?_)
    obtain ⟨f2, h2, s2, row2, c2⟩ := hq
    refine ret_mono (t_goOn h2 s2 hh hg (by omega)) (fun w3 hp => ?_)
    obtain ⟨p1, p2, p3⟩ := hp
    have a3 : MAh w2 h _ w3 := ⟨p1, p2⟩
    refine ret_mono (m_close r1 e66 (MAh_f a3 f2) (MAh_row a3 row2) (MAh_c a3 c2)) (fun w4 hx => ?_)
    rw [ret_some]
    refine ⟨⟨hx.1, ?_⟩, hx.2.1, hx.2.2.1⟩
    exact (hx.2.2.2 0 40 rfl).trans (p3 (by omega)).2.2.1
