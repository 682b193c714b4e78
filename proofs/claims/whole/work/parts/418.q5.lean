/-! ===== questions: toPray, needless ===== -/
theorem sGo_p (h : Hs) (c : Sta) {k : Nat} (hk : 1 ≤ k) : sGo h c k = sPass h (sGo h c (k - 1)) := by
  conv => lhs; rw [show k = k - 1 + 1 by omega]
  rfl
def LBk : List Nat := [14, 15, 16, 17, 18, 19, 21, 22, 23]
def KBk : List (Nat × Nat) := [(0, 31), (0, 32), (0, 33), (0, 38), (0, 39), (0, 40)]
/-- the model's world in the midst of a question that comes back to its row -/
def MBk (w1 : Wld) (h : Hs) (c : Sta) (w3 : Wld) : Prop := Frm LPu KPu w1 w3 ∧ MSt w3 h c ∧ MRow (w3 24) h c ∧ w3 0 2 = 0
theorem MBk_h {w1 w3 : Wld} {h : Hs} {c : Sta} (r1 : RelH w1 h) (b : MBk w1 h c w3) : MHs w3 h := MHs_fr r1.2.2.1 b.1 ⟨rfl, rfl, rfl, rfl, rfl, fun _ => rfl, fun _ => rfl, fun _ => rfl⟩
theorem MBk_0 {w1 w3 : Wld} {h : Hs} {c : Sta} (f : Frm LPu KPu w1 w3) (s : MSt w3 h c) (row : MRow (w3 24) h c) (e : w3 0 2 = 0) : MBk w1 h c w3 := ⟨f, s, row, e⟩
theorem m_back {w1 w3 w4 : Wld} {h : Hs} {c : Sta} (hh : GdH h) (b : MBk w1 h c w3) (f : Frm LBk KBk w3 w4) : Ret (F_M_unpack_24 w4 0) (fun w5 => MBk w1 h c w5 ∧ Frm LBk KBk w3 w5) := by
  have hrow : MRow (w4 24) h c := by rw [frm_cell f 24 (fun _ => rfl)]; exact b.2.2.1
  refine ret_mono (m_unpack hrow hh) (fun w5 hx => ?_)
  obtain ⟨x1, x2⟩ := hx
  have x1' : Frm LBk KBk w4 w5 := frm_up x1 rfl
  refine ⟨⟨frm_tr b.1 (frm_up (frm_tr f x1') rfl), x2, ?_, ?_⟩, frm_tr f x1'⟩
  · rw [frm_cell x1 24 (fun _ => rfl)]; exact hrow
  · rw [x1 0 2 rfl, f 0 2 rfl]; exact b.2.2.2
/-- nights from a state that was set up -/
theorem m_goB {w3 : Wld} {h : Hs} {c : Sta} (hw : MHs w3 h) (hs : MSt w3 h c) (hh : GdH h) (hg : GdS h c) {n : Nat} (hn : n < 1000) : Ret (F_M_goOn w3 (jn n)) (fun w4 => Frm LBk KBk w3 w4 ∧ MSt w4 h (sGo h c n) ∧ (0 < n → MSeen w4 h (sGo h c (n - 1)))) :=
  ret_mono (t_goOn hw hs hh hg hn) (fun w4 hq => ⟨frm_up hq.1 rfl, hq.2⟩)
theorem q_endB {w1 w3 : Wld} {h : Hs} {c : Sta} (r1 : RelH w1 h) (e66 : w1 66 = c) (b : MBk w1 h c w3) : RelH w3 h ∧ w3 41 0 = w1 41 0 := q_ans r1 e66 b.1 b.2.1
def pPra (h : Hs) (c : Sta) (m k : Nat) : Nat → Bool := fun v => (sRis h (sGo h (upd c m (jn v)) (k - 1))).testBit m
theorem q_toPray {w : Wld} {h : Hs} (r : RelH w h) (a1 a2 : Int32) : BothQ cdB w h (F_C_toPray w a1 a2) (fun w1 => F_M_toPray w1 a1 a2) := by
  have hh := r.1
  have hc := r.2.1
  have hM := hh.2.1
  have hg := r.2.2.2.1.1
  rcases idx_cases a1 (hsM h) (by omega) with ⟨m, hm, rfl⟩ | ⟨n1, n2⟩
  rotate_left
  · refine q_bad 0 1 ?_ (fun w1 r1 => ?_) rfl
    · rw [F_C_toPray, t_needMonk_n hc.2.1 n1, bn_some]
    · simp only [F_M_toPray, bw_eq, t_isMonk_n (m_ent r1).1.2.1 n2, bp_some, eq_self, not_true_eq_false, br_F, t_fail, bd_some]
  rcases rng_cases a2 1 60 (by omega) (by omega) with ⟨k2, l2, h2, rfl⟩ | ⟨n1, n2⟩
  rotate_left
  · refine q_bad 1 2 ?_ (fun w1 r1 => ?_) rfl
    · rw [F_C_toPray, t_needMonk_y hc.2.1 (by omega) hm, bn_none, jn_11, li_60, t_need_n w n1, bn_some]
    · have n2 : ¬ ((1 : Int32) ≤ a2 ∧ a2 ≤ 60) := n2
      simp (disch := omega) only [F_M_toPray, ↓bi_eq, ↓bw_eq, gd_pos, br_pos, br_neg, br_T, br_F, gd_T, bp_some, bd_some, bv_some, bl_some, bx_inl, bx_inr, bn_none, bn_some, bt_inl, bt_inr, not_true_eq_false, not_false_eq_true, eq_self, Bool.false_eq_true, if_true, if_false, jn_clamp, jn_lt, jn_le, jn_inj, jn_add, jn_sub, jn_mul, jn_vp, jn_0a, jn_1a, jn_1b, jn_1s, jn_1m, jn_neg0, jn_le0, jn_0le, jn_0lt, jn_1le, jn_le1, jn_lt1, jn_1lt, jn_e0, jn_e1, jn_em, ↓qB_f, ↓qT_f, cl_0, cl_1, vp_0, vp_1, t_isMonk_y (m_ent r1).1.2.1 (show hsM h < 100 by omega) hm, t_isIn, n2, (by decide : ((1 : Int32) = 0) = False), t_fail]
  have g2 : (1 : Int32) ≤ jn k2 ∧ jn k2 ≤ 60 := g_rng 1 k2 60 (by omega) l2 h2
  have hgv : ∀ v, GdS h (upd (w 66) m (jn v)) := fun v => GdS_other hh hg _ (Or.inl (by omega))
  refine ⟨.inr (some (oI 0 (srch (pPra h (w 66) m k2) 0 100))), ?_, fun w1 r1 e66 => ?_⟩
  · rw [F_C_toPray, t_needMonk_y hc.2.1 (by omega) hm, bn_none, jn_11, li_60, t_need_y w (by omega) l2 h2, bn_none, ret_bx]
    refine loop_inv (I := fun k s => s.1 = jn k ∧ Frm [61, 62, 63, 85] [(55, 3)] w s.2 ∧ srch (pPra h (w 66) m k2) k (100 - k) = srch (pPra h (w 66) m k2) 0 100) 100 ⟨rfl, frm_rf, rfl⟩ (fun k s hk hi => ?_) (fun s hi => ?_)
    · obtain ⟨i, w2⟩ := s
      obtain ⟨i1, i2, i4⟩ := hi
      simp only at i1 i2 i4
      subst i1
      simp (disch := omega) only [B_C_toPray_14, ↓bi_eq, ↓bw_eq, gd_pos, br_pos, br_neg, br_T, br_F, gd_T, bp_some, bd_some, bv_some, bl_some, bx_inl, bx_inr, bn_none, bn_some, bt_inl, bt_inr, not_true_eq_false, not_false_eq_true, eq_self, Bool.false_eq_true, if_true, if_false, jn_clamp, jn_lt, jn_le, jn_inj, jn_add, jn_sub, jn_mul, jn_vp, jn_0a, jn_1a, jn_1b, jn_1s, jn_1m, jn_neg0, jn_le0, jn_0le, jn_0lt, jn_1le, jn_le1, jn_lt1, jn_1lt, jn_e0, jn_e1, jn_em, ↓qB_f, ↓qT_f, cl_0, cl_1, vp_0, vp_1, li_99, ret_bv]
      refine ret_mono (t_begin w2) (fun w3 hq => ?_)
      obtain ⟨q1, q2⟩ := hq
      have e66 : w2 66 = w 66 := frm_cell i2 66 (fun _ => rfl)
      rw [e66] at q2
      have f4 : Frm [61, 62, 63, 85] [(55, 3)] w (wup w3 85 m (jn k)) := frm_wup (frm_tr i2 (frm_up q1 rfl)) _ _ _ rfl
      have e85 : Eq53 ((wup w3 85 m (jn k)) 85) (upd (w 66) m (jn k)) := by
        rw [wup_same]; exact Eq53_upd q2 m (jn k)
      refine ret_mono (t_passN (CHs_fr hc f4 ⟨rfl, rfl, rfl, rfl, fun _ => rfl, fun _ => rfl, rfl, fun _ => rfl⟩) hh (hgv k) e85 (n := k2) (by omega)) (fun w5 hp => ?_)
      obtain ⟨p1, p2, p3⟩ := hp
      have p3 := (p3 (by omega)).1
      have f5 := frm_tr f4 p1
      have hlt := sRis_lt hh (sGo h (upd (w 66) m (jn k)) (k2 - 1))
      rw [p3]
      by_cases hz : (sRis h (sGo h (upd (w 66) m (jn k)) (k2 - 1))).testBit m = true
      · have hp : pPra h (w 66) m k2 k = true := hz
        rw [srch_y hp (by omega)] at i4
        simp (disch := omega) only [↓bi_eq, ↓bw_eq, gd_pos, br_pos, br_neg, br_T, br_F, gd_T, bp_some, bd_some, bv_some, bl_some, bx_inl, bx_inr, bn_none, bn_some, bt_inl, bt_inr, not_true_eq_false, not_false_eq_true, eq_self, Bool.false_eq_true, if_true, if_false, jn_clamp, jn_lt, jn_le, jn_inj, jn_add, jn_sub, jn_mul, jn_vp, jn_0a, jn_1a, jn_1b, jn_1s, jn_1m, jn_neg0, jn_le0, jn_0le, jn_0lt, jn_1le, jn_le1, jn_lt1, jn_1lt, jn_e0, jn_e1, jn_em, ↓qB_f, ↓qT_f, cl_0, cl_1, vp_0, vp_1, qT_1, hz, ret_some, LQ_inr]
        refine ⟨?_, frm_up f5 rfl⟩
        rw [← i4]; rfl
      · have hp : ¬ pPra h (w 66) m k2 k = true := hz
        rw [srch_n hp (by omega)] at i4
        simp (disch := omega) only [↓bi_eq, ↓bw_eq, gd_pos, br_pos, br_neg, br_T, br_F, gd_T, bp_some, bd_some, bv_some, bl_some, bx_inl, bx_inr, bn_none, bn_some, bt_inl, bt_inr, not_true_eq_false, not_false_eq_true, eq_self, Bool.false_eq_true, if_true, if_false, jn_clamp, jn_lt, jn_le, jn_inj, jn_add, jn_sub, jn_mul, jn_vp, jn_0a, jn_1a, jn_1b, jn_1s, jn_1m, jn_neg0, jn_le0, jn_0le, jn_0lt, jn_1le, jn_le1, jn_lt1, jn_1lt, jn_e0, jn_e1, jn_em, ↓qB_f, ↓qT_f, cl_0, cl_1, vp_0, vp_1, qT_1, hz, ret_some, LQ_inl]
        exact ⟨trivial, f5, by rw [← i4]; rfl⟩
    · obtain ⟨i, w2⟩ := s
      obtain ⟨i1, i2, i4⟩ := hi
      simp only at i1 i2 i4
      subst i1
      simp (disch := omega) only [B_C_toPray_14, ↓bi_eq, ↓bw_eq, gd_pos, br_pos, br_neg, br_T, br_F, gd_T, bp_some, bd_some, bv_some, bl_some, bx_inl, bx_inr, bn_none, bn_some, bt_inl, bt_inr, not_true_eq_false, not_false_eq_true, eq_self, Bool.false_eq_true, if_true, if_false, jn_clamp, jn_lt, jn_le, jn_inj, jn_add, jn_sub, jn_mul, jn_vp, jn_0a, jn_1a, jn_1b, jn_1s, jn_1m, jn_neg0, jn_le0, jn_0le, jn_0lt, jn_1le, jn_le1, jn_lt1, jn_1lt, jn_e0, jn_e1, jn_em, ↓qB_f, ↓qT_f, cl_0, cl_1, vp_0, vp_1, li_99, ret_some, LQ_inr, LQ_inl]
      refine ⟨?_, frm_up i2 rfl⟩
      rw [← i4]; rfl
  · obtain ⟨z1, z2, z3, z4⟩ := m_ent r1
    simp only [F_M_toPray, bw_eq, t_isMonk_y z1.2.1 (show hsM h < 100 by omega) hm, t_isIn, g2, and_self, if_true, bp_some, br_T, not_false_eq_true, (by decide : ((1 : Int32) = 0) = False), ret_bv]
    refine ret_mono (m_open r1 e66) (fun w2 hq => ?_)
    obtain ⟨f2, h2', s2, row2, c2⟩ := hq
    rw [ret_bl]
    refine ret_mono (P := fun q => q.1 = oI 0 (srch (pPra h (w 66) m k2) 0 100) ∧ MBk w1 h (w 66) q.2) ?_ (fun q hq => ?_)
    · refine loop_inv (I := fun k s => s.2.1 = jn k ∧ MBk w1 h (w 66) s.2.2 ∧ ((s.1 = -1 ∧ srch (pPra h (w 66) m k2) k (100 - k) = srch (pPra h (w 66) m k2) 0 100) ∨ (∃ x, x < 100 ∧ srch (pPra h (w 66) m k2) 0 100 = some x ∧ s.1 = jn x))) 100 ⟨rfl, ⟨f2, s2, row2, c2⟩, Or.inl ⟨rfl, rfl⟩⟩ (fun k s hk hi => ?_) (fun s hi => ?_)
      · obtain ⟨b, i, w3⟩ := s
        obtain ⟨i1, i2, i3⟩ := hi
        simp only at i1 i2 i3
        subst i1
        rcases i3 with ⟨rfl, i4⟩ | ⟨x, hx, i4, rfl⟩
        · have f4 : Frm LBk KBk w3 (wup w3 14 m (jn k)) := frm_wup frm_rf _ _ _ rfl
          have s4 := MSt_sleep hh i2.2.1 (m := m) (by omega) (jn k)
          rw [Nat.zero_add] at s4
          simp (disch := omega) only [B_M_toPray_51, ↓bi_eq, ↓bw_eq, gd_pos, br_pos, br_neg, br_T, br_F, gd_T, bp_some, bd_some, bv_some, bl_some, bx_inl, bx_inr, bn_none, bn_some, bt_inl, bt_inr, not_true_eq_false, not_false_eq_true, eq_self, Bool.false_eq_true, if_true, if_false, jn_clamp, jn_lt, jn_le, jn_inj, jn_add, jn_sub, jn_mul, jn_vp, jn_0a, jn_1a, jn_1b, jn_1s, jn_1m, jn_neg0, jn_le0, jn_0le, jn_0lt, jn_1le, jn_le1, jn_lt1, jn_1lt, jn_e0, jn_e1, jn_em, ↓qB_f, ↓qT_f, cl_0, cl_1, vp_0, vp_1, li_99, ret_bv]
          refine ret_mono (m_goB (MHs_fr (MBk_h r1 i2) f4 ⟨rfl, rfl, rfl, rfl, rfl, fun _ => rfl, fun _ => rfl, fun _ => rfl⟩) s4 hh (hgv k) (n := k2) (by omega)) (fun w5 hp => ?_)
          obtain ⟨p1, p2, p3⟩ := hp
          rw [sGo_p h _ l2] at p2
          have e32 := MSt_last p2
          have hlt := sRis_lt hh (sGo h (upd (w 66) m (jn k)) (k2 - 1))
          rw [e32, t_isOf w5 (by omega) (by omega), bp_some]
          by_cases hz : (sRis h (sGo h (upd (w 66) m (jn k)) (k2 - 1))).testBit m = true
          · have hp : pPra h (w 66) m k2 k = true := hz
            rw [srch_y hp (by omega)] at i4
            simp only [hz, if_true, (by decide : ((1 : Int32) = 0) = False), br_F, K_M_toPray_90, ret_bv]
            refine ret_mono (m_back hh i2 (frm_tr f4 p1)) (fun w6 hx => ?_)
            simp (disch := omega) only [↓bi_eq, ↓bw_eq, gd_pos, br_pos, br_neg, br_T, br_F, gd_T, bp_some, bd_some, bv_some, bl_some, bx_inl, bx_inr, bn_none, bn_some, bt_inl, bt_inr, not_true_eq_false, not_false_eq_true, eq_self, Bool.false_eq_true, if_true, if_false, jn_clamp, jn_lt, jn_le, jn_inj, jn_add, jn_sub, jn_mul, jn_vp, jn_0a, jn_1a, jn_1b, jn_1s, jn_1m, jn_neg0, jn_le0, jn_0le, jn_0lt, jn_1le, jn_le1, jn_lt1, jn_1lt, jn_e0, jn_e1, jn_em, ↓qB_f, ↓qT_f, cl_0, cl_1, vp_0, vp_1, ret_some, LQ_inl]
            exact ⟨trivial, hx.1, Or.inr ⟨k, hk, i4.symm, rfl⟩⟩
          · have hp : ¬ pPra h (w 66) m k2 k = true := hz
            rw [srch_n hp (by omega)] at i4
            simp only [hz, if_false, eq_self, br_T, K_M_toPray_90, ret_bv, Bool.false_eq_true]
            refine ret_mono (m_back hh i2 (frm_tr f4 p1)) (fun w6 hx => ?_)
            simp (disch := omega) only [↓bi_eq, ↓bw_eq, gd_pos, br_pos, br_neg, br_T, br_F, gd_T, bp_some, bd_some, bv_some, bl_some, bx_inl, bx_inr, bn_none, bn_some, bt_inl, bt_inr, not_true_eq_false, not_false_eq_true, eq_self, Bool.false_eq_true, if_true, if_false, jn_clamp, jn_lt, jn_le, jn_inj, jn_add, jn_sub, jn_mul, jn_vp, jn_0a, jn_1a, jn_1b, jn_1s, jn_1m, jn_neg0, jn_le0, jn_0le, jn_0lt, jn_1le, jn_le1, jn_lt1, jn_1lt, jn_e0, jn_e1, jn_em, ↓qB_f, ↓qT_f, cl_0, cl_1, vp_0, vp_1, ret_some, LQ_inl]
            exact ⟨trivial, hx.1, Or.inl ⟨trivial, by rw [← i4]; rfl⟩⟩
        · simp (disch := omega) only [B_M_toPray_51, ↓bi_eq, ↓bw_eq, gd_pos, br_pos, br_neg, br_T, br_F, gd_T, bp_some, bd_some, bv_some, bl_some, bx_inl, bx_inr, bn_none, bn_some, bt_inl, bt_inr, not_true_eq_false, not_false_eq_true, eq_self, Bool.false_eq_true, if_true, if_false, jn_clamp, jn_lt, jn_le, jn_inj, jn_add, jn_sub, jn_mul, jn_vp, jn_0a, jn_1a, jn_1b, jn_1s, jn_1m, jn_neg0, jn_le0, jn_0le, jn_0lt, jn_1le, jn_le1, jn_lt1, jn_1lt, jn_e0, jn_e1, jn_em, ↓qB_f, ↓qT_f, cl_0, cl_1, vp_0, vp_1, li_99, ret_some, LQ_inr]
          exact ⟨by rw [i4]; rfl, i2⟩
      · obtain ⟨b, i, w3⟩ := s
        obtain ⟨i1, i2, i3⟩ := hi
        simp only at i1 i2 i3
        subst i1
        simp (disch := omega) only [B_M_toPray_51, ↓bi_eq, ↓bw_eq, gd_pos, br_pos, br_neg, br_T, br_F, gd_T, bp_some, bd_some, bv_some, bl_some, bx_inl, bx_inr, bn_none, bn_some, bt_inl, bt_inr, not_true_eq_false, not_false_eq_true, eq_self, Bool.false_eq_true, if_true, if_false, jn_clamp, jn_lt, jn_le, jn_inj, jn_add, jn_sub, jn_mul, jn_vp, jn_0a, jn_1a, jn_1b, jn_1s, jn_1m, jn_neg0, jn_le0, jn_0le, jn_0lt, jn_1le, jn_le1, jn_lt1, jn_1lt, jn_e0, jn_e1, jn_em, ↓qB_f, ↓qT_f, cl_0, cl_1, vp_0, vp_1, li_99, ret_some, LQ_inr]
        rcases i3 with ⟨rfl, i4⟩ | ⟨x, hx, i4, rfl⟩
        · exact ⟨by rw [← i4]; rfl, i2⟩
        · exact ⟨by rw [i4]; rfl, i2⟩
    · obtain ⟨v, w3⟩ := q
      obtain ⟨q1, b3⟩ := hq
      simp only at q1 b3
      rw [ret_some]
      obtain ⟨y1, y2⟩ := q_endB r1 e66 b3
      exact ⟨⟨b3.2.2.2, q1⟩, y1, y2⟩
/-! needless -/
def sFul (h : Hs) (c : Sta) : Nat → Int32 := fl (fun k a => a + (if sShort h (sGo h c k) = 0 then 1 else 0)) 0
theorem sFul_s (h : Hs) (c : Sta) (k : Nat) : sFul h c (k + 1) = sFul h c k + (if sShort h (sGo h c k) = 0 then 1 else 0) := rfl
theorem c_fullWith {w : Wld} {h : Hs} (hc : CHs w h) (hh : GdH h) (a1 : Int32) (hg : GdS h (upd (w 66) 50 (w 66 50 ||| a1))) {n : Nat} (hn : n ≤ 60) : Ret (F_C_fullWith w a1 (jn n)) (fun q => q.1 = sFul h (upd (w 66) 50 (w 66 50 ||| a1)) n ∧ Frm [61, 62, 63, 85] [(55, 3)] w q.2) := by
  rw [F_C_fullWith, ret_bv]
  refine ret_mono (t_begin w) (fun w1 hq => ?_)
  obtain ⟨q1, q2⟩ := hq
  have e50 : w1 85 50 = w 66 50 := q2 50 (by omega)
  have f2 : Frm [61, 62, 63, 85] [(55, 3)] w (wup w1 85 50 (w 66 50 ||| a1)) := frm_wup (frm_up q1 rfl) _ _ _ rfl
  have e85 : Eq53 ((wup w1 85 50 (w 66 50 ||| a1)) 85) (upd (w 66) 50 (w 66 50 ||| a1)) := by
    rw [wup_same]; exact Eq53_upd q2 50 _
  simp (disch := omega) only [↓bi_eq, ↓bw_eq, gd_pos, br_pos, br_neg, br_T, br_F, gd_T, bp_some, bd_some, bv_some, bl_some, bx_inl, bx_inr, bn_none, bn_some, bt_inl, bt_inr, not_true_eq_false, not_false_eq_true, eq_self, Bool.false_eq_true, if_true, if_false, jn_clamp, jn_lt, jn_le, jn_inj, jn_add, jn_sub, jn_mul, jn_vp, jn_0a, jn_1a, jn_1b, jn_1s, jn_1m, jn_neg0, jn_le0, jn_0le, jn_0lt, jn_1le, jn_le1, jn_lt1, jn_1lt, jn_e0, jn_e1, jn_em, ↓qB_f, ↓qT_f, cl_0, cl_1, vp_0, vp_1, li_50, e50, ret_bl]
  generalize upd (w 66) 50 (w 66 50 ||| a1) = c at hg e85 ⊢
  generalize wup w1 85 50 (w 66 50 ||| a1) = w2 at f2 e85 ⊢
  refine loop_inv (I := fun k s => s.1 = sFul h c k ∧ s.2.1 = jn k ∧ Frm [61, 62, 63, 85] [(55, 3)] w s.2.2 ∧ Eq53 (s.2.2 85) (sGo h c k)) n ⟨rfl, rfl, f2, e85⟩ (fun k s hk hi => ?_) (fun s hi => ?_)
  · obtain ⟨b, i, w3⟩ := s
    obtain ⟨i0, i1, i2, i3⟩ := hi
    simp only at i0 i1 i2 i3
    subst i0 i1
    simp (disch := omega) only [B_C_fullWith_23, ↓bi_eq, ↓bw_eq, gd_pos, br_pos, br_neg, br_T, br_F, gd_T, bp_some, bd_some, bv_some, bl_some, bx_inl, bx_inr, bn_none, bn_some, bt_inl, bt_inr, not_true_eq_false, not_false_eq_true, eq_self, Bool.false_eq_true, if_true, if_false, jn_clamp, jn_lt, jn_le, jn_inj, jn_add, jn_sub, jn_mul, jn_vp, jn_0a, jn_1a, jn_1b, jn_1s, jn_1m, jn_neg0, jn_le0, jn_0le, jn_0lt, jn_1le, jn_le1, jn_lt1, jn_1lt, jn_e0, jn_e1, jn_em, ↓qB_f, ↓qT_f, cl_0, cl_1, vp_0, vp_1, ret_bv]
    refine ret_mono (t_passT (CHs_fr hc i2 ⟨rfl, rfl, rfl, rfl, fun _ => rfl, fun _ => rfl, rfl, fun _ => rfl⟩) hh (sGo_good hh hg k) i3) (fun w4 hq => ?_)
    obtain ⟨p1, p2, p3⟩ := hq
    have f4 := frm_tr i2 p1
    have hlt := sShort_lt hh (sGo h c k)
    rw [t_missing (CHs_fr hc f4 ⟨rfl, rfl, rfl, rfl, fun _ => rfl, fun _ => rfl, rfl, fun _ => rfl⟩) hh p3, bp_some]
    rw [sFul_s]
    by_cases hz : sShort h (sGo h c k) = 0
    · simp (disch := omega) only [K_C_fullWith_56, ↓bi_eq, ↓bw_eq, gd_pos, br_pos, br_neg, br_T, br_F, gd_T, bp_some, bd_some, bv_some, bl_some, bx_inl, bx_inr, bn_none, bn_some, bt_inl, bt_inr, not_true_eq_false, not_false_eq_true, eq_self, Bool.false_eq_true, if_true, if_false, jn_clamp, jn_lt, jn_le, jn_inj, jn_add, jn_sub, jn_mul, jn_vp, jn_0a, jn_1a, jn_1b, jn_1s, jn_1m, jn_neg0, jn_le0, jn_0le, jn_0lt, jn_1le, jn_le1, jn_lt1, jn_1lt, jn_e0, jn_e1, jn_em, ↓qB_f, ↓qT_f, cl_0, cl_1, vp_0, vp_1, hz, ret_some, LQ_inl]
      exact ⟨trivial, trivial, f4, p2⟩
    · simp (disch := omega) only [K_C_fullWith_56, ↓bi_eq, ↓bw_eq, gd_pos, br_pos, br_neg, br_T, br_F, gd_T, bp_some, bd_some, bv_some, bl_some, bx_inl, bx_inr, bn_none, bn_some, bt_inl, bt_inr, not_true_eq_false, not_false_eq_true, eq_self, Bool.false_eq_true, if_true, if_false, jn_clamp, jn_lt, jn_le, jn_inj, jn_add, jn_sub, jn_mul, jn_vp, jn_0a, jn_1a, jn_1b, jn_1s, jn_1m, jn_neg0, jn_le0, jn_0le, jn_0lt, jn_1le, jn_le1, jn_lt1, jn_1lt, jn_e0, jn_e1, jn_em, ↓qB_f, ↓qT_f, cl_0, cl_1, vp_0, vp_1, hz, ret_some, LQ_inl]
      exact ⟨trivial, trivial, f4, p2⟩
  · obtain ⟨b, i, w3⟩ := s
    obtain ⟨i0, i1, i2, i3⟩ := hi
    simp only at i0 i1 i2 i3
    subst i0 i1
    simp (disch := omega) only [B_C_fullWith_23, ↓bi_eq, ↓bw_eq, gd_pos, br_pos, br_neg, br_T, br_F, gd_T, bp_some, bd_some, bv_some, bl_some, bx_inl, bx_inr, bn_none, bn_some, bt_inl, bt_inr, not_true_eq_false, not_false_eq_true, eq_self, Bool.false_eq_true, if_true, if_false, jn_clamp, jn_lt, jn_le, jn_inj, jn_add, jn_sub, jn_mul, jn_vp, jn_0a, jn_1a, jn_1b, jn_1s, jn_1m, jn_neg0, jn_le0, jn_0le, jn_0lt, jn_1le, jn_le1, jn_lt1, jn_1lt, jn_e0, jn_e1, jn_em, ↓qB_f, ↓qT_f, cl_0, cl_1, vp_0, vp_1, br_pos (Nat.le_refl n), ret_some, LQ_inr]
    exact ⟨trivial, i2⟩
theorem m_fullsIn {w3 : Wld} {h : Hs} {c : Sta} (hw : MHs w3 h) (hs : MSt w3 h c) (hh : GdH h) (hg : GdS h c) {n : Nat} (hn : n ≤ 60) : Ret (F_M_fullsIn w3 (jn n)) (fun q => q.1 = sFul h c n ∧ Frm LBk KBk w3 q.2) := by
  rw [F_M_fullsIn, ret_bl]
  refine loop_inv (I := fun k s => s.1 = sFul h c k ∧ s.2.1 = jn k ∧ MAh w3 h (sGo h c k) s.2.2) n ⟨rfl, rfl, frm_rf, hs⟩ (fun k s hk hi => ?_) (fun s hi => ?_)
  · obtain ⟨b, i, w4⟩ := s
    obtain ⟨i0, i1, i2⟩ := hi
    simp only at i0 i1 i2
    subst i0 i1
    simp (disch := omega) only [B_M_fullsIn_4, ↓bi_eq, ↓bw_eq, gd_pos, br_pos, br_neg, br_T, br_F, gd_T, bp_some, bd_some, bv_some, bl_some, bx_inl, bx_inr, bn_none, bn_some, bt_inl, bt_inr, not_true_eq_false, not_false_eq_true, eq_self, Bool.false_eq_true, if_true, if_false, jn_clamp, jn_lt, jn_le, jn_inj, jn_add, jn_sub, jn_mul, jn_vp, jn_0a, jn_1a, jn_1b, jn_1s, jn_1m, jn_neg0, jn_le0, jn_0le, jn_0lt, jn_1le, jn_le1, jn_lt1, jn_1lt, jn_e0, jn_e1, jn_em, ↓qB_f, ↓qT_f, cl_0, cl_1, vp_0, vp_1, ret_bv]
    refine ret_mono (m_night hw hh (sGo_good hh hg k) i2) (fun w5 hq => ?_)
    obtain ⟨a5, m5⟩ := hq
    have hlt := sShort_lt hh (sGo h c k)
    rw [m5.2.1, sFul_s]
    by_cases hz : sShort h (sGo h c k) = 0
    · simp (disch := omega) only [K_M_fullsIn_26, ↓bi_eq, ↓bw_eq, gd_pos, br_pos, br_neg, br_T, br_F, gd_T, bp_some, bd_some, bv_some, bl_some, bx_inl, bx_inr, bn_none, bn_some, bt_inl, bt_inr, not_true_eq_false, not_false_eq_true, eq_self, Bool.false_eq_true, if_true, if_false, jn_clamp, jn_lt, jn_le, jn_inj, jn_add, jn_sub, jn_mul, jn_vp, jn_0a, jn_1a, jn_1b, jn_1s, jn_1m, jn_neg0, jn_le0, jn_0le, jn_0lt, jn_1le, jn_le1, jn_lt1, jn_1lt, jn_e0, jn_e1, jn_em, ↓qB_f, ↓qT_f, cl_0, cl_1, vp_0, vp_1, hz, ret_some, LQ_inl]
      exact ⟨trivial, trivial, a5⟩
    · simp (disch := omega) only [K_M_fullsIn_26, ↓bi_eq, ↓bw_eq, gd_pos, br_pos, br_neg, br_T, br_F, gd_T, bp_some, bd_some, bv_some, bl_some, bx_inl, bx_inr, bn_none, bn_some, bt_inl, bt_inr, not_true_eq_false, not_false_eq_true, eq_self, Bool.false_eq_true, if_true, if_false, jn_clamp, jn_lt, jn_le, jn_inj, jn_add, jn_sub, jn_mul, jn_vp, jn_0a, jn_1a, jn_1b, jn_1s, jn_1m, jn_neg0, jn_le0, jn_0le, jn_0lt, jn_1le, jn_le1, jn_lt1, jn_1lt, jn_e0, jn_e1, jn_em, ↓qB_f, ↓qT_f, cl_0, cl_1, vp_0, vp_1, hz, ret_some, LQ_inl]
      exact ⟨trivial, trivial, a5⟩
  · obtain ⟨b, i, w4⟩ := s
    obtain ⟨i0, i1, i2⟩ := hi
    simp only at i0 i1 i2
    subst i0 i1
    simp (disch := omega) only [B_M_fullsIn_4, ↓bi_eq, ↓bw_eq, gd_pos, br_pos, br_neg, br_T, br_F, gd_T, bp_some, bd_some, bv_some, bl_some, bx_inl, bx_inr, bn_none, bn_some, bt_inl, bt_inr, not_true_eq_false, not_false_eq_true, eq_self, Bool.false_eq_true, if_true, if_false, jn_clamp, jn_lt, jn_le, jn_inj, jn_add, jn_sub, jn_mul, jn_vp, jn_0a, jn_1a, jn_1b, jn_1s, jn_1m, jn_neg0, jn_le0, jn_0le, jn_0lt, jn_1le, jn_le1, jn_lt1, jn_1lt, jn_e0, jn_e1, jn_em, ↓qB_f, ↓qT_f, cl_0, cl_1, vp_0, vp_1, br_pos (Nat.le_refl n), ret_some, LQ_inr]
    exact ⟨trivial, frm_up i2.1 rfl⟩
def pNdl (h : Hs) (c : Sta) (n : Nat) : Nat → Bool := fun m => decide (qT (c 50) m = 0) && decide (sFul h c n ≤ sFul h (upd c 50 (c 50 ||| qB m)) n)
theorem upd_id (c : Sta) (i : Nat) : upd c i (c i) = c := by
  funext j
  unfold upd
  by_cases h : j = i
  · rw [if_pos h, h]
  · rw [if_neg h]
theorem GdS_tie {h : Hs} {c : Sta} (hh : GdH h) (g : GdS h c) {m : Nat} (hm : m < 8) : GdS h (upd c 50 (c 50 ||| qB m)) := by
  obtain ⟨x, hx, ex⟩ := g.2.2.2.2.2.1
  rw [ex, qB_jn (by omega), jn_or]
  exact GdS_tied hh g (Nat.or_lt_two_pow (n := 8) hx (Nat.pow_lt_pow_right (by decide) hm))
theorem q_needless {w : Wld} {h : Hs} (r : RelH w h) (a1 : Int32) : BothQ cdI w h (F_C_needless w a1) (fun w1 => F_M_needless w1 a1) := by
  have hh := r.1
  have hc := r.2.1
  have hM := hh.2.1
  have hg := r.2.2.2.1.1
  rcases rng_cases a1 0 60 (by omega) (by omega) with ⟨n, l1, h1, rfl⟩ | ⟨n1, n2⟩
  rotate_left
  · refine q_bad 1 1 ?_ (fun w1 r1 => ?_) rfl
    · rw [F_C_needless, jn_00, li_60, t_need_n w n1, bn_some]
    · have n2 : ¬ ((0 : Int32) ≤ a1 ∧ a1 ≤ 60) := n2
      simp only [F_M_needless, bw_eq, t_isIn, n2, if_false, bp_some, eq_self, not_true_eq_false, br_F, t_fail, bd_some]
  have g1 : (0 : Int32) ≤ jn n ∧ jn n ≤ 60 := g_what n 60 (by omega) h1
  obtain ⟨x, hx, ex⟩ := hg.2.2.2.2.2.1
  have h0 : upd (w 66) 50 (w 66 50 ||| 0) = w 66 := by rw [Int32.or_zero, upd_id]
  refine ⟨.inr (some (jn (nAll (pNdl h (w 66) n) (hsM h)))), ?_, fun w1 r1 e66 => ?_⟩
  · rw [F_C_needless, jn_00, li_60, t_need_y w (by omega) l1 h1, bn_none, ret_bd]
    refine ret_mono (c_fullWith hc hh (jn 0) (by rw [show (jn 0 : Int32) = 0 from rfl, h0]; exact hg) h1) (fun q hq => ?_)
    obtain ⟨v, w2⟩ := q
    obtain ⟨q1, q2⟩ := hq
    simp only at q1 q2
    rw [show (jn 0 : Int32) = 0 from rfl, h0] at q1
    subst q1
    rw [ret_bl]
    refine ret_mono (P := fun q => q.1 = jn (nAll (pNdl h (w 66) n) (hsM h)) ∧ Frm [61, 62, 63, 85] [(55, 3)] w q.2) ?_ (fun q hq => ?_)
    · refine loop_inv (I := fun k s => s.1 = jn (nAll (pNdl h (w 66) n) k) ∧ s.2.1 = jn k ∧ Frm [61, 62, 63, 85] [(55, 3)] w s.2.2) (hsM h) ⟨rfl, rfl, q2⟩ (fun k s hk hi => ?_) (fun s hi => ?_)
      · obtain ⟨b, i, w3⟩ := s
        obtain ⟨i0, i1, i2⟩ := hi
        simp only at i0 i1 i2
        subst i0 i1
        have e1 : w3 56 1 = jn (hsM h) := (i2 56 1 rfl).trans hc.2.1
        have e66 : w3 66 = w 66 := frm_cell i2 66 (fun _ => rfl)
        have e50 : w3 66 50 = jn x := by rw [e66, ex]
        rw [nAll_s]
        by_cases hz : x.testBit k = true
        · have hp : ¬ pNdl h (w 66) n k = true := by
            unfold pNdl
            rw [ex, qT_jn (by omega) (by omega), hz]
            simp
          simp (disch := omega) only [B_C_needless_19, K_C_needless_57, K_C_needless_84, ↓bi_eq, ↓bw_eq, gd_pos, br_pos, br_neg, br_T, br_F, gd_T, bp_some, bd_some, bv_some, bl_some, bx_inl, bx_inr, bn_none, bn_some, bt_inl, bt_inr, not_true_eq_false, not_false_eq_true, eq_self, Bool.false_eq_true, if_true, if_false, jn_clamp, jn_lt, jn_le, jn_inj, jn_add, jn_sub, jn_mul, jn_vp, jn_0a, jn_1a, jn_1b, jn_1s, jn_1m, jn_neg0, jn_le0, jn_0le, jn_0lt, jn_1le, jn_le1, jn_lt1, jn_1lt, jn_e0, jn_e1, jn_em, ↓qB_f, ↓qT_f, cl_0, cl_1, vp_0, vp_1, e1, li_50, e50, qT_0, hz, hp, (by decide : (true = false) = False), ret_some, LQ_inl]
          exact ⟨trivial, trivial, i2⟩
        · have hz' : x.testBit k = false := Bool.eq_false_iff.mpr hz
          simp (disch := omega) only [B_C_needless_19, K_C_needless_57, ↓bi_eq, ↓bw_eq, gd_pos, br_pos, br_neg, br_T, br_F, gd_T, bp_some, bd_some, bv_some, bl_some, bx_inl, bx_inr, bn_none, bn_some, bt_inl, bt_inr, not_true_eq_false, not_false_eq_true, eq_self, Bool.false_eq_true, if_true, if_false, jn_clamp, jn_lt, jn_le, jn_inj, jn_add, jn_sub, jn_mul, jn_vp, jn_0a, jn_1a, jn_1b, jn_1s, jn_1m, jn_neg0, jn_le0, jn_0le, jn_0lt, jn_1le, jn_le1, jn_lt1, jn_1lt, jn_e0, jn_e1, jn_em, ↓qB_f, ↓qT_f, cl_0, cl_1, vp_0, vp_1, e1, li_50, e50, qT_0, hz', (by decide : ((1 : Int32) = 0) = False), ret_bd]
          refine ret_mono (c_fullWith (CHs_fr hc i2 ⟨rfl, rfl, rfl, rfl, fun _ => rfl, fun _ => rfl, rfl, fun _ => rfl⟩) hh (qB k) (by rw [e66]; exact GdS_tie hh hg (by omega)) h1) (fun q hq => ?_)
          obtain ⟨v, w4⟩ := q
          obtain ⟨p1, p2⟩ := hq
          simp only at p1 p2
          rw [e66] at p1
          subst p1
          have f4 := frm_tr i2 p2
          by_cases hl : sFul h (w 66) n ≤ sFul h (upd (w 66) 50 (w 66 50 ||| qB k)) n
          · have hp : pNdl h (w 66) n k = true := by
              unfold pNdl
              rw [ex, qT_jn (by omega) (by omega), hz', ← ex]
              simp [hl]
            have hl' : ¬ sFul h (upd (w 66) 50 (w 66 50 ||| qB k)) n < sFul h (w 66) n := Int32.not_lt.mpr hl
            rw [br_neg hl']
            simp (disch := omega) only [K_C_needless_84, ↓bi_eq, ↓bw_eq, gd_pos, br_pos, br_neg, br_T, br_F, gd_T, bp_some, bd_some, bv_some, bl_some, bx_inl, bx_inr, bn_none, bn_some, bt_inl, bt_inr, not_true_eq_false, not_false_eq_true, eq_self, Bool.false_eq_true, if_true, if_false, jn_clamp, jn_lt, jn_le, jn_inj, jn_add, jn_sub, jn_mul, jn_vp, jn_0a, jn_1a, jn_1b, jn_1s, jn_1m, jn_neg0, jn_le0, jn_0le, jn_0lt, jn_1le, jn_le1, jn_lt1, jn_1lt, jn_e0, jn_e1, jn_em, ↓qB_f, ↓qT_f, cl_0, cl_1, vp_0, vp_1, hp, qB_jn, jn_or, ret_some, LQ_inl]
            exact ⟨trivial, trivial, f4⟩
          · have hp : ¬ pNdl h (w 66) n k = true := by
              unfold pNdl
              simp [hl]
            have hl' : sFul h (upd (w 66) 50 (w 66 50 ||| qB k)) n < sFul h (w 66) n := Int32.not_le.mp hl
            simp (disch := omega) only [K_C_needless_84, ↓bi_eq, ↓bw_eq, gd_pos, br_pos, br_neg, br_T, br_F, gd_T, bp_some, bd_some, bv_some, bl_some, bx_inl, bx_inr, bn_none, bn_some, bt_inl, bt_inr, not_true_eq_false, not_false_eq_true, eq_self, Bool.false_eq_true, if_true, if_false, jn_clamp, jn_lt, jn_le, jn_inj, jn_add, jn_sub, jn_mul, jn_vp, jn_0a, jn_1a, jn_1b, jn_1s, jn_1m, jn_neg0, jn_le0, jn_0le, jn_0lt, jn_1le, jn_le1, jn_lt1, jn_1lt, jn_e0, jn_e1, jn_em, ↓qB_f, ↓qT_f, cl_0, cl_1, vp_0, vp_1, hl', hp, ret_some, LQ_inl]
            exact ⟨trivial, trivial, f4⟩
      · obtain ⟨b, i, w3⟩ := s
        obtain ⟨i0, i1, i2⟩ := hi
        simp only at i0 i1 i2
        subst i0 i1
        have e1 : w3 56 1 = jn (hsM h) := (i2 56 1 rfl).trans hc.2.1
        simp (disch := omega) only [B_C_needless_19, ↓bi_eq, ↓bw_eq, gd_pos, br_pos, br_neg, br_T, br_F, gd_T, bp_some, bd_some, bv_some, bl_some, bx_inl, bx_inr, bn_none, bn_some, bt_inl, bt_inr, not_true_eq_false, not_false_eq_true, eq_self, Bool.false_eq_true, if_true, if_false, jn_clamp, jn_lt, jn_le, jn_inj, jn_add, jn_sub, jn_mul, jn_vp, jn_0a, jn_1a, jn_1b, jn_1s, jn_1m, jn_neg0, jn_le0, jn_0le, jn_0lt, jn_1le, jn_le1, jn_lt1, jn_1lt, jn_e0, jn_e1, jn_em, ↓qB_f, ↓qT_f, cl_0, cl_1, vp_0, vp_1, e1, br_pos (Nat.le_refl (hsM h)), ret_some, LQ_inr]
        exact ⟨trivial, i2⟩
    · rw [ret_some, hq.1]
      exact ⟨rfl, frm_up hq.2 rfl⟩
  · simp only [F_M_needless, bw_eq, t_isIn, g1, and_self, if_true, bp_some, br_T, not_false_eq_true, (by decide : ((1 : Int32) = 0) = False), ret_bv]
    refine ret_mono (m_open r1 e66) (fun w2 hq => ?_)
    obtain ⟨f2, h2, s2, row2, c2⟩ := hq
    have b2 : MBk w1 h (w 66) w2 := ⟨f2, s2, row2, c2⟩
    rw [ret_bd]
    refine ret_mono (m_fullsIn h2 s2 hh hg h1) (fun q hq => ?_)
    obtain ⟨v, w3⟩ := q
    obtain ⟨q1, q2⟩ := hq
    simp only at q1 q2
    subst q1
    rw [ret_bv]
    refine ret_mono (m_back hh b2 q2) (fun w4 hx => ?_)
    have b4 := hx.1
    rw [ret_bl]
    refine ret_mono (P := fun q => q.1 = jn (nAll (pNdl h (w 66) n) (hsM h)) ∧ MBk w1 h (w 66) q.2) ?_ (fun q hq => ?_)
    · refine loop_inv (I := fun k s => s.1 = jn (nAll (pNdl h (w 66) n) k) ∧ s.2.1 = jn k ∧ MBk w1 h (w 66) s.2.2) (hsM h) ⟨rfl, rfl, b4⟩ (fun k s hk hi => ?_) (fun s hi => ?_)
      · obtain ⟨b, i, w5⟩ := s
        obtain ⟨i0, i1, i2⟩ := hi
        simp only at i0 i1 i2
        subst i0 i1
        have h5 := MBk_h r1 i2
        have e1 : w5 3 1 = jn (hsM h) := h5.2.1
        have e33 : w5 0 33 = jn x := i2.2.1.2.2.1.trans ex
        rw [nAll_s]
        by_cases hz : x.testBit k = true
        · have hp : ¬ pNdl h (w 66) n k = true := by
            unfold pNdl
            rw [ex, qT_jn (by omega) (by omega), hz]
            simp
          simp (disch := omega) only [B_M_needless_52, K_M_needless_120, ↓bi_eq, ↓bw_eq, gd_pos, br_pos, br_neg, br_T, br_F, gd_T, bp_some, bd_some, bv_some, bl_some, bx_inl, bx_inr, bn_none, bn_some, bt_inl, bt_inr, not_true_eq_false, not_false_eq_true, eq_self, Bool.false_eq_true, if_true, if_false, jn_clamp, jn_lt, jn_le, jn_inj, jn_add, jn_sub, jn_mul, jn_vp, jn_0a, jn_1a, jn_1b, jn_1s, jn_1m, jn_neg0, jn_le0, jn_0le, jn_0lt, jn_1le, jn_le1, jn_lt1, jn_1lt, jn_e0, jn_e1, jn_em, ↓qB_f, ↓qT_f, cl_0, cl_1, vp_0, vp_1, e1, e33, t_isOf, hz, hp, (by decide : ((1 : Int32) = 0) = False), ret_some, LQ_inl]
          exact ⟨trivial, trivial, i2⟩
        · have hz' : x.testBit k = false := Bool.eq_false_iff.mpr hz
          have f6 : Frm LBk KBk w5 (wup w5 0 33 (w 66 50 ||| qB k)) := frm_wup frm_rf _ _ _ rfl
          have s6 := MSt_tied hh i2.2.1 (w 66 50 ||| qB k)
          simp (disch := omega) only [B_M_needless_52, ↓bi_eq, ↓bw_eq, gd_pos, br_pos, br_neg, br_T, br_F, gd_T, bp_some, bd_some, bv_some, bl_some, bx_inl, bx_inr, bn_none, bn_some, bt_inl, bt_inr, not_true_eq_false, not_false_eq_true, eq_self, Bool.false_eq_true, if_true, if_false, jn_clamp, jn_lt, jn_le, jn_inj, jn_add, jn_sub, jn_mul, jn_vp, jn_0a, jn_1a, jn_1b, jn_1s, jn_1m, jn_neg0, jn_le0, jn_0le, jn_0lt, jn_1le, jn_le1, jn_lt1, jn_1lt, jn_e0, jn_e1, jn_em, ↓qB_f, ↓qT_f, cl_0, cl_1, vp_0, vp_1, e1, e33, t_isOf, hz', ret_bd]
          rw [← ex]
          refine ret_mono (m_fullsIn (MHs_fr h5 f6 ⟨rfl, rfl, rfl, rfl, rfl, fun _ => rfl, fun _ => rfl, fun _ => rfl⟩) s6 hh (GdS_tie hh hg (by omega)) h1) (fun q hq => ?_)
          obtain ⟨v, w7⟩ := q
          obtain ⟨p1, p2⟩ := hq
          simp only at p1 p2
          subst p1
          by_cases hl : sFul h (w 66) n ≤ sFul h (upd (w 66) 50 (w 66 50 ||| qB k)) n
          · have hp : pNdl h (w 66) n k = true := by
              unfold pNdl
              rw [ex, qT_jn (by omega) (by omega), hz', ← ex]
              simp [hl]
            have hl' : ¬ sFul h (upd (w 66) 50 (w 66 50 ||| qB k)) n < sFul h (w 66) n := Int32.not_lt.mpr hl
            rw [br_neg hl']
            simp (disch := omega) only [K_M_needless_109, K_M_needless_120, ↓bi_eq, ↓bw_eq, gd_pos, br_pos, br_neg, br_T, br_F, gd_T, bp_some, bd_some, bv_some, bl_some, bx_inl, bx_inr, bn_none, bn_some, bt_inl, bt_inr, not_true_eq_false, not_false_eq_true, eq_self, Bool.false_eq_true, if_true, if_false, jn_clamp, jn_lt, jn_le, jn_inj, jn_add, jn_sub, jn_mul, jn_vp, jn_0a, jn_1a, jn_1b, jn_1s, jn_1m, jn_neg0, jn_le0, jn_0le, jn_0lt, jn_1le, jn_le1, jn_lt1, jn_1lt, jn_e0, jn_e1, jn_em, ↓qB_f, ↓qT_f, cl_0, cl_1, vp_0, vp_1, hp, qB_jn, jn_or, ret_bv]
            refine ret_mono (m_back hh i2 (frm_tr f6 p2)) (fun w8 hx => ?_)
            rw [ret_some, LQ_inl]
            exact ⟨rfl, rfl, hx.1⟩
          · have hp : ¬ pNdl h (w 66) n k = true := by
              unfold pNdl
              simp [hl]
            have hl' : sFul h (upd (w 66) 50 (w 66 50 ||| qB k)) n < sFul h (w 66) n := Int32.not_le.mp hl
            simp (disch := omega) only [K_M_needless_109, K_M_needless_120, ↓bi_eq, ↓bw_eq, gd_pos, br_pos, br_neg, br_T, br_F, gd_T, bp_some, bd_some, bv_some, bl_some, bx_inl, bx_inr, bn_none, bn_some, bt_inl, bt_inr, not_true_eq_false, not_false_eq_true, eq_self, Bool.false_eq_true, if_true, if_false, jn_clamp, jn_lt, jn_le, jn_inj, jn_add, jn_sub, jn_mul, jn_vp, jn_0a, jn_1a, jn_1b, jn_1s, jn_1m, jn_neg0, jn_le0, jn_0le, jn_0lt, jn_1le, jn_le1, jn_lt1, jn_1lt, jn_e0, jn_e1, jn_em, ↓qB_f, ↓qT_f, cl_0, cl_1, vp_0, vp_1, hl', hp, Int32.or_zero, ret_bv]
            refine ret_mono (m_back hh i2 (frm_tr f6 p2)) (fun w8 hx => ?_)
            rw [ret_some, LQ_inl]
            exact ⟨rfl, rfl, hx.1⟩
      · obtain ⟨b, i, w5⟩ := s
        obtain ⟨i0, i1, i2⟩ := hi
        simp only at i0 i1 i2
        subst i0 i1
        have e1 : w5 3 1 = jn (hsM h) := (MBk_h r1 i2).2.1
        simp (disch := omega) only [B_M_needless_52, ↓bi_eq, ↓bw_eq, gd_pos, br_pos, br_neg, br_T, br_F, gd_T, bp_some, bd_some, bv_some, bl_some, bx_inl, bx_inr, bn_none, bn_some, bt_inl, bt_inr, not_true_eq_false, not_false_eq_true, eq_self, Bool.false_eq_true, if_true, if_false, jn_clamp, jn_lt, jn_le, jn_inj, jn_add, jn_sub, jn_mul, jn_vp, jn_0a, jn_1a, jn_1b, jn_1s, jn_1m, jn_neg0, jn_le0, jn_0le, jn_0lt, jn_1le, jn_le1, jn_lt1, jn_1lt, jn_e0, jn_e1, jn_em, ↓qB_f, ↓qT_f, cl_0, cl_1, vp_0, vp_1, e1, br_pos (Nat.le_refl (hsM h)), ret_some, LQ_inr]
        exact ⟨trivial, i2⟩
    · obtain ⟨v, w5⟩ := q
      obtain ⟨q1, b5⟩ := hq
      simp only at q1 b5
      rw [ret_some]
      obtain ⟨y1, y2⟩ := q_endB r1 e66 b5
      exact ⟨⟨b5.2.2.2, q1⟩, y1, y2⟩
