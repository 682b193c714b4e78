/-! ===== questions: up, then, full, silent ===== -/
theorem m_pack {w : Wld} {h : Hs} {c : Sta} (hs : MSt w h c) (hh : GdH h) : Ret (F_M_pack_24 w 0) (fun w' => Frm [24] [] w w' ∧ MRow (w' 24) h c) := by
  refine ret_mono (t_pack_24 w (o := 0) (by omega)) (fun w' hq => ?_)
  obtain ⟨q1, q2, q3⟩ := hq
  exact ⟨q1, pk_row hs hh (fun i hi => by rw [← q2 i hi, Nat.zero_add])⟩
theorem m_unpack {w : Wld} {h : Hs} {c : Sta} (hr : MRow (w 24) h c) (hh : GdH h) : Ret (F_M_unpack_24 w 0) (fun w' => Frm [14, 15, 16, 17, 18, 19] [(0, 31), (0, 32), (0, 33)] w w' ∧ MSt w' h c) := by
  have e : (fun i => w 24 (0 + i)) = w 24 := by funext i; rw [Nat.zero_add]
  exact t_unpack_24 (o := 0) hh (by omega) (by rw [e]; exact hr)
theorem m_ent {w : Wld} {h : Hs} (r : RelH w h) : MHs (wup w 0 2 0) h ∧ MSt (wup w 0 2 0) h (w 66) ∧ Frm LPu KPu w (wup w 0 2 0) ∧ (wup w 0 2 0) 0 2 = 0 := by
  have f : Frm [] [(0, 2)] w (wup w 0 2 0) := frm_wup frm_rf _ _ _ rfl
  exact ⟨MHs_fr r.2.2.1 f ⟨rfl, rfl, rfl, rfl, rfl, fun _ => rfl, fun _ => rfl, fun _ => rfl⟩, MSt_fr r.2.2.2.1.2 f ⟨fun _ => rfl, fun _ => rfl, fun _ => rfl, fun _ => rfl, fun _ => rfl, fun _ => rfl, rfl, rfl, rfl⟩, frm_up f rfl, wup_s1 _ _ _ _⟩
theorem t_fail (w : Wld) (k : Int32) : F_M_fail w k = some (0, wup w 0 2 k) := rfl
/-- a refused question -/
theorem q_fail {w : Wld} {h : Hs} (r : RelH w h) (k : Int32) : RelH (wup (wup w 0 2 0) 0 2 k) h ∧ (wup (wup w 0 2 0) 0 2 k) 0 2 = k ∧ (wup (wup w 0 2 0) 0 2 k) 41 0 = w 41 0 := by
  have f : Frm [] [(0, 2)] w (wup (wup w 0 2 0) 0 2 k) := frm_wup (frm_wup frm_rf _ _ _ rfl) _ _ _ rfl
  exact ⟨RelH_p r (frm_up f rfl) (MSt_fr r.2.2.2.1.2 f ⟨fun _ => rfl, fun _ => rfl, fun _ => rfl, fun _ => rfl, fun _ => rfl, fun _ => rfl, rfl, rfl, rfl⟩), wup_s1 _ _ _ _, f 41 0 rfl⟩
/-- an answer out of a world that has been unpacked -/
theorem q_ans {w w' : Wld} {h : Hs} {c : Sta} (r : RelH w h) (ec : w 66 = c) (f : Frm LPu KPu w w') (hm : MSt w' h c) : RelH w' h ∧ w' 41 0 = w 41 0 :=
  ⟨RelH_p r f (by rw [ec]; exact hm), f 41 0 rfl⟩
theorem q_up {w : Wld} {h : Hs} (r : RelH w h) (a1 a2 : Int32) : BothQ cdB w h (F_C_up w a1 a2) (fun w1 => F_M_up w1 a1 a2) := by
  have hh := r.1
  have hc := r.2.1
  have hg := r.2.2.2.1.1
  rcases rng_cases a2 0 2 (by omega) (by omega) with ⟨k2, -, h2, rfl⟩ | ⟨n1, n2⟩
  · rcases rng_cases a1 1 60 (by omega) (by omega) with ⟨k1, l1, h1, rfl⟩ | ⟨n1, n2⟩
    · have g1 : (0 : Int32) ≤ jn k2 ∧ jn k2 ≤ 2 := ⟨by rw [jn_0le (by omega)]; trivial, by rw [li_2, jn_le (by omega) (by omega)]; exact h2⟩
      have g2 : (1 : Int32) ≤ jn k1 ∧ jn k1 ≤ 60 := ⟨by rw [jn_1le (by omega)]; exact l1, by rw [li_60, jn_le (by omega) (by omega)]; exact h1⟩
      have hk : sGo h (w 66) k1 = sPass h (sGo h (w 66) (k1 - 1)) := by
        conv => lhs; rw [show k1 = k1 - 1 + 1 by omega]
        rfl
      have hgd := sGo_good hh hg (k1 - 1)
      refine ⟨.inr (some (if k2 = 0 then jn (sRis h (sGo h (w 66) (k1 - 1))) else if k2 = 1 then sMat h (sGo h (w 66) (k1 - 1)) else jn (sShort h (sGo h (w 66) (k1 - 1))))), ?_, fun w1 r1 e66 => ?_⟩
      · rw [F_C_up, li_2, t_what_y w (by omega) h2, bn_none, jn_11, li_60, t_need_y w (by omega) l1 h1, bn_none, ret_bv]
        refine ret_mono (t_goAhead hc hh hg (by omega)) (fun w2 hq => ?_)
        obtain ⟨q1, q2, q3⟩ := hq
        have q3 := q3 (by omega)
        have hc2 : CHs w2 h := CHs_fr hc q1 ⟨rfl, rfl, rfl, rfl, fun _ => rfl, fun _ => rfl, rfl, fun _ => rfl⟩
        have hb : k2 = 0 ∨ k2 = 1 ∨ k2 = 2 := by omega
        rcases hb with rfl | rfl | rfl
        · simp (disch := omega) only [↓bi_eq, ↓bw_eq, gd_pos, br_pos, br_neg, br_T, br_F, gd_T, bp_some, bd_some, bv_some, bl_some, bx_inl, bx_inr, bn_none, bn_some, bt_inl, bt_inr, not_true_eq_false, not_false_eq_true, eq_self, Bool.false_eq_true, if_true, if_false, jn_clamp, jn_lt, jn_le, jn_inj, jn_add, jn_sub, jn_mul, jn_vp, jn_0a, jn_1a, jn_1b, jn_1s, jn_1m, jn_neg0, jn_le0, jn_0le, jn_0lt, jn_1le, jn_le1, jn_lt1, jn_1lt, jn_e0, jn_e1, jn_em, ↓qB_f, ↓qT_f, cl_0, cl_1, vp_0, vp_1, q3.1, ret_some, true_and]
          exact frm_up q1 rfl
        · simp (disch := omega) only [↓bi_eq, ↓bw_eq, gd_pos, br_pos, br_neg, br_T, br_F, gd_T, bp_some, bd_some, bv_some, bl_some, bx_inl, bx_inr, bn_none, bn_some, bt_inl, bt_inr, not_true_eq_false, not_false_eq_true, eq_self, Bool.false_eq_true, if_true, if_false, jn_clamp, jn_lt, jn_le, jn_inj, jn_add, jn_sub, jn_mul, jn_vp, jn_0a, jn_1a, jn_1b, jn_1s, jn_1m, jn_neg0, jn_le0, jn_0le, jn_0lt, jn_1le, jn_le1, jn_lt1, jn_1lt, jn_e0, jn_e1, jn_em, ↓qB_f, ↓qT_f, cl_0, cl_1, vp_0, vp_1, t_matins hc2 hh hgd q3, ret_some, true_and, Nat.reduceEqDiff, (by decide : ¬ (1 = 0))]
          exact frm_up q1 rfl
        · simp (disch := omega) only [↓bi_eq, ↓bw_eq, gd_pos, br_pos, br_neg, br_T, br_F, gd_T, bp_some, bd_some, bv_some, bl_some, bx_inl, bx_inr, bn_none, bn_some, bt_inl, bt_inr, not_true_eq_false, not_false_eq_true, eq_self, Bool.false_eq_true, if_true, if_false, jn_clamp, jn_lt, jn_le, jn_inj, jn_add, jn_sub, jn_mul, jn_vp, jn_0a, jn_1a, jn_1b, jn_1s, jn_1m, jn_neg0, jn_le0, jn_0le, jn_0lt, jn_1le, jn_le1, jn_lt1, jn_1lt, jn_e0, jn_e1, jn_em, ↓qB_f, ↓qT_f, cl_0, cl_1, vp_0, vp_1, t_missing hc2 hh q3, ret_some, true_and, (by decide : ¬ (2 = 0)), (by decide : ¬ (2 = 1))]
          exact frm_up q1 rfl
      · obtain ⟨z1, z2, z3, z4⟩ := m_ent r1
        rw [e66] at z2
        simp only [F_M_up, bw_eq, t_isIn, g1, g2, and_self, if_true, bp_some, (by decide : ((1 : Int32) = 0) = False), not_false_eq_true, br_T, ret_bv]
        refine ret_mono (m_pack z2 hh) (fun w2 hq => ?_)
        obtain ⟨q1, q2⟩ := hq
        have q1' : Frm LPu KPu w1 w2 := frm_tr z3 (frm_up q1 rfl)
        refine ret_mono (t_goOn (MHs_fr z1 q1 ⟨rfl, rfl, rfl, rfl, rfl, fun _ => rfl, fun _ => rfl, fun _ => rfl⟩) (MSt_fr z2 q1 ⟨fun _ => rfl, fun _ => rfl, fun _ => rfl, fun _ => rfl, fun _ => rfl, fun _ => rfl, rfl, rfl, rfl⟩) hh hg (by omega)) (fun w3 hp => ?_)
        obtain ⟨p1, p2, p3⟩ := hp
        have p3 := p3 (by omega)
        have hrow : MRow (w3 24) h (w 66) := by rw [frm_cell p1 24 (fun _ => rfl)]; exact q2
        have ec : w3 0 2 = 0 := by rw [p1 0 2 rfl, q1 0 2 rfl, z4]
        have e32 : w3 0 32 = jn (sRis h (sGo h (w 66) (k1 - 1))) := by
          rw [p2.2.2.2.1, hk, sPass, if_pos rfl]
        have key : ∀ t : Int32, Ret (K_M_up_82 t w3) (fun p => p.1 = t ∧ p.2 0 2 = 0 ∧ RelH p.2 h ∧ p.2 41 0 = w1 41 0) := by
          intro t
          rw [K_M_up_82, ret_bv]
          refine ret_mono (m_unpack hrow hh) (fun w4 hx => ?_)
          obtain ⟨x1, x2⟩ := hx
          have f : Frm LPu KPu w1 w4 := frm_tr (frm_tr q1' (frm_up p1 rfl)) (frm_up x1 rfl)
          obtain ⟨y1, y2⟩ := q_ans r1 e66 f x2
          rw [ret_some]
          exact ⟨rfl, (x1 0 2 rfl).trans ec, y1, y2⟩
        have hb : k2 = 0 ∨ k2 = 1 ∨ k2 = 2 := by omega
        rcases hb with rfl | rfl | rfl
        · simp (disch := omega) only [↓bi_eq, ↓bw_eq, gd_pos, br_pos, br_neg, br_T, br_F, gd_T, bp_some, bd_some, bv_some, bl_some, bx_inl, bx_inr, bn_none, bn_some, bt_inl, bt_inr, not_true_eq_false, not_false_eq_true, eq_self, Bool.false_eq_true, if_true, if_false, jn_clamp, jn_lt, jn_le, jn_inj, jn_add, jn_sub, jn_mul, jn_vp, jn_0a, jn_1a, jn_1b, jn_1s, jn_1m, jn_neg0, jn_le0, jn_0le, jn_0lt, jn_1le, jn_le1, jn_lt1, jn_1lt, jn_e0, jn_e1, jn_em, ↓qB_f, ↓qT_f, cl_0, cl_1, vp_0, vp_1, e32]
          exact ret_mono (key _) (fun p hp => ⟨⟨hp.2.1, hp.1⟩, hp.2.2⟩)
        · simp (disch := omega) only [↓bi_eq, ↓bw_eq, gd_pos, br_pos, br_neg, br_T, br_F, gd_T, bp_some, bd_some, bv_some, bl_some, bx_inl, bx_inr, bn_none, bn_some, bt_inl, bt_inr, not_true_eq_false, not_false_eq_true, eq_self, Bool.false_eq_true, if_true, if_false, jn_clamp, jn_lt, jn_le, jn_inj, jn_add, jn_sub, jn_mul, jn_vp, jn_0a, jn_1a, jn_1b, jn_1s, jn_1m, jn_neg0, jn_le0, jn_0le, jn_0lt, jn_1le, jn_le1, jn_lt1, jn_1lt, jn_e0, jn_e1, jn_em, ↓qB_f, ↓qT_f, cl_0, cl_1, vp_0, vp_1, p3.1, (by decide : ¬ (1 = 0))]
          exact ret_mono (key _) (fun p hp => ⟨⟨hp.2.1, hp.1⟩, hp.2.2⟩)
        · simp (disch := omega) only [↓bi_eq, ↓bw_eq, gd_pos, br_pos, br_neg, br_T, br_F, gd_T, bp_some, bd_some, bv_some, bl_some, bx_inl, bx_inr, bn_none, bn_some, bt_inl, bt_inr, not_true_eq_false, not_false_eq_true, eq_self, Bool.false_eq_true, if_true, if_false, jn_clamp, jn_lt, jn_le, jn_inj, jn_add, jn_sub, jn_mul, jn_vp, jn_0a, jn_1a, jn_1b, jn_1s, jn_1m, jn_neg0, jn_le0, jn_0le, jn_0lt, jn_1le, jn_le1, jn_lt1, jn_1lt, jn_e0, jn_e1, jn_em, ↓qB_f, ↓qT_f, cl_0, cl_1, vp_0, vp_1, p3.2.1, (by decide : ¬ (2 = 0)), (by decide : ¬ (2 = 1))]
          exact ret_mono (key _) (fun p hp => ⟨⟨hp.2.1, hp.1⟩, hp.2.2⟩)
    · have n2 : ¬ ((1 : Int32) ≤ a1 ∧ a1 ≤ 60) := n2
      have g1 : (0 : Int32) ≤ jn k2 ∧ jn k2 ≤ 2 := ⟨by rw [jn_0le (by omega)]; trivial, by rw [li_2, jn_le (by omega) (by omega)]; exact h2⟩
      refine ⟨.inl 1, ?_, fun w1 r1 e66 => ?_⟩
      · rw [F_C_up, li_2, t_what_y w (by omega) h2, bn_none, jn_11, li_60, t_need_n w n1, bn_some, ret_some]
        exact ⟨rfl, frm_rf⟩
      · simp only [F_M_up, bw_eq, t_isIn, g1, n2, and_self, if_true, if_false, bp_some, (by decide : ((1 : Int32) = 0) = False), not_false_eq_true, not_true_eq_false, eq_self, br_T, br_F, t_fail, bd_some, ret_some]
        obtain ⟨y1, y2, y3⟩ := q_fail r1 2
        exact ⟨⟨y2, by decide⟩, y1, y3⟩
  · have n2 : ¬ ((0 : Int32) ≤ a2 ∧ a2 ≤ 2) := n2
    refine ⟨.inl 0, ?_, fun w1 r1 e66 => ?_⟩
    · rw [F_C_up, li_2, t_what_n w n1, bn_some, ret_some]
      exact ⟨rfl, frm_rf⟩
    · simp only [F_M_up, bw_eq, t_isIn, n2, if_false, bp_some, not_true_eq_false, eq_self, br_T, br_F, t_fail, bd_some, ret_some]
      obtain ⟨y1, y2, y3⟩ := q_fail r1 1
      exact ⟨⟨y2, by decide⟩, y1, y3⟩
