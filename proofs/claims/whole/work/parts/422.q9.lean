/-! ===== questions: game, the end ===== -/
theorem m_tell {w1 wa : Wld} {h : Hs} {c : Sta} (r1 : RelH w1 h) (hg : GdS h c) (f0 : Frm LPu KPu w1 wa) (s0 : MSt wa h c) (c0 : wa 0 2 = 0) {m o : Nat} (hm : m < hsM h) (ho : o < hsM h) : Ret (F_M_tellGains wa (jn m) (jn o)) (fun w2 => MBk w1 h c w2 ∧ ∀ i, i < 8 → w2 34 i = gV h c m o i) := by
  have hh := r1.1
  have hM := hh.2.1
  rw [F_M_tellGains, ret_bv]
  refine ret_mono (m_pack s0 hh) (fun wb hq => ?_)
  obtain ⟨q1, q2⟩ := hq
  have b0 : MBk w1 h c wb := ⟨frm_tr f0 (frm_up q1 rfl), MSt_fr s0 q1 ⟨fun _ => rfl, fun _ => rfl, fun _ => rfl, fun _ => rfl, fun _ => rfl, fun _ => rfl, rfl, rfl, rfl⟩, q2, (q1 0 2 rfl).trans c0⟩
  rw [ret_bl]
  refine ret_mono (P := fun w2 => MBk w1 h c w2 ∧ ∀ i, i < 8 → w2 34 i = gV h c m o i) ?_ (fun w2 hq => ?_)
  · refine loop_inv (I := fun k s => s.1 = jn k ∧ MBk w1 h c s.2 ∧ ∀ i, i < 2 * k → s.2 34 i = gV h c m o i) 4 ⟨rfl, b0, fun i hi => absurd hi (by omega)⟩ (fun k s hk hi => ?_) (fun s hi => ?_)
    · obtain ⟨i, w3⟩ := s
      obtain ⟨i0, i1, i2⟩ := hi
      simp only at i0 i1 i2
      subst i0
      obtain ⟨-, -, k3, k4, -⟩ := ch_facts k hk
      have hd2 : ¬ (2 : Int32) = 0 := by decide
      have gA := chsS_good hh hg hm (k / 2)
      have gB : GdS h (gSt c m o k) := chsS_good hh gA ho (k % 2)
      rw [B_M_tellGains_11, li_4, br_neg (by rw [jn_le (by omega) (by omega)]; omega), gd_pos hd2, k4, k3, ret_bd]
      simp only
      refine ret_mono (m_choose hh i1.2.1 hm (by omega)) (fun q hq => ?_)
      obtain ⟨v, w4⟩ := q
      obtain ⟨x1, x2, x3⟩ := hq
      simp only at x1 x2 x3
      subst x1
      have fA : Frm [34] [] w4 (wup w4 34 (2 * k) (chsV (k / 2))) := frm_wup frm_rf _ _ _ rfl
      have eA : (wup w4 34 (2 * k) (chsV (k / 2))) 34 (2 * k) = chsV (k / 2) := wup_s1 _ _ _ _
      have oA : ∀ i, i < 2 * k → (wup w4 34 (2 * k) (chsV (k / 2))) 34 i = w4 34 i := fun i hi => wup_s2 _ _ _ (by omega)
      simp (disch := omega) only [↓bi_eq, ↓bw_eq, gd_pos, br_pos, br_neg, br_T, br_F, gd_T, bp_some, bd_some, bv_some, bl_some, bx_inl, bx_inr, bn_none, bn_some, bt_inl, bt_inr, not_true_eq_false, not_false_eq_true, eq_self, Bool.false_eq_true, if_true, if_false, jn_clamp, jn_lt, jn_le, jn_inj, jn_add, jn_sub, jn_mul, jn_vp, jn_0a, jn_1a, jn_1b, jn_1s, jn_1m, jn_neg0, jn_le0, jn_0le, jn_0lt, jn_1le, jn_le1, jn_lt1, jn_1lt, jn_e0, jn_e1, jn_em, ↓qB_f, ↓qT_f, cl_0, cl_1, vp_0, vp_1, li_2, gd_pos (by decide : ¬ (jn 2 = 0)), ret_bd]
      generalize wup w4 34 (2 * k) (chsV (k / 2)) = w5 at fA eA oA ⊢
      refine ret_mono (m_choose hh (MSt_fr x3 fA ⟨fun _ => rfl, fun _ => rfl, fun _ => rfl, fun _ => rfl, fun _ => rfl, fun _ => rfl, rfl, rfl, rfl⟩) ho (by omega)) (fun q hq => ?_)
      obtain ⟨v, w6⟩ := q
      obtain ⟨y1, y2, y3⟩ := hq
      simp only at y1 y2 y3
      subst y1
      have fB : Frm [34] [] w6 (wup w6 34 (2 * k + 1) (chsV (k % 2))) := frm_wup frm_rf _ _ _ rfl
      have eB : (wup w6 34 (2 * k + 1) (chsV (k % 2))) 34 (2 * k + 1) = chsV (k % 2) := wup_s1 _ _ _ _
      have oB : ∀ i, i < 2 * k + 1 → (wup w6 34 (2 * k + 1) (chsV (k % 2))) 34 i = w6 34 i := fun i hi => wup_s2 _ _ _ (by omega)
      simp (disch := omega) only [↓bi_eq, ↓bw_eq, gd_pos, br_pos, br_neg, br_T, br_F, gd_T, bp_some, bd_some, bv_some, bl_some, bx_inl, bx_inr, bn_none, bn_some, bt_inl, bt_inr, not_true_eq_false, not_false_eq_true, eq_self, Bool.false_eq_true, if_true, if_false, jn_clamp, jn_lt, jn_le, jn_inj, jn_add, jn_sub, jn_mul, jn_vp, jn_0a, jn_1a, jn_1b, jn_1s, jn_1m, jn_neg0, jn_le0, jn_0le, jn_0lt, jn_1le, jn_le1, jn_lt1, jn_1lt, jn_e0, jn_e1, jn_em, ↓qB_f, ↓qT_f, cl_0, cl_1, vp_0, vp_1, ret_bl]
      generalize wup w6 34 (2 * k + 1) (chsV (k % 2)) = w7 at fB eB oB ⊢
      have e6 : w6 34 = w5 34 := frm_cell y2 34 (fun _ => rfl)
      have e4 : w4 34 = w3 34 := frm_cell x2 34 (fun _ => rfl)
      have f7 : Frm LBg KBg w3 w7 := frm_tr (frm_up x2 rfl) (frm_tr (frm_up fA rfl) (frm_tr (frm_up y2 rfl) (frm_up fB rfl)))
      have s7 : MSt w7 h (gSt c m o k) := MSt_fr y3 fB ⟨fun _ => rfl, fun _ => rfl, fun _ => rfl, fun _ => rfl, fun _ => rfl, fun _ => rfl, rfl, rfl, rfl⟩
      refine ret_mono (m_tellIn (MHs_fr (MBk_h r1 i1) f7 ⟨rfl, rfl, rfl, rfl, rfl, fun _ => rfl, fun _ => rfl, fun _ => rfl⟩) s7 hh gB hm ho hk (g0 := chsV (k / 2)) (g1 := chsV (k % 2)) (by rw [oB _ (by omega), e6]; exact eA) eB) (fun w8 hz => ?_)
      obtain ⟨z1, z2, z3, z4⟩ := hz
      rw [ret_bv]
      refine ret_mono (m_backG hh i1 (frm_tr f7 (frm_up z1 rfl))) (fun w9 hx => ?_)
      obtain ⟨u1, u2⟩ := hx
      have e9 : w9 34 = w8 34 := frm_cell u2 34 (fun _ => rfl)
      simp only [bi_eq, jn_1a, ret_some, LQ_inl]
      refine ⟨trivial, u1, fun i hi => ?_⟩
      rw [e9]
      by_cases h1 : i = 2 * k
      · rw [h1, z2, gV_0]
      · by_cases h2 : i = 2 * k + 1
        · rw [h2, z3, gV_1]
        · rw [z4 i (by omega), oB i (by omega), e6, oA i (by omega), e4]; exact i2 i (by omega)
    · obtain ⟨i, w3⟩ := s
      obtain ⟨i0, i1, i2⟩ := hi
      simp only at i0 i1 i2
      subst i0
      simp (disch := omega) only [B_M_tellGains_11, ↓bi_eq, ↓bw_eq, gd_pos, br_pos, br_neg, br_T, br_F, gd_T, bp_some, bd_some, bv_some, bl_some, bx_inl, bx_inr, bn_none, bn_some, bt_inl, bt_inr, not_true_eq_false, not_false_eq_true, eq_self, Bool.false_eq_true, if_true, if_false, jn_clamp, jn_lt, jn_le, jn_inj, jn_add, jn_sub, jn_mul, jn_vp, jn_0a, jn_1a, jn_1b, jn_1s, jn_1m, jn_neg0, jn_le0, jn_0le, jn_0lt, jn_1le, jn_le1, jn_lt1, jn_1lt, jn_e0, jn_e1, jn_em, ↓qB_f, ↓qT_f, cl_0, cl_1, vp_0, vp_1, li_4, br_pos (Nat.le_refl 4), ret_some, LQ_inr]
      exact ⟨i1, i2⟩
  · rw [ret_some]; exact hq
theorem q_game {w : Wld} {h : Hs} (r : RelH w h) (a1 a2 a3 : Int32) : BothQ cdB w h (F_C_game w a1 a2 a3) (fun w1 => F_M_game w1 a1 a2 a3) := by
  have hh := r.1
  have hc := r.2.1
  have hM := hh.2.1
  have hg := r.2.2.2.1.1
  rcases idx_cases a1 (hsM h) (by omega) with ⟨m, hm, rfl⟩ | ⟨n1, n2⟩
  rotate_left
  · refine q_bad 0 1 ?_ (fun w1 r1 => ?_) rfl
    · rw [F_C_game, t_needMonk_n hc.2.1 n1, bn_some]
    · simp only [F_M_game, bw_eq, t_isMonk_n (m_ent r1).1.2.1 n2, bp_some, eq_self, br_T, K_M_game_30, t_fail, bd_some]
  have y1 := t_needMonk_y hc.2.1 (by omega) hm
  rcases idx_cases a2 (hsM h) (by omega) with ⟨o, ho, rfl⟩ | ⟨n1, n2⟩
  rotate_left
  · refine q_bad 0 1 ?_ (fun w1 r1 => ?_) rfl
    · rw [F_C_game, y1, bn_none, t_needMonk_n hc.2.1 n1, bn_some]
    · simp only [F_M_game, bw_eq, t_isMonk_y (m_ent r1).1.2.1 (show hsM h < 100 by omega) hm, t_isMonk_n (m_ent r1).1.2.1 n2, bp_some, eq_self, br_T, br_F, (by decide : ((1 : Int32) = 0) = False), K_M_game_30, t_fail, bd_some]
  have y2 := t_needMonk_y hc.2.1 (by omega) ho
  rcases rng_cases a3 0 1 (by omega) (by omega) with ⟨k3, -, h3, rfl⟩ | ⟨n1, n2⟩
  rotate_left
  · refine q_bad 0 1 ?_ (fun w1 r1 => ?_) rfl
    · rw [F_C_game, y1, bn_none, y2, bn_none, jn_11, t_what_n w n1, bn_some]
    · have n2 : ¬ ((0 : Int32) ≤ a3 ∧ a3 ≤ 1) := n2
      simp only [F_M_game, bw_eq, t_isMonk_y (m_ent r1).1.2.1 (show hsM h < 100 by omega) hm, t_isMonk_y (m_ent r1).1.2.1 (show hsM h < 100 by omega) ho, bp_some, br_F, (by decide : ((1 : Int32) = 0) = False), K_M_game_30, t_fail, bd_some]
      by_cases h1 : a3 < 0
      · rw [br_pos h1]
      · rw [br_neg h1, br_neg (fun z => n2 ⟨Int32.not_lt.mp h1, z⟩)]
  have hk0 : ¬ (jn k3 : Int32) < 0 := by rw [jn_neg0 (by omega)]; exact id
  have hk1 : (jn k3 : Int32) ≤ 1 := by rw [jn_le1 (by omega)]; exact h3
  by_cases he : m = o
  · refine q_bad 1 2 ?_ (fun w1 r1 => ?_) rfl
    · rw [F_C_game, y1, bn_none, y2, bn_none, jn_11, t_what_y w (by omega) h3, bn_none, br_neg (by rw [he]; exact fun z => z rfl)]
    · simp only [F_M_game, bw_eq, t_isMonk_y (m_ent r1).1.2.1 (show hsM h < 100 by omega) hm, t_isMonk_y (m_ent r1).1.2.1 (show hsM h < 100 by omega) ho, bp_some, br_F, (by decide : ((1 : Int32) = 0) = False)]
      rw [br_neg hk0, br_pos hk1, br_neg (by rw [he]; exact fun z => z rfl), t_fail, bd_some]
  have hne : ¬ jn m = jn o := by rw [jn_inj (by omega) (by omega)]; exact he
  refine ⟨.inr (some (if k3 = 0 then jn (gRes (gV h (w 66) m o) 4).1 else (gRes (gV h (w 66) m o) 4).2)), ?_, fun w1 r1 e66 => ?_⟩
  · rw [F_C_game, y1, bn_none, y2, bn_none, show F_C_needWhat w (jn k3) 1 = some none from t_what_y w (b := 1) (by omega) h3, bn_none, br_pos hne, ret_bl]
    refine ret_mono (P := fun w2 => Frm [61, 62, 63, 85, 88] [(55, 3)] w w2 ∧ ∀ i, i < 8 → w2 88 i = gV h (w 66) m o i) ?_ (fun w2 hq => ?_)
    · refine loop_inv (I := fun k s => s.1 = jn k ∧ Frm [61, 62, 63, 85, 88] [(55, 3)] w s.2 ∧ ∀ i, i < 2 * k → s.2 88 i = gV h (w 66) m o i) 4 ⟨rfl, frm_rf, fun i hi => absurd hi (by omega)⟩ (fun k s hk hi => ?_) (fun s hi => ?_)
      · obtain ⟨i, w2⟩ := s
        obtain ⟨i0, i1, i2⟩ := hi
        simp only at i0 i1 i2
        subst i0
        have e66 : w2 66 = w 66 := frm_cell i1 66 (fun _ => rfl)
        simp (disch := omega) only [B_C_game_31, ↓bi_eq, ↓bw_eq, gd_pos, br_pos, br_neg, br_T, br_F, gd_T, bp_some, bd_some, bv_some, bl_some, bx_inl, bx_inr, bn_none, bn_some, bt_inl, bt_inr, not_true_eq_false, not_false_eq_true, eq_self, Bool.false_eq_true, if_true, if_false, jn_clamp, jn_lt, jn_le, jn_inj, jn_add, jn_sub, jn_mul, jn_vp, jn_0a, jn_1a, jn_1b, jn_1s, jn_1m, jn_neg0, jn_le0, jn_0le, jn_0lt, jn_1le, jn_le1, jn_lt1, jn_1lt, jn_e0, jn_e1, jn_em, ↓qB_f, ↓qT_f, cl_0, cl_1, vp_0, vp_1, li_4, ret_bv]
        refine ret_mono (c_play (CHs_fr hc i1 ⟨rfl, rfl, rfl, rfl, fun _ => rfl, fun _ => rfl, rfl, fun _ => rfl⟩) hh (by rw [e66]; exact hg) hm ho hk) (fun w3 hq => ?_)
        obtain ⟨p1, p2, p3, p4⟩ := hq
        rw [e66] at p2 p3
        rw [ret_some, LQ_inl]
        refine ⟨rfl, frm_tr i1 p1, fun i hi => ?_⟩
        show w3 88 i = _
        by_cases h1 : i = 2 * k
        · rw [h1]; exact p2
        · by_cases h2 : i = 2 * k + 1
          · rw [h2]; exact p3
          · rw [p4 i (by omega)]; exact i2 i (by omega)
      · obtain ⟨i, w2⟩ := s
        obtain ⟨i0, i1, i2⟩ := hi
        simp only at i0 i1 i2
        subst i0
        simp (disch := omega) only [B_C_game_31, ↓bi_eq, ↓bw_eq, gd_pos, br_pos, br_neg, br_T, br_F, gd_T, bp_some, bd_some, bv_some, bl_some, bx_inl, bx_inr, bn_none, bn_some, bt_inl, bt_inr, not_true_eq_false, not_false_eq_true, eq_self, Bool.false_eq_true, if_true, if_false, jn_clamp, jn_lt, jn_le, jn_inj, jn_add, jn_sub, jn_mul, jn_vp, jn_0a, jn_1a, jn_1b, jn_1s, jn_1m, jn_neg0, jn_le0, jn_0le, jn_0lt, jn_1le, jn_le1, jn_lt1, jn_1lt, jn_e0, jn_e1, jn_em, ↓qB_f, ↓qT_f, cl_0, cl_1, vp_0, vp_1, li_4, br_pos (Nat.le_refl 4), ret_some, LQ_inr]
        exact ⟨i1, i2⟩
    · obtain ⟨q1, q2⟩ := hq
      rw [c_rests q2, bl_some]
      have hb : k3 = 0 ∨ k3 = 1 := by omega
      rcases hb with rfl | rfl
      · simp (disch := omega) only [K_C_game_119, ↓bi_eq, ↓bw_eq, gd_pos, br_pos, br_neg, br_T, br_F, gd_T, bp_some, bd_some, bv_some, bl_some, bx_inl, bx_inr, bn_none, bn_some, bt_inl, bt_inr, not_true_eq_false, not_false_eq_true, eq_self, Bool.false_eq_true, if_true, if_false, jn_clamp, jn_lt, jn_le, jn_inj, jn_add, jn_sub, jn_mul, jn_vp, jn_0a, jn_1a, jn_1b, jn_1s, jn_1m, jn_neg0, jn_le0, jn_0le, jn_0lt, jn_1le, jn_le1, jn_lt1, jn_1lt, jn_e0, jn_e1, jn_em, ↓qB_f, ↓qT_f, cl_0, cl_1, vp_0, vp_1, ret_some, true_and]
        exact frm_up q1 rfl
      · simp (disch := omega) only [K_C_game_119, ↓bi_eq, ↓bw_eq, gd_pos, br_pos, br_neg, br_T, br_F, gd_T, bp_some, bd_some, bv_some, bl_some, bx_inl, bx_inr, bn_none, bn_some, bt_inl, bt_inr, not_true_eq_false, not_false_eq_true, eq_self, Bool.false_eq_true, if_true, if_false, jn_clamp, jn_lt, jn_le, jn_inj, jn_add, jn_sub, jn_mul, jn_vp, jn_0a, jn_1a, jn_1b, jn_1s, jn_1m, jn_neg0, jn_le0, jn_0le, jn_0lt, jn_1le, jn_le1, jn_lt1, jn_1lt, jn_e0, jn_e1, jn_em, ↓qB_f, ↓qT_f, cl_0, cl_1, vp_0, vp_1, ret_some, true_and, (by decide : (1 = 0) = False)]
        exact frm_up q1 rfl
  · obtain ⟨z1, z2, z3, z4⟩ := m_ent r1
    rw [e66] at z2
    simp only [F_M_game, bw_eq, t_isMonk_y z1.2.1 (show hsM h < 100 by omega) hm, t_isMonk_y z1.2.1 (show hsM h < 100 by omega) ho, bp_some, br_F, (by decide : ((1 : Int32) = 0) = False)]
    rw [br_neg hk0, br_pos hk1, br_pos hne, ret_bv]
    refine ret_mono (m_tell r1 hg z3 z2 z4 hm ho) (fun w2 hq => ?_)
    obtain ⟨q1, q2⟩ := hq
    rw [m_rests q2, bl_some]
    obtain ⟨u1, u2⟩ := q_endB r1 e66 q1
    have hb : k3 = 0 ∨ k3 = 1 := by omega
    rcases hb with rfl | rfl
    · simp (disch := omega) only [K_M_game_166, ↓bi_eq, ↓bw_eq, gd_pos, br_pos, br_neg, br_T, br_F, gd_T, bp_some, bd_some, bv_some, bl_some, bx_inl, bx_inr, bn_none, bn_some, bt_inl, bt_inr, not_true_eq_false, not_false_eq_true, eq_self, Bool.false_eq_true, if_true, if_false, jn_clamp, jn_lt, jn_le, jn_inj, jn_add, jn_sub, jn_mul, jn_vp, jn_0a, jn_1a, jn_1b, jn_1s, jn_1m, jn_neg0, jn_le0, jn_0le, jn_0lt, jn_1le, jn_le1, jn_lt1, jn_1lt, jn_e0, jn_e1, jn_em, ↓qB_f, ↓qT_f, cl_0, cl_1, vp_0, vp_1, ret_some]
      exact ⟨⟨q1.2.2.2, rfl⟩, u1, u2⟩
    · simp (disch := omega) only [K_M_game_166, ↓bi_eq, ↓bw_eq, gd_pos, br_pos, br_neg, br_T, br_F, gd_T, bp_some, bd_some, bv_some, bl_some, bx_inl, bx_inr, bn_none, bn_some, bt_inl, bt_inr, not_true_eq_false, not_false_eq_true, eq_self, Bool.false_eq_true, if_true, if_false, jn_clamp, jn_lt, jn_le, jn_inj, jn_add, jn_sub, jn_mul, jn_vp, jn_0a, jn_1a, jn_1b, jn_1s, jn_1m, jn_neg0, jn_le0, jn_0le, jn_0lt, jn_1le, jn_le1, jn_lt1, jn_1lt, jn_e0, jn_e1, jn_em, ↓qB_f, ↓qT_f, cl_0, cl_1, vp_0, vp_1, ret_some, (by decide : (1 = 0) = False)]
      exact ⟨⟨q1.2.2.2, rfl⟩, u1, u2⟩
