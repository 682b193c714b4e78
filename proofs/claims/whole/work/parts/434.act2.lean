/-! ===== acts: fish, pray, tie, move, door, nights, undo ===== -/
theorem m_ent0 {w2 w : Wld} {h : Hs} {L : List Nat} {K : List (Nat × Nat)} (r : RelH w h) (f : Frm L K w w2) (hf : frS L K [12, 41, 73] [] = true) : MHs (wup w2 0 2 0) h ∧ MSt (wup w2 0 2 0) h (w 66) := by
  have fr : Frm [12, 41, 73] [(0, 2)] w (wup w2 0 2 0) := frm_wup (frm_up (frm_up f hf) rfl) _ _ _ rfl
  exact ⟨MHs_fr r.2.2.1 fr ⟨rfl, rfl, rfl, rfl, rfl, fun _ => rfl, fun _ => rfl, fun _ => rfl⟩, MSt_fr r.2.2.2.1.2 fr ⟨fun _ => rfl, fun _ => rfl, fun _ => rfl, fun _ => rfl, fun _ => rfl, fun _ => rfl, rfl, rfl, rfl⟩⟩
theorem f_ref {w w2 : Wld} {k : Nat} {v : Int32} (f2 : Frm [41] [] (wup w 73 k v) w2) : Frm [12, 41, 73] [] w w2 := frm_tr (frm_wup frm_rf _ _ _ rfl) (frm_up f2 rfl)
theorem g_pray {w : Wld} {h : Hs} (r : RelH w h) (a1 a2 : Int32) : BothG cdN (F_C_pray w a1 a2) (fun w1 => F_M_pray w1 a1 a2) := by
  have hh := r.1
  have hc := r.2.1
  have hM := hh.2.1
  have hg := r.2.2.2.1.1
  rcases idx_cases a1 (hsM h) (by omega) with ⟨m, hm, rfl⟩ | ⟨n1, n2⟩
  rotate_left
  · refine BothQ_G r (q_bad 0 1 ?_ (fun w1 r1 => ?_) rfl)
    · rw [F_C_pray, t_needMonk_n hc.2.1 n1, bn_some]
    · simp only [F_M_pray, bw_eq, t_isMonk_n (m_ent r1).1.2.1 n2, bp_some, eq_self, not_true_eq_false, br_F, t_fail, bd_some]
  rcases rng_cases a2 0 99 (by omega) (by omega) with ⟨v, -, h2, rfl⟩ | ⟨n1, n2⟩
  rotate_left
  · have n2 : ¬ ((0 : Int32) ≤ a2 ∧ a2 ≤ 99) := n2
    refine G_ref r 1 (by omega) (-1) ?_ (fun w2 f2 => ?_)
    · rw [F_C_pray, t_needMonk_y hc.2.1 (by omega) hm, bn_none, K_C_pray_15, c_refused, bd_some]
      by_cases h1 : a2 < 0
      · rw [br_pos h1]
      · rw [br_neg h1, br_neg (fun z => n2 ⟨Int32.not_lt.mp h1, z⟩)]
    · have z1 := (m_ent0 r (f_ref f2) rfl).1
      simp only [F_M_pray, bw_eq, t_isMonk_y z1.2.1 (show hsM h < 100 by omega) hm, t_isIn, n2, if_false, bp_some, eq_self, not_true_eq_false, not_false_eq_true, (by decide : ((1 : Int32) = 0) = False), br_T, br_F]
      rw [show F_M_refuse (wup w2 0 2 0) 1 = _ from m_refuse (wup w2 0 2 0) (k := 1) (by omega), bd_some]
  have g2 : (0 : Int32) ≤ jn v ∧ jn v ≤ 99 := g_what v 99 (by omega) h2
  have gc : GdS h (upd (w 66) m (jn v)) := GdS_other hh hg _ (Or.inl (by omega))
  refine BothG_of (.inr (some (w 66 m))) (CKp w (upd (w 66) m (jn v))) ?_ (fun w1 w2 x f2 => ?_)
  · rw [F_C_pray, t_needMonk_y hc.2.1 (by omega) hm, bn_none, br_neg (Int32.not_lt.mpr g2.1), br_pos g2.2, jn_0a, ret_bd]
    refine ret_mono (c_changed r (by omega) (jn v)) (fun q hq => ?_)
    rw [ret_some, hq.1]
    exact ⟨rfl, hq.2⟩
  · obtain ⟨z1, z2, z3, z4⟩ := m_keepE r x f2
    simp only [F_M_pray, bw_eq, t_isMonk_y z1.2.1 (show hsM h < 100 by omega) hm, t_isIn, g2, and_self, if_true, bp_some, not_false_eq_true, (by decide : ((1 : Int32) = 0) = False), br_T, ret_bv]
    refine ret_mono z4 (fun w3 hq => ?_)
    obtain ⟨q1, q2, q3, q4, q5⟩ := hq
    have e14 := (q3.1 m hm).1
    have s4 := MSt_sleep hh q3 (m := m) (by omega) (jn v)
    rw [Nat.zero_add] at s4
    have f4 : Frm [14] [] w3 (wup w3 14 m (jn v)) := frm_wup frm_rf _ _ _ rfl
    simp (disch := omega) only [↓bi_eq, ↓bw_eq, gd_pos, br_pos, br_neg, br_T, br_F, gd_T, bq_some, bd_some, bv_some, bl_some, bx_inl, bx_inr, bn_none, bn_some, bt_inl, bt_inr, not_true_eq_false, not_false_eq_true, eq_self, Bool.false_eq_true, if_true, if_false, jn_clamp, jn_lt, jn_le, jn_inj, jn_add, jn_sub, jn_mul, jn_vp, jn_0a, jn_1a, jn_1b, jn_1s, jn_1m, jn_neg0, jn_le0, jn_0le, jn_0lt, jn_1le, jn_le1, jn_lt1, jn_1lt, jn_e0, jn_e1, jn_em, ↓qB_f, ↓qT_f, cl_0, cl_1, vp_0, vp_1, e14, ret_some]
    obtain ⟨y1, y2⟩ := act_end r gc x f2 (frm_tr (frm_up q1 rfl) (frm_up f4 rfl)) s4 (MAct_fr q4 f4 ⟨rfl, fun _ => rfl⟩)
    exact ⟨⟨(f4 0 2 rfl).trans q5, rfl⟩, y1, y2⟩
theorem g_fish {w : Wld} {h : Hs} (r : RelH w h) (a1 a2 : Int32) : BothG cdN (F_C_fish w a1 a2) (fun w1 => F_M_fish w1 a1 a2) := by
  have hh := r.1
  have hc := r.2.1
  have hM := hh.2.1
  have hg := r.2.2.2.1.1
  rcases idx_cases a1 (hsM h) (by omega) with ⟨m, hm, rfl⟩ | ⟨n1, n2⟩
  rotate_left
  · refine BothQ_G r (q_bad 0 1 ?_ (fun w1 r1 => ?_) rfl)
    · rw [F_C_fish, t_needMonk_n hc.2.1 n1, bn_some]
    · simp only [F_M_fish, bw_eq, t_isMonk_n (m_ent r1).1.2.1 n2, bp_some, eq_self, not_true_eq_false, br_F, t_fail, bd_some]
  rcases rng_cases a2 1 9 (by omega) (by omega) with ⟨v, h1, h2, rfl⟩ | ⟨n1, n2⟩
  rotate_left
  · have n2 : ¬ ((1 : Int32) ≤ a2 ∧ a2 ≤ 9) := n2
    refine G_ref r 1 (by omega) (-1) ?_ (fun w2 f2 => ?_)
    · rw [F_C_fish, t_needMonk_y hc.2.1 (by omega) hm, bn_none, K_C_fish_16, c_refused, bd_some]
      by_cases h1 : a2 < 1
      · rw [br_pos h1]
      · rw [br_neg h1, br_neg (fun z => n2 ⟨Int32.not_lt.mp h1, z⟩)]
    · have z1 := (m_ent0 r (f_ref f2) rfl).1
      simp only [F_M_fish, bw_eq, t_isMonk_y z1.2.1 (show hsM h < 100 by omega) hm, t_isIn, n2, if_false, bp_some, eq_self, not_true_eq_false, not_false_eq_true, (by decide : ((1 : Int32) = 0) = False), br_T, br_F]
      rw [show F_M_refuse (wup w2 0 2 0) 1 = _ from m_refuse (wup w2 0 2 0) (k := 1) (by omega), bd_some]
  have g2 : (1 : Int32) ≤ jn v ∧ jn v ≤ 9 := g_rng 1 v 9 (by omega) h1 h2
  obtain ⟨x0, hx0, ex⟩ := hg.2.2.2.1 m hm
  have gc : GdS h (upd (w 66) (8 + m) (jn (min 9 (x0 + v)))) := GdS_fish hh hg (by omega) (by omega)
  have hadd := addF hx0 (show v < 10 by omega)
  obtain ⟨a1', a2', a3'⟩ := act_of r.1 r.2.2.2.2.1
  refine BothG_of (.inr (some (jn (min 9 (x0 + v))))) (CKp w (upd (w 66) (8 + m) (jn (min 9 (x0 + v))))) ?_ (fun w1 w2 x f2 => ?_)
  · rw [F_C_fish, t_needMonk_y hc.2.1 (by omega) hm, bn_none, br_neg (Int32.not_lt.mpr g2.1), br_pos g2.2, ret_bv]
    refine ret_mono (c_keep a1') (fun w2 hq => ?_)
    obtain ⟨q1, f', q2⟩ := hq
    have e66 : w2 66 = w 66 := frm_cell q1 66 (fun _ => rfl)
    have e8 : w2 66 (8 + m) = jn x0 := by rw [e66]; exact ex
    simp (disch := omega) only [F_State_addFish_65, ↓bi_eq, ↓bw_eq, gd_pos, br_pos, br_neg, br_T, br_F, gd_T, bq_some, bd_some, bv_some, bl_some, bx_inl, bx_inr, bn_none, bn_some, bt_inl, bt_inr, not_true_eq_false, not_false_eq_true, eq_self, Bool.false_eq_true, if_true, if_false, li_8, jn_vp, jn_clamp, e8, hadd, jn_add (8 : Nat) m, wup_s1, ret_some]
    refine ⟨trivial, frm_wup (frm_up q1 rfl) _ _ _ rfl, ?_, f', CAct_fr q2 (frm_wup (L := [66]) (K := []) frm_rf _ _ _ rfl) ⟨rfl, rfl, fun _ => rfl⟩⟩
    rw [wup_same, e66]
  · obtain ⟨z1, z2, z3, z4⟩ := m_keepE r x f2
    simp only [F_M_fish, bw_eq, t_isMonk_y z1.2.1 (show hsM h < 100 by omega) hm, t_isIn, g2, and_self, if_true, bp_some, not_false_eq_true, (by decide : ((1 : Int32) = 0) = False), br_T, ret_bv]
    refine ret_mono z4 (fun w3 hq => ?_)
    obtain ⟨q1, q2, q3, q4, q5⟩ := hq
    have e15 := (q3.1 m hm).2.1.trans ex
    have s4 := MSt_fish hh q3 (m := m) (by omega) (jn (min 9 (x0 + v)))
    have f4 : Frm [15] [] w3 (wup w3 15 m (jn (min 9 (x0 + v)))) := frm_wup frm_rf _ _ _ rfl
    simp (disch := omega) only [↓bi_eq, ↓bw_eq, gd_pos, br_pos, br_neg, br_T, br_F, gd_T, bq_some, bd_some, bv_some, bl_some, bx_inl, bx_inr, bn_none, bn_some, bt_inl, bt_inr, not_true_eq_false, not_false_eq_true, eq_self, Bool.false_eq_true, if_true, if_false, jn_vp, jn_clamp, e15, hadd, wup_s1, ret_some]
    obtain ⟨y1, y2⟩ := act_end r gc x f2 (frm_tr (frm_up q1 rfl) (frm_up f4 rfl)) s4 (MAct_fr q4 f4 ⟨rfl, fun _ => rfl⟩)
    exact ⟨⟨(f4 0 2 rfl).trans q5, rfl⟩, y1, y2⟩
theorem c_another_y {w : Wld} {h : Hs} (r : RelH w h) {i : Nat} (hi : i < 53) {v : Int32} (hne : ¬ w 66 i = v) : Ret (F_C_changedToAnother w (jn i) v) (fun q => q.1 = w 66 i ∧ CKp w (upd (w 66) i v) q.2) := by
  simp (disch := omega) only [F_C_changedToAnother, K_C_changedToAnother_29, ↓bi_eq, ↓bw_eq, gd_pos, br_pos, br_neg, br_T, br_F, gd_T, bq_some, bd_some, bv_some, bl_some, bx_inl, bx_inr, bn_none, bn_some, bt_inl, bt_inr, not_true_eq_false, not_false_eq_true, eq_self, Bool.false_eq_true, if_true, if_false, jn_clamp, jn_lt, jn_le, jn_inj, jn_add, jn_sub, jn_mul, jn_vp, jn_0a, jn_1a, jn_1b, jn_1s, jn_1m, jn_neg0, jn_le0, jn_0le, jn_0lt, jn_1le, jn_le1, jn_lt1, jn_1lt, jn_e0, jn_e1, jn_em, ↓qB_f, ↓qT_f, cl_0, cl_1, vp_0, vp_1, hne, ret_bd]
  refine ret_mono (c_changed r hi v) (fun q hq => ?_)
  rw [ret_some]
  exact hq
theorem c_another_n {w : Wld} {i : Nat} (hi : i < 53) {v : Int32} (he : w 66 i = v) : F_C_changedToAnother w (jn i) v = some (-1, wup w 73 1 (w 73 1 + 1)) := by
  simp (disch := omega) only [F_C_changedToAnother, K_C_changedToAnother_29, ↓bi_eq, ↓bw_eq, gd_pos, br_pos, br_neg, br_T, br_F, gd_T, bq_some, bd_some, bv_some, bl_some, bx_inl, bx_inr, bn_none, bn_some, bt_inl, bt_inr, not_true_eq_false, not_false_eq_true, eq_self, Bool.false_eq_true, if_true, if_false, jn_clamp, jn_lt, jn_le, jn_inj, jn_add, jn_sub, jn_mul, jn_vp, jn_0a, jn_1a, jn_1b, jn_1s, jn_1m, jn_neg0, jn_le0, jn_0le, jn_0lt, jn_1le, jn_le1, jn_lt1, jn_1lt, jn_e0, jn_e1, jn_em, ↓qB_f, ↓qT_f, cl_0, cl_1, vp_0, vp_1, he, c_refused]
theorem g_move {w : Wld} {h : Hs} (r : RelH w h) (a1 a2 : Int32) : BothG cdN (F_C_move w a1 a2) (fun w1 => F_M_move w1 a1 a2) := by
  have hh := r.1
  have hc := r.2.1
  have hM := hh.2.1
  have hN := hh.1
  have hg := r.2.2.2.1.1
  rcases idx_cases a1 (hsM h) (by omega) with ⟨m, hm, rfl⟩ | ⟨n1, n2⟩
  rotate_left
  · refine BothQ_G r (q_bad 0 1 ?_ (fun w1 r1 => ?_) rfl)
    · rw [F_C_move, t_needMonk_n hc.2.1 n1, bn_some]
    · simp only [F_M_move, bw_eq, t_isMonk_n (m_ent r1).1.2.1 n2, bp_some, eq_self, br_T, K_M_move_21, t_fail, bd_some]
  rcases idx_cases a2 (hsN h) (by omega) with ⟨v, hv, rfl⟩ | ⟨n1, n2⟩
  rotate_left
  · refine BothQ_G r (q_bad 0 1 ?_ (fun w1 r1 => ?_) rfl)
    · rw [F_C_move, t_needMonk_y hc.2.1 (by omega) hm, bn_none, t_needRoom_n hc.1 n1, bn_some]
    · simp only [F_M_move, bw_eq, t_isMonk_y (m_ent r1).1.2.1 (show hsM h < 100 by omega) hm, t_isRoom_n (m_ent r1).1.1 n2, bp_some, eq_self, not_true_eq_false, br_F, (by decide : ((1 : Int32) = 0) = False), K_M_move_21, t_fail, bd_some]
  by_cases he : w 66 (16 + m) = jn v
  · refine G_ref r 1 (by omega) (-1) ?_ (fun w2 f2 => ?_)
    · rw [F_C_move, t_needMonk_y hc.2.1 (by omega) hm, bn_none, t_needRoom_y hc.1 (by omega) hv, bn_none, li_16, jn_add, c_another_n (by omega) he, bd_some]
    · obtain ⟨z1, z2⟩ := m_ent0 r (f_ref f2) rfl
      have e16 := (z2.1 m hm).2.2.1.trans he
      simp (disch := omega) only [F_M_move, ↓bi_eq, ↓bw_eq, gd_pos, br_pos, br_neg, br_T, br_F, gd_T, bq_some, bd_some, bv_some, bl_some, bx_inl, bx_inr, bn_none, bn_some, bt_inl, bt_inr, not_true_eq_false, not_false_eq_true, eq_self, Bool.false_eq_true, if_true, if_false, jn_vp, jn_clamp, t_isMonk_y z1.2.1 (show hsM h < 100 by omega) hm, t_isRoom_y z1.1 (show hsN h < 100 by omega) hv, e16, (by decide : ((1 : Int32) = 0) = False)]
      rw [show F_M_refuse (wup w2 0 2 0) 1 = _ from m_refuse (wup w2 0 2 0) (k := 1) (by omega), bd_some]
  have gc : GdS h (upd (w 66) (16 + m) (jn v)) := GdS_room hh hg (by omega) hv
  refine BothG_of (.inr (some (w 66 (16 + m)))) (CKp w (upd (w 66) (16 + m) (jn v))) ?_ (fun w1 w2 x f2 => ?_)
  · rw [F_C_move, t_needMonk_y hc.2.1 (by omega) hm, bn_none, t_needRoom_y hc.1 (by omega) hv, bn_none, li_16, jn_add, ret_bd]
    refine ret_mono (c_another_y r (by omega) he) (fun q hq => ?_)
    rw [ret_some, hq.1]
    exact ⟨rfl, hq.2⟩
  · obtain ⟨z1, z2, z3, z4⟩ := m_keepE r x f2
    have e16 := (z2.1 m hm).2.2.1
    simp (disch := omega) only [F_M_move, ↓bi_eq, ↓bw_eq, gd_pos, br_pos, br_neg, br_T, br_F, gd_T, bq_some, bd_some, bv_some, bl_some, bx_inl, bx_inr, bn_none, bn_some, bt_inl, bt_inr, not_true_eq_false, not_false_eq_true, eq_self, Bool.false_eq_true, if_true, if_false, jn_vp, jn_clamp, t_isMonk_y z1.2.1 (show hsM h < 100 by omega) hm, t_isRoom_y z1.1 (show hsN h < 100 by omega) hv, e16, he, (by decide : ((1 : Int32) = 0) = False), ret_bv]
    refine ret_mono z4 (fun w3 hq => ?_)
    obtain ⟨q1, q2, q3, q4, q5⟩ := hq
    have e16 := (q3.1 m hm).2.2.1
    have s4 := MSt_room hh q3 (m := m) (by omega) (jn v)
    have f4 : Frm [16] [] w3 (wup w3 16 m (jn v)) := frm_wup frm_rf _ _ _ rfl
    rw [e16, ret_some]
    obtain ⟨y1, y2⟩ := act_end r gc x f2 (frm_tr (frm_up q1 rfl) (frm_up f4 rfl)) s4 (MAct_fr q4 f4 ⟨rfl, fun _ => rfl⟩)
    exact ⟨⟨(f4 0 2 rfl).trans q5, rfl⟩, y1, y2⟩
theorem g_door {w : Wld} {h : Hs} (r : RelH w h) (a1 a2 a3 : Int32) : BothG cdN (F_C_door w a1 a2 a3) (fun w1 => F_M_door w1 a1 a2 a3) := by
  have hh := r.1
  have hc := r.2.1
  have hN := hh.1
  have hg := r.2.2.2.1.1
  rcases idx_cases a1 (hsN h) (by omega) with ⟨m, hm, rfl⟩ | ⟨n1, n2⟩
  rotate_left
  · refine BothQ_G r (q_bad 0 1 ?_ (fun w1 r1 => ?_) rfl)
    · rw [F_C_door, t_needRoom_n hc.1 n1, bn_some]
    · simp only [F_M_door, bw_eq, t_isRoom_n (m_ent r1).1.1 n2, bp_some, eq_self, br_T, K_M_door_21, t_fail, bd_some]
  rcases idx_cases a3 (hsN h) (by omega) with ⟨v, hv, rfl⟩ | ⟨n1, n2⟩
  rotate_left
  · refine BothQ_G r (q_bad 0 1 ?_ (fun w1 r1 => ?_) rfl)
    · rw [F_C_door, t_needRoom_y hc.1 (by omega) hm, bn_none, t_needRoom_n hc.1 n1, bn_some]
    · simp only [F_M_door, bw_eq, t_isRoom_y (m_ent r1).1.1 (show hsN h < 100 by omega) hm, t_isRoom_n (m_ent r1).1.1 n2, bp_some, eq_self, not_true_eq_false, br_F, (by decide : ((1 : Int32) = 0) = False), K_M_door_21, t_fail, bd_some]
  by_cases ha : a2 = 0
  · by_cases he : w 66 (32 + m) = jn v
    · refine G_ref r 1 (by omega) (-1) ?_ (fun w2 f2 => ?_)
      · simp only [F_C_door, t_needRoom_y hc.1 (show hsN h < 100 by omega) hm, t_needRoom_y hc.1 (show hsN h < 100 by omega) hv, bn_none, ha, br_T, br_F, eq_self, K_C_door_22, li_32, jn_add, c_another_n (show 32 + m < 53 by omega) he, bd_some]
      · obtain ⟨z1, z2⟩ := m_ent0 r (f_ref f2) rfl
        have e18 := (z2.2.1 m hm).1.trans he
        simp (disch := omega) only [F_M_door, K_M_door_46, ↓bi_eq, ↓bw_eq, gd_pos, br_pos, br_neg, br_T, br_F, gd_T, bq_some, bd_some, bv_some, bl_some, bx_inl, bx_inr, bn_none, bn_some, bt_inl, bt_inr, not_true_eq_false, not_false_eq_true, eq_self, Bool.false_eq_true, if_true, if_false, jn_vp, jn_clamp, t_isRoom_y z1.1 (show hsN h < 100 by omega) hm, t_isRoom_y z1.1 (show hsN h < 100 by omega) hv, ha, e18, (by decide : ((1 : Int32) = 0) = False)]
        rw [show F_M_refuse (wup w2 0 2 0) 1 = _ from m_refuse (wup w2 0 2 0) (k := 1) (by omega), bd_some]
    have gc : GdS h (upd (w 66) (32 + m) (jn v)) := GdS_door hh hg (by omega) hv
    refine BothG_of (.inr (some (w 66 (32 + m)))) (CKp w (upd (w 66) (32 + m) (jn v))) ?_ (fun w1 w2 x f2 => ?_)
    · simp only [F_C_door, t_needRoom_y hc.1 (show hsN h < 100 by omega) hm, t_needRoom_y hc.1 (show hsN h < 100 by omega) hv, bn_none, ha, br_T, br_F, eq_self, K_C_door_22, li_32, jn_add, ret_bd]
      refine ret_mono (c_another_y r (by omega) he) (fun q hq => ?_)
      rw [ret_some, hq.1]
      exact ⟨rfl, hq.2⟩
    · obtain ⟨z1, z2, z3, z4⟩ := m_keepE r x f2
      have e18 := (z2.2.1 m hm).1
      simp (disch := omega) only [F_M_door, K_M_door_46, ↓bi_eq, ↓bw_eq, gd_pos, br_pos, br_neg, br_T, br_F, gd_T, bq_some, bd_some, bv_some, bl_some, bx_inl, bx_inr, bn_none, bn_some, bt_inl, bt_inr, not_true_eq_false, not_false_eq_true, eq_self, Bool.false_eq_true, if_true, if_false, jn_vp, jn_clamp, t_isRoom_y z1.1 (show hsN h < 100 by omega) hm, t_isRoom_y z1.1 (show hsN h < 100 by omega) hv, ha, e18, he, (by decide : ((1 : Int32) = 0) = False), ret_bv]
      refine ret_mono z4 (fun w3 hq => ?_)
      obtain ⟨q1, q2, q3, q4, q5⟩ := hq
      have s4 := MSt_door hh q3 (q := m) (by omega) (jn v)
      have f4 : Frm [18] [] w3 (wup w3 18 m (jn v)) := frm_wup frm_rf _ _ _ rfl
      rw [K_M_door_85, ret_some]
      obtain ⟨y1, y2⟩ := act_end r gc x f2 (frm_tr (frm_up q1 rfl) (frm_up f4 rfl)) s4 (MAct_fr q4 f4 ⟨rfl, fun _ => rfl⟩)
      exact ⟨⟨(f4 0 2 rfl).trans q5, rfl⟩, y1, y2⟩
  · by_cases he : w 66 (41 + m) = jn v
    · refine G_ref r 1 (by omega) (-1) ?_ (fun w2 f2 => ?_)
      · simp only [F_C_door, t_needRoom_y hc.1 (show hsN h < 100 by omega) hm, t_needRoom_y hc.1 (show hsN h < 100 by omega) hv, bn_none, ha, br_T, br_F, eq_self, K_C_door_22, li_41, jn_add, c_another_n (show 41 + m < 53 by omega) he, bd_some]
      · obtain ⟨z1, z2⟩ := m_ent0 r (f_ref f2) rfl
        have e18 := (z2.2.1 m hm).2.trans he
        simp (disch := omega) only [F_M_door, K_M_door_46, ↓bi_eq, ↓bw_eq, gd_pos, br_pos, br_neg, br_T, br_F, gd_T, bq_some, bd_some, bv_some, bl_some, bx_inl, bx_inr, bn_none, bn_some, bt_inl, bt_inr, not_true_eq_false, not_false_eq_true, eq_self, Bool.false_eq_true, if_true, if_false, jn_vp, jn_clamp, t_isRoom_y z1.1 (show hsN h < 100 by omega) hm, t_isRoom_y z1.1 (show hsN h < 100 by omega) hv, ha, e18, (by decide : ((1 : Int32) = 0) = False)]
        rw [show F_M_refuse (wup w2 0 2 0) 1 = _ from m_refuse (wup w2 0 2 0) (k := 1) (by omega), bd_some]
    have gc : GdS h (upd (w 66) (41 + m) (jn v)) := GdS_wet hh hg (by omega) hv
    refine BothG_of (.inr (some (w 66 (41 + m)))) (CKp w (upd (w 66) (41 + m) (jn v))) ?_ (fun w1 w2 x f2 => ?_)
    · simp only [F_C_door, t_needRoom_y hc.1 (show hsN h < 100 by omega) hm, t_needRoom_y hc.1 (show hsN h < 100 by omega) hv, bn_none, ha, br_T, br_F, eq_self, K_C_door_22, li_41, jn_add, ret_bd]
      refine ret_mono (c_another_y r (by omega) he) (fun q hq => ?_)
      rw [ret_some, hq.1]
      exact ⟨rfl, hq.2⟩
    · obtain ⟨z1, z2, z3, z4⟩ := m_keepE r x f2
      have e18 := (z2.2.1 m hm).2
      simp (disch := omega) only [F_M_door, K_M_door_46, ↓bi_eq, ↓bw_eq, gd_pos, br_pos, br_neg, br_T, br_F, gd_T, bq_some, bd_some, bv_some, bl_some, bx_inl, bx_inr, bn_none, bn_some, bt_inl, bt_inr, not_true_eq_false, not_false_eq_true, eq_self, Bool.false_eq_true, if_true, if_false, jn_vp, jn_clamp, t_isRoom_y z1.1 (show hsN h < 100 by omega) hm, t_isRoom_y z1.1 (show hsN h < 100 by omega) hv, ha, e18, he, (by decide : ((1 : Int32) = 0) = False), ret_bv]
      refine ret_mono z4 (fun w3 hq => ?_)
      obtain ⟨q1, q2, q3, q4, q5⟩ := hq
      have s4 := MSt_wet hh q3 (q := m) (by omega) (jn v)
      have f4 : Frm [19] [] w3 (wup w3 19 m (jn v)) := frm_wup frm_rf _ _ _ rfl
      rw [K_M_door_85, ret_some]
      obtain ⟨y1, y2⟩ := act_end r gc x f2 (frm_tr (frm_up q1 rfl) (frm_up f4 rfl)) s4 (MAct_fr q4 f4 ⟨rfl, fun _ => rfl⟩)
      exact ⟨⟨(f4 0 2 rfl).trans q5, rfl⟩, y1, y2⟩
