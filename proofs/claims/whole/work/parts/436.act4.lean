/-! ===== what there is: fault, count, room, monk ===== -/
theorem q_fault {w : Wld} {h : Hs} (r : RelH w h) : Ret (F_M_fault w) (fun p => p.1 = w 42 2 ∧ Rel p.2) := by
  obtain ⟨z1, z2, z3, z4⟩ := m_ent r
  have e : (wup w 0 2 0) 0 23 = w 42 2 := by rw [wup_s2 _ _ _ (by decide)]; exact r.2.2.2.2.2.2.2.2.2.symm
  rw [F_M_fault, bw_eq, ret_some]
  exact ⟨e, h, RelH_p r z3 z2⟩
def sAln (h : Hs) (c : Sta) : Nat := nAll (fun m => decide (c (24 + m) = 0)) (hsM h)
theorem c_alone {w : Wld} {h : Hs} (hh : GdH h) : F_State_alone_65 w (jn (hsM h)) = some (jn (sAln h (w 66))) := by
  have hM := hh.2.1
  have key : loop (B_State_alone_65_4 (jn (hsM h)) w) (0, 0) = some (jn (nAll (fun m => decide (w 66 (24 + m) = 0)) (hsM h))) := by
    refine loop_for (V := fun k => (jn (nAll (fun m => decide (w 66 (24 + m) = 0)) k), jn k)) (hsM h) (fun k hk => ?_) ?_
    · rw [nAll_s]
      by_cases hz : w 66 (24 + k) = 0
      · simp (disch := omega) only [B_State_alone_65_4, K_State_alone_65_27, ↓bi_eq, ↓bw_eq, gd_pos, br_pos, br_neg, br_T, br_F, gd_T, bq_some, bd_some, bv_some, bl_some, bx_inl, bx_inr, bn_none, bn_some, bt_inl, bt_inr, not_true_eq_false, not_false_eq_true, eq_self, Bool.false_eq_true, if_true, if_false, jn_clamp, jn_lt, jn_le, jn_inj, jn_add, jn_sub, jn_mul, jn_vp, jn_0a, jn_1a, jn_1b, jn_1s, jn_1m, jn_neg0, jn_le0, jn_0le, jn_0lt, jn_1le, jn_le1, jn_lt1, jn_1lt, jn_e0, jn_e1, jn_em, ↓qB_f, ↓qT_f, cl_0, cl_1, vp_0, vp_1, li_24, hz, decide_true, qB_jn, jn_or]
      · simp (disch := omega) only [B_State_alone_65_4, K_State_alone_65_27, ↓bi_eq, ↓bw_eq, gd_pos, br_pos, br_neg, br_T, br_F, gd_T, bq_some, bd_some, bv_some, bl_some, bx_inl, bx_inr, bn_none, bn_some, bt_inl, bt_inr, not_true_eq_false, not_false_eq_true, eq_self, Bool.false_eq_true, if_true, if_false, jn_clamp, jn_lt, jn_le, jn_inj, jn_add, jn_sub, jn_mul, jn_vp, jn_0a, jn_1a, jn_1b, jn_1s, jn_1m, jn_neg0, jn_le0, jn_0le, jn_0lt, jn_1le, jn_le1, jn_lt1, jn_1lt, jn_e0, jn_e1, jn_em, ↓qB_f, ↓qT_f, cl_0, cl_1, vp_0, vp_1, li_24, hz, decide_false]
    · simp (disch := omega) only [B_State_alone_65_4, ↓bi_eq, ↓bw_eq, gd_pos, br_pos, br_neg, br_T, br_F, gd_T, bq_some, bd_some, bv_some, bl_some, bx_inl, bx_inr, bn_none, bn_some, bt_inl, bt_inr, not_true_eq_false, not_false_eq_true, eq_self, Bool.false_eq_true, if_true, if_false, jn_clamp, jn_lt, jn_le, jn_inj, jn_add, jn_sub, jn_mul, jn_vp, jn_0a, jn_1a, jn_1b, jn_1s, jn_1m, jn_neg0, jn_le0, jn_0le, jn_0lt, jn_1le, jn_le1, jn_lt1, jn_1lt, jn_e0, jn_e1, jn_em, ↓qB_f, ↓qT_f, cl_0, cl_1, vp_0, vp_1, br_pos (Nat.le_refl (hsM h))]
  rw [F_State_alone_65, key]; rfl
theorem m_alone {w : Wld} {h : Hs} {c : Sta} (hw : MHs w h) (hs : MSt w h c) (hh : GdH h) : F_M_alone w = some (jn (sAln h c)) := by
  have hM := hh.2.1
  have e1 := hw.2.1
  have key : loop (B_M_alone_4 w) (0, 0) = some (jn (nAll (fun m => decide (c (24 + m) = 0)) (hsM h))) := by
    refine loop_for (V := fun k => (jn (nAll (fun m => decide (c (24 + m) = 0)) k), jn k)) (hsM h) (fun k hk => ?_) ?_
    · have e17 := (hs.1 k hk).2.2.2
      rw [nAll_s]
      by_cases hz : c (24 + k) = 0
      · simp (disch := omega) only [B_M_alone_4, K_M_alone_31, ↓bi_eq, ↓bw_eq, gd_pos, br_pos, br_neg, br_T, br_F, gd_T, bq_some, bd_some, bv_some, bl_some, bx_inl, bx_inr, bn_none, bn_some, bt_inl, bt_inr, not_true_eq_false, not_false_eq_true, eq_self, Bool.false_eq_true, if_true, if_false, jn_clamp, jn_lt, jn_le, jn_inj, jn_add, jn_sub, jn_mul, jn_vp, jn_0a, jn_1a, jn_1b, jn_1s, jn_1m, jn_neg0, jn_le0, jn_0le, jn_0lt, jn_1le, jn_le1, jn_lt1, jn_1lt, jn_e0, jn_e1, jn_em, ↓qB_f, ↓qT_f, cl_0, cl_1, vp_0, vp_1, e1, e17, hz, decide_true, qB_jn, jn_or]
      · simp (disch := omega) only [B_M_alone_4, K_M_alone_31, ↓bi_eq, ↓bw_eq, gd_pos, br_pos, br_neg, br_T, br_F, gd_T, bq_some, bd_some, bv_some, bl_some, bx_inl, bx_inr, bn_none, bn_some, bt_inl, bt_inr, not_true_eq_false, not_false_eq_true, eq_self, Bool.false_eq_true, if_true, if_false, jn_clamp, jn_lt, jn_le, jn_inj, jn_add, jn_sub, jn_mul, jn_vp, jn_0a, jn_1a, jn_1b, jn_1s, jn_1m, jn_neg0, jn_le0, jn_0le, jn_0lt, jn_1le, jn_le1, jn_lt1, jn_1lt, jn_e0, jn_e1, jn_em, ↓qB_f, ↓qT_f, cl_0, cl_1, vp_0, vp_1, e1, e17, hz, decide_false, Int32.or_zero]
    · simp (disch := omega) only [B_M_alone_4, ↓bi_eq, ↓bw_eq, gd_pos, br_pos, br_neg, br_T, br_F, gd_T, bq_some, bd_some, bv_some, bl_some, bx_inl, bx_inr, bn_none, bn_some, bt_inl, bt_inr, not_true_eq_false, not_false_eq_true, eq_self, Bool.false_eq_true, if_true, if_false, jn_clamp, jn_lt, jn_le, jn_inj, jn_add, jn_sub, jn_mul, jn_vp, jn_0a, jn_1a, jn_1b, jn_1s, jn_1m, jn_neg0, jn_le0, jn_0le, jn_0lt, jn_1le, jn_le1, jn_lt1, jn_1lt, jn_e0, jn_e1, jn_em, ↓qB_f, ↓qT_f, cl_0, cl_1, vp_0, vp_1, e1, br_pos (Nat.le_refl (hsM h))]
  rw [F_M_alone, key]; rfl
theorem vpK {k n : Nat} (hk : k < 2147483648) (h : k < n) : vp_in (jn k) n := by rw [jn_vp hk]; exact h
theorem q_count {w : Wld} {h : Hs} (r : RelH w h) (a1 : Int32) : BothR cdN w h (F_C_count w a1) (fun w1 => F_M_count w1 a1) := by
  have hh := r.1
  have hc := r.2.1
  have hg := r.2.2.2.1.1
  have ans : ∀ (v : Int32), F_C_count w a1 = some (.inr (some v), w) → (∀ w1, RelH w1 h → Frm LQc KQc w w1 → MHs (wup w1 0 2 0) h → MSt (wup w1 0 2 0) h (w 66) → F_M_count w1 a1 = some (v, wup w1 0 2 0)) → BothR cdN w h (F_C_count w a1) (fun w1 => F_M_count w1 a1) := by
    intro v hC hM
    refine ⟨.inr (some v), ?_, fun w1 r1 f1 => ?_⟩
    · rw [hC, ret_some]; exact ⟨rfl, frm_rf⟩
    · have e66 : w1 66 = w 66 := frm_cell f1 66 (fun _ => rfl)
      obtain ⟨z1, z2, z3, z4⟩ := m_ent r1
      rw [e66] at z2
      obtain ⟨y1, y2⟩ := q_ans r1 e66 z3 z2
      show Ret (F_M_count w1 a1) _
      rw [hM w1 r1 f1 z1 z2, ret_some]
      exact ⟨⟨z4, rfl⟩, y1, y2⟩
  rcases rng_cases a1 0 14 (by omega) (by omega) with ⟨k, -, hk, rfl⟩ | ⟨n1, n2⟩
  rotate_left
  · have hne : ∀ j, j ≤ 14 → ¬ a1 = jn j := fun j hj e => n2 (by rw [e]; exact g_rng 0 j 14 (by omega) (by omega) hj)
    have h0 : ¬ a1 = 0 := hne 0 (by omega)
    have h1 : ¬ a1 = 1 := hne 1 (by omega)
    refine BothQ_R (q_bad 0 1 ?_ (fun w1 r1 => ?_) rfl)
    · simp only [F_C_count, h0, h1, show ¬ a1 = 2 from hne 2 (by omega), show ¬ a1 = 3 from hne 3 (by omega), show ¬ a1 = 4 from hne 4 (by omega), show ¬ a1 = 5 from hne 5 (by omega), show ¬ a1 = 6 from hne 6 (by omega), show ¬ a1 = 7 from hne 7 (by omega), show ¬ a1 = 8 from hne 8 (by omega), show ¬ a1 = 9 from hne 9 (by omega), show ¬ a1 = 10 from hne 10 (by omega), show ¬ a1 = 11 from hne 11 (by omega), show ¬ a1 = 12 from hne 12 (by omega), show ¬ a1 = 13 from hne 13 (by omega), show ¬ a1 = 14 from hne 14 (by omega), br_F]
    · simp only [F_M_count, bw_eq, h0, h1, show ¬ a1 = 2 from hne 2 (by omega), show ¬ a1 = 3 from hne 3 (by omega), show ¬ a1 = 4 from hne 4 (by omega), show ¬ a1 = 5 from hne 5 (by omega), show ¬ a1 = 6 from hne 6 (by omega), show ¬ a1 = 7 from hne 7 (by omega), show ¬ a1 = 8 from hne 8 (by omega), show ¬ a1 = 9 from hne 9 (by omega), show ¬ a1 = 10 from hne 10 (by omega), show ¬ a1 = 11 from hne 11 (by omega), show ¬ a1 = 12 from hne 12 (by omega), show ¬ a1 = 13 from hne 13 (by omega), show ¬ a1 = 14 from hne 14 (by omega), br_F, t_fail, bd_some]
  have hb : k = 0 ∨ k = 1 ∨ k = 2 ∨ k = 3 ∨ k = 4 ∨ k = 5 ∨ k = 6 ∨ k = 7 ∨ k = 8 ∨ k = 9 ∨ k = 10 ∨ k = 11 ∨ k = 12 ∨ k = 13 ∨ k = 14 := by omega
  rcases hb with rfl | rfl | rfl | rfl | rfl | rfl | rfl | rfl | rfl | rfl | rfl | rfl | rfl | rfl | rfl
  · refine ans (w 56 0) ?_ (fun w1 r1 f1 z1 z2 => ?_)
    · rw [F_C_count]
      repeat (first | rw [br_pos (by decide)] | rw [br_neg (by decide)])
    · rw [F_M_count, bw_eq]
      repeat (first | rw [br_pos (by decide)] | rw [br_neg (by decide)])
      rw [K_M_count_80, gd_pos (vpK (by omega) (by omega)), jn_clamp (by omega), hc.1]
      first | rw [z1.1] | rw [z1.2.1] | rw [z1.2.2.1] | rw [z1.2.2.2.1]
  · refine ans (w 56 1) ?_ (fun w1 r1 f1 z1 z2 => ?_)
    · rw [F_C_count]
      repeat (first | rw [br_pos (by decide)] | rw [br_neg (by decide)])
    · rw [F_M_count, bw_eq]
      repeat (first | rw [br_pos (by decide)] | rw [br_neg (by decide)])
      rw [K_M_count_80, gd_pos (vpK (by omega) (by omega)), jn_clamp (by omega), hc.2.1]
      first | rw [z1.1] | rw [z1.2.1] | rw [z1.2.2.1] | rw [z1.2.2.2.1]
  · refine ans (w 56 2) ?_ (fun w1 r1 f1 z1 z2 => ?_)
    · rw [F_C_count]
      repeat (first | rw [br_pos (by decide)] | rw [br_neg (by decide)])
    · rw [F_M_count, bw_eq]
      repeat (first | rw [br_pos (by decide)] | rw [br_neg (by decide)])
      rw [K_M_count_80, gd_pos (vpK (by omega) (by omega)), jn_clamp (by omega), hc.2.2.1]
      first | rw [z1.1] | rw [z1.2.1] | rw [z1.2.2.1] | rw [z1.2.2.2.1]
  · refine ans (w 56 3) ?_ (fun w1 r1 f1 z1 z2 => ?_)
    · rw [F_C_count]
      repeat (first | rw [br_pos (by decide)] | rw [br_neg (by decide)])
    · rw [F_M_count, bw_eq]
      repeat (first | rw [br_pos (by decide)] | rw [br_neg (by decide)])
      rw [K_M_count_80, gd_pos (vpK (by omega) (by omega)), jn_clamp (by omega), hc.2.2.2.1]
      first | rw [z1.1] | rw [z1.2.1] | rw [z1.2.2.1] | rw [z1.2.2.2.1]
  · refine ans (w 66 52) ?_ (fun w1 r1 f1 z1 z2 => ?_)
    · rw [F_C_count]
      repeat (first | rw [br_pos (by decide)] | rw [br_neg (by decide)])
      rw [gd_pos (by rw [li_52, jn_vp (by omega)]; omega)]
      rfl
    · rw [F_M_count, bw_eq]
      repeat (first | rw [br_pos (by decide)] | rw [br_neg (by decide)])
      rw [z2.2.2.2.2]
  · refine ans (w 66 51) ?_ (fun w1 r1 f1 z1 z2 => ?_)
    · rw [F_C_count]
      repeat (first | rw [br_pos (by decide)] | rw [br_neg (by decide)])
      rw [gd_pos (by rw [li_51, jn_vp (by omega)]; omega)]
      rfl
    · rw [F_M_count, bw_eq]
      repeat (first | rw [br_pos (by decide)] | rw [br_neg (by decide)])
      rw [z2.2.2.2.1]
  · refine ans (w 66 50) ?_ (fun w1 r1 f1 z1 z2 => ?_)
    · rw [F_C_count]
      repeat (first | rw [br_pos (by decide)] | rw [br_neg (by decide)])
      rw [gd_pos (by rw [li_50, jn_vp (by omega)]; omega)]
      rfl
    · rw [F_M_count, bw_eq]
      repeat (first | rw [br_pos (by decide)] | rw [br_neg (by decide)])
      rw [z2.2.2.1]
  · refine ans (jn (sAln h (w 66))) ?_ (fun w1 r1 f1 z1 z2 => ?_)
    · rw [F_C_count]
      repeat (first | rw [br_pos (by decide)] | rw [br_neg (by decide)])
      rw [hc.2.1, c_alone hh, bp_some]
    · rw [F_M_count, bw_eq]
      repeat (first | rw [br_pos (by decide)] | rw [br_neg (by decide)])
      rw [m_alone z1 z2 hh, bp_some]
  · refine ans (sMc h (w 66)) ?_ (fun w1 r1 f1 z1 z2 => ?_)
    · rw [F_C_count]
      repeat (first | rw [br_pos (by decide)] | rw [br_neg (by decide)])
      rw [hc.2.1, t_metC_65 hh hg (Eq53.rf _), bq_some]
    · rw [F_M_count, bw_eq]
      repeat (first | rw [br_pos (by decide)] | rw [br_neg (by decide)])
      rw [m_metC z1 z2 hh hg, bq_some]
  · refine ans (w 67 2) ?_ (fun w1 r1 f1 z1 z2 => ?_)
    · rw [F_C_count]
      repeat (first | rw [br_pos (by decide)] | rw [br_neg (by decide)])
    · rw [F_M_count, bw_eq]
      repeat (first | rw [br_pos (by decide)] | rw [br_neg (by decide)])
      obtain ⟨n, f, b1, b2, b3, b4, b5, b6⟩ := r1.2.2.2.2.1
      rw [wup_s2 _ _ _ (by decide), b5, ← b3, f1 67 2 rfl]
  · refine ans (w 69 3) ?_ (fun w1 r1 f1 z1 z2 => ?_)
    · rw [F_C_count]
      repeat (first | rw [br_pos (by decide)] | rw [br_neg (by decide)])
    · rw [F_M_count, bw_eq]
      repeat (first | rw [br_pos (by decide)] | rw [br_neg (by decide)])
      obtain ⟨n, b1, b2, b3, b4⟩ := r1.2.2.2.2.2.1
      rw [wup_s2 _ _ _ (by decide), b3, ← b2, f1 69 3 rfl]
  · refine ans (w 42 1) ?_ (fun w1 r1 f1 z1 z2 => ?_)
    · rw [F_C_count]
      repeat (first | rw [br_pos (by decide)] | rw [br_neg (by decide)])
    · rw [F_M_count, bw_eq]
      repeat (first | rw [br_pos (by decide)] | rw [br_neg (by decide)])
      obtain ⟨⟨t, b1, b2, b3, b4⟩, b5⟩ := r1.2.2.2.2.2.2.2.2
      rw [wup_s2 _ _ _ (by decide), b3, ← b2, f1 42 1 rfl]
  · refine ans (w 73 0) ?_ (fun w1 r1 f1 z1 z2 => ?_)
    · rw [F_C_count]
      repeat (first | rw [br_pos (by decide)] | rw [br_neg (by decide)])
      rw [gd_pos (show vp_in (0 : Int32) 3 from vpK (k := 0) (by omega) (by omega))]
      rfl
    · rw [F_M_count, bw_eq]
      repeat (first | rw [br_pos (by decide)] | rw [br_neg (by decide)])
      have hu := r1.2.2.2.2.2.2.1 0 (by omega)
      have f73 := f1 73 0 rfl
      rw [K_M_count_127, show (jn 12 : Int32) - 12 = jn 0 from by decide, gd_pos (vpK (by omega) (by omega)), jn_clamp (by omega), wup_o _ _ _ (by decide), ← hu, f73]
  · refine ans (w 73 1) ?_ (fun w1 r1 f1 z1 z2 => ?_)
    · rw [F_C_count]
      repeat (first | rw [br_pos (by decide)] | rw [br_neg (by decide)])
      rw [gd_pos (show vp_in (1 : Int32) 3 from vpK (k := 1) (by omega) (by omega))]
      rfl
    · rw [F_M_count, bw_eq]
      repeat (first | rw [br_pos (by decide)] | rw [br_neg (by decide)])
      have hu := r1.2.2.2.2.2.2.1 1 (by omega)
      have f73 := f1 73 1 rfl
      rw [K_M_count_127, show (jn 13 : Int32) - 12 = jn 1 from by decide, gd_pos (vpK (by omega) (by omega)), jn_clamp (by omega), wup_o _ _ _ (by decide), ← hu, f73]
  · refine ans (w 73 2) ?_ (fun w1 r1 f1 z1 z2 => ?_)
    · rw [F_C_count]
      repeat (first | rw [br_pos (by decide)] | rw [br_neg (by decide)])
      rw [gd_pos (show vp_in (2 : Int32) 3 from vpK (k := 2) (by omega) (by omega))]
      rfl
    · rw [F_M_count, bw_eq]
      repeat (first | rw [br_pos (by decide)] | rw [br_neg (by decide)])
      have hu := r1.2.2.2.2.2.2.1 2 (by omega)
      have f73 := f1 73 2 rfl
      rw [K_M_count_127, show (jn 14 : Int32) - 12 = jn 2 from by decide, gd_pos (vpK (by omega) (by omega)), jn_clamp (by omega), wup_o _ _ _ (by decide), ← hu, f73]
theorem q_room {w : Wld} {h : Hs} (r : RelH w h) (a1 a2 : Int32) : BothQ cdN w h (F_C_room w a1 a2) (fun w1 => F_M_room w1 a1 a2) := by
  have hh := r.1
  have hc := r.2.1
  have hN := hh.1
  have hM := hh.2.1
  rcases idx_cases a1 (hsN h) (by omega) with ⟨m, hm, rfl⟩ | ⟨n1, n2⟩
  rotate_left
  · refine q_bad 0 1 ?_ (fun w1 r1 => ?_) rfl
    · rw [F_C_room, t_needRoom_n hc.1 n1, bn_some]
    · simp only [F_M_room, bw_eq, t_isRoom_n (m_ent r1).1.1 n2, bp_some, eq_self, br_T, K_M_room_25, t_fail, bd_some]
  have y1 := t_needRoom_y hc.1 (by omega) hm
  rcases rng_cases a2 0 3 (by omega) (by omega) with ⟨k, -, hk, rfl⟩ | ⟨n1, n2⟩
  rotate_left
  · have n2 : ¬ ((0 : Int32) ≤ a2 ∧ a2 ≤ 3) := n2
    refine q_bad 0 1 ?_ (fun w1 r1 => ?_) rfl
    · rw [F_C_room, y1, bn_none, li_3, t_what_n w n1, bn_some]
    · simp only [F_M_room, bw_eq, t_isRoom_y (m_ent r1).1.1 (show hsN h < 100 by omega) hm, t_isIn, n2, if_false, bp_some, eq_self, not_true_eq_false, br_F, (by decide : ((1 : Int32) = 0) = False), K_M_room_25, t_fail, bd_some]
  have g2 : (0 : Int32) ≤ jn k ∧ jn k ≤ 3 := g_what k 3 (by omega) hk
  have e57 := hc.2.2.2.2.1 m hm
  have e1 := hc.2.1
  refine ⟨.inr (some (if k = 0 then hsV h m else if k = 1 then w 66 (32 + m) else if k = 2 then w 66 (41 + m) else jn (sThose h (w 66) (jn m)))), ?_, fun w1 r1 e66 => ?_⟩
  · rw [F_C_room, y1, bn_none, li_3, t_what_y w (by omega) hk, bn_none]
    have hb : k = 0 ∨ k = 1 ∨ k = 2 ∨ k = 3 := by omega
    rcases hb with rfl | rfl | rfl | rfl
    · simp (disch := omega) only [↓bi_eq, ↓bw_eq, gd_pos, br_pos, br_neg, br_T, br_F, gd_T, bq_some, bd_some, bv_some, bl_some, bx_inl, bx_inr, bn_none, bn_some, bt_inl, bt_inr, not_true_eq_false, not_false_eq_true, eq_self, Bool.false_eq_true, if_true, if_false, jn_clamp, jn_lt, jn_le, jn_inj, jn_add, jn_sub, jn_mul, jn_vp, jn_0a, jn_1a, jn_1b, jn_1s, jn_1m, jn_neg0, jn_le0, jn_0le, jn_0lt, jn_1le, jn_le1, jn_lt1, jn_1lt, jn_e0, jn_e1, jn_em, ↓qB_f, ↓qT_f, cl_0, cl_1, vp_0, vp_1, e57, ret_some, true_and]
      exact frm_rf
    · simp (disch := omega) only [↓bi_eq, ↓bw_eq, gd_pos, br_pos, br_neg, br_T, br_F, gd_T, bq_some, bd_some, bv_some, bl_some, bx_inl, bx_inr, bn_none, bn_some, bt_inl, bt_inr, not_true_eq_false, not_false_eq_true, eq_self, Bool.false_eq_true, if_true, if_false, jn_clamp, jn_lt, jn_le, jn_inj, jn_add, jn_sub, jn_mul, jn_vp, jn_0a, jn_1a, jn_1b, jn_1s, jn_1m, jn_neg0, jn_le0, jn_0le, jn_0lt, jn_1le, jn_le1, jn_lt1, jn_1lt, jn_e0, jn_e1, jn_em, ↓qB_f, ↓qT_f, cl_0, cl_1, vp_0, vp_1, li_32, ret_some, true_and, (by decide : (1 = 0) = False)]
      exact frm_rf
    · simp (disch := omega) only [↓bi_eq, ↓bw_eq, gd_pos, br_pos, br_neg, br_T, br_F, gd_T, bq_some, bd_some, bv_some, bl_some, bx_inl, bx_inr, bn_none, bn_some, bt_inl, bt_inr, not_true_eq_false, not_false_eq_true, eq_self, Bool.false_eq_true, if_true, if_false, jn_clamp, jn_lt, jn_le, jn_inj, jn_add, jn_sub, jn_mul, jn_vp, jn_0a, jn_1a, jn_1b, jn_1s, jn_1m, jn_neg0, jn_le0, jn_0le, jn_0lt, jn_1le, jn_le1, jn_lt1, jn_1lt, jn_e0, jn_e1, jn_em, ↓qB_f, ↓qT_f, cl_0, cl_1, vp_0, vp_1, li_2, li_41, ret_some, true_and, (by decide : (2 = 0) = False), (by decide : (2 = 1) = False)]
      exact frm_rf
    · have hw := t_within_65 w (jn m) hM
      simp (disch := omega) only [↓bi_eq, ↓bw_eq, gd_pos, br_pos, br_neg, br_T, br_F, gd_T, bq_some, bd_some, bv_some, bl_some, bx_inl, bx_inr, bn_none, bn_some, bt_inl, bt_inr, not_true_eq_false, not_false_eq_true, eq_self, Bool.false_eq_true, if_true, if_false, jn_clamp, jn_lt, jn_le, jn_inj, jn_add, jn_sub, jn_mul, jn_vp, jn_0a, jn_1a, jn_1b, jn_1s, jn_1m, jn_neg0, jn_le0, jn_0le, jn_0lt, jn_1le, jn_le1, jn_lt1, jn_1lt, jn_e0, jn_e1, jn_em, ↓qB_f, ↓qT_f, cl_0, cl_1, vp_0, vp_1, li_2, e1, hw, ret_some, (by decide : (3 = 0) = False), (by decide : (3 = 1) = False), (by decide : (3 = 2) = False)]
      exact ⟨rfl, frm_rf⟩
  · obtain ⟨z1, z2, z3, z4⟩ := m_ent r1
    rw [e66] at z2
    obtain ⟨u1, u2⟩ := q_ans r1 e66 z3 z2
    obtain ⟨b0, b1⟩ := z2.2.1 m hm
    have e4 := z1.2.2.2.2.2.1 m hm
    simp only [F_M_room, bw_eq, t_isRoom_y z1.1 (show hsN h < 100 by omega) hm, t_isIn, g2, and_self, if_true, bp_some, br_T, br_F, not_false_eq_true, (by decide : ((1 : Int32) = 0) = False)]
    have hb : k = 0 ∨ k = 1 ∨ k = 2 ∨ k = 3 := by omega
    rcases hb with rfl | rfl | rfl | rfl
    · simp (disch := omega) only [K_M_room_77, ↓bi_eq, ↓bw_eq, gd_pos, br_pos, br_neg, br_T, br_F, gd_T, bq_some, bd_some, bv_some, bl_some, bx_inl, bx_inr, bn_none, bn_some, bt_inl, bt_inr, not_true_eq_false, not_false_eq_true, eq_self, Bool.false_eq_true, if_true, if_false, jn_clamp, jn_lt, jn_le, jn_inj, jn_add, jn_sub, jn_mul, jn_vp, jn_0a, jn_1a, jn_1b, jn_1s, jn_1m, jn_neg0, jn_le0, jn_0le, jn_0lt, jn_1le, jn_le1, jn_lt1, jn_1lt, jn_e0, jn_e1, jn_em, ↓qB_f, ↓qT_f, cl_0, cl_1, vp_0, vp_1, e4, ret_some]
      exact ⟨⟨z4, rfl⟩, u1, u2⟩
    · simp (disch := omega) only [K_M_room_77, ↓bi_eq, ↓bw_eq, gd_pos, br_pos, br_neg, br_T, br_F, gd_T, bq_some, bd_some, bv_some, bl_some, bx_inl, bx_inr, bn_none, bn_some, bt_inl, bt_inr, not_true_eq_false, not_false_eq_true, eq_self, Bool.false_eq_true, if_true, if_false, jn_clamp, jn_lt, jn_le, jn_inj, jn_add, jn_sub, jn_mul, jn_vp, jn_0a, jn_1a, jn_1b, jn_1s, jn_1m, jn_neg0, jn_le0, jn_0le, jn_0lt, jn_1le, jn_le1, jn_lt1, jn_1lt, jn_e0, jn_e1, jn_em, ↓qB_f, ↓qT_f, cl_0, cl_1, vp_0, vp_1, b0, ret_some, (by decide : (1 = 0) = False)]
      exact ⟨⟨z4, rfl⟩, u1, u2⟩
    · simp (disch := omega) only [K_M_room_77, ↓bi_eq, ↓bw_eq, gd_pos, br_pos, br_neg, br_T, br_F, gd_T, bq_some, bd_some, bv_some, bl_some, bx_inl, bx_inr, bn_none, bn_some, bt_inl, bt_inr, not_true_eq_false, not_false_eq_true, eq_self, Bool.false_eq_true, if_true, if_false, jn_clamp, jn_lt, jn_le, jn_inj, jn_add, jn_sub, jn_mul, jn_vp, jn_0a, jn_1a, jn_1b, jn_1s, jn_1m, jn_neg0, jn_le0, jn_0le, jn_0lt, jn_1le, jn_le1, jn_lt1, jn_1lt, jn_e0, jn_e1, jn_em, ↓qB_f, ↓qT_f, cl_0, cl_1, vp_0, vp_1, li_2, b1, ret_some, (by decide : (2 = 0) = False), (by decide : (2 = 1) = False)]
      exact ⟨⟨z4, rfl⟩, u1, u2⟩
    · simp (disch := omega) only [K_M_room_77, ↓bi_eq, ↓bw_eq, gd_pos, br_pos, br_neg, br_T, br_F, gd_T, bq_some, bd_some, bv_some, bl_some, bx_inl, bx_inr, bn_none, bn_some, bt_inl, bt_inr, not_true_eq_false, not_false_eq_true, eq_self, Bool.false_eq_true, if_true, if_false, jn_clamp, jn_lt, jn_le, jn_inj, jn_add, jn_sub, jn_mul, jn_vp, jn_0a, jn_1a, jn_1b, jn_1s, jn_1m, jn_neg0, jn_le0, jn_0le, jn_0lt, jn_1le, jn_le1, jn_lt1, jn_1lt, jn_e0, jn_e1, jn_em, ↓qB_f, ↓qT_f, cl_0, cl_1, vp_0, vp_1, li_2, m_those hh z1 z2, ret_some, (by decide : (3 = 0) = False), (by decide : (3 = 1) = False), (by decide : (3 = 2) = False)]
      exact ⟨⟨z4, rfl⟩, u1, u2⟩
theorem q_monk {w : Wld} {h : Hs} (r : RelH w h) (a1 a2 : Int32) : BothQ cdN w h (F_C_monk w a1 a2) (fun w1 => F_M_monk w1 a1 a2) := by
  have hh := r.1
  have hc := r.2.1
  have hM := hh.2.1
  have hg := r.2.2.2.1.1
  rcases idx_cases a1 (hsM h) (by omega) with ⟨m, hm, rfl⟩ | ⟨n1, n2⟩
  rotate_left
  · refine q_bad 0 1 ?_ (fun w1 r1 => ?_) rfl
    · rw [F_C_monk, t_needMonk_n hc.2.1 n1, bn_some]
    · simp only [F_M_monk, bw_eq, t_isMonk_n (m_ent r1).1.2.1 n2, bp_some, eq_self, not_true_eq_false, br_F, t_fail, bd_some]
  have y1 := t_needMonk_y hc.2.1 (by omega) hm
  rcases rng_cases a2 0 5 (by omega) (by omega) with ⟨k, -, hk, rfl⟩ | ⟨n1, n2⟩
  rotate_left
  · have hne : ∀ j, j ≤ 5 → ¬ a2 = jn j := fun j hj e => n2 (by rw [e]; exact g_rng 0 j 5 (by omega) (by omega) hj)
    refine q_bad 0 1 ?_ (fun w1 r1 => ?_) rfl
    · rw [F_C_monk, y1, bn_none, li_5, t_what_n w n1, bn_some]
    · simp only [F_M_monk, bw_eq, t_isMonk_y (m_ent r1).1.2.1 (show hsM h < 100 by omega) hm, bp_some, not_false_eq_true, (by decide : ((1 : Int32) = 0) = False), br_T, show ¬ a2 = 0 from hne 0 (by omega), show ¬ a2 = 1 from hne 1 (by omega), show ¬ a2 = 2 from hne 2 (by omega), show ¬ a2 = 3 from hne 3 (by omega), show ¬ a2 = 4 from hne 4 (by omega), show ¬ a2 = 5 from hne 5 (by omega), br_F, t_fail, bd_some]
  have e58 := hc.2.2.2.2.2.1 m hm
  refine ⟨.inr (some (if k = 0 then hsO h m else if k = 1 then w 66 m else if k = 2 then w 66 (8 + m) else if k = 3 then w 66 (16 + m) else if k = 4 then w 66 (24 + m) else (if sUp h (w 66) m = true then 1 else 0))), ?_, fun w1 r1 e66 => ?_⟩
  · rw [F_C_monk, y1, bn_none, li_5, t_what_y w (by omega) hk, bn_none]
    have hb : k = 0 ∨ k = 1 ∨ k = 2 ∨ k = 3 ∨ k = 4 ∨ k = 5 := by omega
    rcases hb with rfl | rfl | rfl | rfl | rfl | rfl
    · simp (disch := omega) only [↓bi_eq, ↓bw_eq, gd_pos, br_pos, br_neg, br_T, br_F, gd_T, bq_some, bd_some, bv_some, bl_some, bx_inl, bx_inr, bn_none, bn_some, bt_inl, bt_inr, not_true_eq_false, not_false_eq_true, eq_self, Bool.false_eq_true, if_true, if_false, jn_clamp, jn_lt, jn_le, jn_inj, jn_add, jn_sub, jn_mul, jn_vp, jn_0a, jn_1a, jn_1b, jn_1s, jn_1m, jn_neg0, jn_le0, jn_0le, jn_0lt, jn_1le, jn_le1, jn_lt1, jn_1lt, jn_e0, jn_e1, jn_em, ↓qB_f, ↓qT_f, cl_0, cl_1, vp_0, vp_1, e58, ret_some, true_and]
      exact frm_rf
    · simp (disch := omega) only [↓bi_eq, ↓bw_eq, gd_pos, br_pos, br_neg, br_T, br_F, gd_T, bq_some, bd_some, bv_some, bl_some, bx_inl, bx_inr, bn_none, bn_some, bt_inl, bt_inr, not_true_eq_false, not_false_eq_true, eq_self, Bool.false_eq_true, if_true, if_false, jn_clamp, jn_lt, jn_le, jn_inj, jn_add, jn_sub, jn_mul, jn_vp, jn_0a, jn_1a, jn_1b, jn_1s, jn_1m, jn_neg0, jn_le0, jn_0le, jn_0lt, jn_1le, jn_le1, jn_lt1, jn_1lt, jn_e0, jn_e1, jn_em, ↓qB_f, ↓qT_f, cl_0, cl_1, vp_0, vp_1, ret_some, true_and, (by decide : (1 = 0) = False)]
      exact frm_rf
    · simp (disch := omega) only [↓bi_eq, ↓bw_eq, gd_pos, br_pos, br_neg, br_T, br_F, gd_T, bq_some, bd_some, bv_some, bl_some, bx_inl, bx_inr, bn_none, bn_some, bt_inl, bt_inr, not_true_eq_false, not_false_eq_true, eq_self, Bool.false_eq_true, if_true, if_false, jn_clamp, jn_lt, jn_le, jn_inj, jn_add, jn_sub, jn_mul, jn_vp, jn_0a, jn_1a, jn_1b, jn_1s, jn_1m, jn_neg0, jn_le0, jn_0le, jn_0lt, jn_1le, jn_le1, jn_lt1, jn_1lt, jn_e0, jn_e1, jn_em, ↓qB_f, ↓qT_f, cl_0, cl_1, vp_0, vp_1, li_2, li_8, ret_some, true_and, (by decide : (2 = 0) = False), (by decide : (2 = 1) = False)]
      exact frm_rf
    · simp (disch := omega) only [↓bi_eq, ↓bw_eq, gd_pos, br_pos, br_neg, br_T, br_F, gd_T, bq_some, bd_some, bv_some, bl_some, bx_inl, bx_inr, bn_none, bn_some, bt_inl, bt_inr, not_true_eq_false, not_false_eq_true, eq_self, Bool.false_eq_true, if_true, if_false, jn_clamp, jn_lt, jn_le, jn_inj, jn_add, jn_sub, jn_mul, jn_vp, jn_0a, jn_1a, jn_1b, jn_1s, jn_1m, jn_neg0, jn_le0, jn_0le, jn_0lt, jn_1le, jn_le1, jn_lt1, jn_1lt, jn_e0, jn_e1, jn_em, ↓qB_f, ↓qT_f, cl_0, cl_1, vp_0, vp_1, li_2, li_3, li_16, ret_some, true_and, (by decide : (3 = 0) = False), (by decide : (3 = 1) = False), (by decide : (3 = 2) = False)]
      exact frm_rf
    · simp (disch := omega) only [↓bi_eq, ↓bw_eq, gd_pos, br_pos, br_neg, br_T, br_F, gd_T, bq_some, bd_some, bv_some, bl_some, bx_inl, bx_inr, bn_none, bn_some, bt_inl, bt_inr, not_true_eq_false, not_false_eq_true, eq_self, Bool.false_eq_true, if_true, if_false, jn_clamp, jn_lt, jn_le, jn_inj, jn_add, jn_sub, jn_mul, jn_vp, jn_0a, jn_1a, jn_1b, jn_1s, jn_1m, jn_neg0, jn_le0, jn_0le, jn_0lt, jn_1le, jn_le1, jn_lt1, jn_1lt, jn_e0, jn_e1, jn_em, ↓qB_f, ↓qT_f, cl_0, cl_1, vp_0, vp_1, li_2, li_3, li_4, li_24, ret_some, true_and, (by decide : (4 = 0) = False), (by decide : (4 = 1) = False), (by decide : (4 = 2) = False), (by decide : (4 = 3) = False)]
      exact frm_rf
    · simp (disch := omega) only [↓bi_eq, ↓bw_eq, gd_pos, br_pos, br_neg, br_T, br_F, gd_T, bq_some, bd_some, bv_some, bl_some, bx_inl, bx_inr, bn_none, bn_some, bt_inl, bt_inr, not_true_eq_false, not_false_eq_true, eq_self, Bool.false_eq_true, if_true, if_false, jn_clamp, jn_lt, jn_le, jn_inj, jn_add, jn_sub, jn_mul, jn_vp, jn_0a, jn_1a, jn_1b, jn_1s, jn_1m, jn_neg0, jn_le0, jn_0le, jn_0lt, jn_1le, jn_le1, jn_lt1, jn_1lt, jn_e0, jn_e1, jn_em, ↓qB_f, ↓qT_f, cl_0, cl_1, vp_0, vp_1, li_2, li_3, li_4, ret_bd, (by decide : (5 = 0) = False), (by decide : (5 = 1) = False), (by decide : (5 = 2) = False), (by decide : (5 = 3) = False), (by decide : (5 = 4) = False)]
      refine ret_mono (t_rises_65 hc hh hg hm) (fun q hq => ?_)
      obtain ⟨v, w2⟩ := q
      obtain ⟨p1, p2⟩ := hq
      simp only at p1 p2
      subst p1
      by_cases hz : sUp h (w 66) m = true
      · simp only [hz, if_true, (by decide : ((1 : Int32) = 0) = False), br_F, K_C_monk_118, ret_some, true_and]
        exact frm_up p2 rfl
      · simp only [hz, if_false, eq_self, br_T, K_C_monk_118, ret_some, true_and, Bool.false_eq_true]
        exact frm_up p2 rfl
  · obtain ⟨z1, z2, z3, z4⟩ := m_ent r1
    rw [e66] at z2
    obtain ⟨u1, u2⟩ := q_ans r1 e66 z3 z2
    obtain ⟨b0, b1, b2, b3⟩ := z2.1 m hm
    have e7 := z1.2.2.2.2.2.2.1 m hm
    simp only [F_M_monk, bw_eq, t_isMonk_y z1.2.1 (show hsM h < 100 by omega) hm, bp_some, br_T, not_false_eq_true, (by decide : ((1 : Int32) = 0) = False)]
    have hb : k = 0 ∨ k = 1 ∨ k = 2 ∨ k = 3 ∨ k = 4 ∨ k = 5 := by omega
    rcases hb with rfl | rfl | rfl | rfl | rfl | rfl
    · simp (disch := omega) only [↓bi_eq, ↓bw_eq, gd_pos, br_pos, br_neg, br_T, br_F, gd_T, bq_some, bd_some, bv_some, bl_some, bx_inl, bx_inr, bn_none, bn_some, bt_inl, bt_inr, not_true_eq_false, not_false_eq_true, eq_self, Bool.false_eq_true, if_true, if_false, jn_clamp, jn_lt, jn_le, jn_inj, jn_add, jn_sub, jn_mul, jn_vp, jn_0a, jn_1a, jn_1b, jn_1s, jn_1m, jn_neg0, jn_le0, jn_0le, jn_0lt, jn_1le, jn_le1, jn_lt1, jn_1lt, jn_e0, jn_e1, jn_em, ↓qB_f, ↓qT_f, cl_0, cl_1, vp_0, vp_1, e7, ret_some]
      exact ⟨⟨z4, rfl⟩, u1, u2⟩
    · simp (disch := omega) only [↓bi_eq, ↓bw_eq, gd_pos, br_pos, br_neg, br_T, br_F, gd_T, bq_some, bd_some, bv_some, bl_some, bx_inl, bx_inr, bn_none, bn_some, bt_inl, bt_inr, not_true_eq_false, not_false_eq_true, eq_self, Bool.false_eq_true, if_true, if_false, jn_clamp, jn_lt, jn_le, jn_inj, jn_add, jn_sub, jn_mul, jn_vp, jn_0a, jn_1a, jn_1b, jn_1s, jn_1m, jn_neg0, jn_le0, jn_0le, jn_0lt, jn_1le, jn_le1, jn_lt1, jn_1lt, jn_e0, jn_e1, jn_em, ↓qB_f, ↓qT_f, cl_0, cl_1, vp_0, vp_1, b0, ret_some, (by decide : (1 = 0) = False)]
      exact ⟨⟨z4, rfl⟩, u1, u2⟩
    · simp (disch := omega) only [↓bi_eq, ↓bw_eq, gd_pos, br_pos, br_neg, br_T, br_F, gd_T, bq_some, bd_some, bv_some, bl_some, bx_inl, bx_inr, bn_none, bn_some, bt_inl, bt_inr, not_true_eq_false, not_false_eq_true, eq_self, Bool.false_eq_true, if_true, if_false, jn_clamp, jn_lt, jn_le, jn_inj, jn_add, jn_sub, jn_mul, jn_vp, jn_0a, jn_1a, jn_1b, jn_1s, jn_1m, jn_neg0, jn_le0, jn_0le, jn_0lt, jn_1le, jn_le1, jn_lt1, jn_1lt, jn_e0, jn_e1, jn_em, ↓qB_f, ↓qT_f, cl_0, cl_1, vp_0, vp_1, li_2, b1, ret_some, (by decide : (2 = 0) = False), (by decide : (2 = 1) = False)]
      exact ⟨⟨z4, rfl⟩, u1, u2⟩
    · simp (disch := omega) only [↓bi_eq, ↓bw_eq, gd_pos, br_pos, br_neg, br_T, br_F, gd_T, bq_some, bd_some, bv_some, bl_some, bx_inl, bx_inr, bn_none, bn_some, bt_inl, bt_inr, not_true_eq_false, not_false_eq_true, eq_self, Bool.false_eq_true, if_true, if_false, jn_clamp, jn_lt, jn_le, jn_inj, jn_add, jn_sub, jn_mul, jn_vp, jn_0a, jn_1a, jn_1b, jn_1s, jn_1m, jn_neg0, jn_le0, jn_0le, jn_0lt, jn_1le, jn_le1, jn_lt1, jn_1lt, jn_e0, jn_e1, jn_em, ↓qB_f, ↓qT_f, cl_0, cl_1, vp_0, vp_1, li_2, li_3, b2, ret_some, (by decide : (3 = 0) = False), (by decide : (3 = 1) = False), (by decide : (3 = 2) = False)]
      exact ⟨⟨z4, rfl⟩, u1, u2⟩
    · simp (disch := omega) only [↓bi_eq, ↓bw_eq, gd_pos, br_pos, br_neg, br_T, br_F, gd_T, bq_some, bd_some, bv_some, bl_some, bx_inl, bx_inr, bn_none, bn_some, bt_inl, bt_inr, not_true_eq_false, not_false_eq_true, eq_self, Bool.false_eq_true, if_true, if_false, jn_clamp, jn_lt, jn_le, jn_inj, jn_add, jn_sub, jn_mul, jn_vp, jn_0a, jn_1a, jn_1b, jn_1s, jn_1m, jn_neg0, jn_le0, jn_0le, jn_0lt, jn_1le, jn_le1, jn_lt1, jn_1lt, jn_e0, jn_e1, jn_em, ↓qB_f, ↓qT_f, cl_0, cl_1, vp_0, vp_1, li_2, li_3, li_4, b3, ret_some, (by decide : (4 = 0) = False), (by decide : (4 = 1) = False), (by decide : (4 = 2) = False), (by decide : (4 = 3) = False)]
      exact ⟨⟨z4, rfl⟩, u1, u2⟩
    · simp (disch := omega) only [↓bi_eq, ↓bw_eq, gd_pos, br_pos, br_neg, br_T, br_F, gd_T, bq_some, bd_some, bv_some, bl_some, bx_inl, bx_inr, bn_none, bn_some, bt_inl, bt_inr, not_true_eq_false, not_false_eq_true, eq_self, Bool.false_eq_true, if_true, if_false, jn_clamp, jn_lt, jn_le, jn_inj, jn_add, jn_sub, jn_mul, jn_vp, jn_0a, jn_1a, jn_1b, jn_1s, jn_1m, jn_neg0, jn_le0, jn_0le, jn_0lt, jn_1le, jn_le1, jn_lt1, jn_1lt, jn_e0, jn_e1, jn_em, ↓qB_f, ↓qT_f, cl_0, cl_1, vp_0, vp_1, li_2, li_3, li_4, li_5, ret_bd, (by decide : (5 = 0) = False), (by decide : (5 = 1) = False), (by decide : (5 = 2) = False), (by decide : (5 = 3) = False), (by decide : (5 = 4) = False)]
      refine ret_mono (t_getsUp z1 z2 hh hg hm) (fun q hq => ?_)
      obtain ⟨v, w2⟩ := q
      obtain ⟨p1, p2⟩ := hq
      simp only at p1 p2
      subst p1
      obtain ⟨u1, u2⟩ := q_ans r1 e66 (frm_tr z3 (frm_up p2 rfl)) (MSt_fr z2 p2 ⟨fun _ => rfl, fun _ => rfl, fun _ => rfl, fun _ => rfl, fun _ => rfl, fun _ => rfl, rfl, rfl, rfl⟩)
      have c2 : w2 0 2 = 0 := (p2 0 2 rfl).trans z4
      by_cases hz : sUp h (w 66) m = true
      · simp only [hz, if_true, (by decide : ((1 : Int32) = 0) = False), br_F, K_M_monk_108, ret_some]
        exact ⟨⟨c2, rfl⟩, u1, u2⟩
      · simp only [hz, if_false, eq_self, br_T, K_M_monk_108, ret_some, Bool.false_eq_true]
        exact ⟨⟨c2, rfl⟩, u1, u2⟩
