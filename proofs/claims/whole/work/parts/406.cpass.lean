/-! ===== the class: a night goes by ===== -/
theorem t_look_65 {w : Wld} {h : Hs} (hw : CHs w h) (hh : GdH h) (hg : GdS h (w 66)) {m : Nat} (hm : m < hsM h) : Ret (F_Night_lookAt_55_65 w (jn m)) (fun w' => Frm [62] [] w w' ∧ ∀ v, v < 8 → w' 62 v = sVals h (w 66) m v) := by
  obtain ⟨x, hx, ex⟩ := hg.1 m hm
  have hN := hh.1
  have hM := hh.2.1
  have e1 := hw.2.1
  have e57 := hw.2.2.2.2.1 x hx
  have e58 := hw.2.2.2.2.2.1 m hm
  have hb : nAll (fun m' => decide (w 66 (16 + m') = jn x)) (hsM h) < 256 := nAll_lt8 _ hM
  simp (disch := omega) only [F_Night_lookAt_55_65, ↓bi_eq, ↓bw_eq, gd_pos, br_pos, br_neg, br_T, br_F, gd_T, bp_some, bd_some, bv_some, bl_some, bx_inl, bx_inr, bn_none, bn_some, bt_inl, bt_inr, not_true_eq_false, not_false_eq_true, eq_self, Bool.false_eq_true, if_true, if_false, jn_clamp, jn_lt, jn_le, jn_inj, jn_add, jn_sub, jn_mul, jn_vp, jn_0a, jn_1a, jn_1b, jn_1s, jn_1m, jn_neg0, jn_le0, jn_0le, jn_0lt, jn_1le, jn_le1, jn_lt1, jn_1lt, jn_e0, jn_e1, jn_em, ↓qB_f, ↓qT_f, cl_0, cl_1, vp_0, vp_1, wup_s1, wup_s2, wup_o, wcp_o, li_16, li_8, li_2, li_3, li_4, li_5, li_6, li_7, li_52, li_51, ex, e1, e57, e58, t_within_65, t_bitCount, ret_some]
  refine ⟨?_, fun v hv => ?_⟩
  · exact frm_wup (frm_wup (frm_wup (frm_wup (frm_wup (frm_wup (frm_wup (frm_wup frm_rf _ _ _ rfl) _ _ _ rfl) _ _ _ rfl) _ _ _ rfl) _ _ _ rfl) _ _ _ rfl) _ _ _ rfl) _ _ _ rfl
  · have hc : v = 0 ∨ v = 1 ∨ v = 2 ∨ v = 3 ∨ v = 4 ∨ v = 5 ∨ v = 6 ∨ v = 7 := by omega
    rcases hc with rfl | rfl | rfl | rfl | rfl | rfl | rfl | rfl <;> simp (disch := omega) [wup_s, sVals, ex, jn_clamp, e57, e58, sThose]
theorem t_rises_65 {w : Wld} {h : Hs} (hw : CHs w h) (hh : GdH h) (hg : GdS h (w 66)) {m : Nat} (hm : m < hsM h) : Ret (F_Night_rises_55_65 w (jn m)) (fun q => q.1 = (if sUp h (w 66) m = true then 1 else 0) ∧ Frm [61, 62] [] w q.2) := by
  have hM := hh.2.1
  have e59 := hw.2.2.2.2.2.2.1
  have hL := hh.2.2.2.2.1
  unfold sUp
  by_cases ht : qT (w 66 50) m = 1
  · simp (disch := omega) only [F_Night_rises_55_65, ↓bi_eq, ↓bw_eq, gd_pos, br_pos, br_neg, br_T, br_F, gd_T, bp_some, bd_some, bv_some, bl_some, bx_inl, bx_inr, bn_none, bn_some, bt_inl, bt_inr, not_true_eq_false, not_false_eq_true, eq_self, Bool.false_eq_true, if_true, if_false, jn_clamp, jn_lt, jn_le, jn_inj, jn_add, jn_sub, jn_mul, jn_vp, jn_0a, jn_1a, jn_1b, jn_1s, jn_1m, jn_neg0, jn_le0, jn_0le, jn_0lt, jn_1le, jn_le1, jn_lt1, jn_1lt, jn_e0, jn_e1, jn_em, ↓qB_f, ↓qT_f, cl_0, cl_1, vp_0, vp_1, li_50, ht, ret_some, if_true, Bool.false_eq_true, if_false, true_and]
    exact frm_rf
  · by_cases hz : hsL h = 0
    · by_cases hs : 50 ≤ w 66 m
      · have hs' : ¬ w 66 m < 50 := Int32.not_lt.mpr hs
        simp (disch := omega) only [F_Night_rises_55_65, K_Night_rises_55_65_48, ↓bi_eq, ↓bw_eq, gd_pos, br_pos, br_neg, br_T, br_F, gd_T, bp_some, bd_some, bv_some, bl_some, bx_inl, bx_inr, bn_none, bn_some, bt_inl, bt_inr, not_true_eq_false, not_false_eq_true, eq_self, Bool.false_eq_true, if_true, if_false, jn_clamp, jn_lt, jn_le, jn_inj, jn_add, jn_sub, jn_mul, jn_vp, jn_0a, jn_1a, jn_1b, jn_1s, jn_1m, jn_neg0, jn_le0, jn_0le, jn_0lt, jn_1le, jn_le1, jn_lt1, jn_1lt, jn_e0, jn_e1, jn_em, ↓qB_f, ↓qT_f, cl_0, cl_1, vp_0, vp_1, li_50, ht, e59, hz, if_true, if_false]
        simp only [← li_50, hs, hs', br_F, true_or, or_true, gd_T, ret_some, decide_true, if_true, true_and]
        exact frm_rf
      · have hs' : w 66 m < 50 := Int32.not_le.mp hs
        simp (disch := omega) only [F_Night_rises_55_65, K_Night_rises_55_65_48, ↓bi_eq, ↓bw_eq, gd_pos, br_pos, br_neg, br_T, br_F, gd_T, bp_some, bd_some, bv_some, bl_some, bx_inl, bx_inr, bn_none, bn_some, bt_inl, bt_inr, not_true_eq_false, not_false_eq_true, eq_self, Bool.false_eq_true, if_true, if_false, jn_clamp, jn_lt, jn_le, jn_inj, jn_add, jn_sub, jn_mul, jn_vp, jn_0a, jn_1a, jn_1b, jn_1s, jn_1m, jn_neg0, jn_le0, jn_0le, jn_0lt, jn_1le, jn_le1, jn_lt1, jn_1lt, jn_e0, jn_e1, jn_em, ↓qB_f, ↓qT_f, cl_0, cl_1, vp_0, vp_1, li_50, ht, e59, hz, if_true, if_false]
        simp only [← li_50, hs, hs', br_T, true_or, or_true, gd_T, ret_some, decide_false, Bool.false_eq_true, if_false, true_and]
        exact frm_rf
    · simp (disch := omega) only [F_Night_rises_55_65, ↓bi_eq, ↓bw_eq, gd_pos, br_pos, br_neg, br_T, br_F, gd_T, bp_some, bd_some, bv_some, bl_some, bx_inl, bx_inr, bn_none, bn_some, bt_inl, bt_inr, not_true_eq_false, not_false_eq_true, eq_self, Bool.false_eq_true, if_true, if_false, jn_clamp, jn_lt, jn_le, jn_inj, jn_add, jn_sub, jn_mul, jn_vp, jn_0a, jn_1a, jn_1b, jn_1s, jn_1m, jn_neg0, jn_le0, jn_0le, jn_0lt, jn_1le, jn_le1, jn_lt1, jn_1lt, jn_e0, jn_e1, jn_em, ↓qB_f, ↓qT_f, cl_0, cl_1, vp_0, vp_1, li_50, ht, e59, hz, if_false, ret_bv]
      refine ret_mono (t_look_65 hw hh hg hm) (fun w1 hw1 => ?_)
      obtain ⟨f1, v1⟩ := hw1
      rw [ret_bd]
      refine ret_mono (t_valueBy (CHs_fr hw f1 ⟨rfl, rfl, rfl, rfl, fun _ => rfl, fun _ => rfl, rfl, fun _ => rfl⟩) hh hz v1) (fun q hq => ?_)
      obtain ⟨r, w2⟩ := q
      obtain ⟨e, f2⟩ := hq
      simp only at e f2
      have fr : Frm [61, 62] [] w w2 := frm_tr (frm_up f1 rfl) (frm_up f2 rfl)
      rw [e]
      by_cases hp : 0 < stk (hsC h) (sVals h (w 66) m) (hsL h) 0
      · have hp' : ¬ stk (hsC h) (sVals h (w 66) m) (hsL h) 0 ≤ 0 := Int32.not_le.mpr hp
        simp only [K_Night_rises_55_65_77, hp, hp', br_F, true_or, or_true, gd_T, ret_some, decide_true, if_true, true_and]
        exact fr
      · have hp' : stk (hsC h) (sVals h (w 66) m) (hsL h) 0 ≤ 0 := Int32.not_lt.mp hp
        simp only [K_Night_rises_55_65_77, hp, hp', br_T, true_or, or_true, gd_T, ret_some, decide_false, Bool.false_eq_true, if_false, true_and]
        exact fr
theorem t_look_84 {w : Wld} {h : Hs} (hw : CHs w h) (hh : GdH h) (hg : GdS h (w 85)) {m : Nat} (hm : m < hsM h) : Ret (F_Night_lookAt_55_84 w (jn m)) (fun w' => Frm [62] [] w w' ∧ ∀ v, v < 8 → w' 62 v = sVals h (w 85) m v) := by
  obtain ⟨x, hx, ex⟩ := hg.1 m hm
  have hN := hh.1
  have hM := hh.2.1
  have e1 := hw.2.1
  have e57 := hw.2.2.2.2.1 x hx
  have e58 := hw.2.2.2.2.2.1 m hm
  have hb : nAll (fun m' => decide (w 85 (16 + m') = jn x)) (hsM h) < 256 := nAll_lt8 _ hM
  simp (disch := omega) only [F_Night_lookAt_55_84, ↓bi_eq, ↓bw_eq, gd_pos, br_pos, br_neg, br_T, br_F, gd_T, bp_some, bd_some, bv_some, bl_some, bx_inl, bx_inr, bn_none, bn_some, bt_inl, bt_inr, not_true_eq_false, not_false_eq_true, eq_self, Bool.false_eq_true, if_true, if_false, jn_clamp, jn_lt, jn_le, jn_inj, jn_add, jn_sub, jn_mul, jn_vp, jn_0a, jn_1a, jn_1b, jn_1s, jn_1m, jn_neg0, jn_le0, jn_0le, jn_0lt, jn_1le, jn_le1, jn_lt1, jn_1lt, jn_e0, jn_e1, jn_em, ↓qB_f, ↓qT_f, cl_0, cl_1, vp_0, vp_1, wup_s1, wup_s2, wup_o, wcp_o, li_16, li_8, li_2, li_3, li_4, li_5, li_6, li_7, li_52, li_51, ex, e1, e57, e58, t_within_84, t_bitCount, ret_some]
  refine ⟨?_, fun v hv => ?_⟩
  · exact frm_wup (frm_wup (frm_wup (frm_wup (frm_wup (frm_wup (frm_wup (frm_wup frm_rf _ _ _ rfl) _ _ _ rfl) _ _ _ rfl) _ _ _ rfl) _ _ _ rfl) _ _ _ rfl) _ _ _ rfl) _ _ _ rfl
  · have hc : v = 0 ∨ v = 1 ∨ v = 2 ∨ v = 3 ∨ v = 4 ∨ v = 5 ∨ v = 6 ∨ v = 7 := by omega
    rcases hc with rfl | rfl | rfl | rfl | rfl | rfl | rfl | rfl <;> simp (disch := omega) [wup_s, sVals, ex, jn_clamp, e57, e58, sThose]
theorem t_rises_84 {w : Wld} {h : Hs} (hw : CHs w h) (hh : GdH h) (hg : GdS h (w 85)) {m : Nat} (hm : m < hsM h) : Ret (F_Night_rises_55_84 w (jn m)) (fun q => q.1 = (if sUp h (w 85) m = true then 1 else 0) ∧ Frm [61, 62] [] w q.2) := by
  have hM := hh.2.1
  have e59 := hw.2.2.2.2.2.2.1
  have hL := hh.2.2.2.2.1
  unfold sUp
  by_cases ht : qT (w 85 50) m = 1
  · simp (disch := omega) only [F_Night_rises_55_84, ↓bi_eq, ↓bw_eq, gd_pos, br_pos, br_neg, br_T, br_F, gd_T, bp_some, bd_some, bv_some, bl_some, bx_inl, bx_inr, bn_none, bn_some, bt_inl, bt_inr, not_true_eq_false, not_false_eq_true, eq_self, Bool.false_eq_true, if_true, if_false, jn_clamp, jn_lt, jn_le, jn_inj, jn_add, jn_sub, jn_mul, jn_vp, jn_0a, jn_1a, jn_1b, jn_1s, jn_1m, jn_neg0, jn_le0, jn_0le, jn_0lt, jn_1le, jn_le1, jn_lt1, jn_1lt, jn_e0, jn_e1, jn_em, ↓qB_f, ↓qT_f, cl_0, cl_1, vp_0, vp_1, li_50, ht, ret_some, if_true, Bool.false_eq_true, if_false, true_and]
    exact frm_rf
  · by_cases hz : hsL h = 0
    · by_cases hs : 50 ≤ w 85 m
      · have hs' : ¬ w 85 m < 50 := Int32.not_lt.mpr hs
        simp (disch := omega) only [F_Night_rises_55_84, K_Night_rises_55_84_48, ↓bi_eq, ↓bw_eq, gd_pos, br_pos, br_neg, br_T, br_F, gd_T, bp_some, bd_some, bv_some, bl_some, bx_inl, bx_inr, bn_none, bn_some, bt_inl, bt_inr, not_true_eq_false, not_false_eq_true, eq_self, Bool.false_eq_true, if_true, if_false, jn_clamp, jn_lt, jn_le, jn_inj, jn_add, jn_sub, jn_mul, jn_vp, jn_0a, jn_1a, jn_1b, jn_1s, jn_1m, jn_neg0, jn_le0, jn_0le, jn_0lt, jn_1le, jn_le1, jn_lt1, jn_1lt, jn_e0, jn_e1, jn_em, ↓qB_f, ↓qT_f, cl_0, cl_1, vp_0, vp_1, li_50, ht, e59, hz, if_true, if_false]
        simp only [← li_50, hs, hs', br_F, true_or, or_true, gd_T, ret_some, decide_true, if_true, true_and]
        exact frm_rf
      · have hs' : w 85 m < 50 := Int32.not_le.mp hs
        simp (disch := omega) only [F_Night_rises_55_84, K_Night_rises_55_84_48, ↓bi_eq, ↓bw_eq, gd_pos, br_pos, br_neg, br_T, br_F, gd_T, bp_some, bd_some, bv_some, bl_some, bx_inl, bx_inr, bn_none, bn_some, bt_inl, bt_inr, not_true_eq_false, not_false_eq_true, eq_self, Bool.false_eq_true, if_true, if_false, jn_clamp, jn_lt, jn_le, jn_inj, jn_add, jn_sub, jn_mul, jn_vp, jn_0a, jn_1a, jn_1b, jn_1s, jn_1m, jn_neg0, jn_le0, jn_0le, jn_0lt, jn_1le, jn_le1, jn_lt1, jn_1lt, jn_e0, jn_e1, jn_em, ↓qB_f, ↓qT_f, cl_0, cl_1, vp_0, vp_1, li_50, ht, e59, hz, if_true, if_false]
        simp only [← li_50, hs, hs', br_T, true_or, or_true, gd_T, ret_some, decide_false, Bool.false_eq_true, if_false, true_and]
        exact frm_rf
    · simp (disch := omega) only [F_Night_rises_55_84, ↓bi_eq, ↓bw_eq, gd_pos, br_pos, br_neg, br_T, br_F, gd_T, bp_some, bd_some, bv_some, bl_some, bx_inl, bx_inr, bn_none, bn_some, bt_inl, bt_inr, not_true_eq_false, not_false_eq_true, eq_self, Bool.false_eq_true, if_true, if_false, jn_clamp, jn_lt, jn_le, jn_inj, jn_add, jn_sub, jn_mul, jn_vp, jn_0a, jn_1a, jn_1b, jn_1s, jn_1m, jn_neg0, jn_le0, jn_0le, jn_0lt, jn_1le, jn_le1, jn_lt1, jn_1lt, jn_e0, jn_e1, jn_em, ↓qB_f, ↓qT_f, cl_0, cl_1, vp_0, vp_1, li_50, ht, e59, hz, if_false, ret_bv]
      refine ret_mono (t_look_84 hw hh hg hm) (fun w1 hw1 => ?_)
      obtain ⟨f1, v1⟩ := hw1
      rw [ret_bd]
      refine ret_mono (t_valueBy (CHs_fr hw f1 ⟨rfl, rfl, rfl, rfl, fun _ => rfl, fun _ => rfl, rfl, fun _ => rfl⟩) hh hz v1) (fun q hq => ?_)
      obtain ⟨r, w2⟩ := q
      obtain ⟨e, f2⟩ := hq
      simp only at e f2
      have fr : Frm [61, 62] [] w w2 := frm_tr (frm_up f1 rfl) (frm_up f2 rfl)
      rw [e]
      by_cases hp : 0 < stk (hsC h) (sVals h (w 85) m) (hsL h) 0
      · have hp' : ¬ stk (hsC h) (sVals h (w 85) m) (hsL h) 0 ≤ 0 := Int32.not_le.mpr hp
        simp only [K_Night_rises_55_84_77, hp, hp', br_F, true_or, or_true, gd_T, ret_some, decide_true, if_true, true_and]
        exact fr
      · have hp' : stk (hsC h) (sVals h (w 85) m) (hsL h) 0 ≤ 0 := Int32.not_lt.mp hp
        simp only [K_Night_rises_55_84_77, hp, hp', br_T, true_or, or_true, gd_T, ret_some, decide_false, Bool.false_eq_true, if_false, true_and]
        exact fr
