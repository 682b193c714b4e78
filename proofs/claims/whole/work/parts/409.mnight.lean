/-! ===== the model: a night ===== -/
theorem t_getsUp {w : Wld} {h : Hs} {c : Sta} (hw : MHs w h) (hs : MSt w h c) (hh : GdH h) (hg : GdS h c) {m : Nat} (hm : m < hsM h) : Ret (F_M_getsUp w (jn m)) (fun q => q.1 = (if sUp h c m = true then 1 else 0) ∧ Frm [21, 22] [] w q.2) := by
  have hN := hh.1
  have hM := hh.2.1
  have e4 := hw.2.2.2.2.1
  have hL := hh.2.2.2.2.1
  obtain ⟨s0, s1, s2, s3⟩ := hs.1 m hm
  obtain ⟨x, hx, ex⟩ := hg.1 m hm
  obtain ⟨t, ht8, et⟩ := hg.2.2.2.2.2.1
  have e33 : w 0 33 = jn t := hs.2.2.1.trans et
  unfold sUp
  rw [et]
  by_cases ht : t.testBit m = true
  · simp (disch := omega) only [F_M_getsUp, ↓bi_eq, ↓bw_eq, gd_pos, br_pos, br_neg, br_T, br_F, gd_T, bp_some, bd_some, bv_some, bl_some, bx_inl, bx_inr, bn_none, bn_some, bt_inl, bt_inr, not_true_eq_false, not_false_eq_true, eq_self, Bool.false_eq_true, if_true, if_false, jn_clamp, jn_lt, jn_le, jn_inj, jn_add, jn_sub, jn_mul, jn_vp, jn_0a, jn_1a, jn_1b, jn_1s, jn_1m, jn_neg0, jn_le0, jn_0le, jn_0lt, jn_1le, jn_le1, jn_lt1, jn_1lt, jn_e0, jn_e1, jn_em, ↓qB_f, ↓qT_f, cl_0, cl_1, vp_0, vp_1, e33, t_isOf, ht, qT_1, ret_some, true_and, (by decide : ((1 : Int32) = 0) = False)]
    exact frm_rf
  · by_cases hz : hsL h = 0
    · by_cases hs9 : 50 ≤ c m
      · have hs' : ¬ c m < 50 := Int32.not_lt.mpr hs9
        simp (disch := omega) only [F_M_getsUp, K_M_getsUp_38, ↓bi_eq, ↓bw_eq, gd_pos, br_pos, br_neg, br_T, br_F, gd_T, bp_some, bd_some, bv_some, bl_some, bx_inl, bx_inr, bn_none, bn_some, bt_inl, bt_inr, not_true_eq_false, not_false_eq_true, eq_self, Bool.false_eq_true, if_true, if_false, jn_clamp, jn_lt, jn_le, jn_inj, jn_add, jn_sub, jn_mul, jn_vp, jn_0a, jn_1a, jn_1b, jn_1s, jn_1m, jn_neg0, jn_le0, jn_0le, jn_0lt, jn_1le, jn_le1, jn_lt1, jn_1lt, jn_e0, jn_e1, jn_em, ↓qB_f, ↓qT_f, cl_0, cl_1, vp_0, vp_1, li_4, e33, t_isOf, ht, qT_1, e4, hz, s0, hs', hs9, decide_true, or_true, ret_some, true_and]
        exact frm_rf
      · have hs' : c m < 50 := Int32.not_le.mp hs9
        simp (disch := omega) only [F_M_getsUp, K_M_getsUp_38, ↓bi_eq, ↓bw_eq, gd_pos, br_pos, br_neg, br_T, br_F, gd_T, bp_some, bd_some, bv_some, bl_some, bx_inl, bx_inr, bn_none, bn_some, bt_inl, bt_inr, not_true_eq_false, not_false_eq_true, eq_self, Bool.false_eq_true, if_true, if_false, jn_clamp, jn_lt, jn_le, jn_inj, jn_add, jn_sub, jn_mul, jn_vp, jn_0a, jn_1a, jn_1b, jn_1s, jn_1m, jn_neg0, jn_le0, jn_0le, jn_0lt, jn_1le, jn_le1, jn_lt1, jn_1lt, jn_e0, jn_e1, jn_em, ↓qB_f, ↓qT_f, cl_0, cl_1, vp_0, vp_1, li_4, e33, t_isOf, ht, qT_1, e4, hz, s0, hs', hs9, decide_false, true_or, ret_some, true_and]
        exact frm_rf
    · have e1 := hw.2.1
      have ev := hw.2.2.2.2.2.1 x hx
      have eo := hw.2.2.2.2.2.2.1 m hm
      have s2' := s2.trans ex
      have hb : nAll (fun m' => decide (w 16 m' = jn x)) (hsM h) < 256 := nAll_lt8 _ hM
      simp (disch := omega) only [F_M_getsUp, ↓bi_eq, ↓bw_eq, gd_pos, br_pos, br_neg, br_T, br_F, gd_T, bp_some, bd_some, bv_some, bl_some, bx_inl, bx_inr, bn_none, bn_some, bt_inl, bt_inr, not_true_eq_false, not_false_eq_true, eq_self, Bool.false_eq_true, if_true, if_false, jn_clamp, jn_lt, jn_le, jn_inj, jn_add, jn_sub, jn_mul, jn_vp, jn_0a, jn_1a, jn_1b, jn_1s, jn_1m, jn_neg0, jn_le0, jn_0le, jn_0lt, jn_1le, jn_le1, jn_lt1, jn_1lt, jn_e0, jn_e1, jn_em, ↓qB_f, ↓qT_f, cl_0, cl_1, vp_0, vp_1, wup_s1, wup_s2, wup_o, wcp_o, li_2, li_3, li_4, li_5, li_6, li_7, e33, t_isOf, ht, qT_1, e4, hz, s0, s1, s2', ev, eo]
      generalize hwu : wup _ 21 5 _ = wu
      have eu1 : wu 3 1 = jn (hsM h) := by rw [← hwu]; simp (disch := omega) only [wup_o, e1]
      have eu16 : wu 16 = w 16 := by rw [← hwu]; simp (disch := omega) only [wup_o]
      rw [t_those (jn x) eu1 hM, bp_some, eu16, t_bitsOf _ (by omega), bp_some, ret_bd]
      generalize hwv : wup (wup wu 21 6 _) 21 7 _ = wv
      have f1 : Frm [21] [] w wv := by
        rw [← hwv, ← hwu]
        exact frm_wup (frm_wup (frm_wup (frm_wup (frm_wup (frm_wup (frm_wup (frm_wup frm_rf _ _ _ rfl) _ _ _ rfl) _ _ _ rfl) _ _ _ rfl) _ _ _ rfl) _ _ _ rfl) _ _ _ rfl) _ _ _ rfl
      have v1 : ∀ v, v < 8 → wv 21 v = sVals h c m v := by
        intro v hv
        rw [← hwv, ← hwu]
        have hc : v = 0 ∨ v = 1 ∨ v = 2 ∨ v = 3 ∨ v = 4 ∨ v = 5 ∨ v = 6 ∨ v = 7 := by omega
        rcases hc with rfl | rfl | rfl | rfl | rfl | rfl | rfl | rfl <;> simp (disch := omega) [wup_s, sVals, ex, jn_clamp, ev, eo, hs.2.2.2.1, hs.2.2.2.2, those_s hs]
      refine ret_mono (t_valueNow (MHs_fr hw f1 ⟨rfl, rfl, rfl, rfl, rfl, fun _ => rfl, fun _ => rfl, fun _ => rfl⟩) hh hz v1) (fun q hq => ?_)
      obtain ⟨r, w2⟩ := q
      obtain ⟨e, f2⟩ := hq
      simp only at e f2
      have fr : Frm [21, 22] [] w w2 := frm_tr (frm_up f1 rfl) (frm_up f2 rfl)
      rw [e]
      by_cases hp : 0 < stk (hsC h) (sVals h c m) (hsL h) 0
      · have hp' : ¬ stk (hsC h) (sVals h c m) (hsL h) 0 ≤ 0 := Int32.not_le.mpr hp
        simp only [K_M_getsUp_163, hp, hp', br_F, true_or, or_true, gd_T, ret_some, decide_true, if_true, true_and]
        exact fr
      · have hp' : stk (hsC h) (sVals h c m) (hsL h) 0 ≤ 0 := Int32.not_lt.mp hp
        simp only [K_M_getsUp_163, hp, hp', br_T, true_or, or_true, gd_T, ret_some, decide_false, Bool.false_eq_true, if_false, true_and]
        exact fr
theorem t_upNow {w : Wld} {h : Hs} {c : Sta} (hw : MHs w h) (hs : MSt w h c) (hh : GdH h) (hg : GdS h c) : Ret (F_M_upNow w) (fun q => q.1 = jn (sRis h c) ∧ Frm [21, 22] [] w q.2) := by
  have hM := hh.2.1
  rw [F_M_upNow, ret_bl]
  refine loop_inv (I := fun k s => s.1 = jn (nAll (sUp h c) k) ∧ s.2.1 = jn k ∧ Frm [21, 22] [] w s.2.2) (hsM h) ⟨rfl, rfl, frm_rf⟩ (fun k s hk hi => ?_) (fun s hi => ?_)
  · obtain ⟨a, i, w1⟩ := s
    obtain ⟨i1, i2, i3⟩ := hi
    simp only at i1 i2 i3
    subst i1 i2
    have e1 : w1 3 1 = jn (hsM h) := (i3 3 1 rfl).trans hw.2.1
    simp (disch := omega) only [B_M_upNow_4, ↓bi_eq, ↓bw_eq, gd_pos, br_pos, br_neg, br_T, br_F, gd_T, bp_some, bd_some, bv_some, bl_some, bx_inl, bx_inr, bn_none, bn_some, bt_inl, bt_inr, not_true_eq_false, not_false_eq_true, eq_self, Bool.false_eq_true, if_true, if_false, jn_clamp, jn_lt, jn_le, jn_inj, jn_add, jn_sub, jn_mul, jn_vp, jn_0a, jn_1a, jn_1b, jn_1s, jn_1m, jn_neg0, jn_le0, jn_0le, jn_0lt, jn_1le, jn_le1, jn_lt1, jn_1lt, jn_e0, jn_e1, jn_em, ↓qB_f, ↓qT_f, cl_0, cl_1, vp_0, vp_1, e1, ret_bd]
    refine ret_mono (t_getsUp (MHs_fr hw i3 ⟨rfl, rfl, rfl, rfl, rfl, fun _ => rfl, fun _ => rfl, fun _ => rfl⟩) (MSt_fr hs i3 ⟨fun _ => rfl, fun _ => rfl, fun _ => rfl, fun _ => rfl, fun _ => rfl, fun _ => rfl, rfl, rfl, rfl⟩) hh hg hk) (fun q hq => ?_)
    obtain ⟨r, w2⟩ := q
    obtain ⟨q1, q2⟩ := hq
    simp only at q1 q2
    rw [q1]
    by_cases hu : sUp h c k = true
    · simp (disch := omega) only [K_M_upNow_30, hu, ↓bi_eq, ↓bw_eq, gd_pos, br_pos, br_neg, br_T, br_F, gd_T, bp_some, bd_some, bv_some, bl_some, bx_inl, bx_inr, bn_none, bn_some, bt_inl, bt_inr, not_true_eq_false, not_false_eq_true, eq_self, Bool.false_eq_true, if_true, if_false, jn_clamp, jn_lt, jn_le, jn_inj, jn_add, jn_sub, jn_mul, jn_vp, jn_0a, jn_1a, jn_1b, jn_1s, jn_1m, jn_neg0, jn_le0, jn_0le, jn_0lt, jn_1le, jn_le1, jn_lt1, jn_1lt, jn_e0, jn_e1, jn_em, ↓qB_f, ↓qT_f, cl_0, cl_1, vp_0, vp_1, qB_jn, jn_or, ret_some, LQ_inl, nAll_s, true_and, (by decide : ((1 : Int32) = 0) = False)]
      exact frm_tr i3 q2
    · simp (disch := omega) only [K_M_upNow_30, hu, ↓bi_eq, ↓bw_eq, gd_pos, br_pos, br_neg, br_T, br_F, gd_T, bp_some, bd_some, bv_some, bl_some, bx_inl, bx_inr, bn_none, bn_some, bt_inl, bt_inr, not_true_eq_false, not_false_eq_true, eq_self, Bool.false_eq_true, if_true, if_false, jn_clamp, jn_lt, jn_le, jn_inj, jn_add, jn_sub, jn_mul, jn_vp, jn_0a, jn_1a, jn_1b, jn_1s, jn_1m, jn_neg0, jn_le0, jn_0le, jn_0lt, jn_1le, jn_le1, jn_lt1, jn_1lt, jn_e0, jn_e1, jn_em, ↓qB_f, ↓qT_f, cl_0, cl_1, vp_0, vp_1, Int32.or_zero, ret_some, LQ_inl, nAll_s, true_and]
      exact frm_tr i3 q2
  · obtain ⟨a, i, w1⟩ := s
    obtain ⟨i1, i2, i3⟩ := hi
    simp only at i1 i2 i3
    subst i1 i2
    have e1 : w1 3 1 = jn (hsM h) := (i3 3 1 rfl).trans hw.2.1
    simp (disch := omega) only [B_M_upNow_4, ↓bi_eq, ↓bw_eq, gd_pos, br_pos, br_neg, br_T, br_F, gd_T, bp_some, bd_some, bv_some, bl_some, bx_inl, bx_inr, bn_none, bn_some, bt_inl, bt_inr, not_true_eq_false, not_false_eq_true, eq_self, Bool.false_eq_true, if_true, if_false, jn_clamp, jn_lt, jn_le, jn_inj, jn_add, jn_sub, jn_mul, jn_vp, jn_0a, jn_1a, jn_1b, jn_1s, jn_1m, jn_neg0, jn_le0, jn_0le, jn_0lt, jn_1le, jn_le1, jn_lt1, jn_1lt, jn_e0, jn_e1, jn_em, ↓qB_f, ↓qT_f, cl_0, cl_1, vp_0, vp_1, e1, br_pos (Nat.le_refl (hsM h)), ret_some, LQ_inr]
    exact ⟨rfl, i3⟩
theorem pow_m1 : ∀ n, n < 10 → qB n - 1 = jn (2 ^ n - 1) := by decide +kernel
theorem t_everybody {w : Wld} {n : Nat} (e1 : w 3 1 = jn n) (hn : n ≤ 8) : F_M_everybody w = some (jn (2 ^ n - 1)) := by
  simp (disch := omega) only [F_M_everybody, ↓bi_eq, ↓bw_eq, gd_pos, br_pos, br_neg, br_T, br_F, gd_T, bp_some, bd_some, bv_some, bl_some, bx_inl, bx_inr, bn_none, bn_some, bt_inl, bt_inr, not_true_eq_false, not_false_eq_true, eq_self, Bool.false_eq_true, if_true, if_false, cl_1, vp_1, e1, qB_f, pow_m1]
theorem t_voicesOf {w : Wld} {h : Hs} {a : Nat} (hw : MHs w h) (hh : GdH h) (ha : a < 512) : F_M_voicesOf w (jn a) = some (jn (sVoi h (fun m => a.testBit m))) := by
  have hM := hh.2.1
  have e1 := hw.2.1
  have key : loop (B_M_voicesOf_4 (jn a) w) (0, 0) = some (jn (sVoiJ h (fun m => a.testBit m) (hsM h))) := by
    refine loop_for (V := fun k => (jn (sVoiJ h (fun m => a.testBit m) k), jn k)) (hsM h) (fun k hk => ?_) ?_
    · have es : sVoiJ h (fun m => a.testBit m) (k + 1) = if a.testBit k = true then sVoiJ h (fun m => a.testBit m) k ||| 2 ^ (hsO h k).toNatClampNeg else sVoiJ h (fun m => a.testBit m) k := rfl
      rw [es]
      have eo := hw.2.2.2.2.2.2.1 k hk
      obtain ⟨x, hx, ex⟩ := hh.2.2.2.1 k hk
      rw [ex] at eo ⊢
      by_cases hc : a.testBit k = true
      · simp (disch := omega) only [B_M_voicesOf_4, K_M_voicesOf_35, ↓bi_eq, ↓bw_eq, gd_pos, br_pos, br_neg, br_T, br_F, gd_T, bp_some, bd_some, bv_some, bl_some, bx_inl, bx_inr, bn_none, bn_some, bt_inl, bt_inr, not_true_eq_false, not_false_eq_true, eq_self, Bool.false_eq_true, if_true, if_false, jn_clamp, jn_lt, jn_le, jn_inj, jn_add, jn_sub, jn_mul, jn_vp, jn_0a, jn_1a, jn_1b, jn_1s, jn_1m, jn_neg0, jn_le0, jn_0le, jn_0lt, jn_1le, jn_le1, jn_lt1, jn_1lt, jn_e0, jn_e1, jn_em, ↓qB_f, ↓qT_f, cl_0, cl_1, vp_0, vp_1, e1, t_isOf, hc, eo, qB_jn, jn_or, (by decide : ((1 : Int32) = 0) = False)]
      · simp (disch := omega) only [B_M_voicesOf_4, K_M_voicesOf_35, ↓bi_eq, ↓bw_eq, gd_pos, br_pos, br_neg, br_T, br_F, gd_T, bp_some, bd_some, bv_some, bl_some, bx_inl, bx_inr, bn_none, bn_some, bt_inl, bt_inr, not_true_eq_false, not_false_eq_true, eq_self, Bool.false_eq_true, if_true, if_false, jn_clamp, jn_lt, jn_le, jn_inj, jn_add, jn_sub, jn_mul, jn_vp, jn_0a, jn_1a, jn_1b, jn_1s, jn_1m, jn_neg0, jn_le0, jn_0le, jn_0lt, jn_1le, jn_le1, jn_lt1, jn_1lt, jn_e0, jn_e1, jn_em, ↓qB_f, ↓qT_f, cl_0, cl_1, vp_0, vp_1, e1, t_isOf, hc, Int32.or_zero]
    · simp (disch := omega) only [B_M_voicesOf_4, ↓bi_eq, ↓bw_eq, gd_pos, br_pos, br_neg, br_T, br_F, gd_T, bp_some, bd_some, bv_some, bl_some, bx_inl, bx_inr, bn_none, bn_some, bt_inl, bt_inr, not_true_eq_false, not_false_eq_true, eq_self, Bool.false_eq_true, if_true, if_false, jn_clamp, jn_lt, jn_le, jn_inj, jn_add, jn_sub, jn_mul, jn_vp, jn_0a, jn_1a, jn_1b, jn_1s, jn_1m, jn_neg0, jn_le0, jn_0le, jn_0lt, jn_1le, jn_le1, jn_lt1, jn_1lt, jn_e0, jn_e1, jn_em, ↓qB_f, ↓qT_f, cl_0, cl_1, vp_0, vp_1, e1, br_pos (Nat.le_refl (hsM h))]
  rw [F_M_voicesOf, key]; rfl
/-- what the model has of the night that began with c -/
def MSeen (w : Wld) (h : Hs) (c : Sta) : Prop := w 0 38 = sMat h c ∧ w 0 39 = jn (sShort h c) ∧ w 0 40 = jn (sLon h c) ∧ ∀ v, v < 100 → w 23 v = sSung h c v
def INa (h : Hs) (c : Sta) (w : Wld) (k : Nat) (s : Int32 × Wld) : Prop := s.1 = jn k ∧ Frm [17, 23] [(0, 38), (0, 40)] w s.2 ∧ s.2 0 38 = sMatJ h c k ∧ s.2 0 40 = jn (nAll (sLonP h c) k) ∧ (∀ v, v < 100 → s.2 23 v = sSungJ h c v k) ∧ ∀ m, m < hsM h → s.2 17 m = sPasJ h c k (24 + m)
theorem t_aNightA {w : Wld} {h : Hs} {c : Sta} (hw : MHs w h) (hs : MSt w h c) (hh : GdH h) (hg : GdS h c) {k : Nat} (hk : k < hsM h) (s : Int32 × Wld) (hi : INa h c w k s) {P : Wld → Prop} : Ret (B_M_aNight_38 (jn (sRis h c)) s) (LQ (INa h c w (k + 1)) P) := by
  have hN := hh.1
  have hM := hh.2.1
  have hR := sRis_lt hh c
  have k8 : k < 8 := by omega
  obtain ⟨i, w1⟩ := s
  obtain ⟨i1, i2, i3, i4, i5, i6⟩ := hi
  simp only at i1 i2 i3 i4 i5 i6
  subst i1
  have e1 : w1 3 1 = jn (hsM h) := (i2 3 1 rfl).trans hw.2.1
  obtain ⟨x, hx, ex⟩ := hg.1 k hk
  obtain ⟨v, hv, ev⟩ := hh.2.2.1 x hx
  have e16 : w1 16 k = jn x := (i2 16 k rfl).trans ((hs.1 k hk).2.2.1.trans ex)
  have e4 : w1 4 x = jn v := (i2 4 x rfl).trans ((hw.2.2.2.2.2.1 x hx).trans ev)
  have e17 : w1 17 k = c (24 + k) := (i6 k hk).trans (sPasJ_d h c k8 (Nat.le_refl k))
  have hbit : (sRis h c).testBit k = sUp h c k := by rw [sRis, nAll_bit]; simp [hk]
  have hth : nAll (fun m => decide (w1 16 m = jn x)) (hsM h) = sThose h c (jn x) := nAll_congr (fun m hm => by rw [i2 16 m rfl, (hs.1 m hm).2.2.1])
  have hand : sRis h c &&& sThose h c (jn x) = sSing h c (jn x) := nAll_and _ _ _
  by_cases hu : sUp h c k = true
  · have hm1 : sMatJ h c (k + 1) = sMatJ h c k + jn v := by
      show (if sUp h c k = true then sMatJ h c k + hsV h (c (16 + k)).toNatClampNeg else sMatJ h c k) = _
      rw [if_pos hu, ex, jn_clamp (by omega), ev]
    have hsj : ∀ u, sSungJ h c u (k + 1) = if jn v = jn u then sSungJ h c u k + 1 else sSungJ h c u k := by
      intro u
      show (if sUp h c k = true ∧ hsV h (c (16 + k)).toNatClampNeg = jn u then sSungJ h c u k + 1 else sSungJ h c u k) = _
      rw [ex, jn_clamp (by omega), ev]
      simp only [hu, true_and]
    have h5 := i5 v hv
    have hlt : clr (sSing h c (jn x)) k < 256 := Nat.lt_of_le_of_lt (clr_le _ _) (sSing_lt hh c _)
    have hmet : ∀ (w2 : Wld) (m : Nat), m < hsM h → w2 17 = w1 17 → wup w2 17 k (c (24 + k) ||| jn (clr (sSing h c (jn x)) k)) 17 m = sPasJ h c (k + 1) (24 + m) := by
      intro w2 m hm he
      by_cases hmk : m = k
      · subst hmk
        rw [wup_s1, sPasJ_d1 h c k8 (by omega), if_pos hu, ex]
      · rw [wup_s2 _ _ _ hmk, he, i6 m hm, sPasJ_ot h c (by omega) (by omega) (by omega) (by omega)]
    by_cases hl : clr (sSing h c (jn x)) k = 0
    · simp (disch := omega) only [B_M_aNight_38, ↓bi_eq, ↓bw_eq, gd_pos, br_pos, br_neg, br_T, br_F, gd_T, bp_some, bd_some, bv_some, bl_some, bx_inl, bx_inr, bn_none, bn_some, bt_inl, bt_inr, not_true_eq_false, not_false_eq_true, eq_self, Bool.false_eq_true, if_true, if_false, jn_clamp, jn_lt, jn_le, jn_inj, jn_add, jn_sub, jn_mul, jn_vp, jn_0a, jn_1a, jn_1b, jn_1s, jn_1m, jn_neg0, jn_le0, jn_0le, jn_0lt, jn_1le, jn_le1, jn_lt1, jn_1lt, jn_e0, jn_e1, jn_em, ↓qB_f, ↓qT_f, cl_0, cl_1, vp_0, vp_1, wup_s1, wup_s2, wup_o, wcp_o, e1, t_isOf, hbit, hu, e16, e4, i3, h5, (by decide : ((1 : Int32) = 0) = False)]
      rw [t_those (w := wup (wup w1 0 38 (sMatJ h c k + jn v)) 23 v (sSungJ h c v k + 1)) (jn x) (by simp (disch := omega) only [wup_o, e1]) hM]
      simp (disch := omega) only [K_M_aNight_144, K_M_aNight_148, ↓bi_eq, ↓bw_eq, gd_pos, br_pos, br_neg, br_T, br_F, gd_T, bp_some, bd_some, bv_some, bl_some, bx_inl, bx_inr, bn_none, bn_some, bt_inl, bt_inr, not_true_eq_false, not_false_eq_true, eq_self, Bool.false_eq_true, if_true, if_false, jn_clamp, jn_lt, jn_le, jn_inj, jn_add, jn_sub, jn_mul, jn_vp, jn_0a, jn_1a, jn_1b, jn_1s, jn_1m, jn_neg0, jn_le0, jn_0le, jn_0lt, jn_1le, jn_le1, jn_lt1, jn_1lt, jn_e0, jn_e1, jn_em, ↓qB_f, ↓qT_f, cl_0, cl_1, vp_0, vp_1, wup_s1, wup_s2, wup_o, wcp_o, i4, hth, jn_and, hand, jn_clr, jn_clr2, hl, e17, qB_jn, jn_or, ret_some, LQ_inl]
      refine ⟨rfl, frm_wup (frm_wup (frm_wup (frm_wup i2 _ _ _ rfl) _ _ _ rfl) _ _ _ rfl) _ _ _ rfl, ?_, ?_, fun u hu9 => ?_, fun m hm => ?_⟩
      · simp (disch := omega) only [wup_s1, wup_s2, wup_o, wcp_o, hm1]
      · simp (disch := omega) only [wup_s1, wup_s2, wup_o, wcp_o, nAll_s, sLonP, hu, ex, hl, decide_true, Bool.and_true, if_true]
      · rw [hsj u]
        simp (disch := omega) only [wup_o, wup_s, i5 u hu9, jn_inj]
        by_cases h9 : u = v
        · subst h9; simp only [if_true]
        · rw [if_neg h9, if_neg (Ne.symm h9)]
      · simp (disch := omega) only [wup_o]
        rw [← hl]
        exact hmet _ m hm (by simp (disch := omega) only [wup_o])
    · simp (disch := omega) only [B_M_aNight_38, ↓bi_eq, ↓bw_eq, gd_pos, br_pos, br_neg, br_T, br_F, gd_T, bp_some, bd_some, bv_some, bl_some, bx_inl, bx_inr, bn_none, bn_some, bt_inl, bt_inr, not_true_eq_false, not_false_eq_true, eq_self, Bool.false_eq_true, if_true, if_false, jn_clamp, jn_lt, jn_le, jn_inj, jn_add, jn_sub, jn_mul, jn_vp, jn_0a, jn_1a, jn_1b, jn_1s, jn_1m, jn_neg0, jn_le0, jn_0le, jn_0lt, jn_1le, jn_le1, jn_lt1, jn_1lt, jn_e0, jn_e1, jn_em, ↓qB_f, ↓qT_f, cl_0, cl_1, vp_0, vp_1, wup_s1, wup_s2, wup_o, wcp_o, e1, t_isOf, hbit, hu, e16, e4, i3, h5, (by decide : ((1 : Int32) = 0) = False)]
      rw [t_those (w := wup (wup w1 0 38 (sMatJ h c k + jn v)) 23 v (sSungJ h c v k + 1)) (jn x) (by simp (disch := omega) only [wup_o, e1]) hM]
      simp (disch := omega) only [K_M_aNight_144, K_M_aNight_148, ↓bi_eq, ↓bw_eq, gd_pos, br_pos, br_neg, br_T, br_F, gd_T, bp_some, bd_some, bv_some, bl_some, bx_inl, bx_inr, bn_none, bn_some, bt_inl, bt_inr, not_true_eq_false, not_false_eq_true, eq_self, Bool.false_eq_true, if_true, if_false, jn_clamp, jn_lt, jn_le, jn_inj, jn_add, jn_sub, jn_mul, jn_vp, jn_0a, jn_1a, jn_1b, jn_1s, jn_1m, jn_neg0, jn_le0, jn_0le, jn_0lt, jn_1le, jn_le1, jn_lt1, jn_1lt, jn_e0, jn_e1, jn_em, ↓qB_f, ↓qT_f, cl_0, cl_1, vp_0, vp_1, wup_s1, wup_s2, wup_o, wcp_o, i4, hth, jn_and, hand, jn_clr, hl, e17, Int32.or_zero, ret_some, LQ_inl]
      refine ⟨rfl, frm_wup (frm_wup (frm_wup (frm_wup i2 _ _ _ rfl) _ _ _ rfl) _ _ _ rfl) _ _ _ rfl, ?_, ?_, fun u hu9 => ?_, fun m hm => ?_⟩
      · simp (disch := omega) only [wup_s1, wup_s2, wup_o, wcp_o, hm1]
      · simp (disch := omega) only [wup_s1, wup_s2, wup_o, wcp_o, nAll_s, sLonP, hu, ex, hl, decide_false, Bool.and_false, Bool.false_eq_true, if_false]
      · rw [hsj u]
        simp (disch := omega) only [wup_o, wup_s, i5 u hu9, jn_inj]
        by_cases h9 : u = v
        · subst h9; simp only [if_true]
        · rw [if_neg h9, if_neg (Ne.symm h9)]
      · simp (disch := omega) only [wup_o]
        exact hmet _ m hm (by simp (disch := omega) only [wup_o])
  · simp (disch := omega) only [B_M_aNight_38, K_M_aNight_148, ↓bi_eq, ↓bw_eq, gd_pos, br_pos, br_neg, br_T, br_F, gd_T, bp_some, bd_some, bv_some, bl_some, bx_inl, bx_inr, bn_none, bn_some, bt_inl, bt_inr, not_true_eq_false, not_false_eq_true, eq_self, Bool.false_eq_true, if_true, if_false, jn_clamp, jn_lt, jn_le, jn_inj, jn_add, jn_sub, jn_mul, jn_vp, jn_0a, jn_1a, jn_1b, jn_1s, jn_1m, jn_neg0, jn_le0, jn_0le, jn_0lt, jn_1le, jn_le1, jn_lt1, jn_1lt, jn_e0, jn_e1, jn_em, ↓qB_f, ↓qT_f, cl_0, cl_1, vp_0, vp_1, e1, t_isOf, hbit, hu, ret_some, LQ_inl]
    refine ⟨rfl, i2, ?_, ?_, fun u hu9 => ?_, fun m hm => ?_⟩
    · show w1 0 38 = (if sUp h c k = true then sMatJ h c k + hsV h (c (16 + k)).toNatClampNeg else sMatJ h c k)
      rw [if_neg hu, i3]
    · show w1 0 40 = _
      rw [i4, nAll_s]
      simp only [sLonP, hu, Bool.false_and, Bool.false_eq_true, if_false]
    · show w1 23 u = (if sUp h c k = true ∧ hsV h (c (16 + k)).toNatClampNeg = jn u then sSungJ h c u k + 1 else sSungJ h c u k)
      rw [if_neg (fun z => hu z.1), i5 u hu9]
    · show w1 17 m = _
      rw [i6 m hm]
      by_cases hmk : m = k
      · subst hmk
        rw [sPasJ_d1 (k := m + 1) h c k8 (by omega), if_neg hu, sPasJ_d h c k8 (Nat.le_refl m)]
      · rw [sPasJ_ot h c (by omega) (by omega) (by omega) (by omega)]

def INb (h : Hs) (c : Sta) (w : Wld) (k : Nat) (s : Int32 × Wld) : Prop := s.1 = jn k ∧ Frm [14, 15, 16] [] w s.2 ∧ ∀ m, m < hsM h → s.2 14 m = sPasJ h c k m ∧ s.2 15 m = sPasJ h c k (8 + m) ∧ s.2 16 m = sPasJ h c k (16 + m)
theorem t_aNightB {w : Wld} {h : Hs} {c : Sta} (hw : MHs w h) (hd : ∀ r, r < hsN h → w 18 r = c (32 + r) ∧ w 19 r = c (41 + r)) (hh : GdH h) (hg : GdS h c) {k : Nat} (hk : k < hsM h) (s : Int32 × Wld) (hi : INb h c w k s) {P : Wld → Prop} : Ret (B_M_aNight_176 (jn (sRis h c)) s) (LQ (INb h c w (k + 1)) P) := by
  have hN := hh.1
  have hM := hh.2.1
  have hR := sRis_lt hh c
  have k8 : k < 8 := by omega
  obtain ⟨i, w1⟩ := s
  obtain ⟨i1, i2, i3⟩ := hi
  simp only at i1 i2 i3
  subst i1
  have e1 : w1 3 1 = jn (hsM h) := (i2 3 1 rfl).trans hw.2.1
  have e2 : w1 3 2 = hsT h := (i2 3 2 rfl).trans hw.2.2.1
  have e3 : w1 3 3 = hsR h := (i2 3 3 rfl).trans hw.2.2.2.1
  obtain ⟨x, hx, ex⟩ := hg.1 k hk
  obtain ⟨a1, a2, a3⟩ := i3 k hk
  rw [sPasJ_a h c k8 (Nat.le_refl k)] at a1
  rw [sPasJ_b h c k8 (Nat.le_refl k)] at a2
  rw [sPasJ_c h c k8 (Nat.le_refl k), ex] at a3
  have e18 : w1 18 x = c (32 + x) := (i2 18 x rfl).trans (hd x hx).1
  have e19 : w1 19 x = c (41 + x) := (i2 19 x rfl).trans (hd x hx).2
  have hbit : (sRis h c).testBit k = sUp h c k := by rw [sRis, nAll_bit]; simp [hk]
  have hot : ∀ m, m < hsM h → m ≠ k → w1 14 m = sPasJ h c (k + 1) m ∧ w1 15 m = sPasJ h c (k + 1) (8 + m) ∧ w1 16 m = sPasJ h c (k + 1) (16 + m) := by
    intro m hm hne
    rw [sPasJ_ot h c (by omega) (by omega) (by omega) (by omega), sPasJ_ot h c (by omega) (by omega) (by omega) (by omega), sPasJ_ot h c (by omega) (by omega) (by omega) (by omega)]
    exact i3 m hm
  have b1 := sPasJ_a1 (k := k + 1) h c k8 (Nat.lt_succ_self k)
  have b2 := sPasJ_b1 (k := k + 1) h c k8 (Nat.lt_succ_self k)
  have b3 := sPasJ_c1 (k := k + 1) h c k8 (Nat.lt_succ_self k)
  rw [ex, jn_clamp (by omega)] at b3
  by_cases hu : sUp h c k = true
  · rw [if_pos hu] at b1 b3
    by_cases hf : c (8 + k) ≤ 0
    · rw [if_neg (Int32.not_lt.mpr hf)] at b3
      simp (disch := omega) only [B_M_aNight_176, K_M_aNight_256, K_M_aNight_284, ↓bi_eq, ↓bw_eq, gd_pos, br_pos, br_neg, br_T, br_F, gd_T, bp_some, bd_some, bv_some, bl_some, bx_inl, bx_inr, bn_none, bn_some, bt_inl, bt_inr, not_true_eq_false, not_false_eq_true, eq_self, Bool.false_eq_true, if_true, if_false, jn_clamp, jn_lt, jn_le, jn_inj, jn_add, jn_sub, jn_mul, jn_vp, jn_0a, jn_1a, jn_1b, jn_1s, jn_1m, jn_neg0, jn_le0, jn_0le, jn_0lt, jn_1le, jn_le1, jn_lt1, jn_1lt, jn_e0, jn_e1, jn_em, ↓qB_f, ↓qT_f, cl_0, cl_1, vp_0, vp_1, wup_s1, wup_s2, wup_o, wcp_o, li_2, e1, e2, t_isOf, hbit, hu, a1, a2, a3, hf, e18, ret_some, LQ_inl, (by decide : ((1 : Int32) = 0) = False)]
      refine ⟨rfl, frm_wup (frm_wup (frm_wup i2 _ _ _ rfl) _ _ _ rfl) _ _ _ rfl, fun m hm => ?_⟩
      by_cases hmk : m = k
      · subst hmk
        simp (disch := omega) only [wup_s1, wup_s2, wup_o, wcp_o, b1, b2, b3, and_self]
      · simp (disch := omega) only [wup_s1, wup_s2, wup_o, wcp_o]
        exact hot m hm hmk
    · rw [if_pos (Int32.not_le.mp hf)] at b3
      simp (disch := omega) only [B_M_aNight_176, K_M_aNight_256, K_M_aNight_284, ↓bi_eq, ↓bw_eq, gd_pos, br_pos, br_neg, br_T, br_F, gd_T, bp_some, bd_some, bv_some, bl_some, bx_inl, bx_inr, bn_none, bn_some, bt_inl, bt_inr, not_true_eq_false, not_false_eq_true, eq_self, Bool.false_eq_true, if_true, if_false, jn_clamp, jn_lt, jn_le, jn_inj, jn_add, jn_sub, jn_mul, jn_vp, jn_0a, jn_1a, jn_1b, jn_1s, jn_1m, jn_neg0, jn_le0, jn_0le, jn_0lt, jn_1le, jn_le1, jn_lt1, jn_1lt, jn_e0, jn_e1, jn_em, ↓qB_f, ↓qT_f, cl_0, cl_1, vp_0, vp_1, wup_s1, wup_s2, wup_o, wcp_o, li_2, e1, e2, t_isOf, hbit, hu, a1, a2, a3, hf, e19, ret_some, LQ_inl, (by decide : ((1 : Int32) = 0) = False)]
      refine ⟨rfl, frm_wup (frm_wup (frm_wup i2 _ _ _ rfl) _ _ _ rfl) _ _ _ rfl, fun m hm => ?_⟩
      by_cases hmk : m = k
      · subst hmk
        simp (disch := omega) only [wup_s1, wup_s2, wup_o, wcp_o, b1, b2, b3, and_self]
      · simp (disch := omega) only [wup_s1, wup_s2, wup_o, wcp_o]
        exact hot m hm hmk
  · rw [if_neg hu] at b1 b3
    simp (disch := omega) only [B_M_aNight_176, K_M_aNight_284, ↓bi_eq, ↓bw_eq, gd_pos, br_pos, br_neg, br_T, br_F, gd_T, bp_some, bd_some, bv_some, bl_some, bx_inl, bx_inr, bn_none, bn_some, bt_inl, bt_inr, not_true_eq_false, not_false_eq_true, eq_self, Bool.false_eq_true, if_true, if_false, jn_clamp, jn_lt, jn_le, jn_inj, jn_add, jn_sub, jn_mul, jn_vp, jn_0a, jn_1a, jn_1b, jn_1s, jn_1m, jn_neg0, jn_le0, jn_0le, jn_0lt, jn_1le, jn_le1, jn_lt1, jn_1lt, jn_e0, jn_e1, jn_em, ↓qB_f, ↓qT_f, cl_0, cl_1, vp_0, vp_1, wup_s1, wup_s2, wup_o, wcp_o, li_3, e1, e3, t_isOf, hbit, hu, a1, a2, ret_some, LQ_inl]
    refine ⟨rfl, frm_wup (frm_wup i2 _ _ _ rfl) _ _ _ rfl, fun m hm => ?_⟩
    by_cases hmk : m = k
    · subst hmk
      simp (disch := omega) only [wup_s1, wup_s2, wup_o, wcp_o, b1, b2, b3, a3, ex, and_self]
    · simp (disch := omega) only [wup_s1, wup_s2, wup_o, wcp_o]
      exact hot m hm hmk
theorem t_aNight {w : Wld} {h : Hs} {c : Sta} (hw : MHs w h) (hs : MSt w h c) (hh : GdH h) (hg : GdS h c) : Ret (F_M_aNight w) (fun w' => Frm [14, 15, 16, 17, 21, 22, 23] [(0, 31), (0, 32), (0, 38), (0, 39), (0, 40)] w w' ∧ MSt w' h (sPass h c) ∧ MSeen w' h c) := by
  have hN := hh.1
  have hM := hh.2.1
  have hR := sRis_lt hh c
  rw [F_M_aNight, ret_bd]
  refine ret_mono (t_upNow hw hs hh hg) (fun q hq => ?_)
  obtain ⟨r, w1⟩ := q
  obtain ⟨q1, f1⟩ := hq
  simp only at q1 f1
  subst q1
  simp only [bw_eq, ret_bl]
  -- the row of what is sung, empty
  refine ret_mono (P := fun w2 => Frm [21, 22, 23] [(0, 38), (0, 40)] w w2 ∧ w2 0 38 = 0 ∧ w2 0 40 = 0 ∧ ∀ v, v < 100 → w2 23 v = 0) ?_ (fun w2 hq => ?_)
  · refine loop_inv (I := fun k s => s.1 = jn k ∧ Frm [21, 22, 23] [(0, 38), (0, 40)] w s.2 ∧ s.2 0 38 = 0 ∧ s.2 0 40 = 0 ∧ ∀ v, v < k → s.2 23 v = 0) 100 ⟨rfl, frm_wup (frm_wup (frm_up f1 rfl) _ _ _ rfl) _ _ _ rfl, ?_, ?_, fun v hv => absurd hv (Nat.not_lt_zero v)⟩ (fun k s hk hi => ?_) (fun s hi => ?_)
    · simp (disch := omega) only [wup_s1, wup_s2, wup_o, wcp_o]
    · simp (disch := omega) only [wup_s1, wup_s2, wup_o, wcp_o]
    · obtain ⟨i, w3⟩ := s
      obtain ⟨i1, i2, i3, i4, i5⟩ := hi
      simp only at i1 i2 i3 i4 i5
      subst i1
      simp (disch := omega) only [B_M_aNight_17, ↓bi_eq, ↓bw_eq, gd_pos, br_pos, br_neg, br_T, br_F, gd_T, bp_some, bd_some, bv_some, bl_some, bx_inl, bx_inr, bn_none, bn_some, bt_inl, bt_inr, not_true_eq_false, not_false_eq_true, eq_self, Bool.false_eq_true, if_true, if_false, jn_clamp, jn_lt, jn_le, jn_inj, jn_add, jn_sub, jn_mul, jn_vp, jn_0a, jn_1a, jn_1b, jn_1s, jn_1m, jn_neg0, jn_le0, jn_0le, jn_0lt, jn_1le, jn_le1, jn_lt1, jn_1lt, jn_e0, jn_e1, jn_em, ↓qB_f, ↓qT_f, cl_0, cl_1, vp_0, vp_1, li_99, ret_some, LQ_inl]
      refine ⟨trivial, frm_wup i2 _ _ _ rfl, ?_, ?_, fun v hv => ?_⟩
      · simp (disch := omega) only [wup_s1, wup_s2, wup_o, wcp_o, i3]
      · simp (disch := omega) only [wup_s1, wup_s2, wup_o, wcp_o, i4]
      · simp only [wup_s]
        by_cases hvk : v = k
        · rw [if_pos hvk]
        · rw [if_neg hvk]; exact i5 v (by omega)
    · obtain ⟨i, w3⟩ := s
      obtain ⟨i1, i2, i3, i4, i5⟩ := hi
      simp only at i1 i2 i3 i4 i5
      subst i1
      simp (disch := omega) only [B_M_aNight_17, ↓bi_eq, ↓bw_eq, gd_pos, br_pos, br_neg, br_T, br_F, gd_T, bp_some, bd_some, bv_some, bl_some, bx_inl, bx_inr, bn_none, bn_some, bt_inl, bt_inr, not_true_eq_false, not_false_eq_true, eq_self, Bool.false_eq_true, if_true, if_false, jn_clamp, jn_lt, jn_le, jn_inj, jn_add, jn_sub, jn_mul, jn_vp, jn_0a, jn_1a, jn_1b, jn_1s, jn_1m, jn_neg0, jn_le0, jn_0le, jn_0lt, jn_1le, jn_le1, jn_lt1, jn_1lt, jn_e0, jn_e1, jn_em, ↓qB_f, ↓qT_f, cl_0, cl_1, vp_0, vp_1, li_99, ret_some, LQ_inr]
      exact ⟨i2, i3, i4, i5⟩
  obtain ⟨f2, z1, z2, z3⟩ := hq
  have hw2 : MHs w2 h := MHs_fr hw f2 ⟨rfl, rfl, rfl, rfl, rfl, fun _ => rfl, fun _ => rfl, fun _ => rfl⟩
  have hs2 : MSt w2 h c := MSt_fr hs f2 ⟨fun _ => rfl, fun _ => rfl, fun _ => rfl, fun _ => rfl, fun _ => rfl, fun _ => rfl, rfl, rfl, rfl⟩
  refine ret_mono (P := fun w3 => INa h c w2 (hsM h) (jn (hsM h), w3)) ?_ (fun w3 hq => ?_)
  · refine loop_inv (I := INa h c w2) (hsM h) ⟨rfl, frm_rf, z1, z2, z3, fun m hm => ?_⟩ (fun k s hk hi => t_aNightA hw2 hs2 hh hg hk s hi) (fun s hi => ?_)
    · rw [sPasJ_0]; exact (hs2.1 m hm).2.2.2
    · obtain ⟨i, w3⟩ := s
      have i1 := hi.1
      have i2 := hi.2.1
      simp only at i1 i2
      subst i1
      have e1 : w3 3 1 = jn (hsM h) := (i2 3 1 rfl).trans hw2.2.1
      simp (disch := omega) only [B_M_aNight_38, ↓bi_eq, ↓bw_eq, gd_pos, br_pos, br_neg, br_T, br_F, gd_T, bp_some, bd_some, bv_some, bl_some, bx_inl, bx_inr, bn_none, bn_some, bt_inl, bt_inr, not_true_eq_false, not_false_eq_true, eq_self, Bool.false_eq_true, if_true, if_false, jn_clamp, jn_lt, jn_le, jn_inj, jn_add, jn_sub, jn_mul, jn_vp, jn_0a, jn_1a, jn_1b, jn_1s, jn_1m, jn_neg0, jn_le0, jn_0le, jn_0lt, jn_1le, jn_le1, jn_lt1, jn_1lt, jn_e0, jn_e1, jn_em, ↓qB_f, ↓qT_f, cl_0, cl_1, vp_0, vp_1, e1, br_pos (Nat.le_refl (hsM h)), ret_some, LQ_inr]
      exact hi
  obtain ⟨-, f3, m1, m2, m3, m4⟩ := hq
  simp only at f3 m1 m2 m3 m4
  have hw3 : MHs w3 h := MHs_fr hw2 f3 ⟨rfl, rfl, rfl, rfl, rfl, fun _ => rfl, fun _ => rfl, fun _ => rfl⟩
  have e1 : w3 3 1 = jn (hsM h) := hw3.2.1
  have hp9 : 2 ^ hsM h - 1 < 512 := by
    have := pow_le (n := hsM h) (k := 8) hM
    omega
  have ev1 : sVoi h (fun m => (2 ^ hsM h - 1).testBit m) = sAllV h := sVoi_congr (fun m hm => by rw [Nat.testBit_two_pow_sub_one]; simp [hm])
  have ev2 : sVoi h (fun m => (sRis h c).testBit m) = sVoi h (sUp h c) := sVoi_congr (fun m hm => by rw [sRis, nAll_bit]; simp [hm])
  rw [t_everybody e1 hM, bp_some, t_voicesOf hw3 hh hp9, bp_some, t_voicesOf hw3 hh (by omega), bp_some, ev1, ev2, jn_m1, jn_xor, jn_and]
  have hsh : sAllV h &&& (sVoi h (sUp h c) ^^^ 4294967295) = sShort h c := rfl
  rw [hsh, ret_bl]
  generalize hw4 : wup w3 0 39 (jn (sShort h c)) = w4
  have f4 : Frm [17, 21, 22, 23] [(0, 38), (0, 39), (0, 40)] w w4 := by
    rw [← hw4]
    exact frm_wup (frm_tr (frm_up f2 rfl) (frm_up f3 rfl)) _ _ _ rfl
  have hw4h : MHs w4 h := MHs_fr hw f4 ⟨rfl, rfl, rfl, rfl, rfl, fun _ => rfl, fun _ => rfl, fun _ => rfl⟩
  refine ret_mono (P := fun w5 => INb h c w4 (hsM h) (jn (hsM h), w5)) ?_ (fun w5 hq => ?_)
  · refine loop_inv (I := INb h c w4) (hsM h) ⟨rfl, frm_rf, fun m hm => ?_⟩ (fun k s hk hi => t_aNightB hw4h (fun r hr => ?_) hh hg hk s hi) (fun s hi => ?_)
    · rw [sPasJ_0]
      obtain ⟨b0, b1, b2, b3⟩ := hs.1 m hm
      exact ⟨(f4 14 m rfl).trans b0, (f4 15 m rfl).trans b1, (f4 16 m rfl).trans b2⟩
    · obtain ⟨b0, b1⟩ := hs.2.1 r hr
      exact ⟨(f4 18 r rfl).trans b0, (f4 19 r rfl).trans b1⟩
    · obtain ⟨i, w5⟩ := s
      have i1 := hi.1
      have i2 := hi.2.1
      simp only at i1 i2
      subst i1
      have e1 : w5 3 1 = jn (hsM h) := (i2 3 1 rfl).trans hw4h.2.1
      simp (disch := omega) only [B_M_aNight_176, ↓bi_eq, ↓bw_eq, gd_pos, br_pos, br_neg, br_T, br_F, gd_T, bp_some, bd_some, bv_some, bl_some, bx_inl, bx_inr, bn_none, bn_some, bt_inl, bt_inr, not_true_eq_false, not_false_eq_true, eq_self, Bool.false_eq_true, if_true, if_false, jn_clamp, jn_lt, jn_le, jn_inj, jn_add, jn_sub, jn_mul, jn_vp, jn_0a, jn_1a, jn_1b, jn_1s, jn_1m, jn_neg0, jn_le0, jn_0le, jn_0lt, jn_1le, jn_le1, jn_lt1, jn_1lt, jn_e0, jn_e1, jn_em, ↓qB_f, ↓qT_f, cl_0, cl_1, vp_0, vp_1, e1, br_pos (Nat.le_refl (hsM h)), ret_some, LQ_inr]
      exact hi
  obtain ⟨-, f5, n1⟩ := hq
  simp only at f5 n1
  have e31 : w5 0 31 = c 52 := (f5 0 31 rfl).trans ((f4 0 31 rfl).trans hs.2.2.2.2)
  have e33 : w5 0 33 = c 50 := (f5 0 33 rfl).trans ((f4 0 33 rfl).trans hs.2.2.1)
  simp (disch := omega) only [wup_s1, wup_s2, wup_o, wcp_o, e31, ret_some]
  have f6 : Frm [14, 15, 16, 17, 21, 22, 23] [(0, 31), (0, 32), (0, 38), (0, 39), (0, 40)] w w5 := frm_tr (frm_up f4 rfl) (frm_up f5 rfl)
  refine ⟨frm_wup (frm_wup f6 _ _ _ rfl) _ _ _ rfl, ⟨fun m hm => ?_, fun r hr => ?_, ?_, ?_, ?_⟩, ?_, ?_, ?_, fun v hv => ?_⟩
  · obtain ⟨b0, b1, b2⟩ := n1 m hm
    have b3 : w5 17 m = sPasJ h c (hsM h) (24 + m) := by
      rw [f5 17 m rfl, ← hw4, wup_o _ _ _ (by decide)]
      exact m4 m hm
    simp (disch := omega) only [wup_o, sPass, b0, b1, b2, b3]
    rw [if_neg (by omega), if_neg (by omega), if_neg (by omega), if_neg (by omega), if_neg (by omega), if_neg (by omega), if_neg (by omega), if_neg (by omega)]
    exact ⟨rfl, rfl, rfl, rfl⟩
  · obtain ⟨b0, b1⟩ := hs.2.1 r hr
    simp (disch := omega) only [wup_o, sPass]
    rw [if_neg (by omega), if_neg (by omega), if_neg (by omega), if_neg (by omega), sPasJ_hi h c _ (by omega), sPasJ_hi h c _ (by omega)]
    exact ⟨(f6 18 r rfl).trans b0, (f6 19 r rfl).trans b1⟩
  · simp (disch := omega) only [wup_s1, wup_s2, wup_o, wcp_o, e33]
    rw [sPass, if_neg (by omega), if_neg (by omega), sPasJ_hi h c _ (by omega)]
  · simp (disch := omega) only [wup_s1, wup_s2, wup_o, wcp_o]
    rw [sPass, if_pos rfl]
  · simp (disch := omega) only [wup_s1, wup_s2, wup_o, wcp_o]
    rw [sPass, if_neg (by omega), if_pos rfl]
  · simp (disch := omega) only [wup_s1, wup_s2, wup_o, wcp_o]
    rw [f5 0 38 rfl, ← hw4, wup_s2 _ _ _ (by decide)]
    exact m1
  · simp (disch := omega) only [wup_s1, wup_s2, wup_o, wcp_o]
    rw [f5 0 39 rfl, ← hw4, wup_s1]
  · simp (disch := omega) only [wup_s1, wup_s2, wup_o, wcp_o]
    rw [f5 0 40 rfl, ← hw4, wup_s2 _ _ _ (by decide)]
    exact m2
  · simp (disch := omega) only [wup_s1, wup_s2, wup_o, wcp_o]
    rw [f5 23 v rfl, ← hw4, wup_o _ _ _ (by decide)]
    exact m3 v hv
