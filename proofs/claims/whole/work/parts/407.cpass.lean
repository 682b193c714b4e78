/-- what was seen in the night that began with c -/
def CSeen (w : Wld) (h : Hs) (c : Sta) : Prop := w 55 3 = jn (sRis h c) ∧ ∀ m, m < hsM h → w 63 m = c (16 + m)
theorem t_singersIn {w : Wld} {n R : Nat} (r : Int32) (e1 : w 56 1 = jn n) (hn : n ≤ 8) (e55 : w 55 3 = jn R) (hR : R < 256) : F_Night_singersIn_55 w r = some (jn (nAll (fun m => R.testBit m && decide (w 63 m = r)) n)) := by
  have key : loop (B_Night_singersIn_55_4 r w) (0, 0) = some (jn (nAll (fun m => R.testBit m && decide (w 63 m = r)) n)) := by
    refine loop_for (V := fun k => (jn (nAll (fun m => R.testBit m && decide (w 63 m = r)) k), jn k)) n (fun k hk => ?_) ?_
    · by_cases hc : R.testBit k = true
      · by_cases hd : w 63 k = r
        · simp (disch := omega) only [B_Night_singersIn_55_4, K_Night_singersIn_55_43, ↓bi_eq, ↓bw_eq, gd_pos, br_pos, br_neg, br_T, br_F, gd_T, bp_some, bd_some, bv_some, bl_some, bx_inl, bx_inr, bn_none, bn_some, bt_inl, bt_inr, not_true_eq_false, not_false_eq_true, eq_self, Bool.false_eq_true, if_true, if_false, jn_clamp, jn_lt, jn_le, jn_inj, jn_add, jn_sub, jn_mul, jn_vp, jn_0a, jn_1a, jn_1b, jn_1s, jn_1m, jn_neg0, jn_le0, jn_0le, jn_0lt, jn_1le, jn_le1, jn_lt1, jn_1lt, jn_e0, jn_e1, jn_em, ↓qB_f, ↓qT_f, cl_0, cl_1, vp_0, vp_1, e1, e55, qT_1, nAll_s, hc, hd, decide_true, Bool.and_true, if_true, qB_jn, jn_or]
        · simp (disch := omega) only [B_Night_singersIn_55_4, K_Night_singersIn_55_43, ↓bi_eq, ↓bw_eq, gd_pos, br_pos, br_neg, br_T, br_F, gd_T, bp_some, bd_some, bv_some, bl_some, bx_inl, bx_inr, bn_none, bn_some, bt_inl, bt_inr, not_true_eq_false, not_false_eq_true, eq_self, Bool.false_eq_true, if_true, if_false, jn_clamp, jn_lt, jn_le, jn_inj, jn_add, jn_sub, jn_mul, jn_vp, jn_0a, jn_1a, jn_1b, jn_1s, jn_1m, jn_neg0, jn_le0, jn_0le, jn_0lt, jn_1le, jn_le1, jn_lt1, jn_1lt, jn_e0, jn_e1, jn_em, ↓qB_f, ↓qT_f, cl_0, cl_1, vp_0, vp_1, e1, e55, qT_1, nAll_s, hc, hd, decide_false, Bool.and_false, if_false, Bool.false_eq_true]
      · simp (disch := omega) only [B_Night_singersIn_55_4, K_Night_singersIn_55_43, ↓bi_eq, ↓bw_eq, gd_pos, br_pos, br_neg, br_T, br_F, gd_T, bp_some, bd_some, bv_some, bl_some, bx_inl, bx_inr, bn_none, bn_some, bt_inl, bt_inr, not_true_eq_false, not_false_eq_true, eq_self, Bool.false_eq_true, if_true, if_false, jn_clamp, jn_lt, jn_le, jn_inj, jn_add, jn_sub, jn_mul, jn_vp, jn_0a, jn_1a, jn_1b, jn_1s, jn_1m, jn_neg0, jn_le0, jn_0le, jn_0lt, jn_1le, jn_le1, jn_lt1, jn_1lt, jn_e0, jn_e1, jn_em, ↓qB_f, ↓qT_f, cl_0, cl_1, vp_0, vp_1, e1, e55, qT_1, nAll_s, hc, Bool.false_and, if_false, Bool.false_eq_true]
    · simp (disch := omega) only [B_Night_singersIn_55_4, ↓bi_eq, ↓bw_eq, gd_pos, br_pos, br_neg, br_T, br_F, gd_T, bp_some, bd_some, bv_some, bl_some, bx_inl, bx_inr, bn_none, bn_some, bt_inl, bt_inr, not_true_eq_false, not_false_eq_true, eq_self, Bool.false_eq_true, if_true, if_false, jn_clamp, jn_lt, jn_le, jn_inj, jn_add, jn_sub, jn_mul, jn_vp, jn_0a, jn_1a, jn_1b, jn_1s, jn_1m, jn_neg0, jn_le0, jn_0le, jn_0lt, jn_1le, jn_le1, jn_lt1, jn_1lt, jn_e0, jn_e1, jn_em, ↓qB_f, ↓qT_f, cl_0, cl_1, vp_0, vp_1, e1, br_pos (Nat.le_refl n)]
  rw [F_Night_singersIn_55, key]; rfl
def IPa_65 (h : Hs) (w : Wld) (k : Nat) (s : Int32 × Wld) : Prop := s.1 = jn k ∧ Frm [61, 62, 63] [(55, 3)] w s.2 ∧ s.2 55 3 = jn (nAll (sUp h (w 66)) k) ∧ ∀ m, m < k → s.2 63 m = w 66 (16 + m)
def IPb_65 (h : Hs) (w : Wld) (k : Nat) (s : Int32 × Wld) : Prop := s.1 = jn k ∧ Frm [61, 62, 63, 66] [(55, 3)] w s.2 ∧ CSeen s.2 h (w 66) ∧ s.2 66 = sPasJ h (w 66) k
theorem t_passA_65 {w : Wld} {h : Hs} (hw : CHs w h) (hh : GdH h) (hg : GdS h (w 66)) {k : Nat} (hk : k < hsM h) (s : Int32 × Wld) (hi : IPa_65 h w k s) {P : Wld → Prop} : Ret (B_Night_pass_55_65_12 s) (LQ (IPa_65 h w (k + 1)) P) := by
  have hM := hh.2.1
  obtain ⟨i, w1⟩ := s
  obtain ⟨i1, i2, i3, i4⟩ := hi
  simp only at i1 i2 i3 i4
  subst i1
  have e1 : w1 56 1 = jn (hsM h) := (i2 56 1 rfl).trans hw.2.1
  have ex : w1 66 = w 66 := frm_cell i2 66 (fun _ => rfl)
  have hw2 : CHs (wup w1 63 k (w 66 (16 + k))) h := CHs_fr hw (frm_wup i2 63 k (w 66 (16 + k)) rfl) ⟨rfl, rfl, rfl, rfl, fun _ => rfl, fun _ => rfl, rfl, fun _ => rfl⟩
  have ex2 : (wup w1 63 k (w 66 (16 + k))) 66 = w 66 := by rw [wup_o _ _ _ (by decide), ex]
  have hr := t_rises_65 hw2 hh (by rw [ex2]; exact hg) hk
  rw [ex2] at hr
  have e16 : w1 66 (16 + k) = w 66 (16 + k) := by rw [ex]
  simp (disch := omega) only [B_Night_pass_55_65_12, ↓bi_eq, ↓bw_eq, gd_pos, br_pos, br_neg, br_T, br_F, gd_T, bp_some, bd_some, bv_some, bl_some, bx_inl, bx_inr, bn_none, bn_some, bt_inl, bt_inr, not_true_eq_false, not_false_eq_true, eq_self, Bool.false_eq_true, if_true, if_false, jn_clamp, jn_lt, jn_le, jn_inj, jn_add, jn_sub, jn_mul, jn_vp, jn_0a, jn_1a, jn_1b, jn_1s, jn_1m, jn_neg0, jn_le0, jn_0le, jn_0lt, jn_1le, jn_le1, jn_lt1, jn_1lt, jn_e0, jn_e1, jn_em, ↓qB_f, ↓qT_f, cl_0, cl_1, vp_0, vp_1, li_16, e1, e16, ret_bd]
  refine ret_mono hr (fun q hq => ?_)
  obtain ⟨r, w2⟩ := q
  obtain ⟨q1, q2⟩ := hq
  simp only at q1 q2
  have q3 : Frm [61, 62, 63] [(55, 3)] w w2 := frm_tr (frm_wup i2 63 k (w 66 (16 + k)) rfl) (frm_up q2 rfl)
  have q4 : ∀ m, m < k + 1 → w2 63 m = w 66 (16 + m) := by
    intro m hm
    rw [q2 63 m rfl, wup_s]
    by_cases hm2 : m = k
    · rw [if_pos hm2, hm2]
    · rw [if_neg hm2]; exact i4 m (by omega)
  have q5 : (wup w1 63 k (w 66 (16 + k))) 55 3 = jn (nAll (sUp h (w 66)) k) := by rw [wup_o _ _ _ (by decide)]; exact i3
  rw [q1]
  by_cases hu : sUp h (w 66) k = true
  · have hz : ¬ ((1 : Int32) = 0) := by decide
    simp (disch := omega) only [K_Night_pass_55_65_56, hu, if_true, hz, ↓bi_eq, ↓bw_eq, gd_pos, br_pos, br_neg, br_T, br_F, gd_T, bp_some, bd_some, bv_some, bl_some, bx_inl, bx_inr, bn_none, bn_some, bt_inl, bt_inr, not_true_eq_false, not_false_eq_true, eq_self, Bool.false_eq_true, if_true, if_false, jn_clamp, jn_lt, jn_le, jn_inj, jn_add, jn_sub, jn_mul, jn_vp, jn_0a, jn_1a, jn_1b, jn_1s, jn_1m, jn_neg0, jn_le0, jn_0le, jn_0lt, jn_1le, jn_le1, jn_lt1, jn_1lt, jn_e0, jn_e1, jn_em, ↓qB_f, ↓qT_f, cl_0, cl_1, vp_0, vp_1, q5, qB_jn, jn_or, ret_some, LQ_inl]
    refine ⟨rfl, frm_wup q3 _ _ _ rfl, ?_, fun m hm => ?_⟩
    · simp only [wup_s1, nAll_s, hu, if_true]
    · simp (disch := omega) only [wup_o, q4 m hm]
  · simp (disch := omega) only [K_Night_pass_55_65_56, hu, if_false, ↓bi_eq, ↓bw_eq, gd_pos, br_pos, br_neg, br_T, br_F, gd_T, bp_some, bd_some, bv_some, bl_some, bx_inl, bx_inr, bn_none, bn_some, bt_inl, bt_inr, not_true_eq_false, not_false_eq_true, eq_self, Bool.false_eq_true, if_true, if_false, jn_clamp, jn_lt, jn_le, jn_inj, jn_add, jn_sub, jn_mul, jn_vp, jn_0a, jn_1a, jn_1b, jn_1s, jn_1m, jn_neg0, jn_le0, jn_0le, jn_0lt, jn_1le, jn_le1, jn_lt1, jn_1lt, jn_e0, jn_e1, jn_em, ↓qB_f, ↓qT_f, cl_0, cl_1, vp_0, vp_1, q5, Int32.or_zero, ret_some, LQ_inl]
    refine ⟨rfl, frm_wup q3 _ _ _ rfl, ?_, fun m hm => ?_⟩
    · simp only [wup_s1, nAll_s, hu, if_false, Bool.false_eq_true]
    · simp (disch := omega) only [wup_o, q4 m hm]
theorem t_passB_65 {w : Wld} {h : Hs} (hw : CHs w h) (hh : GdH h) (hg : GdS h (w 66)) {k : Nat} (hk : k < hsM h) (s : Int32 × Wld) (hi : IPb_65 h w k s) {P : Wld → Prop} : Ret (B_Night_pass_55_65_68 s) (LQ (IPb_65 h w (k + 1)) P) := by
  have hN := hh.1
  have hM := hh.2.1
  have k8 : k < 8 := by omega
  obtain ⟨i, w1⟩ := s
  obtain ⟨i1, i2, ⟨i3, i4⟩, i5⟩ := hi
  simp only at i1 i2 i3 i4 i5
  subst i1
  have e1 : w1 56 1 = jn (hsM h) := (i2 56 1 rfl).trans hw.2.1
  have e2 : w1 56 2 = hsT h := (i2 56 2 rfl).trans hw.2.2.1
  have e3 : w1 56 3 = hsR h := (i2 56 3 rfl).trans hw.2.2.2.1
  obtain ⟨x, hx, ex⟩ := hg.1 k hk
  have hR := sRis_lt hh (w 66)
  have ha : w1 66 k = w 66 k := by rw [i5, sPasJ_a h _ k8 (Nat.le_refl k)]
  have hb : w1 66 (8 + k) = w 66 (8 + k) := by rw [i5, sPasJ_b h _ k8 (Nat.le_refl k)]
  have hd : w1 66 (24 + k) = w 66 (24 + k) := by rw [i5, sPasJ_d h _ k8 (Nat.le_refl k)]
  have h32 : w1 66 (32 + x) = w 66 (32 + x) := by rw [i5, sPasJ_hi h _ k (by omega)]
  have h41 : w1 66 (41 + x) = w 66 (41 + x) := by rw [i5, sPasJ_hi h _ k (by omega)]
  have e63 : w1 63 k = jn x := (i4 k hk).trans ex
  have hs := t_singersIn (w := w1) (jn x) e1 hM i3 (sRis_lt hh _)
  have hs2 : nAll (fun m => (sRis h (w 66)).testBit m && decide (w1 63 m = jn x)) (hsM h) = sSing h (w 66) (jn x) := by
    refine nAll_congr (fun m hm => ?_)
    rw [sRis, nAll_bit, i4 m hm]
    simp [hm]
  rw [hs2] at hs
  have hbit : (sRis h (w 66)).testBit k = sUp h (w 66) k := by rw [sRis, nAll_bit]; simp [hk]
  by_cases hu : sUp h (w 66) k = true
  · rw [hu] at hbit
    by_cases hf : w 66 (8 + k) ≤ 0
    · simp (disch := omega) only [B_Night_pass_55_65_68, F_Night_tire_55_66, K_Night_tire_55_66_16, K_Night_pass_55_65_152, ↓bi_eq, ↓bw_eq, gd_pos, br_pos, br_neg, br_T, br_F, gd_T, bp_some, bd_some, bv_some, bl_some, bx_inl, bx_inr, bn_none, bn_some, bt_inl, bt_inr, not_true_eq_false, not_false_eq_true, eq_self, Bool.false_eq_true, if_true, if_false, jn_clamp, jn_lt, jn_le, jn_inj, jn_add, jn_sub, jn_mul, jn_vp, jn_0a, jn_1a, jn_1b, jn_1s, jn_1m, jn_neg0, jn_le0, jn_0le, jn_0lt, jn_1le, jn_le1, jn_lt1, jn_1lt, jn_e0, jn_e1, jn_em, ↓qB_f, ↓qT_f, cl_0, cl_1, vp_0, vp_1, wup_s1, wup_s2, wup_o, wcp_o, li_24, li_8, li_16, li_32, e1, e2, i3, qT_1, hbit, e63, hs, ha, hb, hd, h32, hf, jn_clr, ret_some, LQ_inl]
      refine ⟨rfl, frm_wup (frm_wup (frm_wup (frm_wup i2 _ _ _ rfl) _ _ _ rfl) _ _ _ rfl) _ _ _ rfl, ⟨?_, fun m hm => ?_⟩, ?_⟩
      · simp (disch := omega) only [wup_s1, wup_s2, wup_o, wcp_o, i3]
      · simp (disch := omega) only [wup_s1, wup_s2, wup_o, wcp_o, i4 m hm]
      · simp only [wup_same]
        rw [i5]
        refine sPasJ_up k8 hu ?_ rfl ?_ rfl
        · rw [ex]
        · rw [if_neg (Int32.not_lt.mpr hf), ex, jn_clamp (by omega)]
    · simp (disch := omega) only [B_Night_pass_55_65_68, F_Night_tire_55_66, K_Night_tire_55_66_16, K_Night_pass_55_65_152, ↓bi_eq, ↓bw_eq, gd_pos, br_pos, br_neg, br_T, br_F, gd_T, bp_some, bd_some, bv_some, bl_some, bx_inl, bx_inr, bn_none, bn_some, bt_inl, bt_inr, not_true_eq_false, not_false_eq_true, eq_self, Bool.false_eq_true, if_true, if_false, jn_clamp, jn_lt, jn_le, jn_inj, jn_add, jn_sub, jn_mul, jn_vp, jn_0a, jn_1a, jn_1b, jn_1s, jn_1m, jn_neg0, jn_le0, jn_0le, jn_0lt, jn_1le, jn_le1, jn_lt1, jn_1lt, jn_e0, jn_e1, jn_em, ↓qB_f, ↓qT_f, cl_0, cl_1, vp_0, vp_1, wup_s1, wup_s2, wup_o, wcp_o, li_24, li_8, li_16, li_41, e1, e2, i3, qT_1, hbit, e63, hs, ha, hb, hd, h41, hf, jn_clr, ret_some, LQ_inl]
      refine ⟨rfl, frm_wup (frm_wup (frm_wup (frm_wup i2 _ _ _ rfl) _ _ _ rfl) _ _ _ rfl) _ _ _ rfl, ⟨?_, fun m hm => ?_⟩, ?_⟩
      · simp (disch := omega) only [wup_s1, wup_s2, wup_o, wcp_o, i3]
      · simp (disch := omega) only [wup_s1, wup_s2, wup_o, wcp_o, i4 m hm]
      · simp only [wup_same]
        rw [i5]
        refine sPasJ_up k8 hu ?_ rfl ?_ rfl
        · rw [ex]
        · rw [if_pos (Int32.not_le.mp hf), ex, jn_clamp (by omega)]
  · have hbit2 : (sRis h (w 66)).testBit k = false := by rw [hbit]; exact Bool.eq_false_iff.mpr hu
    simp (disch := omega) only [B_Night_pass_55_65_68, K_Night_pass_55_65_152, ↓bi_eq, ↓bw_eq, gd_pos, br_pos, br_neg, br_T, br_F, gd_T, bp_some, bd_some, bv_some, bl_some, bx_inl, bx_inr, bn_none, bn_some, bt_inl, bt_inr, not_true_eq_false, not_false_eq_true, eq_self, Bool.false_eq_true, if_true, if_false, jn_clamp, jn_lt, jn_le, jn_inj, jn_add, jn_sub, jn_mul, jn_vp, jn_0a, jn_1a, jn_1b, jn_1s, jn_1m, jn_neg0, jn_le0, jn_0le, jn_0lt, jn_1le, jn_le1, jn_lt1, jn_1lt, jn_e0, jn_e1, jn_em, ↓qB_f, ↓qT_f, cl_0, cl_1, vp_0, vp_1, wup_s1, wup_s2, wup_o, wcp_o, li_8, e1, e3, i3, qT_1, hbit2, Bool.false_eq_true, ha, hb, ret_some, LQ_inl]
    refine ⟨rfl, frm_wup (frm_wup i2 _ _ _ rfl) _ _ _ rfl, ⟨?_, fun m hm => ?_⟩, ?_⟩
    · simp (disch := omega) only [wup_s1, wup_s2, wup_o, wcp_o, i3]
    · simp (disch := omega) only [wup_s1, wup_s2, wup_o, wcp_o, i4 m hm]
    · simp only [wup_same]
      rw [i5]
      exact sPasJ_dn k8 hu rfl rfl
theorem t_pass_65 {w : Wld} {h : Hs} (hw : CHs w h) (hh : GdH h) (hg : GdS h (w 66)) : Ret (F_Night_pass_55_65 w) (fun w' => Frm [61, 62, 63, 66] [(55, 3)] w w' ∧ w' 66 = sPass h (w 66) ∧ CSeen w' h (w 66)) := by
  have hM := hh.2.1
  rw [F_Night_pass_55_65, bw_eq, ret_bl]
  refine ret_mono (P := fun r => IPa_65 h w (hsM h) (jn (hsM h), r)) ?_ (fun w1 hi => ?_)
  · refine loop_inv (I := IPa_65 h w) (hsM h) ⟨rfl, frm_wup frm_rf _ _ _ rfl, ?_, fun m hm => absurd hm (Nat.not_lt_zero m)⟩ (fun k s hk hi => t_passA_65 hw hh hg hk s hi) (fun s hi => ?_)
    · show wup w 55 3 0 55 3 = _
      rw [wup_s1]; rfl
    · obtain ⟨i, w1⟩ := s
      have i1 := hi.1
      have i2 := hi.2.1
      simp only at i1 i2
      subst i1
      have e1 : w1 56 1 = jn (hsM h) := (i2 56 1 rfl).trans hw.2.1
      simp (disch := omega) only [B_Night_pass_55_65_12, ↓bi_eq, ↓bw_eq, gd_pos, br_pos, br_neg, br_T, br_F, gd_T, bp_some, bd_some, bv_some, bl_some, bx_inl, bx_inr, bn_none, bn_some, bt_inl, bt_inr, not_true_eq_false, not_false_eq_true, eq_self, Bool.false_eq_true, if_true, if_false, jn_clamp, jn_lt, jn_le, jn_inj, jn_add, jn_sub, jn_mul, jn_vp, jn_0a, jn_1a, jn_1b, jn_1s, jn_1m, jn_neg0, jn_le0, jn_0le, jn_0lt, jn_1le, jn_le1, jn_lt1, jn_1lt, jn_e0, jn_e1, jn_em, ↓qB_f, ↓qT_f, cl_0, cl_1, vp_0, vp_1, e1, br_pos (Nat.le_refl (hsM h)), ret_some, LQ_inr]
      exact hi
  obtain ⟨-, i2, i3, i4⟩ := hi
  simp only at i2 i3 i4
  rw [ret_bl]
  refine ret_mono (P := fun r => IPb_65 h w (hsM h) (jn (hsM h), r)) ?_ (fun w2 hi => ?_)
  · refine loop_inv (I := IPb_65 h w) (hsM h) ⟨rfl, frm_up i2 rfl, ⟨i3, i4⟩, ?_⟩ (fun k s hk hi => t_passB_65 hw hh hg hk s hi) (fun s hi => ?_)
    · show w1 66 = _
      rw [sPasJ_0]; exact frm_cell i2 66 (fun _ => rfl)
    · obtain ⟨i, w1⟩ := s
      have i1 := hi.1
      have i2 := hi.2.1
      simp only at i1 i2
      subst i1
      have e1 : w1 56 1 = jn (hsM h) := (i2 56 1 rfl).trans hw.2.1
      simp (disch := omega) only [B_Night_pass_55_65_68, ↓bi_eq, ↓bw_eq, gd_pos, br_pos, br_neg, br_T, br_F, gd_T, bp_some, bd_some, bv_some, bl_some, bx_inl, bx_inr, bn_none, bn_some, bt_inl, bt_inr, not_true_eq_false, not_false_eq_true, eq_self, Bool.false_eq_true, if_true, if_false, jn_clamp, jn_lt, jn_le, jn_inj, jn_add, jn_sub, jn_mul, jn_vp, jn_0a, jn_1a, jn_1b, jn_1s, jn_1m, jn_neg0, jn_le0, jn_0le, jn_0lt, jn_1le, jn_le1, jn_lt1, jn_1lt, jn_e0, jn_e1, jn_em, ↓qB_f, ↓qT_f, cl_0, cl_1, vp_0, vp_1, e1, br_pos (Nat.le_refl (hsM h)), ret_some, LQ_inr]
      exact hi
  obtain ⟨-, j2, ⟨j3, j4⟩, j5⟩ := hi
  simp only at j2 j3 j4 j5
  have h52 : w2 66 52 = w 66 52 := by rw [j5, sPasJ_hi h _ _ (by omega)]
  simp (disch := omega) only [↓bi_eq, ↓bw_eq, gd_pos, br_pos, br_neg, br_T, br_F, gd_T, bp_some, bd_some, bv_some, bl_some, bx_inl, bx_inr, bn_none, bn_some, bt_inl, bt_inr, not_true_eq_false, not_false_eq_true, eq_self, Bool.false_eq_true, if_true, if_false, jn_clamp, jn_lt, jn_le, jn_inj, jn_add, jn_sub, jn_mul, jn_vp, jn_0a, jn_1a, jn_1b, jn_1s, jn_1m, jn_neg0, jn_le0, jn_0le, jn_0lt, jn_1le, jn_le1, jn_lt1, jn_1lt, jn_e0, jn_e1, jn_em, ↓qB_f, ↓qT_f, cl_0, cl_1, vp_0, vp_1, wup_s1, wup_s2, wup_o, wcp_o, li_51, li_52, j3, h52, ret_some]
  refine ⟨frm_wup (frm_wup j2 _ _ _ rfl) _ _ _ rfl, ?_, ⟨?_, fun m hm => ?_⟩⟩
  · simp only [wup_same]
    rw [j5]
    funext i
    unfold sPass upd
    by_cases i1 : i = 52
    · rw [if_pos i1, if_neg (by omega), if_pos i1]
    · rw [if_neg i1]
      by_cases i2 : i = 51
      · rw [if_pos i2, if_pos i2]
      · rw [if_neg i2, if_neg i2, if_neg i1]
  · simp (disch := omega) only [wup_s1, wup_s2, wup_o, wcp_o, j3]
  · simp (disch := omega) only [wup_s1, wup_s2, wup_o, wcp_o, j4 m hm]
def IPa_84 (h : Hs) (w : Wld) (k : Nat) (s : Int32 × Wld) : Prop := s.1 = jn k ∧ Frm [61, 62, 63] [(55, 3)] w s.2 ∧ s.2 55 3 = jn (nAll (sUp h (w 85)) k) ∧ ∀ m, m < k → s.2 63 m = w 85 (16 + m)
def IPb_84 (h : Hs) (w : Wld) (k : Nat) (s : Int32 × Wld) : Prop := s.1 = jn k ∧ Frm [61, 62, 63, 85] [(55, 3)] w s.2 ∧ CSeen s.2 h (w 85) ∧ s.2 85 = sPasJ h (w 85) k
theorem t_passA_84 {w : Wld} {h : Hs} (hw : CHs w h) (hh : GdH h) (hg : GdS h (w 85)) {k : Nat} (hk : k < hsM h) (s : Int32 × Wld) (hi : IPa_84 h w k s) {P : Wld → Prop} : Ret (B_Night_pass_55_84_12 s) (LQ (IPa_84 h w (k + 1)) P) := by
  have hM := hh.2.1
  obtain ⟨i, w1⟩ := s
  obtain ⟨i1, i2, i3, i4⟩ := hi
  simp only at i1 i2 i3 i4
  subst i1
  have e1 : w1 56 1 = jn (hsM h) := (i2 56 1 rfl).trans hw.2.1
  have ex : w1 85 = w 85 := frm_cell i2 85 (fun _ => rfl)
  have hw2 : CHs (wup w1 63 k (w 85 (16 + k))) h := CHs_fr hw (frm_wup i2 63 k (w 85 (16 + k)) rfl) ⟨rfl, rfl, rfl, rfl, fun _ => rfl, fun _ => rfl, rfl, fun _ => rfl⟩
  have ex2 : (wup w1 63 k (w 85 (16 + k))) 85 = w 85 := by rw [wup_o _ _ _ (by decide), ex]
  have hr := t_rises_84 hw2 hh (by rw [ex2]; exact hg) hk
  rw [ex2] at hr
  have e16 : w1 85 (16 + k) = w 85 (16 + k) := by rw [ex]
  simp (disch := omega) only [B_Night_pass_55_84_12, ↓bi_eq, ↓bw_eq, gd_pos, br_pos, br_neg, br_T, br_F, gd_T, bp_some, bd_some, bv_some, bl_some, bx_inl, bx_inr, bn_none, bn_some, bt_inl, bt_inr, not_true_eq_false, not_false_eq_true, eq_self, Bool.false_eq_true, if_true, if_false, jn_clamp, jn_lt, jn_le, jn_inj, jn_add, jn_sub, jn_mul, jn_vp, jn_0a, jn_1a, jn_1b, jn_1s, jn_1m, jn_neg0, jn_le0, jn_0le, jn_0lt, jn_1le, jn_le1, jn_lt1, jn_1lt, jn_e0, jn_e1, jn_em, ↓qB_f, ↓qT_f, cl_0, cl_1, vp_0, vp_1, li_16, e1, e16, ret_bd]
  refine ret_mono hr (fun q hq => ?_)
  obtain ⟨r, w2⟩ := q
  obtain ⟨q1, q2⟩ := hq
  simp only at q1 q2
  have q3 : Frm [61, 62, 63] [(55, 3)] w w2 := frm_tr (frm_wup i2 63 k (w 85 (16 + k)) rfl) (frm_up q2 rfl)
  have q4 : ∀ m, m < k + 1 → w2 63 m = w 85 (16 + m) := by
    intro m hm
    rw [q2 63 m rfl, wup_s]
    by_cases hm2 : m = k
    · rw [if_pos hm2, hm2]
    · rw [if_neg hm2]; exact i4 m (by omega)
  have q5 : (wup w1 63 k (w 85 (16 + k))) 55 3 = jn (nAll (sUp h (w 85)) k) := by rw [wup_o _ _ _ (by decide)]; exact i3
  rw [q1]
  by_cases hu : sUp h (w 85) k = true
  · have hz : ¬ ((1 : Int32) = 0) := by decide
    simp (disch := omega) only [K_Night_pass_55_84_56, hu, if_true, hz, ↓bi_eq, ↓bw_eq, gd_pos, br_pos, br_neg, br_T, br_F, gd_T, bp_some, bd_some, bv_some, bl_some, bx_inl, bx_inr, bn_none, bn_some, bt_inl, bt_inr, not_true_eq_false, not_false_eq_true, eq_self, Bool.false_eq_true, if_true, if_false, jn_clamp, jn_lt, jn_le, jn_inj, jn_add, jn_sub, jn_mul, jn_vp, jn_0a, jn_1a, jn_1b, jn_1s, jn_1m, jn_neg0, jn_le0, jn_0le, jn_0lt, jn_1le, jn_le1, jn_lt1, jn_1lt, jn_e0, jn_e1, jn_em, ↓qB_f, ↓qT_f, cl_0, cl_1, vp_0, vp_1, q5, qB_jn, jn_or, ret_some, LQ_inl]
    refine ⟨rfl, frm_wup q3 _ _ _ rfl, ?_, fun m hm => ?_⟩
    · simp only [wup_s1, nAll_s, hu, if_true]
    · simp (disch := omega) only [wup_o, q4 m hm]
  · simp (disch := omega) only [K_Night_pass_55_84_56, hu, if_false, ↓bi_eq, ↓bw_eq, gd_pos, br_pos, br_neg, br_T, br_F, gd_T, bp_some, bd_some, bv_some, bl_some, bx_inl, bx_inr, bn_none, bn_some, bt_inl, bt_inr, not_true_eq_false, not_false_eq_true, eq_self, Bool.false_eq_true, if_true, if_false, jn_clamp, jn_lt, jn_le, jn_inj, jn_add, jn_sub, jn_mul, jn_vp, jn_0a, jn_1a, jn_1b, jn_1s, jn_1m, jn_neg0, jn_le0, jn_0le, jn_0lt, jn_1le, jn_le1, jn_lt1, jn_1lt, jn_e0, jn_e1, jn_em, ↓qB_f, ↓qT_f, cl_0, cl_1, vp_0, vp_1, q5, Int32.or_zero, ret_some, LQ_inl]
    refine ⟨rfl, frm_wup q3 _ _ _ rfl, ?_, fun m hm => ?_⟩
    · simp only [wup_s1, nAll_s, hu, if_false, Bool.false_eq_true]
    · simp (disch := omega) only [wup_o, q4 m hm]
theorem t_passB_84 {w : Wld} {h : Hs} (hw : CHs w h) (hh : GdH h) (hg : GdS h (w 85)) {k : Nat} (hk : k < hsM h) (s : Int32 × Wld) (hi : IPb_84 h w k s) {P : Wld → Prop} : Ret (B_Night_pass_55_84_68 s) (LQ (IPb_84 h w (k + 1)) P) := by
  have hN := hh.1
  have hM := hh.2.1
  have k8 : k < 8 := by omega
  obtain ⟨i, w1⟩ := s
  obtain ⟨i1, i2, ⟨i3, i4⟩, i5⟩ := hi
  simp only at i1 i2 i3 i4 i5
  subst i1
  have e1 : w1 56 1 = jn (hsM h) := (i2 56 1 rfl).trans hw.2.1
  have e2 : w1 56 2 = hsT h := (i2 56 2 rfl).trans hw.2.2.1
  have e3 : w1 56 3 = hsR h := (i2 56 3 rfl).trans hw.2.2.2.1
  obtain ⟨x, hx, ex⟩ := hg.1 k hk
  have hR := sRis_lt hh (w 85)
  have ha : w1 85 k = w 85 k := by rw [i5, sPasJ_a h _ k8 (Nat.le_refl k)]
  have hb : w1 85 (8 + k) = w 85 (8 + k) := by rw [i5, sPasJ_b h _ k8 (Nat.le_refl k)]
  have hd : w1 85 (24 + k) = w 85 (24 + k) := by rw [i5, sPasJ_d h _ k8 (Nat.le_refl k)]
  have h32 : w1 85 (32 + x) = w 85 (32 + x) := by rw [i5, sPasJ_hi h _ k (by omega)]
  have h41 : w1 85 (41 + x) = w 85 (41 + x) := by rw [i5, sPasJ_hi h _ k (by omega)]
  have e63 : w1 63 k = jn x := (i4 k hk).trans ex
  have hs := t_singersIn (w := w1) (jn x) e1 hM i3 (sRis_lt hh _)
  have hs2 : nAll (fun m => (sRis h (w 85)).testBit m && decide (w1 63 m = jn x)) (hsM h) = sSing h (w 85) (jn x) := by
    refine nAll_congr (fun m hm => ?_)
    rw [sRis, nAll_bit, i4 m hm]
    simp [hm]
  rw [hs2] at hs
  have hbit : (sRis h (w 85)).testBit k = sUp h (w 85) k := by rw [sRis, nAll_bit]; simp [hk]
  by_cases hu : sUp h (w 85) k = true
  · rw [hu] at hbit
    by_cases hf : w 85 (8 + k) ≤ 0
    · simp (disch := omega) only [B_Night_pass_55_84_68, F_Night_tire_55_85, K_Night_tire_55_85_16, K_Night_pass_55_84_152, ↓bi_eq, ↓bw_eq, gd_pos, br_pos, br_neg, br_T, br_F, gd_T, bp_some, bd_some, bv_some, bl_some, bx_inl, bx_inr, bn_none, bn_some, bt_inl, bt_inr, not_true_eq_false, not_false_eq_true, eq_self, Bool.false_eq_true, if_true, if_false, jn_clamp, jn_lt, jn_le, jn_inj, jn_add, jn_sub, jn_mul, jn_vp, jn_0a, jn_1a, jn_1b, jn_1s, jn_1m, jn_neg0, jn_le0, jn_0le, jn_0lt, jn_1le, jn_le1, jn_lt1, jn_1lt, jn_e0, jn_e1, jn_em, ↓qB_f, ↓qT_f, cl_0, cl_1, vp_0, vp_1, wup_s1, wup_s2, wup_o, wcp_o, li_24, li_8, li_16, li_32, e1, e2, i3, qT_1, hbit, e63, hs, ha, hb, hd, h32, hf, jn_clr, ret_some, LQ_inl]
      refine ⟨rfl, frm_wup (frm_wup (frm_wup (frm_wup i2 _ _ _ rfl) _ _ _ rfl) _ _ _ rfl) _ _ _ rfl, ⟨?_, fun m hm => ?_⟩, ?_⟩
      · simp (disch := omega) only [wup_s1, wup_s2, wup_o, wcp_o, i3]
      · simp (disch := omega) only [wup_s1, wup_s2, wup_o, wcp_o, i4 m hm]
      · simp only [wup_same]
        rw [i5]
        refine sPasJ_up k8 hu ?_ rfl ?_ rfl
        · rw [ex]
        · rw [if_neg (Int32.not_lt.mpr hf), ex, jn_clamp (by omega)]
    · simp (disch := omega) only [B_Night_pass_55_84_68, F_Night_tire_55_85, K_Night_tire_55_85_16, K_Night_pass_55_84_152, ↓bi_eq, ↓bw_eq, gd_pos, br_pos, br_neg, br_T, br_F, gd_T, bp_some, bd_some, bv_some, bl_some, bx_inl, bx_inr, bn_none, bn_some, bt_inl, bt_inr, not_true_eq_false, not_false_eq_true, eq_self, Bool.false_eq_true, if_true, if_false, jn_clamp, jn_lt, jn_le, jn_inj, jn_add, jn_sub, jn_mul, jn_vp, jn_0a, jn_1a, jn_1b, jn_1s, jn_1m, jn_neg0, jn_le0, jn_0le, jn_0lt, jn_1le, jn_le1, jn_lt1, jn_1lt, jn_e0, jn_e1, jn_em, ↓qB_f, ↓qT_f, cl_0, cl_1, vp_0, vp_1, wup_s1, wup_s2, wup_o, wcp_o, li_24, li_8, li_16, li_41, e1, e2, i3, qT_1, hbit, e63, hs, ha, hb, hd, h41, hf, jn_clr, ret_some, LQ_inl]
      refine ⟨rfl, frm_wup (frm_wup (frm_wup (frm_wup i2 _ _ _ rfl) _ _ _ rfl) _ _ _ rfl) _ _ _ rfl, ⟨?_, fun m hm => ?_⟩, ?_⟩
      · simp (disch := omega) only [wup_s1, wup_s2, wup_o, wcp_o, i3]
      · simp (disch := omega) only [wup_s1, wup_s2, wup_o, wcp_o, i4 m hm]
      · simp only [wup_same]
        rw [i5]
        refine sPasJ_up k8 hu ?_ rfl ?_ rfl
        · rw [ex]
        · rw [if_pos (Int32.not_le.mp hf), ex, jn_clamp (by omega)]
  · have hbit2 : (sRis h (w 85)).testBit k = false := by rw [hbit]; exact Bool.eq_false_iff.mpr hu
    simp (disch := omega) only [B_Night_pass_55_84_68, K_Night_pass_55_84_152, ↓bi_eq, ↓bw_eq, gd_pos, br_pos, br_neg, br_T, br_F, gd_T, bp_some, bd_some, bv_some, bl_some, bx_inl, bx_inr, bn_none, bn_some, bt_inl, bt_inr, not_true_eq_false, not_false_eq_true, eq_self, Bool.false_eq_true, if_true, if_false, jn_clamp, jn_lt, jn_le, jn_inj, jn_add, jn_sub, jn_mul, jn_vp, jn_0a, jn_1a, jn_1b, jn_1s, jn_1m, jn_neg0, jn_le0, jn_0le, jn_0lt, jn_1le, jn_le1, jn_lt1, jn_1lt, jn_e0, jn_e1, jn_em, ↓qB_f, ↓qT_f, cl_0, cl_1, vp_0, vp_1, wup_s1, wup_s2, wup_o, wcp_o, li_8, e1, e3, i3, qT_1, hbit2, Bool.false_eq_true, ha, hb, ret_some, LQ_inl]
    refine ⟨rfl, frm_wup (frm_wup i2 _ _ _ rfl) _ _ _ rfl, ⟨?_, fun m hm => ?_⟩, ?_⟩
    · simp (disch := omega) only [wup_s1, wup_s2, wup_o, wcp_o, i3]
    · simp (disch := omega) only [wup_s1, wup_s2, wup_o, wcp_o, i4 m hm]
    · simp only [wup_same]
      rw [i5]
      exact sPasJ_dn k8 hu rfl rfl
theorem t_pass_84 {w : Wld} {h : Hs} (hw : CHs w h) (hh : GdH h) (hg : GdS h (w 85)) : Ret (F_Night_pass_55_84 w) (fun w' => Frm [61, 62, 63, 85] [(55, 3)] w w' ∧ w' 85 = sPass h (w 85) ∧ CSeen w' h (w 85)) := by
  have hM := hh.2.1
  rw [F_Night_pass_55_84, bw_eq, ret_bl]
  refine ret_mono (P := fun r => IPa_84 h w (hsM h) (jn (hsM h), r)) ?_ (fun w1 hi => ?_)
  · refine loop_inv (I := IPa_84 h w) (hsM h) ⟨rfl, frm_wup frm_rf _ _ _ rfl, ?_, fun m hm => absurd hm (Nat.not_lt_zero m)⟩ (fun k s hk hi => t_passA_84 hw hh hg hk s hi) (fun s hi => ?_)
    · show wup w 55 3 0 55 3 = _
      rw [wup_s1]; rfl
    · obtain ⟨i, w1⟩ := s
      have i1 := hi.1
      have i2 := hi.2.1
      simp only at i1 i2
      subst i1
      have e1 : w1 56 1 = jn (hsM h) := (i2 56 1 rfl).trans hw.2.1
      simp (disch := omega) only [B_Night_pass_55_84_12, ↓bi_eq, ↓bw_eq, gd_pos, br_pos, br_neg, br_T, br_F, gd_T, bp_some, bd_some, bv_some, bl_some, bx_inl, bx_inr, bn_none, bn_some, bt_inl, bt_inr, not_true_eq_false, not_false_eq_true, eq_self, Bool.false_eq_true, if_true, if_false, jn_clamp, jn_lt, jn_le, jn_inj, jn_add, jn_sub, jn_mul, jn_vp, jn_0a, jn_1a, jn_1b, jn_1s, jn_1m, jn_neg0, jn_le0, jn_0le, jn_0lt, jn_1le, jn_le1, jn_lt1, jn_1lt, jn_e0, jn_e1, jn_em, ↓qB_f, ↓qT_f, cl_0, cl_1, vp_0, vp_1, e1, br_pos (Nat.le_refl (hsM h)), ret_some, LQ_inr]
      exact hi
  obtain ⟨-, i2, i3, i4⟩ := hi
  simp only at i2 i3 i4
  rw [ret_bl]
  refine ret_mono (P := fun r => IPb_84 h w (hsM h) (jn (hsM h), r)) ?_ (fun w2 hi => ?_)
  · refine loop_inv (I := IPb_84 h w) (hsM h) ⟨rfl, frm_up i2 rfl, ⟨i3, i4⟩, ?_⟩ (fun k s hk hi => t_passB_84 hw hh hg hk s hi) (fun s hi => ?_)
    · show w1 85 = _
      rw [sPasJ_0]; exact frm_cell i2 85 (fun _ => rfl)
    · obtain ⟨i, w1⟩ := s
      have i1 := hi.1
      have i2 := hi.2.1
      simp only at i1 i2
      subst i1
      have e1 : w1 56 1 = jn (hsM h) := (i2 56 1 rfl).trans hw.2.1
      simp (disch := omega) only [B_Night_pass_55_84_68, ↓bi_eq, ↓bw_eq, gd_pos, br_pos, br_neg, br_T, br_F, gd_T, bp_some, bd_some, bv_some, bl_some, bx_inl, bx_inr, bn_none, bn_some, bt_inl, bt_inr, not_true_eq_false, not_false_eq_true, eq_self, Bool.false_eq_true, if_true, if_false, jn_clamp, jn_lt, jn_le, jn_inj, jn_add, jn_sub, jn_mul, jn_vp, jn_0a, jn_1a, jn_1b, jn_1s, jn_1m, jn_neg0, jn_le0, jn_0le, jn_0lt, jn_1le, jn_le1, jn_lt1, jn_1lt, jn_e0, jn_e1, jn_em, ↓qB_f, ↓qT_f, cl_0, cl_1, vp_0, vp_1, e1, br_pos (Nat.le_refl (hsM h)), ret_some, LQ_inr]
      exact hi
  obtain ⟨-, j2, ⟨j3, j4⟩, j5⟩ := hi
  simp only at j2 j3 j4 j5
  have h52 : w2 85 52 = w 85 52 := by rw [j5, sPasJ_hi h _ _ (by omega)]
  simp (disch := omega) only [↓bi_eq, ↓bw_eq, gd_pos, br_pos, br_neg, br_T, br_F, gd_T, bp_some, bd_some, bv_some, bl_some, bx_inl, bx_inr, bn_none, bn_some, bt_inl, bt_inr, not_true_eq_false, not_false_eq_true, eq_self, Bool.false_eq_true, if_true, if_false, jn_clamp, jn_lt, jn_le, jn_inj, jn_add, jn_sub, jn_mul, jn_vp, jn_0a, jn_1a, jn_1b, jn_1s, jn_1m, jn_neg0, jn_le0, jn_0le, jn_0lt, jn_1le, jn_le1, jn_lt1, jn_1lt, jn_e0, jn_e1, jn_em, ↓qB_f, ↓qT_f, cl_0, cl_1, vp_0, vp_1, wup_s1, wup_s2, wup_o, wcp_o, li_51, li_52, j3, h52, ret_some]
  refine ⟨frm_wup (frm_wup j2 _ _ _ rfl) _ _ _ rfl, ?_, ⟨?_, fun m hm => ?_⟩⟩
  · simp only [wup_same]
    rw [j5]
    funext i
    unfold sPass upd
    by_cases i1 : i = 52
    · rw [if_pos i1, if_neg (by omega), if_pos i1]
    · rw [if_neg i1]
      by_cases i2 : i = 51
      · rw [if_pos i2, if_pos i2]
      · rw [if_neg i2, if_neg i2, if_neg i1]
  · simp (disch := omega) only [wup_s1, wup_s2, wup_o, wcp_o, j3]
  · simp (disch := omega) only [wup_s1, wup_s2, wup_o, wcp_o, j4 m hm]
