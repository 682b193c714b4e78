/-! ===== the class: who is up ===== -/
theorem t_joined (w : Wld) (s a b : Int32) : F_Rule_joined w s a b = some (join s a b) := by
  simp only [F_Rule_joined, K_Rule_joined_117, K_Rule_joined_93, K_Rule_joined_82, K_Rule_joined_71, K_Rule_joined_70, K_Rule_joined_57, K_Rule_joined_52, join]
  by_cases h1 : s = -17
  · simp only [h1, br_T, if_true]
  by_cases h2 : s = -16
  · simp only [h2, br_ite, if_true]; rfl
  by_cases h3 : s = -15
  · simp only [h3, br_ite, if_true]; rfl
  by_cases h4 : s = -14
  · rw [h4]
    by_cases h : a = b
    · rw [br_neg (by decide), br_neg (by decide), br_neg (by decide), br_pos rfl, br_neg (fun z => z h), if_neg (by decide), if_neg (by decide), if_neg (by decide), if_pos rfl, if_pos h]
    · rw [br_neg (by decide), br_neg (by decide), br_neg (by decide), br_pos rfl, br_pos h, if_neg (by decide), if_neg (by decide), if_neg (by decide), if_pos rfl, if_neg h]
  by_cases h5 : s = -13
  · rw [h5]
    by_cases h : a < b
    · rw [br_neg (by decide), br_neg (by decide), br_neg (by decide), br_neg (by decide), br_pos rfl, br_neg (Int32.not_le.mpr h), if_neg (by decide), if_neg (by decide), if_neg (by decide), if_neg (by decide), if_pos rfl, if_pos h]
    · rw [br_neg (by decide), br_neg (by decide), br_neg (by decide), br_neg (by decide), br_pos rfl, br_pos (Int32.not_lt.mp h), if_neg (by decide), if_neg (by decide), if_neg (by decide), if_neg (by decide), if_pos rfl, if_neg h]
  by_cases h6 : s = -12
  · rw [h6]
    rw [br_neg (by decide), br_neg (by decide), br_neg (by decide), br_neg (by decide), br_neg (by decide), br_pos rfl, if_neg (by decide), if_neg (by decide), if_neg (by decide), if_neg (by decide), if_neg (by decide), if_pos rfl]
    by_cases ha : a = 0
    · rw [br_pos ha, if_neg (fun z => z.1 ha)]
    · by_cases hb : b = 0
      · rw [br_neg ha, br_pos hb, if_neg (fun z => z.2 hb)]
      · rw [br_neg ha, br_neg hb, if_pos ⟨ha, hb⟩]
  by_cases h7 : s = -11
  · rw [h7]
    rw [br_neg (by decide), br_neg (by decide), br_neg (by decide), br_neg (by decide), br_neg (by decide), br_neg (by decide), br_pos rfl, if_neg (by decide), if_neg (by decide), if_neg (by decide), if_neg (by decide), if_neg (by decide), if_neg (by decide), if_pos rfl]
    by_cases ha : a = 0
    · rw [br_neg (fun z => z ha)]
      by_cases hb : b = 0
      · rw [br_pos hb, if_neg (fun z => z.elim (fun z => z ha) (fun z => z hb))]
      · rw [br_neg hb, if_pos (Or.inr hb)]
    · rw [br_pos ha, if_pos (Or.inl ha)]
  rw [br_neg h1, br_neg h2, br_neg h3, br_neg h4, br_neg h5, br_neg h6, br_neg h7, if_neg h1, if_neg h2, if_neg h3, if_neg h4, if_neg h5, if_neg h6, if_neg h7]
  by_cases hb : b = 0
  · rw [br_neg (fun z => z hb), if_pos hb]
  · rw [br_pos hb, gd_pos hb, if_neg hb]
def IVal (cs vs : Nat → Int32) (w : Wld) (k : Nat) (s : Int32 × Int32 × Wld) : Prop := s.1 = jn (dep cs k) ∧ s.2.1 = jn k ∧ Frm [61] [] w s.2.2 ∧ ∀ j, j < dep cs k → s.2.2 61 j = stk cs vs k j
theorem t_valueBy {w : Wld} {h : Hs} {vs : Nat → Int32} (hw : CHs w h) (hh : GdH h) (h0 : hsL h ≠ 0) (hv : ∀ v, v < 8 → w 62 v = vs v) : Ret (F_Rule_valueBy_59_62 w) (fun q => q.1 = stk (hsC h) vs (hsL h) 0 ∧ Frm [61] [] w q.2) := by
  have hL := hh.2.2.2.2.1
  have hok := hh.2.2.2.2.2
  have hd := dep_le hok
  rw [F_Rule_valueBy_59_62, ret_bl]
  refine loop_inv (I := IVal (hsC h) vs w) (hsL h) ⟨rfl, rfl, frm_rf, fun j hj => absurd hj (Nat.not_lt_zero j)⟩ (fun k s hk hi => ?_) (fun s hi => ?_)
  · obtain ⟨top, i, w1⟩ := s
    obtain ⟨i1, i2, i3, i4⟩ := hi
    simp only at i1 i2 i3 i4
    subst i1 i2
    have e59 : w1 59 2 = jn (hsL h) := (i3 59 2 rfl).trans hw.2.2.2.2.2.2.1
    have e60 : w1 60 k = hsC h k := (i3 60 k rfl).trans (hw.2.2.2.2.2.2.2 k hk)
    have hdk := hd k (by omega)
    have hds : dep (hsC h) (k + 1) = if hsC h k ≤ -11 then dep (hsC h) k - 1 else if hsC h k = -10 then dep (hsC h) k else dep (hsC h) k + 1 := rfl
    have hst : stk (hsC h) vs (k + 1) = if hsC h k ≤ -11 then upd (stk (hsC h) vs k) (dep (hsC h) k - 2) (join (hsC h k) (stk (hsC h) vs k (dep (hsC h) k - 2)) (stk (hsC h) vs k (dep (hsC h) k - 1)))
      else if hsC h k = -10 then upd (stk (hsC h) vs k) (dep (hsC h) k - 1) (if stk (hsC h) vs k (dep (hsC h) k - 1) = 0 then 1 else 0)
      else upd (stk (hsC h) vs k) (dep (hsC h) k) (if 0 ≤ hsC h k then hsC h k else vs (-2 - hsC h k).toNatClampNeg) := rfl
    rcases okS_cases (hok k hk) with ⟨hp, hlt⟩ | ⟨hn, h1⟩ | ⟨hb1, hb2, hge, hb3⟩
    · have key : ∀ x : Int32, (x = if 0 ≤ hsC h k then hsC h k else vs (-2 - hsC h k).toNatClampNeg) → ¬ hsC h k ≤ -11 → ¬ hsC h k = -10 → IVal (hsC h) vs w (k + 1) (jn (dep (hsC h) k + 1), jn (k + 1), wup w1 61 (dep (hsC h) k) x) := by
        intro x hx n1 n2
        refine ⟨?_, rfl, frm_wup i3 _ _ _ rfl, fun j hj => ?_⟩
        · rw [hds, if_neg n1, if_neg n2]
        · rw [hds, if_neg n1, if_neg n2] at hj
          rw [hst, if_neg n1, if_neg n2]
          show wup w1 61 _ x 61 j = _
          rw [wup_s, upd]
          by_cases hj2 : j = dep (hsC h) k
          · rw [if_pos hj2, if_pos hj2, hx]
          · rw [if_neg hj2, if_neg hj2]; exact i4 j (by omega)
      rcases hp with hp | ⟨v, hv8, hp⟩
      · obtain ⟨p1, p2, p3, p4, p5⟩ := hp
        simp (disch := omega) only [B_Rule_valueBy_59_62_4, K_Rule_valueBy_59_62_132, K_Rule_valueBy_59_62_136, ↓bi_eq, ↓bw_eq, gd_pos, br_pos, br_neg, br_T, br_F, gd_T, bp_some, bd_some, bv_some, bl_some, bx_inl, bx_inr, bn_none, bn_some, bt_inl, bt_inr, not_true_eq_false, not_false_eq_true, eq_self, Bool.false_eq_true, if_true, if_false, jn_clamp, jn_lt, jn_le, jn_inj, jn_add, jn_sub, jn_mul, jn_vp, jn_0a, jn_1a, jn_1b, jn_1s, jn_1m, jn_neg0, jn_le0, jn_0le, jn_0lt, jn_1le, jn_le1, jn_lt1, jn_1lt, jn_e0, jn_e1, jn_em, ↓qB_f, ↓qT_f, cl_0, cl_1, vp_0, vp_1, li_40, e59, e60, p2, p3, p5, ret_some, LQ_inl]
        exact key _ (by rw [if_pos p1]) p4 p3
      · have f := pushV_facts v hv8
        rw [hp] at key e60
        simp (disch := omega) only [B_Rule_valueBy_59_62_4, K_Rule_valueBy_59_62_132, K_Rule_valueBy_59_62_136, ↓bi_eq, ↓bw_eq, gd_pos, br_pos, br_neg, br_T, br_F, gd_T, bp_some, bd_some, bv_some, bl_some, bx_inl, bx_inr, bn_none, bn_some, bt_inl, bt_inr, not_true_eq_false, not_false_eq_true, eq_self, Bool.false_eq_true, if_true, if_false, jn_clamp, jn_lt, jn_le, jn_inj, jn_add, jn_sub, jn_mul, jn_vp, jn_0a, jn_1a, jn_1b, jn_1s, jn_1m, jn_neg0, jn_le0, jn_0le, jn_0lt, jn_1le, jn_le1, jn_lt1, jn_1lt, jn_e0, jn_e1, jn_em, ↓qB_f, ↓qT_f, cl_0, cl_1, vp_0, vp_1, li_40, e59, e60, f.1, f.2.1, f.2.2.2.1, f.2.2.2.2.2, ret_some, LQ_inl]
        refine key _ ?_ f.2.2.1 f.2.1
        rw [if_neg f.2.2.2.2.1, f.2.2.2.2.2, jn_clamp (by omega), i3 62 v rfl, hv v hv8]
    · have hb1 : ¬ hsC h k ≤ -11 := by rw [hn]; decide
      have key : ∀ x : Int32, (x = if stk (hsC h) vs k (dep (hsC h) k - 1) = 0 then 1 else 0) → IVal (hsC h) vs w (k + 1) (jn (dep (hsC h) k), jn (k + 1), wup w1 61 (dep (hsC h) k - 1) x) := by
        intro x hx
        refine ⟨?_, rfl, frm_wup i3 _ _ _ rfl, fun j hj => ?_⟩
        · rw [hds, if_neg hb1, if_pos hn]
        · rw [hds, if_neg hb1, if_pos hn] at hj
          rw [hst, if_neg hb1, if_pos hn]
          show wup w1 61 _ x 61 j = _
          rw [wup_s, upd]
          by_cases hj2 : j = dep (hsC h) k - 1
          · rw [if_pos hj2, if_pos hj2, hx]
          · rw [if_neg hj2, if_neg hj2]; exact i4 j (by omega)
      have et := i4 (dep (hsC h) k - 1) (by omega)
      have ei : ¬ dep (hsC h) k = 0 := by omega
      by_cases hz : stk (hsC h) vs k (dep (hsC h) k - 1) = 0
      · simp (disch := omega) only [B_Rule_valueBy_59_62_4, K_Rule_valueBy_59_62_100, K_Rule_valueBy_59_62_136, ↓bi_eq, ↓bw_eq, gd_pos, br_pos, br_neg, br_T, br_F, gd_T, bp_some, bd_some, bv_some, bl_some, bx_inl, bx_inr, bn_none, bn_some, bt_inl, bt_inr, not_true_eq_false, not_false_eq_true, eq_self, Bool.false_eq_true, if_true, if_false, jn_clamp, jn_lt, jn_le, jn_inj, jn_add, jn_sub, jn_mul, jn_vp, jn_0a, jn_1a, jn_1b, jn_1s, jn_1m, jn_neg0, jn_le0, jn_0le, jn_0lt, jn_1le, jn_le1, jn_lt1, jn_1lt, jn_e0, jn_e1, jn_em, ↓qB_f, ↓qT_f, cl_0, cl_1, vp_0, vp_1, li_40, e59, e60, hn, et, hz, ei, (by decide : ((-11 : Int32) < -10) = True), ret_some, LQ_inl]
        exact key _ (by rw [if_pos hz])
      · simp (disch := omega) only [B_Rule_valueBy_59_62_4, K_Rule_valueBy_59_62_100, K_Rule_valueBy_59_62_136, ↓bi_eq, ↓bw_eq, gd_pos, br_pos, br_neg, br_T, br_F, gd_T, bp_some, bd_some, bv_some, bl_some, bx_inl, bx_inr, bn_none, bn_some, bt_inl, bt_inr, not_true_eq_false, not_false_eq_true, eq_self, Bool.false_eq_true, if_true, if_false, jn_clamp, jn_lt, jn_le, jn_inj, jn_add, jn_sub, jn_mul, jn_vp, jn_0a, jn_1a, jn_1b, jn_1s, jn_1m, jn_neg0, jn_le0, jn_0le, jn_0lt, jn_1le, jn_le1, jn_lt1, jn_1lt, jn_e0, jn_e1, jn_em, ↓qB_f, ↓qT_f, cl_0, cl_1, vp_0, vp_1, li_40, e59, e60, hn, et, hz, ei, (by decide : ((-11 : Int32) < -10) = True), ret_some, LQ_inl]
        exact key _ (by rw [if_neg hz])
    · have key : IVal (hsC h) vs w (k + 1) (jn (dep (hsC h) k - 1), jn (k + 1), wup w1 61 (dep (hsC h) k - 2) (join (hsC h k) (stk (hsC h) vs k (dep (hsC h) k - 2)) (stk (hsC h) vs k (dep (hsC h) k - 1)))) := by
        refine ⟨?_, rfl, frm_wup i3 _ _ _ rfl, fun j hj => ?_⟩
        · rw [hds, if_pos hb1]
        · rw [hds, if_pos hb1] at hj
          rw [hst, if_pos hb1]
          show wup w1 61 _ _ 61 j = _
          rw [wup_s, upd]
          by_cases hj2 : j = dep (hsC h) k - 2
          · rw [if_pos hj2, if_pos hj2]
          · rw [if_neg hj2, if_neg hj2]; exact i4 j (by omega)
      have e1 := i4 (dep (hsC h) k - 1) (by omega)
      have e2 := i4 (dep (hsC h) k - 2) (by omega)
      have e3 : dep (hsC h) k - 1 - 1 = dep (hsC h) k - 2 := by omega
      simp (disch := omega) only [B_Rule_valueBy_59_62_4, K_Rule_valueBy_59_62_136, ↓bi_eq, ↓bw_eq, gd_pos, br_pos, br_neg, br_T, br_F, gd_T, bp_some, bd_some, bv_some, bl_some, bx_inl, bx_inr, bn_none, bn_some, bt_inl, bt_inr, not_true_eq_false, not_false_eq_true, eq_self, Bool.false_eq_true, if_true, if_false, jn_clamp, jn_lt, jn_le, jn_inj, jn_add, jn_sub, jn_mul, jn_vp, jn_0a, jn_1a, jn_1b, jn_1s, jn_1m, jn_neg0, jn_le0, jn_0le, jn_0lt, jn_1le, jn_le1, jn_lt1, jn_1lt, jn_e0, jn_e1, jn_em, ↓qB_f, ↓qT_f, cl_0, cl_1, vp_0, vp_1, li_40, li_2, e59, e60, hb2, t_joined, e3, e1, e2, ret_some, LQ_inl]
      exact key
  · obtain ⟨top, i, w1⟩ := s
    obtain ⟨i1, i2, i3, i4⟩ := hi
    simp only at i1 i2 i3 i4
    subst i1 i2
    have e59 : w1 59 2 = jn (hsL h) := (i3 59 2 rfl).trans hw.2.2.2.2.2.2.1
    simp (disch := omega) only [B_Rule_valueBy_59_62_4, ↓bi_eq, ↓bw_eq, gd_pos, br_pos, br_neg, br_T, br_F, gd_T, bp_some, bd_some, bv_some, bl_some, bx_inl, bx_inr, bn_none, bn_some, bt_inl, bt_inr, not_true_eq_false, not_false_eq_true, eq_self, Bool.false_eq_true, if_true, if_false, jn_clamp, jn_lt, jn_le, jn_inj, jn_add, jn_sub, jn_mul, jn_vp, jn_0a, jn_1a, jn_1b, jn_1s, jn_1m, jn_neg0, jn_le0, jn_0le, jn_0lt, jn_1le, jn_le1, jn_lt1, jn_1lt, jn_e0, jn_e1, jn_em, ↓qB_f, ↓qT_f, cl_0, cl_1, vp_0, vp_1, e59, br_pos (Nat.le_refl (hsL h)), ret_some, LQ_inr]
    exact ⟨i4 0 (dep_pos hok _ (Nat.le_refl _) (by omega)), i3⟩
