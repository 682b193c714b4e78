/-! ===== hear, forget, image, restore ===== -/
theorem nar_b {b : Int32} (h : b = 0 ∨ b = 1) : vp_nar .boolean b = b := by rcases h with rfl | rfl <;> rfl
theorem RelH_he {w p : Wld} {h : Hs} (r : RelH w h) (fr : Frm [28, 29, 31, 41, 70, 71, 72] [(0, 2), (0, 35), (69, 3)] w p) (e : RE p) : RelH p h := by
  obtain ⟨r1, r2, r3, r4, r5, r6, r7, r8, r9⟩ := r
  have e66 : p 66 = w 66 := frm_cell fr 66 (fun _ => rfl)
  refine ⟨r1, CHs_fr r2 fr ⟨rfl, rfl, rfl, rfl, fun _ => rfl, fun _ => rfl, rfl, fun _ => rfl⟩, MHs_fr r3 fr ⟨rfl, rfl, rfl, rfl, rfl, fun _ => rfl, fun _ => rfl, fun _ => rfl⟩, ?_, RA_fr r5 fr ⟨rfl, rfl, fun _ => rfl, rfl, fun _ => rfl⟩, e, RU_fr r7 fr ⟨fun _ => rfl, fun _ => rfl⟩, RI_fr r8 fr ⟨rfl, rfl, fun _ => rfl, fun _ => rfl, rfl, rfl, fun _ => rfl, rfl, fun _ => rfl, rfl, fun _ => rfl, fun _ => rfl, fun _ => rfl, rfl, fun _ => rfl, fun _ => rfl, fun _ => rfl, fun _ => rfl, fun _ => rfl⟩, RT_fr r9 fr ⟨rfl, rfl, fun _ => rfl, fun _ => rfl, rfl, rfl⟩⟩
  unfold RS
  rw [e66]
  exact ⟨r4.1, MSt_fr r4.2 fr ⟨fun _ => rfl, fun _ => rfl, fun _ => rfl, fun _ => rfl, fun _ => rfl, fun _ => rfl, rfl, rfl, rfl⟩⟩
theorem j_forget {w : Wld} {h : Hs} (r : RelH w h) : Ret (F_C_forget w) (fun w1 => Ret (F_M_forget w1) (fun w2 => Rel w2)) := by
  simp only [F_C_forget, F_Heard_clear_69, F_M_forget, bw_eq, bv_some, ret_some]
  have fr : Frm [28, 29, 31, 41, 70, 71, 72] [(0, 2), (0, 35), (69, 3)] w (wup (wup (wup w 69 3 0) 0 2 0) 0 35 0) := frm_wup (frm_wup (frm_wup frm_rf _ _ _ rfl) _ _ _ rfl) _ _ _ rfl
  refine ⟨h, RelH_he r fr ⟨0, by omega, ?_, ?_, fun k hk => absurd hk (Nat.not_lt_zero k)⟩⟩
  · rw [wup_o _ _ _ (by decide), wup_o _ _ _ (by decide), wup_s1]; rfl
  · rw [wup_s1]; rfl
theorem j_hear {w : Wld} {h : Hs} (r : RelH w h) (a1 a2 a3 : Int32) (hb : a3 = 0 ∨ a3 = 1) : BothJ (F_C_hear w a1 a2 a3) (fun w1 => F_M_hear w1 a1 a2 a3) := by
  have r6 := r.2.2.2.2.2.1
  obtain ⟨n, hn, e1, e2, hk⟩ := r6
  have refuse : F_C_hear w a1 a2 a3 = K_C_hear_52 w → (∀ w2, (wup w2 0 2 0) 0 35 = jn n → F_M_hear w2 a1 a2 a3 = K_M_hear_38 (wup w2 0 2 0)) → BothJ (F_C_hear w a1 a2 a3) (fun w1 => F_M_hear w1 a1 a2 a3) := by
    intro hC hM
    unfold BothJ
    rw [hC, K_C_hear_52, gd_pos (show vp_in (2 : Int32) 3 from vpK (k := 2) (by omega) (by omega)), gd_pos (show vp_in (2 : Int32) 3 from vpK (k := 2) (by omega) (by omega)), bw_eq, show Int32.toNatClampNeg 2 = 2 from rfl, ret_some]
    simp only
    have e35 : (wup (wup w 73 2 (w 73 2 + 1)) 0 2 0) 0 35 = jn n := by rw [wup_s2 _ _ _ (by decide), wup_o _ _ _ (by decide)]; exact e2
    rw [hM _ e35, K_M_hear_38, show F_M_refuse (wup (wup w 73 2 (w 73 2 + 1)) 0 2 0) 2 = _ from m_refuse (wup (wup w 73 2 (w 73 2 + 1)) 0 2 0) (k := 2) (by omega), bd_some, ret_some]
    exact ⟨rfl, (ref_rel r (by omega) frm_rf).1⟩
  rcases rng_cases a1 1 20 (by omega) (by omega) with ⟨k1, h1, h2, rfl⟩ | ⟨n1, n2⟩
  rotate_left
  · have n2 : ¬ ((1 : Int32) ≤ a1 ∧ a1 ≤ 20) := n2
    refine refuse ?_ (fun w2 e35 => ?_)
    · have e : K_C_hear_34 a1 a2 a3 w = K_C_hear_52 w := by rw [K_C_hear_34, K_C_hear_35, br_pos rfl]
      rw [F_C_hear]
      by_cases h1 : a1 < 1
      · rw [br_pos h1, e]
      · rw [br_neg h1, br_pos (Int32.not_le.mp (fun z => n2 ⟨Int32.not_lt.mp h1, z⟩)), e]
    · rw [F_M_hear, bw_eq, e35, t_isIn, if_neg n2, bp_some]
      by_cases h8 : jn n = 8
      · rw [br_pos h8]
      · rw [br_neg h8, br_pos rfl]
  have g1 : (1 : Int32) ≤ jn k1 ∧ jn k1 ≤ 20 := g_rng 1 k1 20 (by omega) h1 h2
  rcases rng_cases a2 0 99 (by omega) (by omega) with ⟨v, h3, h4, rfl⟩ | ⟨n1, n2⟩
  rotate_left
  · have n2 : ¬ ((0 : Int32) ≤ a2 ∧ a2 ≤ 99) := n2
    refine refuse ?_ (fun w2 e35 => ?_)
    · have e : K_C_hear_34 (jn k1) a2 a3 w = K_C_hear_52 w := by rw [K_C_hear_34, K_C_hear_35, br_pos rfl]
      rw [F_C_hear, br_neg (Int32.not_lt.mpr g1.1), br_neg (Int32.not_lt.mpr g1.2)]
      by_cases h1 : a2 < 0
      · rw [br_pos h1, e]
      · rw [br_neg h1, br_pos (Int32.not_le.mp (fun z => n2 ⟨Int32.not_lt.mp h1, z⟩)), e]
    · rw [F_M_hear, bw_eq, e35, t_isIn, if_pos g1, bp_some, t_isIn, if_neg n2, bp_some]
      by_cases h8 : jn n = 8
      · rw [br_pos h8]
      · rw [br_neg h8, br_neg (by decide), br_neg (fun z => z rfl)]
  have g2 : (0 : Int32) ≤ jn v ∧ jn v ≤ 99 := g_what v 99 (by omega) h4
  have hC0 : F_C_hear w (jn k1) (jn v) a3 = K_C_hear_35 (jn k1) (jn v) a3 1 w := by
    rw [F_C_hear, br_neg (Int32.not_lt.mpr g1.1), br_neg (Int32.not_lt.mpr g1.2), br_neg (Int32.not_lt.mpr g2.1), br_neg (Int32.not_lt.mpr g2.2)]
  by_cases h8 : n = 8
  · refine refuse ?_ (fun w2 e35 => ?_)
    · rw [hC0, K_C_hear_35, br_neg (by decide), e1, h8, br_neg (by decide)]
    · rw [F_M_hear, bw_eq, e35, h8, br_pos (by decide)]
  have hn8 : ¬ n = 8 := h8
  have hlt : n < 8 := by omega
  have nb := nar_b hb
  unfold BothJ
  rw [hC0]
  have hC : K_C_hear_35 (jn k1) (jn v) a3 1 w = some (jn (n + 1), wup (wup (wup (wup w 70 n (jn k1)) 71 n (jn v)) 72 n a3) 69 3 (jn (n + 1))) := by
    simp (disch := omega) only [K_C_hear_35, F_Heard_add_69, K_Heard_add_69_49, ↓bi_eq, ↓bw_eq, gd_pos, br_pos, br_neg, br_T, br_F, gd_T, bq_some, bd_some, bv_some, bl_some, bx_inl, bx_inr, bn_none, bn_some, bt_inl, bt_inr, not_true_eq_false, not_false_eq_true, eq_self, Bool.false_eq_true, if_true, if_false, jn_clamp, jn_lt, jn_le, jn_inj, jn_add, jn_sub, jn_mul, jn_vp, jn_0a, jn_1a, jn_1b, jn_1s, jn_1m, jn_neg0, jn_le0, jn_0le, jn_0lt, jn_1le, jn_le1, jn_lt1, jn_1lt, jn_e0, jn_e1, jn_em, ↓qB_f, ↓qT_f, cl_0, cl_1, vp_0, vp_1, li_8, e1, nb, wup_o, wup_s1, (by decide : ((1 : Int32) = 0) = False)]
  rw [hC, ret_some]
  simp only
  have fc : Frm [70, 71, 72] [(69, 3)] w (wup (wup (wup (wup w 70 n (jn k1)) 71 n (jn v)) 72 n a3) 69 3 (jn (n + 1))) := frm_wup (frm_wup (frm_wup (frm_wup frm_rf _ _ _ rfl) _ _ _ rfl) _ _ _ rfl) _ _ _ rfl
  have c69 : (wup (wup (wup (wup w 70 n (jn k1)) 71 n (jn v)) 72 n a3) 69 3 (jn (n + 1))) 69 3 = jn (n + 1) := wup_s1 _ _ _ _
  have c70 : (wup (wup (wup (wup w 70 n (jn k1)) 71 n (jn v)) 72 n a3) 69 3 (jn (n + 1))) 70 = upd (w 70) n (jn k1) := by rw [wup_o _ _ _ (by decide), wup_o _ _ _ (by decide), wup_o _ _ _ (by decide), wup_same]
  have c71 : (wup (wup (wup (wup w 70 n (jn k1)) 71 n (jn v)) 72 n a3) 69 3 (jn (n + 1))) 71 = upd (w 71) n (jn v) := by rw [wup_o _ _ _ (by decide), wup_o _ _ _ (by decide), wup_same, wup_o _ _ _ (by decide)]
  have c72 : (wup (wup (wup (wup w 70 n (jn k1)) 71 n (jn v)) 72 n a3) 69 3 (jn (n + 1))) 72 = upd (w 72) n a3 := by rw [wup_o _ _ _ (by decide), wup_same, wup_o _ _ _ (by decide), wup_o _ _ _ (by decide)]
  generalize wup (wup (wup (wup w 70 n (jn k1)) 71 n (jn v)) 72 n a3) 69 3 (jn (n + 1)) = w1 at fc c69 c70 c71 c72 ⊢
  have e35 : (wup w1 0 2 0) 0 35 = jn n := by rw [wup_s2 _ _ _ (by decide), fc 0 35 rfl]; exact e2
  have hM : F_M_hear w1 (jn k1) (jn v) a3 = some (jn (n + 1), wup (wup (wup (wup (wup w1 0 2 0) 28 n (jn k1)) 29 n (jn v)) 31 n a3) 0 35 (jn (n + 1))) := by
    rw [F_M_hear, bw_eq, e35, t_isIn, if_pos g1, bp_some, t_isIn, if_pos g2, bp_some, br_neg (by rw [li_8, jn_inj (by omega) (by omega)]; exact hn8), br_neg (by decide), br_pos (by decide)]
    generalize wup w1 0 2 0 = wa at e35 ⊢
    simp (disch := omega) only [↓bi_eq, ↓bw_eq, gd_pos, br_pos, br_neg, br_T, br_F, gd_T, bq_some, bd_some, bv_some, bl_some, bx_inl, bx_inr, bn_none, bn_some, bt_inl, bt_inr, not_true_eq_false, not_false_eq_true, eq_self, Bool.false_eq_true, if_true, if_false, jn_clamp, jn_lt, jn_le, jn_inj, jn_add, jn_sub, jn_mul, jn_vp, jn_0a, jn_1a, jn_1b, jn_1s, jn_1m, jn_neg0, jn_le0, jn_0le, jn_0lt, jn_1le, jn_le1, jn_lt1, jn_1lt, jn_e0, jn_e1, jn_em, ↓qB_f, ↓qT_f, cl_0, cl_1, vp_0, vp_1, e35, nb, wup_o, wup_s1]
  rw [hM, ret_some]
  refine ⟨rfl, h, RelH_he r (frm_tr (frm_up fc rfl) (frm_wup (frm_wup (frm_wup (frm_wup (frm_wup frm_rf _ _ _ rfl) _ _ _ rfl) _ _ _ rfl) _ _ _ rfl) _ _ _ rfl)) ⟨n + 1, by omega, ?_, ?_, fun k hk9 => ?_⟩⟩
  · simp (disch := omega) only [wup_o, c69]
  · simp (disch := omega) only [wup_s1]
  · have d70 : (wup (wup (wup (wup (wup w1 0 2 0) 28 n (jn k1)) 29 n (jn v)) 31 n a3) 0 35 (jn (n + 1))) 70 = w1 70 := by simp (disch := omega) only [wup_o]
    have d71 : (wup (wup (wup (wup (wup w1 0 2 0) 28 n (jn k1)) 29 n (jn v)) 31 n a3) 0 35 (jn (n + 1))) 71 = w1 71 := by simp (disch := omega) only [wup_o]
    have d72 : (wup (wup (wup (wup (wup w1 0 2 0) 28 n (jn k1)) 29 n (jn v)) 31 n a3) 0 35 (jn (n + 1))) 72 = w1 72 := by simp (disch := omega) only [wup_o]
    have d28 : (wup (wup (wup (wup (wup w1 0 2 0) 28 n (jn k1)) 29 n (jn v)) 31 n a3) 0 35 (jn (n + 1))) 28 = upd (w 28) n (jn k1) := by
      rw [wup_o _ _ _ (by decide), wup_o _ _ _ (by decide), wup_o _ _ _ (by decide), wup_same, wup_o _ _ _ (by decide), frm_cell fc 28 (fun _ => rfl)]
    have d29 : (wup (wup (wup (wup (wup w1 0 2 0) 28 n (jn k1)) 29 n (jn v)) 31 n a3) 0 35 (jn (n + 1))) 29 = upd (w 29) n (jn v) := by
      rw [wup_o _ _ _ (by decide), wup_o _ _ _ (by decide), wup_same, wup_o _ _ _ (by decide), wup_o _ _ _ (by decide), frm_cell fc 29 (fun _ => rfl)]
    have d31 : (wup (wup (wup (wup (wup w1 0 2 0) 28 n (jn k1)) 29 n (jn v)) 31 n a3) 0 35 (jn (n + 1))) 31 = upd (w 31) n a3 := by
      rw [wup_o _ _ _ (by decide), wup_same, wup_o _ _ _ (by decide), wup_o _ _ _ (by decide), wup_o _ _ _ (by decide), frm_cell fc 31 (fun _ => rfl)]
    simp only [d70, d71, d72, d28, d29, d31, c70, c71, c72]
    by_cases e : k = n
    · subst e
      simp only [upd_1]
      exact ⟨⟨k1, h1, h2, rfl, rfl⟩, ⟨v, by omega, rfl, rfl⟩, a3, hb, rfl, rfl⟩
    · simp only [upd_2 _ _ e]
      exact hk k (by omega)
/-! copies -/
theorem t_copy_20_36 (w : Wld) : Ret (F_M_copyTo_20_36 w) (fun w' => Frm [20] [] w w' ∧ ∀ i, i < 2120 → w' 20 i = w 36 i) := by
  rw [F_M_copyTo_20_36, ret_bl]
  refine ret_mono (P := fun w' => Frm [20] [] w w' ∧ ∀ i, i < 2120 → w' 20 i = w 36 i) ?_ (fun w' hq => by rw [ret_some]; exact hq)
  refine loop_inv (I := fun k s => s.1 = jn k ∧ Frm [20] [] w s.2 ∧ ∀ i, i < k → s.2 20 i = w 36 i) 2120 ⟨rfl, frm_rf, fun i hi => absurd hi (Nat.not_lt_zero i)⟩ (fun k s hk hi => ?_) (fun s hi => ?_)
  · obtain ⟨i, w1⟩ := s
    obtain ⟨i1, i2, i3⟩ := hi
    simp only at i1 i2 i3
    subst i1
    have es : w1 36 k = w 36 k := i2 36 k rfl
    simp (disch := omega) only [B_M_copyTo_20_36_2, ↓bi_eq, ↓bw_eq, gd_pos, br_pos, br_neg, br_T, br_F, gd_T, bq_some, bd_some, bv_some, bl_some, bx_inl, bx_inr, bn_none, bn_some, bt_inl, bt_inr, not_true_eq_false, not_false_eq_true, eq_self, Bool.false_eq_true, if_true, if_false, jn_clamp, jn_lt, jn_le, jn_inj, jn_add, jn_sub, jn_mul, jn_vp, jn_0a, jn_1a, jn_1b, jn_1s, jn_1m, jn_neg0, jn_le0, jn_0le, jn_0lt, jn_1le, jn_le1, jn_lt1, jn_1lt, jn_e0, jn_e1, jn_em, ↓qB_f, ↓qT_f, cl_0, cl_1, vp_0, vp_1, li_2120, es, ret_some, LQ_inl]
    refine ⟨trivial, frm_wup i2 _ _ _ rfl, fun i hi => ?_⟩
    rw [wup_s]
    by_cases e : i = k
    · rw [if_pos e, e]
    · rw [if_neg e]; exact i3 i (by omega)
  · obtain ⟨i, w1⟩ := s
    obtain ⟨i1, i2, i3⟩ := hi
    simp only at i1 i2 i3
    subst i1
    simp (disch := omega) only [B_M_copyTo_20_36_2, ↓bi_eq, ↓bw_eq, gd_pos, br_pos, br_neg, br_T, br_F, gd_T, bq_some, bd_some, bv_some, bl_some, bx_inl, bx_inr, bn_none, bn_some, bt_inl, bt_inr, not_true_eq_false, not_false_eq_true, eq_self, Bool.false_eq_true, if_true, if_false, jn_clamp, jn_lt, jn_le, jn_inj, jn_add, jn_sub, jn_mul, jn_vp, jn_0a, jn_1a, jn_1b, jn_1s, jn_1m, jn_neg0, jn_le0, jn_0le, jn_0lt, jn_1le, jn_le1, jn_lt1, jn_1lt, jn_e0, jn_e1, jn_em, ↓qB_f, ↓qT_f, cl_0, cl_1, vp_0, vp_1, li_2120, br_pos (Nat.le_refl 2120), ret_some, LQ_inr]
    exact ⟨i2, i3⟩
theorem t_copy_36_20 (w : Wld) : Ret (F_M_copyTo_36_20 w) (fun w' => Frm [36] [] w w' ∧ ∀ i, i < 2120 → w' 36 i = w 20 i) := by
  rw [F_M_copyTo_36_20, ret_bl]
  refine ret_mono (P := fun w' => Frm [36] [] w w' ∧ ∀ i, i < 2120 → w' 36 i = w 20 i) ?_ (fun w' hq => by rw [ret_some]; exact hq)
  refine loop_inv (I := fun k s => s.1 = jn k ∧ Frm [36] [] w s.2 ∧ ∀ i, i < k → s.2 36 i = w 20 i) 2120 ⟨rfl, frm_rf, fun i hi => absurd hi (Nat.not_lt_zero i)⟩ (fun k s hk hi => ?_) (fun s hi => ?_)
  · obtain ⟨i, w1⟩ := s
    obtain ⟨i1, i2, i3⟩ := hi
    simp only at i1 i2 i3
    subst i1
    have es : w1 20 k = w 20 k := i2 20 k rfl
    simp (disch := omega) only [B_M_copyTo_36_20_2, ↓bi_eq, ↓bw_eq, gd_pos, br_pos, br_neg, br_T, br_F, gd_T, bq_some, bd_some, bv_some, bl_some, bx_inl, bx_inr, bn_none, bn_some, bt_inl, bt_inr, not_true_eq_false, not_false_eq_true, eq_self, Bool.false_eq_true, if_true, if_false, jn_clamp, jn_lt, jn_le, jn_inj, jn_add, jn_sub, jn_mul, jn_vp, jn_0a, jn_1a, jn_1b, jn_1s, jn_1m, jn_neg0, jn_le0, jn_0le, jn_0lt, jn_1le, jn_le1, jn_lt1, jn_1lt, jn_e0, jn_e1, jn_em, ↓qB_f, ↓qT_f, cl_0, cl_1, vp_0, vp_1, li_2120, es, ret_some, LQ_inl]
    refine ⟨trivial, frm_wup i2 _ _ _ rfl, fun i hi => ?_⟩
    rw [wup_s]
    by_cases e : i = k
    · rw [if_pos e, e]
    · rw [if_neg e]; exact i3 i (by omega)
  · obtain ⟨i, w1⟩ := s
    obtain ⟨i1, i2, i3⟩ := hi
    simp only at i1 i2 i3
    subst i1
    simp (disch := omega) only [B_M_copyTo_36_20_2, ↓bi_eq, ↓bw_eq, gd_pos, br_pos, br_neg, br_T, br_F, gd_T, bq_some, bd_some, bv_some, bl_some, bx_inl, bx_inr, bn_none, bn_some, bt_inl, bt_inr, not_true_eq_false, not_false_eq_true, eq_self, Bool.false_eq_true, if_true, if_false, jn_clamp, jn_lt, jn_le, jn_inj, jn_add, jn_sub, jn_mul, jn_vp, jn_0a, jn_1a, jn_1b, jn_1s, jn_1m, jn_neg0, jn_le0, jn_0le, jn_0lt, jn_1le, jn_le1, jn_lt1, jn_1lt, jn_e0, jn_e1, jn_em, ↓qB_f, ↓qT_f, cl_0, cl_1, vp_0, vp_1, li_2120, br_pos (Nat.le_refl 2120), ret_some, LQ_inr]
    exact ⟨i2, i3⟩
theorem t_copy_28_37 (w : Wld) : Ret (F_M_copyTo_28_37 w) (fun w' => Frm [28] [] w w' ∧ ∀ i, i < 8 → w' 28 i = w 37 i) := by
  rw [F_M_copyTo_28_37, ret_bl]
  refine ret_mono (P := fun w' => Frm [28] [] w w' ∧ ∀ i, i < 8 → w' 28 i = w 37 i) ?_ (fun w' hq => by rw [ret_some]; exact hq)
  refine loop_inv (I := fun k s => s.1 = jn k ∧ Frm [28] [] w s.2 ∧ ∀ i, i < k → s.2 28 i = w 37 i) 8 ⟨rfl, frm_rf, fun i hi => absurd hi (Nat.not_lt_zero i)⟩ (fun k s hk hi => ?_) (fun s hi => ?_)
  · obtain ⟨i, w1⟩ := s
    obtain ⟨i1, i2, i3⟩ := hi
    simp only at i1 i2 i3
    subst i1
    have es : w1 37 k = w 37 k := i2 37 k rfl
    simp (disch := omega) only [B_M_copyTo_28_37_2, ↓bi_eq, ↓bw_eq, gd_pos, br_pos, br_neg, br_T, br_F, gd_T, bq_some, bd_some, bv_some, bl_some, bx_inl, bx_inr, bn_none, bn_some, bt_inl, bt_inr, not_true_eq_false, not_false_eq_true, eq_self, Bool.false_eq_true, if_true, if_false, jn_clamp, jn_lt, jn_le, jn_inj, jn_add, jn_sub, jn_mul, jn_vp, jn_0a, jn_1a, jn_1b, jn_1s, jn_1m, jn_neg0, jn_le0, jn_0le, jn_0lt, jn_1le, jn_le1, jn_lt1, jn_1lt, jn_e0, jn_e1, jn_em, ↓qB_f, ↓qT_f, cl_0, cl_1, vp_0, vp_1, li_8, es, ret_some, LQ_inl]
    refine ⟨trivial, frm_wup i2 _ _ _ rfl, fun i hi => ?_⟩
    rw [wup_s]
    by_cases e : i = k
    · rw [if_pos e, e]
    · rw [if_neg e]; exact i3 i (by omega)
  · obtain ⟨i, w1⟩ := s
    obtain ⟨i1, i2, i3⟩ := hi
    simp only at i1 i2 i3
    subst i1
    simp (disch := omega) only [B_M_copyTo_28_37_2, ↓bi_eq, ↓bw_eq, gd_pos, br_pos, br_neg, br_T, br_F, gd_T, bq_some, bd_some, bv_some, bl_some, bx_inl, bx_inr, bn_none, bn_some, bt_inl, bt_inr, not_true_eq_false, not_false_eq_true, eq_self, Bool.false_eq_true, if_true, if_false, jn_clamp, jn_lt, jn_le, jn_inj, jn_add, jn_sub, jn_mul, jn_vp, jn_0a, jn_1a, jn_1b, jn_1s, jn_1m, jn_neg0, jn_le0, jn_0le, jn_0lt, jn_1le, jn_le1, jn_lt1, jn_1lt, jn_e0, jn_e1, jn_em, ↓qB_f, ↓qT_f, cl_0, cl_1, vp_0, vp_1, li_8, br_pos (Nat.le_refl 8), ret_some, LQ_inr]
    exact ⟨i2, i3⟩
theorem t_copy_37_28 (w : Wld) : Ret (F_M_copyTo_37_28 w) (fun w' => Frm [37] [] w w' ∧ ∀ i, i < 8 → w' 37 i = w 28 i) := by
  rw [F_M_copyTo_37_28, ret_bl]
  refine ret_mono (P := fun w' => Frm [37] [] w w' ∧ ∀ i, i < 8 → w' 37 i = w 28 i) ?_ (fun w' hq => by rw [ret_some]; exact hq)
  refine loop_inv (I := fun k s => s.1 = jn k ∧ Frm [37] [] w s.2 ∧ ∀ i, i < k → s.2 37 i = w 28 i) 8 ⟨rfl, frm_rf, fun i hi => absurd hi (Nat.not_lt_zero i)⟩ (fun k s hk hi => ?_) (fun s hi => ?_)
  · obtain ⟨i, w1⟩ := s
    obtain ⟨i1, i2, i3⟩ := hi
    simp only at i1 i2 i3
    subst i1
    have es : w1 28 k = w 28 k := i2 28 k rfl
    simp (disch := omega) only [B_M_copyTo_37_28_2, ↓bi_eq, ↓bw_eq, gd_pos, br_pos, br_neg, br_T, br_F, gd_T, bq_some, bd_some, bv_some, bl_some, bx_inl, bx_inr, bn_none, bn_some, bt_inl, bt_inr, not_true_eq_false, not_false_eq_true, eq_self, Bool.false_eq_true, if_true, if_false, jn_clamp, jn_lt, jn_le, jn_inj, jn_add, jn_sub, jn_mul, jn_vp, jn_0a, jn_1a, jn_1b, jn_1s, jn_1m, jn_neg0, jn_le0, jn_0le, jn_0lt, jn_1le, jn_le1, jn_lt1, jn_1lt, jn_e0, jn_e1, jn_em, ↓qB_f, ↓qT_f, cl_0, cl_1, vp_0, vp_1, li_8, es, ret_some, LQ_inl]
    refine ⟨trivial, frm_wup i2 _ _ _ rfl, fun i hi => ?_⟩
    rw [wup_s]
    by_cases e : i = k
    · rw [if_pos e, e]
    · rw [if_neg e]; exact i3 i (by omega)
  · obtain ⟨i, w1⟩ := s
    obtain ⟨i1, i2, i3⟩ := hi
    simp only at i1 i2 i3
    subst i1
    simp (disch := omega) only [B_M_copyTo_37_28_2, ↓bi_eq, ↓bw_eq, gd_pos, br_pos, br_neg, br_T, br_F, gd_T, bq_some, bd_some, bv_some, bl_some, bx_inl, bx_inr, bn_none, bn_some, bt_inl, bt_inr, not_true_eq_false, not_false_eq_true, eq_self, Bool.false_eq_true, if_true, if_false, jn_clamp, jn_lt, jn_le, jn_inj, jn_add, jn_sub, jn_mul, jn_vp, jn_0a, jn_1a, jn_1b, jn_1s, jn_1m, jn_neg0, jn_le0, jn_0le, jn_0lt, jn_1le, jn_le1, jn_lt1, jn_1lt, jn_e0, jn_e1, jn_em, ↓qB_f, ↓qT_f, cl_0, cl_1, vp_0, vp_1, li_8, br_pos (Nat.le_refl 8), ret_some, LQ_inr]
    exact ⟨i2, i3⟩
theorem t_copy_29_38 (w : Wld) : Ret (F_M_copyTo_29_38 w) (fun w' => Frm [29] [] w w' ∧ ∀ i, i < 8 → w' 29 i = w 38 i) := by
  rw [F_M_copyTo_29_38, ret_bl]
  refine ret_mono (P := fun w' => Frm [29] [] w w' ∧ ∀ i, i < 8 → w' 29 i = w 38 i) ?_ (fun w' hq => by rw [ret_some]; exact hq)
  refine loop_inv (I := fun k s => s.1 = jn k ∧ Frm [29] [] w s.2 ∧ ∀ i, i < k → s.2 29 i = w 38 i) 8 ⟨rfl, frm_rf, fun i hi => absurd hi (Nat.not_lt_zero i)⟩ (fun k s hk hi => ?_) (fun s hi => ?_)
  · obtain ⟨i, w1⟩ := s
    obtain ⟨i1, i2, i3⟩ := hi
    simp only at i1 i2 i3
    subst i1
    have es : w1 38 k = w 38 k := i2 38 k rfl
    simp (disch := omega) only [B_M_copyTo_29_38_2, ↓bi_eq, ↓bw_eq, gd_pos, br_pos, br_neg, br_T, br_F, gd_T, bq_some, bd_some, bv_some, bl_some, bx_inl, bx_inr, bn_none, bn_some, bt_inl, bt_inr, not_true_eq_false, not_false_eq_true, eq_self, Bool.false_eq_true, if_true, if_false, jn_clamp, jn_lt, jn_le, jn_inj, jn_add, jn_sub, jn_mul, jn_vp, jn_0a, jn_1a, jn_1b, jn_1s, jn_1m, jn_neg0, jn_le0, jn_0le, jn_0lt, jn_1le, jn_le1, jn_lt1, jn_1lt, jn_e0, jn_e1, jn_em, ↓qB_f, ↓qT_f, cl_0, cl_1, vp_0, vp_1, li_8, es, ret_some, LQ_inl]
    refine ⟨trivial, frm_wup i2 _ _ _ rfl, fun i hi => ?_⟩
    rw [wup_s]
    by_cases e : i = k
    · rw [if_pos e, e]
    · rw [if_neg e]; exact i3 i (by omega)
  · obtain ⟨i, w1⟩ := s
    obtain ⟨i1, i2, i3⟩ := hi
    simp only at i1 i2 i3
    subst i1
    simp (disch := omega) only [B_M_copyTo_29_38_2, ↓bi_eq, ↓bw_eq, gd_pos, br_pos, br_neg, br_T, br_F, gd_T, bq_some, bd_some, bv_some, bl_some, bx_inl, bx_inr, bn_none, bn_some, bt_inl, bt_inr, not_true_eq_false, not_false_eq_true, eq_self, Bool.false_eq_true, if_true, if_false, jn_clamp, jn_lt, jn_le, jn_inj, jn_add, jn_sub, jn_mul, jn_vp, jn_0a, jn_1a, jn_1b, jn_1s, jn_1m, jn_neg0, jn_le0, jn_0le, jn_0lt, jn_1le, jn_le1, jn_lt1, jn_1lt, jn_e0, jn_e1, jn_em, ↓qB_f, ↓qT_f, cl_0, cl_1, vp_0, vp_1, li_8, br_pos (Nat.le_refl 8), ret_some, LQ_inr]
    exact ⟨i2, i3⟩
theorem t_copy_38_29 (w : Wld) : Ret (F_M_copyTo_38_29 w) (fun w' => Frm [38] [] w w' ∧ ∀ i, i < 8 → w' 38 i = w 29 i) := by
  rw [F_M_copyTo_38_29, ret_bl]
  refine ret_mono (P := fun w' => Frm [38] [] w w' ∧ ∀ i, i < 8 → w' 38 i = w 29 i) ?_ (fun w' hq => by rw [ret_some]; exact hq)
  refine loop_inv (I := fun k s => s.1 = jn k ∧ Frm [38] [] w s.2 ∧ ∀ i, i < k → s.2 38 i = w 29 i) 8 ⟨rfl, frm_rf, fun i hi => absurd hi (Nat.not_lt_zero i)⟩ (fun k s hk hi => ?_) (fun s hi => ?_)
  · obtain ⟨i, w1⟩ := s
    obtain ⟨i1, i2, i3⟩ := hi
    simp only at i1 i2 i3
    subst i1
    have es : w1 29 k = w 29 k := i2 29 k rfl
    simp (disch := omega) only [B_M_copyTo_38_29_2, ↓bi_eq, ↓bw_eq, gd_pos, br_pos, br_neg, br_T, br_F, gd_T, bq_some, bd_some, bv_some, bl_some, bx_inl, bx_inr, bn_none, bn_some, bt_inl, bt_inr, not_true_eq_false, not_false_eq_true, eq_self, Bool.false_eq_true, if_true, if_false, jn_clamp, jn_lt, jn_le, jn_inj, jn_add, jn_sub, jn_mul, jn_vp, jn_0a, jn_1a, jn_1b, jn_1s, jn_1m, jn_neg0, jn_le0, jn_0le, jn_0lt, jn_1le, jn_le1, jn_lt1, jn_1lt, jn_e0, jn_e1, jn_em, ↓qB_f, ↓qT_f, cl_0, cl_1, vp_0, vp_1, li_8, es, ret_some, LQ_inl]
    refine ⟨trivial, frm_wup i2 _ _ _ rfl, fun i hi => ?_⟩
    rw [wup_s]
    by_cases e : i = k
    · rw [if_pos e, e]
    · rw [if_neg e]; exact i3 i (by omega)
  · obtain ⟨i, w1⟩ := s
    obtain ⟨i1, i2, i3⟩ := hi
    simp only at i1 i2 i3
    subst i1
    simp (disch := omega) only [B_M_copyTo_38_29_2, ↓bi_eq, ↓bw_eq, gd_pos, br_pos, br_neg, br_T, br_F, gd_T, bq_some, bd_some, bv_some, bl_some, bx_inl, bx_inr, bn_none, bn_some, bt_inl, bt_inr, not_true_eq_false, not_false_eq_true, eq_self, Bool.false_eq_true, if_true, if_false, jn_clamp, jn_lt, jn_le, jn_inj, jn_add, jn_sub, jn_mul, jn_vp, jn_0a, jn_1a, jn_1b, jn_1s, jn_1m, jn_neg0, jn_le0, jn_0le, jn_0lt, jn_1le, jn_le1, jn_lt1, jn_1lt, jn_e0, jn_e1, jn_em, ↓qB_f, ↓qT_f, cl_0, cl_1, vp_0, vp_1, li_8, br_pos (Nat.le_refl 8), ret_some, LQ_inr]
    exact ⟨i2, i3⟩
theorem t_copy_12_39 (w : Wld) : Ret (F_M_copyTo_12_39 w) (fun w' => Frm [12] [] w w' ∧ ∀ i, i < 3 → w' 12 i = w 39 i) := by
  rw [F_M_copyTo_12_39, ret_bl]
  refine ret_mono (P := fun w' => Frm [12] [] w w' ∧ ∀ i, i < 3 → w' 12 i = w 39 i) ?_ (fun w' hq => by rw [ret_some]; exact hq)
  refine loop_inv (I := fun k s => s.1 = jn k ∧ Frm [12] [] w s.2 ∧ ∀ i, i < k → s.2 12 i = w 39 i) 3 ⟨rfl, frm_rf, fun i hi => absurd hi (Nat.not_lt_zero i)⟩ (fun k s hk hi => ?_) (fun s hi => ?_)
  · obtain ⟨i, w1⟩ := s
    obtain ⟨i1, i2, i3⟩ := hi
    simp only at i1 i2 i3
    subst i1
    have es : w1 39 k = w 39 k := i2 39 k rfl
    simp (disch := omega) only [B_M_copyTo_12_39_2, ↓bi_eq, ↓bw_eq, gd_pos, br_pos, br_neg, br_T, br_F, gd_T, bq_some, bd_some, bv_some, bl_some, bx_inl, bx_inr, bn_none, bn_some, bt_inl, bt_inr, not_true_eq_false, not_false_eq_true, eq_self, Bool.false_eq_true, if_true, if_false, jn_clamp, jn_lt, jn_le, jn_inj, jn_add, jn_sub, jn_mul, jn_vp, jn_0a, jn_1a, jn_1b, jn_1s, jn_1m, jn_neg0, jn_le0, jn_0le, jn_0lt, jn_1le, jn_le1, jn_lt1, jn_1lt, jn_e0, jn_e1, jn_em, ↓qB_f, ↓qT_f, cl_0, cl_1, vp_0, vp_1, li_3, es, ret_some, LQ_inl]
    refine ⟨trivial, frm_wup i2 _ _ _ rfl, fun i hi => ?_⟩
    rw [wup_s]
    by_cases e : i = k
    · rw [if_pos e, e]
    · rw [if_neg e]; exact i3 i (by omega)
  · obtain ⟨i, w1⟩ := s
    obtain ⟨i1, i2, i3⟩ := hi
    simp only at i1 i2 i3
    subst i1
    simp (disch := omega) only [B_M_copyTo_12_39_2, ↓bi_eq, ↓bw_eq, gd_pos, br_pos, br_neg, br_T, br_F, gd_T, bq_some, bd_some, bv_some, bl_some, bx_inl, bx_inr, bn_none, bn_some, bt_inl, bt_inr, not_true_eq_false, not_false_eq_true, eq_self, Bool.false_eq_true, if_true, if_false, jn_clamp, jn_lt, jn_le, jn_inj, jn_add, jn_sub, jn_mul, jn_vp, jn_0a, jn_1a, jn_1b, jn_1s, jn_1m, jn_neg0, jn_le0, jn_0le, jn_0lt, jn_1le, jn_le1, jn_lt1, jn_1lt, jn_e0, jn_e1, jn_em, ↓qB_f, ↓qT_f, cl_0, cl_1, vp_0, vp_1, li_3, br_pos (Nat.le_refl 3), ret_some, LQ_inr]
    exact ⟨i2, i3⟩
theorem t_copy_39_12 (w : Wld) : Ret (F_M_copyTo_39_12 w) (fun w' => Frm [39] [] w w' ∧ ∀ i, i < 3 → w' 39 i = w 12 i) := by
  rw [F_M_copyTo_39_12, ret_bl]
  refine ret_mono (P := fun w' => Frm [39] [] w w' ∧ ∀ i, i < 3 → w' 39 i = w 12 i) ?_ (fun w' hq => by rw [ret_some]; exact hq)
  refine loop_inv (I := fun k s => s.1 = jn k ∧ Frm [39] [] w s.2 ∧ ∀ i, i < k → s.2 39 i = w 12 i) 3 ⟨rfl, frm_rf, fun i hi => absurd hi (Nat.not_lt_zero i)⟩ (fun k s hk hi => ?_) (fun s hi => ?_)
  · obtain ⟨i, w1⟩ := s
    obtain ⟨i1, i2, i3⟩ := hi
    simp only at i1 i2 i3
    subst i1
    have es : w1 12 k = w 12 k := i2 12 k rfl
    simp (disch := omega) only [B_M_copyTo_39_12_2, ↓bi_eq, ↓bw_eq, gd_pos, br_pos, br_neg, br_T, br_F, gd_T, bq_some, bd_some, bv_some, bl_some, bx_inl, bx_inr, bn_none, bn_some, bt_inl, bt_inr, not_true_eq_false, not_false_eq_true, eq_self, Bool.false_eq_true, if_true, if_false, jn_clamp, jn_lt, jn_le, jn_inj, jn_add, jn_sub, jn_mul, jn_vp, jn_0a, jn_1a, jn_1b, jn_1s, jn_1m, jn_neg0, jn_le0, jn_0le, jn_0lt, jn_1le, jn_le1, jn_lt1, jn_1lt, jn_e0, jn_e1, jn_em, ↓qB_f, ↓qT_f, cl_0, cl_1, vp_0, vp_1, li_3, es, ret_some, LQ_inl]
    refine ⟨trivial, frm_wup i2 _ _ _ rfl, fun i hi => ?_⟩
    rw [wup_s]
    by_cases e : i = k
    · rw [if_pos e, e]
    · rw [if_neg e]; exact i3 i (by omega)
  · obtain ⟨i, w1⟩ := s
    obtain ⟨i1, i2, i3⟩ := hi
    simp only at i1 i2 i3
    subst i1
    simp (disch := omega) only [B_M_copyTo_39_12_2, ↓bi_eq, ↓bw_eq, gd_pos, br_pos, br_neg, br_T, br_F, gd_T, bq_some, bd_some, bv_some, bl_some, bx_inl, bx_inr, bn_none, bn_some, bt_inl, bt_inr, not_true_eq_false, not_false_eq_true, eq_self, Bool.false_eq_true, if_true, if_false, jn_clamp, jn_lt, jn_le, jn_inj, jn_add, jn_sub, jn_mul, jn_vp, jn_0a, jn_1a, jn_1b, jn_1s, jn_1m, jn_neg0, jn_le0, jn_0le, jn_0lt, jn_1le, jn_le1, jn_lt1, jn_1lt, jn_e0, jn_e1, jn_em, ↓qB_f, ↓qT_f, cl_0, cl_1, vp_0, vp_1, li_3, br_pos (Nat.le_refl 3), ret_some, LQ_inr]
    exact ⟨i2, i3⟩
theorem RAg_congr {sz fi ms : Int32} {rows rows' past past' : Nat → Int32} {h : Hs} (hh : GdH h) (r : RAg sz fi rows ms past h) (e1 : ∀ j, j < 2120 → rows' j = rows j) (e2 : ∀ j, j < 2120 → past' j = past j) : RAg sz fi rows' ms past' h := by
  obtain ⟨n, f, h1, h2, h3, h4, h5, hk⟩ := r
  refine ⟨n, f, h1, h2, h3, h4, h5, fun k hk9 => ?_⟩
  obtain ⟨c, c1, c2, c3⟩ := hk k hk9
  have hP : (f + k) % 40 < 40 := Nat.mod_lt _ (by omega)
  refine ⟨c, c1, fun i hi => ?_, MRow_congr hh c3 (fun _ _ => rfl) (fun i hi => e2 _ (by omega))⟩
  rw [e1 _ (by omega)]; exact c2 i hi
theorem REg_congr {cz mz : Int32} {cn cv cs mn mv ms cn' cv' cs' mn' mv' ms' : Nat → Int32} (r : REg cz cn cv cs mz mn mv ms) (n : Nat) (hz : cz = jn n) (hn : n ≤ 8) (e1 : ∀ k, k < n → cn' k = cn k ∧ cv' k = cv k ∧ cs' k = cs k) (e2 : ∀ k, k < 8 → mn' k = mn k ∧ mv' k = mv k ∧ ms' k = ms k) : REg cz cn' cv' cs' mz mn' mv' ms' := by
  obtain ⟨m, h1, h2, h3, hk⟩ := r
  have : m = n := by rw [h2, jn_inj (by omega) (by omega)] at hz; exact hz
  subst this
  refine ⟨m, h1, h2, h3, fun k hk9 => ?_⟩
  obtain ⟨a1, a2, a3⟩ := e1 k hk9
  obtain ⟨b1, b2, b3⟩ := e2 k (by omega)
  rw [a1, a2, a3, b1, b2, b3]
  exact hk k hk9
/-! the class's book -/
theorem t_heardC_69_79 {w : Wld} {n : Nat} (hn : n ≤ 8) (e : w 79 3 = jn n) (hb : ∀ k, k < n → w 82 k = 0 ∨ w 82 k = 1) : Ret (F_Heard_takeOver_69_79 w) (fun w' => Frm [70, 71, 72] [(69, 3)] w w' ∧ w' 69 3 = jn n ∧ ∀ k, k < n → w' 70 k = w 80 k ∧ w' 71 k = w 81 k ∧ w' 72 k = w 82 k) := by
  rw [F_Heard_takeOver_69_79, bw_eq, e, ret_bl]
  have fa : Frm [70, 71, 72] [(69, 3)] w (wup w 69 3 (jn n)) := frm_wup frm_rf _ _ _ rfl
  have ea : (wup w 69 3 (jn n)) 69 3 = jn n := wup_s1 _ _ _ _
  generalize wup w 69 3 (jn n) = wa at fa ea ⊢
  refine ret_mono (P := fun w' => Frm [70, 71, 72] [] wa w' ∧ ∀ k, k < n → w' 70 k = w 80 k ∧ w' 71 k = w 81 k ∧ w' 72 k = w 82 k) ?_ (fun w' hq => ?_)
  · refine loop_inv (I := fun k s => s.1 = jn k ∧ Frm [70, 71, 72] [] wa s.2 ∧ ∀ j, j < k → s.2 70 j = w 80 j ∧ s.2 71 j = w 81 j ∧ s.2 72 j = w 82 j) n ⟨rfl, frm_rf, fun j hj => absurd hj (Nat.not_lt_zero j)⟩ (fun k s hk hi => ?_) (fun s hi => ?_)
    · obtain ⟨i, w1⟩ := s
      obtain ⟨i1, i2, i3⟩ := hi
      simp only at i1 i2 i3
      subst i1
      have e9 : w1 69 3 = jn n := (i2 69 3 rfl).trans ea
      have x1 : w1 80 k = w 80 k := (i2 80 k rfl).trans (fa 80 k rfl)
      have x2 : w1 81 k = w 81 k := (i2 81 k rfl).trans (fa 81 k rfl)
      have x3 : w1 82 k = w 82 k := (i2 82 k rfl).trans (fa 82 k rfl)
      have nb := nar_b (hb k hk)
      simp (disch := omega) only [B_Heard_takeOver_69_79_10, ↓bi_eq, ↓bw_eq, gd_pos, br_pos, br_neg, br_T, br_F, gd_T, bq_some, bd_some, bv_some, bl_some, bx_inl, bx_inr, bn_none, bn_some, bt_inl, bt_inr, not_true_eq_false, not_false_eq_true, eq_self, Bool.false_eq_true, if_true, if_false, jn_clamp, jn_lt, jn_le, jn_inj, jn_add, jn_sub, jn_mul, jn_vp, jn_0a, jn_1a, jn_1b, jn_1s, jn_1m, jn_neg0, jn_le0, jn_0le, jn_0lt, jn_1le, jn_le1, jn_lt1, jn_1lt, jn_e0, jn_e1, jn_em, ↓qB_f, ↓qT_f, cl_0, cl_1, vp_0, vp_1, e9, x1, x2, x3, nb, wup_o, ret_some, LQ_inl]
      refine ⟨trivial, frm_wup (frm_wup (frm_wup i2 _ _ _ rfl) _ _ _ rfl) _ _ _ rfl, fun j hj => ?_⟩
      by_cases ej : j = k
      · subst ej
        refine ⟨?_, ?_, ?_⟩ <;> simp (disch := omega) only [wup_o, wup_s1]
      · obtain ⟨y1, y2, y3⟩ := i3 j (by omega)
        refine ⟨?_, ?_, ?_⟩ <;> simp (disch := omega) only [wup_o, wup_s2, y1, y2, y3]
    · obtain ⟨i, w1⟩ := s
      obtain ⟨i1, i2, i3⟩ := hi
      simp only at i1 i2 i3
      subst i1
      have e9 : w1 69 3 = jn n := (i2 69 3 rfl).trans ea
      simp (disch := omega) only [B_Heard_takeOver_69_79_10, ↓bi_eq, ↓bw_eq, gd_pos, br_pos, br_neg, br_T, br_F, gd_T, bq_some, bd_some, bv_some, bl_some, bx_inl, bx_inr, bn_none, bn_some, bt_inl, bt_inr, not_true_eq_false, not_false_eq_true, eq_self, Bool.false_eq_true, if_true, if_false, jn_clamp, jn_lt, jn_le, jn_inj, jn_add, jn_sub, jn_mul, jn_vp, jn_0a, jn_1a, jn_1b, jn_1s, jn_1m, jn_neg0, jn_le0, jn_0le, jn_0lt, jn_1le, jn_le1, jn_lt1, jn_1lt, jn_e0, jn_e1, jn_em, ↓qB_f, ↓qT_f, cl_0, cl_1, vp_0, vp_1, e9, br_pos (Nat.le_refl n), ret_some, LQ_inr]
      exact ⟨i2, i3⟩
  · rw [ret_some]
    exact ⟨frm_tr fa (frm_up hq.1 rfl), (hq.1 69 3 rfl).trans ea, hq.2⟩
theorem t_heardC_79_69 {w : Wld} {n : Nat} (hn : n ≤ 8) (e : w 69 3 = jn n) (hb : ∀ k, k < n → w 72 k = 0 ∨ w 72 k = 1) : Ret (F_Heard_takeOver_79_69 w) (fun w' => Frm [80, 81, 82] [(79, 3)] w w' ∧ w' 79 3 = jn n ∧ ∀ k, k < n → w' 80 k = w 70 k ∧ w' 81 k = w 71 k ∧ w' 82 k = w 72 k) := by
  rw [F_Heard_takeOver_79_69, bw_eq, e, ret_bl]
  have fa : Frm [80, 81, 82] [(79, 3)] w (wup w 79 3 (jn n)) := frm_wup frm_rf _ _ _ rfl
  have ea : (wup w 79 3 (jn n)) 79 3 = jn n := wup_s1 _ _ _ _
  generalize wup w 79 3 (jn n) = wa at fa ea ⊢
  refine ret_mono (P := fun w' => Frm [80, 81, 82] [] wa w' ∧ ∀ k, k < n → w' 80 k = w 70 k ∧ w' 81 k = w 71 k ∧ w' 82 k = w 72 k) ?_ (fun w' hq => ?_)
  · refine loop_inv (I := fun k s => s.1 = jn k ∧ Frm [80, 81, 82] [] wa s.2 ∧ ∀ j, j < k → s.2 80 j = w 70 j ∧ s.2 81 j = w 71 j ∧ s.2 82 j = w 72 j) n ⟨rfl, frm_rf, fun j hj => absurd hj (Nat.not_lt_zero j)⟩ (fun k s hk hi => ?_) (fun s hi => ?_)
    · obtain ⟨i, w1⟩ := s
      obtain ⟨i1, i2, i3⟩ := hi
      simp only at i1 i2 i3
      subst i1
      have e9 : w1 79 3 = jn n := (i2 79 3 rfl).trans ea
      have x1 : w1 70 k = w 70 k := (i2 70 k rfl).trans (fa 70 k rfl)
      have x2 : w1 71 k = w 71 k := (i2 71 k rfl).trans (fa 71 k rfl)
      have x3 : w1 72 k = w 72 k := (i2 72 k rfl).trans (fa 72 k rfl)
      have nb := nar_b (hb k hk)
      simp (disch := omega) only [B_Heard_takeOver_79_69_10, ↓bi_eq, ↓bw_eq, gd_pos, br_pos, br_neg, br_T, br_F, gd_T, bq_some, bd_some, bv_some, bl_some, bx_inl, bx_inr, bn_none, bn_some, bt_inl, bt_inr, not_true_eq_false, not_false_eq_true, eq_self, Bool.false_eq_true, if_true, if_false, jn_clamp, jn_lt, jn_le, jn_inj, jn_add, jn_sub, jn_mul, jn_vp, jn_0a, jn_1a, jn_1b, jn_1s, jn_1m, jn_neg0, jn_le0, jn_0le, jn_0lt, jn_1le, jn_le1, jn_lt1, jn_1lt, jn_e0, jn_e1, jn_em, ↓qB_f, ↓qT_f, cl_0, cl_1, vp_0, vp_1, e9, x1, x2, x3, nb, wup_o, ret_some, LQ_inl]
      refine ⟨trivial, frm_wup (frm_wup (frm_wup i2 _ _ _ rfl) _ _ _ rfl) _ _ _ rfl, fun j hj => ?_⟩
      by_cases ej : j = k
      · subst ej
        refine ⟨?_, ?_, ?_⟩ <;> simp (disch := omega) only [wup_o, wup_s1]
      · obtain ⟨y1, y2, y3⟩ := i3 j (by omega)
        refine ⟨?_, ?_, ?_⟩ <;> simp (disch := omega) only [wup_o, wup_s2, y1, y2, y3]
    · obtain ⟨i, w1⟩ := s
      obtain ⟨i1, i2, i3⟩ := hi
      simp only at i1 i2 i3
      subst i1
      have e9 : w1 79 3 = jn n := (i2 79 3 rfl).trans ea
      simp (disch := omega) only [B_Heard_takeOver_79_69_10, ↓bi_eq, ↓bw_eq, gd_pos, br_pos, br_neg, br_T, br_F, gd_T, bq_some, bd_some, bv_some, bl_some, bx_inl, bx_inr, bn_none, bn_some, bt_inl, bt_inr, not_true_eq_false, not_false_eq_true, eq_self, Bool.false_eq_true, if_true, if_false, jn_clamp, jn_lt, jn_le, jn_inj, jn_add, jn_sub, jn_mul, jn_vp, jn_0a, jn_1a, jn_1b, jn_1s, jn_1m, jn_neg0, jn_le0, jn_0le, jn_0lt, jn_1le, jn_le1, jn_lt1, jn_1lt, jn_e0, jn_e1, jn_em, ↓qB_f, ↓qT_f, cl_0, cl_1, vp_0, vp_1, e9, br_pos (Nat.le_refl n), ret_some, LQ_inr]
      exact ⟨i2, i3⟩
  · rw [ret_some]
    exact ⟨frm_tr fa (frm_up hq.1 rfl), (hq.1 79 3 rfl).trans ea, hq.2⟩
theorem t_book_64_74 {w : Wld} {n : Nat} (hn : n ≤ 8) (e : w 79 3 = jn n) (hb : ∀ k, k < n → w 82 k = 0 ∨ w 82 k = 1) : Ret (F_Book_takeOver_64_74 w) (fun w' => Frm [66, 68, 70, 71, 72, 73] [(67, 1), (67, 2), (69, 3)] w w' ∧ (∀ i, i < 53 → w' 66 i = w 76 i) ∧ (∀ i, i < 2120 → w' 68 i = w 78 i) ∧ w' 67 1 = w 77 1 ∧ w' 67 2 = w 77 2 ∧ w' 69 3 = jn n ∧ (∀ k, k < n → w' 70 k = w 80 k ∧ w' 71 k = w 81 k ∧ w' 72 k = w 82 k) ∧ ∀ k, k < 3 → w' 73 k = w 83 k) := by
  have q1 : cpO w 76 53 53 0 0 0 53 := cpO_int w (a := 0) (b := 0) (k := 53) (by omega) (by omega) (by omega) (by omega) (by omega)
  have f1 : Frm [66] [] w (wcp w 76 66 (Int32.toNatClampNeg 0) (Int32.toNatClampNeg 0) (Int32.toNatClampNeg 53)) := frm_wcp frm_rf _ _ _ _ _ rfl
  have v1 : ∀ i, i < 53 → (wcp w 76 66 (Int32.toNatClampNeg 0) (Int32.toNatClampNeg 0) (Int32.toNatClampNeg 53)) 66 i = w 76 i := fun i hi => by
    rw [wcp_s, cl_0, show Int32.toNatClampNeg 53 = 53 from rfl, if_pos (by omega), Nat.zero_add, Nat.sub_zero]
  rw [F_Book_takeOver_64_74, F_State_takeOver_65_75, gd_pos q1, bw_eq, bv_some]
  generalize wcp w 76 66 (Int32.toNatClampNeg 0) (Int32.toNatClampNeg 0) (Int32.toNatClampNeg 53) = w1 at f1 v1 ⊢
  have q2 : cpO w1 78 2120 2120 0 0 0 2120 := cpO_int w1 (a := 0) (b := 0) (k := 2120) (by omega) (by omega) (by omega) (by omega) (by omega)
  have f2 : Frm [68] [] w1 (wcp w1 78 68 (Int32.toNatClampNeg 0) (Int32.toNatClampNeg 0) (Int32.toNatClampNeg 2120)) := frm_wcp frm_rf _ _ _ _ _ rfl
  have v2 : ∀ i, i < 2120 → (wcp w1 78 68 (Int32.toNatClampNeg 0) (Int32.toNatClampNeg 0) (Int32.toNatClampNeg 2120)) 68 i = w 78 i := fun i hi => by
    rw [wcp_s, cl_0, show Int32.toNatClampNeg 2120 = 2120 from rfl, if_pos (by omega), Nat.zero_add, Nat.sub_zero]; exact f1 78 i rfl
  rw [F_Acts_takeOver_67_77, gd_pos q2, bw_eq]
  generalize wcp w1 78 68 (Int32.toNatClampNeg 0) (Int32.toNatClampNeg 0) (Int32.toNatClampNeg 2120) = w2 at f2 v2 ⊢
  have f3 : Frm [] [(67, 1)] w2 (wup w2 67 1 (w2 77 1)) := frm_wup frm_rf _ _ _ rfl
  have v3 : (wup w2 67 1 (w2 77 1)) 67 1 = w 77 1 := by rw [wup_s1, f2 77 1 rfl, f1 77 1 rfl]
  rw [bw_eq]
  generalize wup w2 67 1 (w2 77 1) = w3 at f3 v3 ⊢
  have f4 : Frm [] [(67, 2)] w3 (wup w3 67 2 (w3 77 2)) := frm_wup frm_rf _ _ _ rfl
  have v4 : (wup w3 67 2 (w3 77 2)) 67 2 = w 77 2 := by rw [wup_s1, f3 77 2 rfl, f2 77 2 rfl, f1 77 2 rfl]
  rw [bw_eq, bv_some, ret_bv]
  generalize wup w3 67 2 (w3 77 2) = w4 at f4 v4 ⊢
  have F4 : Frm [66, 68] [(67, 1), (67, 2)] w w4 := frm_tr (frm_up f1 rfl) (frm_tr (frm_up f2 rfl) (frm_tr (frm_up f3 rfl) (frm_up f4 rfl)))
  refine ret_mono (t_heardC_69_79 (w := w4) hn ((F4 79 3 rfl).trans e) (fun k hk => by rw [frm_cell F4 82 (fun _ => rfl)]; exact hb k hk)) (fun w5 hq => ?_)
  obtain ⟨f5, v5, v6⟩ := hq
  have q6 : cpO w5 83 3 3 0 0 0 3 := cpO_int w5 (a := 0) (b := 0) (k := 3) (by omega) (by omega) (by omega) (by omega) (by omega)
  have f6 : Frm [73] [] w5 (wcp w5 83 73 (Int32.toNatClampNeg 0) (Int32.toNatClampNeg 0) (Int32.toNatClampNeg 3)) := frm_wcp frm_rf _ _ _ _ _ rfl
  have v7 : ∀ i, i < 3 → (wcp w5 83 73 (Int32.toNatClampNeg 0) (Int32.toNatClampNeg 0) (Int32.toNatClampNeg 3)) 73 i = w 83 i := fun i hi => by
    rw [wcp_s, cl_0, show Int32.toNatClampNeg 3 = 3 from rfl, if_pos (by omega), Nat.zero_add, Nat.sub_zero, f5 83 i rfl]; exact F4 83 i rfl
  rw [gd_pos q6, bw_eq, ret_some]
  generalize wcp w5 83 73 (Int32.toNatClampNeg 0) (Int32.toNatClampNeg 0) (Int32.toNatClampNeg 3) = w6 at f6 v7 ⊢
  refine ⟨frm_tr (frm_up F4 rfl) (frm_tr (frm_up f5 rfl) (frm_up f6 rfl)), fun i hi => ?_, fun i hi => ?_, ?_, ?_, ?_, fun k hk => ?_, v7⟩
  · rw [f6 66 i rfl, f5 66 i rfl, f4 66 i rfl, f3 66 i rfl, f2 66 i rfl]; exact v1 i hi
  · rw [f6 68 i rfl, f5 68 i rfl, f4 68 i rfl, f3 68 i rfl]; exact v2 i hi
  · rw [f6 67 1 rfl, f5 67 1 rfl, f4 67 1 rfl]; exact v3
  · rw [f6 67 2 rfl, f5 67 2 rfl]; exact v4
  · rw [f6 69 3 rfl]; exact v5
  · rw [f6 70 k rfl, f6 71 k rfl, f6 72 k rfl]
    obtain ⟨y1, y2, y3⟩ := v6 k hk
    exact ⟨y1.trans (F4 80 k rfl), y2.trans (F4 81 k rfl), y3.trans (F4 82 k rfl)⟩
theorem t_book_74_64 {w : Wld} {n : Nat} (hn : n ≤ 8) (e : w 69 3 = jn n) (hb : ∀ k, k < n → w 72 k = 0 ∨ w 72 k = 1) : Ret (F_Book_takeOver_74_64 w) (fun w' => Frm [76, 78, 80, 81, 82, 83] [(77, 1), (77, 2), (79, 3)] w w' ∧ (∀ i, i < 53 → w' 76 i = w 66 i) ∧ (∀ i, i < 2120 → w' 78 i = w 68 i) ∧ w' 77 1 = w 67 1 ∧ w' 77 2 = w 67 2 ∧ w' 79 3 = jn n ∧ (∀ k, k < n → w' 80 k = w 70 k ∧ w' 81 k = w 71 k ∧ w' 82 k = w 72 k) ∧ ∀ k, k < 3 → w' 83 k = w 73 k) := by
  have q1 : cpO w 66 53 53 0 0 0 53 := cpO_int w (a := 0) (b := 0) (k := 53) (by omega) (by omega) (by omega) (by omega) (by omega)
  have f1 : Frm [76] [] w (wcp w 66 76 (Int32.toNatClampNeg 0) (Int32.toNatClampNeg 0) (Int32.toNatClampNeg 53)) := frm_wcp frm_rf _ _ _ _ _ rfl
  have v1 : ∀ i, i < 53 → (wcp w 66 76 (Int32.toNatClampNeg 0) (Int32.toNatClampNeg 0) (Int32.toNatClampNeg 53)) 76 i = w 66 i := fun i hi => by
    rw [wcp_s, cl_0, show Int32.toNatClampNeg 53 = 53 from rfl, if_pos (by omega), Nat.zero_add, Nat.sub_zero]
  rw [F_Book_takeOver_74_64, F_State_takeOver_75_65, gd_pos q1, bw_eq, bv_some]
  generalize wcp w 66 76 (Int32.toNatClampNeg 0) (Int32.toNatClampNeg 0) (Int32.toNatClampNeg 53) = w1 at f1 v1 ⊢
  have q2 : cpO w1 68 2120 2120 0 0 0 2120 := cpO_int w1 (a := 0) (b := 0) (k := 2120) (by omega) (by omega) (by omega) (by omega) (by omega)
  have f2 : Frm [78] [] w1 (wcp w1 68 78 (Int32.toNatClampNeg 0) (Int32.toNatClampNeg 0) (Int32.toNatClampNeg 2120)) := frm_wcp frm_rf _ _ _ _ _ rfl
  have v2 : ∀ i, i < 2120 → (wcp w1 68 78 (Int32.toNatClampNeg 0) (Int32.toNatClampNeg 0) (Int32.toNatClampNeg 2120)) 78 i = w 68 i := fun i hi => by
    rw [wcp_s, cl_0, show Int32.toNatClampNeg 2120 = 2120 from rfl, if_pos (by omega), Nat.zero_add, Nat.sub_zero]; exact f1 68 i rfl
  rw [F_Acts_takeOver_77_67, gd_pos q2, bw_eq]
  generalize wcp w1 68 78 (Int32.toNatClampNeg 0) (Int32.toNatClampNeg 0) (Int32.toNatClampNeg 2120) = w2 at f2 v2 ⊢
  have f3 : Frm [] [(77, 1)] w2 (wup w2 77 1 (w2 67 1)) := frm_wup frm_rf _ _ _ rfl
  have v3 : (wup w2 77 1 (w2 67 1)) 77 1 = w 67 1 := by rw [wup_s1, f2 67 1 rfl, f1 67 1 rfl]
  rw [bw_eq]
  generalize wup w2 77 1 (w2 67 1) = w3 at f3 v3 ⊢
  have f4 : Frm [] [(77, 2)] w3 (wup w3 77 2 (w3 67 2)) := frm_wup frm_rf _ _ _ rfl
  have v4 : (wup w3 77 2 (w3 67 2)) 77 2 = w 67 2 := by rw [wup_s1, f3 67 2 rfl, f2 67 2 rfl, f1 67 2 rfl]
  rw [bw_eq, bv_some, ret_bv]
  generalize wup w3 77 2 (w3 67 2) = w4 at f4 v4 ⊢
  have F4 : Frm [76, 78] [(77, 1), (77, 2)] w w4 := frm_tr (frm_up f1 rfl) (frm_tr (frm_up f2 rfl) (frm_tr (frm_up f3 rfl) (frm_up f4 rfl)))
  refine ret_mono (t_heardC_79_69 (w := w4) hn ((F4 69 3 rfl).trans e) (fun k hk => by rw [frm_cell F4 72 (fun _ => rfl)]; exact hb k hk)) (fun w5 hq => ?_)
  obtain ⟨f5, v5, v6⟩ := hq
  have q6 : cpO w5 73 3 3 0 0 0 3 := cpO_int w5 (a := 0) (b := 0) (k := 3) (by omega) (by omega) (by omega) (by omega) (by omega)
  have f6 : Frm [83] [] w5 (wcp w5 73 83 (Int32.toNatClampNeg 0) (Int32.toNatClampNeg 0) (Int32.toNatClampNeg 3)) := frm_wcp frm_rf _ _ _ _ _ rfl
  have v7 : ∀ i, i < 3 → (wcp w5 73 83 (Int32.toNatClampNeg 0) (Int32.toNatClampNeg 0) (Int32.toNatClampNeg 3)) 83 i = w 73 i := fun i hi => by
    rw [wcp_s, cl_0, show Int32.toNatClampNeg 3 = 3 from rfl, if_pos (by omega), Nat.zero_add, Nat.sub_zero, f5 73 i rfl]; exact F4 73 i rfl
  rw [gd_pos q6, bw_eq, ret_some]
  generalize wcp w5 73 83 (Int32.toNatClampNeg 0) (Int32.toNatClampNeg 0) (Int32.toNatClampNeg 3) = w6 at f6 v7 ⊢
  refine ⟨frm_tr (frm_up F4 rfl) (frm_tr (frm_up f5 rfl) (frm_up f6 rfl)), fun i hi => ?_, fun i hi => ?_, ?_, ?_, ?_, fun k hk => ?_, v7⟩
  · rw [f6 76 i rfl, f5 76 i rfl, f4 76 i rfl, f3 76 i rfl, f2 76 i rfl]; exact v1 i hi
  · rw [f6 78 i rfl, f5 78 i rfl, f4 78 i rfl, f3 78 i rfl]; exact v2 i hi
  · rw [f6 77 1 rfl, f5 77 1 rfl, f4 77 1 rfl]; exact v3
  · rw [f6 77 2 rfl, f5 77 2 rfl]; exact v4
  · rw [f6 79 3 rfl]; exact v5
  · rw [f6 80 k rfl, f6 81 k rfl, f6 82 k rfl]
    obtain ⟨y1, y2, y3⟩ := v6 k hk
    exact ⟨y1.trans (F4 70 k rfl), y2.trans (F4 71 k rfl), y3.trans (F4 72 k rfl)⟩
