/-! ===== feed ===== -/
theorem byte_and (y : Int32) : ∃ b, b < 256 ∧ y &&& 255 = jn b ∧ y.toInt8.toInt32 = sb b := by
  refine ⟨y.toBitVec.toNat % 256, Nat.mod_lt _ (by decide), ?_, ?_⟩
  · conv => lhs; rw [jn_self y, li_255, jn_and]
    congr 1
    exact Nat.and_two_pow_sub_one_eq_mod _ 8
  · unfold sb
    congr 1
    apply Int8.toBitVec_inj.mp
    rw [Int32.toBitVec_toInt8, Int32.toBitVec_toInt8, BitVec.signExtend_eq_setWidth_of_le _ (by decide), BitVec.signExtend_eq_setWidth_of_le _ (by decide)]
    apply BitVec.eq_of_toNat_eq
    rw [BitVec.toNat_setWidth, BitVec.toNat_setWidth]
    show _ = (BitVec.ofNat 32 (y.toBitVec.toNat % 256)).toNat % 2 ^ 8
    rw [BitVec.toNat_ofNat]
    omega
theorem nar_8 (y : Int32) : vp_nar .byte (y.toInt8.toInt32) = y.toInt8.toInt32 := by
  show (y.toInt8.toInt32).toInt8.toInt32 = _
  simp
def sh4 (j : Nat) : Int32 := if j < 4 then jn (24 - 8 * j) else -8
theorem sh4_s : ∀ j, j < 4 → (sh4 j + (-8) = sh4 (j + 1) ∧ ¬ sh4 j < 0 ∧ (24 : Int32) - 8 * jn j = sh4 j) := by decide +kernel
theorem RelH_fd {w p : Wld} {h : Hs} (r : RelH w h) (fr : Frm [13, 41, 43] [(0, 2), (0, 14), (42, 1)] w p) (e : RT p) : RelH p h := by
  obtain ⟨r1, r2, r3, r4, r5, r6, r7, r8, r9⟩ := r
  have e66 : p 66 = w 66 := frm_cell fr 66 (fun _ => rfl)
  refine ⟨r1, CHs_fr r2 fr ⟨rfl, rfl, rfl, rfl, fun _ => rfl, fun _ => rfl, rfl, fun _ => rfl⟩, MHs_fr r3 fr ⟨rfl, rfl, rfl, rfl, rfl, fun _ => rfl, fun _ => rfl, fun _ => rfl⟩, ?_, RA_fr r5 fr ⟨rfl, rfl, fun _ => rfl, rfl, fun _ => rfl⟩, RE_fr r6 fr ⟨rfl, fun _ => rfl, fun _ => rfl, fun _ => rfl, rfl, fun _ => rfl, fun _ => rfl, fun _ => rfl⟩, RU_fr r7 fr ⟨fun _ => rfl, fun _ => rfl⟩, RI_fr r8 fr ⟨rfl, rfl, fun _ => rfl, fun _ => rfl, rfl, rfl, fun _ => rfl, rfl, fun _ => rfl, rfl, fun _ => rfl, fun _ => rfl, fun _ => rfl, rfl, fun _ => rfl, fun _ => rfl, fun _ => rfl, fun _ => rfl, fun _ => rfl⟩, e⟩
  unfold RS
  rw [e66]
  exact ⟨r4.1, MSt_fr r4.2 fr ⟨fun _ => rfl, fun _ => rfl, fun _ => rfl, fun _ => rfl, fun _ => rfl, fun _ => rfl, rfl, rfl, rfl⟩⟩
theorem c_put {w : Wld} {t : Nat} (e : w 42 1 = jn t) (ht : t + 4 ≤ 700) (a : Int32) : Ret (F_C_putBytes w a) (fun w' => Frm [43] [(42, 1)] w w' ∧ w' 42 1 = jn (t + 4) ∧ (∀ i, i < 4 → w' 43 (t + i) = (a >>> (sh4 i &&& 31)).toInt8.toInt32) ∧ ∀ i, i < t → w' 43 i = w 43 i) := by
  rw [F_C_putBytes, ret_bl]
  refine ret_mono (P := fun w' => Frm [43] [(42, 1)] w w' ∧ w' 42 1 = jn (t + 4) ∧ (∀ i, i < 4 → w' 43 (t + i) = (a >>> (sh4 i &&& 31)).toInt8.toInt32) ∧ ∀ i, i < t → w' 43 i = w 43 i) ?_ (fun w' hq => by rw [ret_some]; exact hq)
  refine loop_inv (I := fun j s => s.1 = sh4 j ∧ Frm [43] [(42, 1)] w s.2 ∧ s.2 42 1 = jn (t + j) ∧ (∀ i, i < j → s.2 43 (t + i) = (a >>> (sh4 i &&& 31)).toInt8.toInt32) ∧ ∀ i, i < t → s.2 43 i = w 43 i) 4 ⟨rfl, frm_rf, e, fun i hi => absurd hi (Nat.not_lt_zero i), fun _ _ => rfl⟩ (fun j s hj hi => ?_) (fun s hi => ?_)
  · obtain ⟨i, w1⟩ := s
    obtain ⟨i1, i2, i3, i4, i5⟩ := hi
    simp only at i1 i2 i3 i4 i5
    subst i1
    obtain ⟨s1, s2, -⟩ := sh4_s j hj
    have hB : B_C_putBytes_3 a (sh4 j, w1) = some (.inl (sh4 (j + 1), wup (wup w1 43 (t + j) ((a >>> (sh4 j &&& 31)).toInt8.toInt32)) 42 1 (jn (t + j + 1)))) := by
      simp (disch := omega) only [B_C_putBytes_3, ↓bi_eq, ↓bw_eq, gd_pos, br_pos, br_neg, br_T, br_F, gd_T, bq_some, bd_some, bv_some, bl_some, bx_inl, bx_inr, bn_none, bn_some, bt_inl, bt_inr, not_true_eq_false, not_false_eq_true, eq_self, Bool.false_eq_true, if_true, if_false, s2, i3, li_700, jn_le, jn_vp, jn_clamp, nar_8, wup_o, jn_1a, s1]
    rw [hB]
    rw [ret_some, LQ_inl]
    refine ⟨rfl, frm_wup (frm_wup i2 _ _ _ rfl) _ _ _ rfl, by simp only [wup_s1, Nat.add_assoc], fun i hi => ?_, fun i hi => ?_⟩
    · simp (disch := omega) only [wup_o]
      rw [wup_s]
      by_cases e9 : i = j
      · rw [if_pos (by omega), e9]
      · rw [if_neg (by omega)]; exact i4 i (by omega)
    · simp (disch := omega) only [wup_o]
      rw [wup_s2 _ _ _ (by omega)]; exact i5 i hi
  · obtain ⟨i, w1⟩ := s
    obtain ⟨i1, i2, i3, i4, i5⟩ := hi
    simp only at i1 i2 i3 i4 i5
    subst i1
    rw [B_C_putBytes_3, br_pos (by show sh4 4 < 0; decide), ret_some, LQ_inr]
    exact ⟨i2, i3, i4, i5⟩
def ag5 (a b c d e : Int32) (j : Nat) : Int32 := if j < 4 then a else if j < 8 then b else if j < 12 then c else if j < 16 then d else e
theorem j_feed {w : Wld} {h : Hs} (r : RelH w h) (a b c d e : Int32) : BothJ (F_C_feed w a b c d e) (fun w1 => F_M_feed w1 a b c d e) := by
  have r9 := r.2.2.2.2.2.2.2.2
  obtain ⟨⟨t, ht, e1, e2, et⟩, ef⟩ := r9
  unfold BothJ
  by_cases hl : t ≤ 680
  · have hC : Ret (F_C_feed w a b c d e) (fun q => q.1 = jn (t + 20) ∧ Frm [43] [(42, 1)] w q.2 ∧ q.2 42 1 = jn (t + 20) ∧ (∀ i, i < 20 → q.2 43 (t + i) = (ag5 a b c d e i >>> (sh4 (i % 4) &&& 31)).toInt8.toInt32) ∧ ∀ i, i < t → q.2 43 i = w 43 i) := by
      rw [F_C_feed, e1, br_pos (by rw [li_680, jn_le (by omega) (by omega)]; exact hl), ret_bv]
      refine ret_mono (c_put e1 (by omega) a) (fun w1 h1 => ?_)
      obtain ⟨f1, n1, b1, o1⟩ := h1
      rw [ret_bv]
      refine ret_mono (c_put n1 (by omega) b) (fun w2 h2 => ?_)
      obtain ⟨f2, n2, b2, o2⟩ := h2
      rw [ret_bv]
      refine ret_mono (c_put n2 (by omega) c) (fun w3 h3 => ?_)
      obtain ⟨f3, n3, b3, o3⟩ := h3
      rw [ret_bv]
      refine ret_mono (c_put n3 (by omega) d) (fun w4 h4 => ?_)
      obtain ⟨f4, n4, b4, o4⟩ := h4
      rw [ret_bv]
      refine ret_mono (c_put n4 (by omega) e) (fun w5 h5 => ?_)
      obtain ⟨f5, n5, b5, o5⟩ := h5
      rw [ret_some]
      refine ⟨n5, frm_tr f1 (frm_tr f2 (frm_tr f3 (frm_tr f4 f5))), n5, fun i hi => ?_, fun i hi => ?_⟩
      · show w5 43 (t + i) = _
        unfold ag5
        by_cases h1 : i < 4
        · rw [if_pos h1, o5 _ (by omega), o4 _ (by omega), o3 _ (by omega), o2 _ (by omega), b1 i h1, show i % 4 = i by omega]
        rw [if_neg h1]
        by_cases h2 : i < 8
        · have := b2 (i - 4) (by omega)
          rw [show t + 4 + (i - 4) = t + i by omega] at this
          rw [if_pos h2, o5 _ (by omega), o4 _ (by omega), o3 _ (by omega), this, show i % 4 = i - 4 by omega]
        rw [if_neg h2]
        by_cases h3 : i < 12
        · have := b3 (i - 8) (by omega)
          rw [show t + 4 + 4 + (i - 8) = t + i by omega] at this
          rw [if_pos h3, o5 _ (by omega), o4 _ (by omega), this, show i % 4 = i - 8 by omega]
        rw [if_neg h3]
        by_cases h4 : i < 16
        · have := b4 (i - 12) (by omega)
          rw [show t + 4 + 4 + 4 + (i - 12) = t + i by omega] at this
          rw [if_pos h4, o5 _ (by omega), this, show i % 4 = i - 12 by omega]
        rw [if_neg h4]
        have := b5 (i - 16) (by omega)
        rw [show t + 4 + 4 + 4 + 4 + (i - 16) = t + i by omega] at this
        rw [this, show i % 4 = i - 16 by omega]
      · show w5 43 i = _
        rw [o5 _ (by omega), o4 _ (by omega), o3 _ (by omega), o2 _ (by omega), o1 _ hi]
    refine ret_mono hC (fun q hq => ?_)
    obtain ⟨v, w1⟩ := q
    obtain ⟨q0, q1, q2, q3, q4⟩ := hq
    simp only at q0 q1 q2 q3 q4 ⊢
    subst q0
    have fa : Frm [] [(0, 2)] w1 (wup w1 0 2 0) := frm_wup frm_rf _ _ _ rfl
    have ea : (wup w1 0 2 0) 0 14 = jn t := by rw [wup_s2 _ _ _ (by decide), q1 0 14 rfl]; exact e2
    rw [F_M_feed, bw_eq, ea, li_20, jn_add, br_pos (by rw [li_700, jn_le (by omega) (by omega)]; omega), ret_bl]
    generalize wup w1 0 2 0 = wa at fa ea ⊢
    refine ret_mono (P := fun w' => Frm [13] [(0, 14)] wa w' ∧ w' 0 14 = jn (t + 20) ∧ (∀ i, i < 20 → w' 13 (t + i) = (ag5 a b c d e i >>> (sh4 (i % 4) &&& 31)) &&& 255) ∧ ∀ i, i < t → w' 13 i = wa 13 i) ?_ (fun w' hq => ?_)
    · refine loop_inv (I := fun k s => s.1 = jn k ∧ Frm [13] [(0, 14)] wa s.2 ∧ s.2 0 14 = jn (t + k) ∧ (∀ i, i < k → s.2 13 (t + i) = (ag5 a b c d e i >>> (sh4 (i % 4) &&& 31)) &&& 255) ∧ ∀ i, i < t → s.2 13 i = wa 13 i) 20 ⟨rfl, frm_rf, ea, fun i hi => absurd hi (Nat.not_lt_zero i), fun _ _ => rfl⟩ (fun k s hk hi => ?_) (fun s hi => ?_)
      · obtain ⟨i, w2⟩ := s
        obtain ⟨i1, i2, i3, i4, i5⟩ := hi
        simp only at i1 i2 i3 i4 i5
        subst i1
        have hB : B_M_feed_23 a b c d e (jn k, w2) = K_M_feed_76 a b c d e (jn k) (ag5 a b c d e k) w2 := by
          unfold ag5
          by_cases h1 : k < 4
          · simp (disch := omega) only [B_M_feed_23, ↓bi_eq, ↓bw_eq, gd_pos, br_pos, br_neg, br_T, br_F, gd_T, bq_some, bd_some, bv_some, bl_some, bx_inl, bx_inr, bn_none, bn_some, bt_inl, bt_inr, not_true_eq_false, not_false_eq_true, eq_self, Bool.false_eq_true, if_true, if_false, jn_clamp, jn_lt, jn_le, jn_inj, jn_add, jn_sub, jn_mul, jn_vp, jn_0a, jn_1a, jn_1b, jn_1s, jn_1m, jn_neg0, jn_le0, jn_0le, jn_0lt, jn_1le, jn_le1, jn_lt1, jn_1lt, jn_e0, jn_e1, jn_em, ↓qB_f, ↓qT_f, cl_0, cl_1, vp_0, vp_1, li_4, li_20, h1]
          by_cases h2 : k < 8
          · simp (disch := omega) only [B_M_feed_23, ↓bi_eq, ↓bw_eq, gd_pos, br_pos, br_neg, br_T, br_F, gd_T, bq_some, bd_some, bv_some, bl_some, bx_inl, bx_inr, bn_none, bn_some, bt_inl, bt_inr, not_true_eq_false, not_false_eq_true, eq_self, Bool.false_eq_true, if_true, if_false, jn_clamp, jn_lt, jn_le, jn_inj, jn_add, jn_sub, jn_mul, jn_vp, jn_0a, jn_1a, jn_1b, jn_1s, jn_1m, jn_neg0, jn_le0, jn_0le, jn_0lt, jn_1le, jn_le1, jn_lt1, jn_1lt, jn_e0, jn_e1, jn_em, ↓qB_f, ↓qT_f, cl_0, cl_1, vp_0, vp_1, li_4, li_8, li_20, h1, h2]
          by_cases h3 : k < 12
          · simp (disch := omega) only [B_M_feed_23, ↓bi_eq, ↓bw_eq, gd_pos, br_pos, br_neg, br_T, br_F, gd_T, bq_some, bd_some, bv_some, bl_some, bx_inl, bx_inr, bn_none, bn_some, bt_inl, bt_inr, not_true_eq_false, not_false_eq_true, eq_self, Bool.false_eq_true, if_true, if_false, jn_clamp, jn_lt, jn_le, jn_inj, jn_add, jn_sub, jn_mul, jn_vp, jn_0a, jn_1a, jn_1b, jn_1s, jn_1m, jn_neg0, jn_le0, jn_0le, jn_0lt, jn_1le, jn_le1, jn_lt1, jn_1lt, jn_e0, jn_e1, jn_em, ↓qB_f, ↓qT_f, cl_0, cl_1, vp_0, vp_1, li_4, li_8, li_12, li_20, h1, h2, h3]
          by_cases h4 : k < 16
          · simp (disch := omega) only [B_M_feed_23, ↓bi_eq, ↓bw_eq, gd_pos, br_pos, br_neg, br_T, br_F, gd_T, bq_some, bd_some, bv_some, bl_some, bx_inl, bx_inr, bn_none, bn_some, bt_inl, bt_inr, not_true_eq_false, not_false_eq_true, eq_self, Bool.false_eq_true, if_true, if_false, jn_clamp, jn_lt, jn_le, jn_inj, jn_add, jn_sub, jn_mul, jn_vp, jn_0a, jn_1a, jn_1b, jn_1s, jn_1m, jn_neg0, jn_le0, jn_0le, jn_0lt, jn_1le, jn_le1, jn_lt1, jn_1lt, jn_e0, jn_e1, jn_em, ↓qB_f, ↓qT_f, cl_0, cl_1, vp_0, vp_1, li_4, li_8, li_12, li_16, li_20, h1, h2, h3, h4]
          · simp (disch := omega) only [B_M_feed_23, ↓bi_eq, ↓bw_eq, gd_pos, br_pos, br_neg, br_T, br_F, gd_T, bq_some, bd_some, bv_some, bl_some, bx_inl, bx_inr, bn_none, bn_some, bt_inl, bt_inr, not_true_eq_false, not_false_eq_true, eq_self, Bool.false_eq_true, if_true, if_false, jn_clamp, jn_lt, jn_le, jn_inj, jn_add, jn_sub, jn_mul, jn_vp, jn_0a, jn_1a, jn_1b, jn_1s, jn_1m, jn_neg0, jn_le0, jn_0le, jn_0lt, jn_1le, jn_le1, jn_lt1, jn_1lt, jn_e0, jn_e1, jn_em, ↓qB_f, ↓qT_f, cl_0, cl_1, vp_0, vp_1, li_4, li_8, li_12, li_16, li_20, h1, h2, h3, h4]
        have hm : jn k - jn k / 4 * 4 = jn (k % 4) := jn_mod (b := 4) (by omega) (by omega)
        have hs := (sh4_s (k % 4) (by omega)).2.2
        rw [hB, K_M_feed_76, gd_pos (by decide), i3, gd_pos (vpK (by omega) (by omega)), hm, hs, jn_clamp (by omega), bw_eq]
        have e14 : ∀ v, (wup w2 13 (t + k) v) 0 14 = jn (t + k) := fun v => by rw [wup_o _ _ _ (by decide)]; exact i3
        rw [e14, jn_1a, bw_eq, bi_eq, jn_1a, ret_some, LQ_inl]
        refine ⟨rfl, frm_wup (frm_wup i2 _ _ _ rfl) _ _ _ rfl, by simp only [wup_s1, Nat.add_assoc], fun i hi => ?_, fun i hi => ?_⟩
        · simp (disch := omega) only [wup_o]
          rw [wup_s]
          by_cases e9 : i = k
          · rw [if_pos (by omega), e9]
          · rw [if_neg (by omega)]; exact i4 i (by omega)
        · simp (disch := omega) only [wup_o]
          rw [wup_s2 _ _ _ (by omega)]; exact i5 i hi
      · obtain ⟨i, w2⟩ := s
        obtain ⟨i1, i2, i3, i4, i5⟩ := hi
        simp only at i1 i2 i3 i4 i5
        subst i1
        rw [B_M_feed_23, br_pos (by rw [li_20, jn_le (by omega) (by omega)]; omega), ret_some, LQ_inr]
        exact ⟨i2, i3, i4, i5⟩
    · obtain ⟨x1, x2, x3, x4⟩ := hq
      rw [ret_some]
      have fr : Frm [13, 41, 43] [(0, 2), (0, 14), (42, 1)] w w' := frm_tr (frm_up q1 rfl) (frm_tr (frm_up fa rfl) (frm_up x1 rfl))
      have e43 : w' 43 = w1 43 := by rw [frm_cell x1 43 (fun _ => rfl), frm_cell fa 43 (fun _ => rfl)]
      refine ⟨x2, h, RelH_fd r fr ⟨⟨t + 20, by omega, ?_, x2, fun k hk => ?_⟩, ?_⟩⟩
      · show w' 42 1 = _
        rw [x1 42 1 rfl, fa 42 1 rfl]; exact q2
      · show ∃ b, b < 256 ∧ w' 13 k = jn b ∧ w' 43 k = sb b
        rw [e43]
        by_cases hkt : k < t
        · obtain ⟨bb, h1, h2, h3⟩ := et k hkt
          refine ⟨bb, h1, ?_, ?_⟩
          · rw [x4 k hkt, fa 13 k rfl, q1 13 k rfl]; exact h2
          · rw [q4 k hkt]; exact h3
        · have y1 := x3 (k - t) (by omega)
          have y2 := q3 (k - t) (by omega)
          rw [show t + (k - t) = k by omega] at y1 y2
          obtain ⟨bb, h1, h2, h3⟩ := byte_and (ag5 a b c d e (k - t) >>> (sh4 ((k - t) % 4) &&& 31))
          exact ⟨bb, h1, y1.trans h2, y2.trans h3⟩
      · show w' 42 2 = w' 0 23
        rw [fr 42 2 rfl, fr 0 23 rfl]; exact ef
  · rw [F_C_feed, e1, br_neg (by rw [li_680, jn_le (by omega) (by omega)]; exact hl), ret_some]
    simp only
    obtain ⟨z1, z2, z3, z4⟩ := m_ent r
    have ea : (wup w 0 2 0) 0 14 = jn t := by rw [wup_s2 _ _ _ (by decide)]; exact e2
    rw [F_M_feed, bw_eq, ea, li_20, jn_add, br_neg (by rw [li_700, jn_le (by omega) (by omega)]; omega), ret_some]
    exact ⟨rfl, h, RelH_p r z3 z2⟩
