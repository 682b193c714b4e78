/-! ===== a line, and the text ===== -/
theorem voE_f : ∀ e, e < 19 → (2 ≤ e → e ≤ 5 → ltrs.getD e 0 = e - 2 ∧ enV 0 (jn e) = jn (e - 2) ∧ ¬ (jn (e - 2)) = -1) ∧ (¬ (2 ≤ e ∧ e ≤ 5) → enV 0 (jn e) = -1) := by decide +kernel
theorem m_which1 {tx : Nat → Nat} {L : Nat} {wM : Wld} {p : Nat} (ht : MTx wM tx L) (t : MTk wM tx L p) (hp : p ≤ L) (hb : wM 0 21 = 0) : (∀ v, v < 4 → wsB tx L p v = true → F_M_which_1 wM = some (jn v)) ∧ ((∀ v, v < 4 → ¬ wsB tx L p v = true) → F_M_which_1 wM = some (-1)) := by
  have uniq : ∀ v v', v < 4 → v' < 4 → wsB tx L p v = true → wsB tx L p v' = true → v = v' := by
    intro v v' hv hv' h h'
    unfold wsB at h h'
    rw [Bool.and_eq_true] at h h'
    have := eqS_u (by omega) (by omega) h.2 h'.2
    omega
  refine ⟨fun v hv h => ?_, fun h => ?_⟩
  · have key : Ret (F_M_which_1 wM) (fun x => x = jn v) := by
      rw [F_M_which_1, ret_bx]
      refine loop_inv (I := fun j s => s = jn j ∧ j ≤ v) 4 ⟨rfl, Nat.zero_le _⟩ (fun j s hj hi => ?_) (fun s hi => ?_)
      · obtain ⟨rfl, i2⟩ := hi
        have hm := m_is ht t hp hb (k := j) (by omega)
        by_cases e : j = v
        · rw [if_pos (by rw [e]; exact h)] at hm
          simp (disch := omega) only [B_M_which_1_2, ↓bi_eq, ↓bw_eq, gd_pos, br_pos, br_neg, br_T, br_F, gd_T, bq_some, bd_some, bv_some, bl_some, bx_inl, bx_inr, bn_none, bn_some, bt_inl, bt_inr, not_true_eq_false, not_false_eq_true, eq_self, Bool.false_eq_true, if_true, if_false, jn_clamp, jn_lt, jn_le, jn_inj, jn_add, jn_sub, jn_mul, jn_vp, jn_0a, jn_1a, jn_1b, jn_1s, jn_1m, jn_neg0, jn_le0, jn_0le, jn_0lt, jn_1le, jn_le1, jn_lt1, jn_1lt, jn_e0, jn_e1, jn_em, ↓qB_f, ↓qT_f, cl_0, cl_1, vp_0, vp_1, li_4, Nat.zero_add, hm, (by decide : ((1 : Int32) = 0) = False), ret_some, LQ_inr]
          rw [e]
        · rw [if_neg (fun z => e (uniq j v hj hv z h))] at hm
          simp (disch := omega) only [B_M_which_1_2, ↓bi_eq, ↓bw_eq, gd_pos, br_pos, br_neg, br_T, br_F, gd_T, bq_some, bd_some, bv_some, bl_some, bx_inl, bx_inr, bn_none, bn_some, bt_inl, bt_inr, not_true_eq_false, not_false_eq_true, eq_self, Bool.false_eq_true, if_true, if_false, jn_clamp, jn_lt, jn_le, jn_inj, jn_add, jn_sub, jn_mul, jn_vp, jn_0a, jn_1a, jn_1b, jn_1s, jn_1m, jn_neg0, jn_le0, jn_0le, jn_0lt, jn_1le, jn_le1, jn_lt1, jn_1lt, jn_e0, jn_e1, jn_em, ↓qB_f, ↓qT_f, cl_0, cl_1, vp_0, vp_1, li_4, Nat.zero_add, hm, ret_some, LQ_inl]
          exact ⟨trivial, by omega⟩
      · omega
    exact ret_of key
  · have key : Ret (F_M_which_1 wM) (fun x => x = -1) := by
      rw [F_M_which_1, ret_bx]
      refine loop_inv (I := fun j s => s = jn j) 4 rfl (fun j s hj hi => ?_) (fun s hi => ?_)
      · subst hi
        have hm := m_is ht t hp hb (k := j) (by omega)
        rw [if_neg (h j hj)] at hm
        simp (disch := omega) only [B_M_which_1_2, ↓bi_eq, ↓bw_eq, gd_pos, br_pos, br_neg, br_T, br_F, gd_T, bq_some, bd_some, bv_some, bl_some, bx_inl, bx_inr, bn_none, bn_some, bt_inl, bt_inr, not_true_eq_false, not_false_eq_true, eq_self, Bool.false_eq_true, if_true, if_false, jn_clamp, jn_lt, jn_le, jn_inj, jn_add, jn_sub, jn_mul, jn_vp, jn_0a, jn_1a, jn_1b, jn_1s, jn_1m, jn_neg0, jn_le0, jn_0le, jn_0lt, jn_1le, jn_le1, jn_lt1, jn_1lt, jn_e0, jn_e1, jn_em, ↓qB_f, ↓qT_f, cl_0, cl_1, vp_0, vp_1, li_4, Nat.zero_add, hm, ret_some, LQ_inl]
      · subst hi
        simp (disch := omega) only [B_M_which_1_2, ↓bi_eq, ↓bw_eq, gd_pos, br_pos, br_neg, br_T, br_F, gd_T, bq_some, bd_some, bv_some, bl_some, bx_inl, bx_inr, bn_none, bn_some, bt_inl, bt_inr, not_true_eq_false, not_false_eq_true, eq_self, Bool.false_eq_true, if_true, if_false, jn_clamp, jn_lt, jn_le, jn_inj, jn_add, jn_sub, jn_mul, jn_vp, jn_0a, jn_1a, jn_1b, jn_1s, jn_1m, jn_neg0, jn_le0, jn_0le, jn_0lt, jn_1le, jn_le1, jn_lt1, jn_1lt, jn_e0, jn_e1, jn_em, ↓qB_f, ↓qT_f, cl_0, cl_1, vp_0, vp_1, li_4, br_pos (Nat.le_refl 4), ret_some, LQ_inr, LQ_inl]
    exact ret_of key
theorem and0 : ∀ b, b < 8 → ((0 : Int32) &&& jn b) = 0 := by decide +kernel
theorem p_line {wR : Wld} {tx : Nat → Nat} {L : Nat} {wC wM : Wld} {p n D nr nm b : Nat} (r : LR wR tx L wC wM p n D nr nm b) (hpL : p < L) : Ret2 (F_Reader_readLine_44 wC) (F_M_readLine wM (jn b)) (LnOut wR tx L wC wM p) := by
  have r0 := r
  obtain ⟨r1, x, hd⟩ := r0
  have hb8 := x.2.2.1
  have r6 := r1.2.2.2.2.2.1
  have bo := (bit_or b hb8).2.2.2.1
  obtain ⟨i, hi, e5⟩ : ∃ i, i < 19 ∧ wC 45 5 = jn i := by
    refine ⟨_, ?_, r1.2.2.2.1.2.2.2.1⟩
    have hlt := wdI_lt tx p (edT tx L p)
    split <;> omega
  have hci : Int32.toNatClampNeg (wC 45 5) = i := by rw [e5, jn_clamp (by omega)]
  have WS : ∀ e, e < 19 → e ≠ 0 → ((i = e) = (wsB tx L p (ltrs.getD e 0) = true)) := fun e he he0 => by
    have := c_ws r1.2.2.2.1 he he0
    rw [hci] at this
    exact this
  have W : ∀ e k, e < 19 → e ≠ 0 → ltrs.getD e 0 = k → F_M_is wM k = some (if i = e then 1 else 0) := by
    intro e k he he0 hk
    subst hk
    rw [m_is r1.2.1 r1.2.2.2.2.1 r1.2.2.1 r6 (ltrs_lt e he)]
    by_cases h : i = e
    · rw [if_pos (by rw [← WS e he he0]; exact h), if_pos h]
    · rw [if_neg (by rw [← WS e he he0]; exact h), if_neg h]
  have w7 := W 1 7 (by omega) (by omega) rfl
  have w12 := W 6 12 (by omega) (by omega) rfl
  have w13 := W 7 13 (by omega) (by omega) rfl
  have w14 := W 8 14 (by omega) (by omega) rfl
  obtain ⟨wh1, wh2⟩ := m_which1 r1.2.1 r1.2.2.2.2.1 r1.2.2.1 r6
  have hlt19 : Int32.toNatClampNeg (jn i) < 19 := by rw [jn_clamp (by omega)]; exact hi
  have g1 : Int32.toNatClampNeg (1 : Int32) < 19 := by decide
  have g6 : Int32.toNatClampNeg (6 : Int32) < 19 := by decide
  have g7 : Int32.toNatClampNeg (7 : Int32) < 19 := by decide
  have g8 : Int32.toNatClampNeg (8 : Int32) < 19 := by decide
  have c6 : Int32.toNatClampNeg (6 : Int32) = 6 := rfl
  have c7 : Int32.toNatClampNeg (7 : Int32) = 7 := rfl
  have c8 : Int32.toNatClampNeg (8 : Int32) = 8 := rfl
  have cji : Int32.toNatClampNeg (jn i) = i := jn_clamp (by omega)
  obtain ⟨vo1, vo2⟩ := voE_f i hi
  by_cases hv : 2 ≤ i ∧ i ≤ 5
  · obtain ⟨v1, v2, v3⟩ := vo1 hv.1 hv.2
    have hw : wsB tx L p (i - 2) = true := by rw [← v1, ← WS i hi (by omega)]
    rw [F_Reader_readLine_44, bi_eq, e5, gd_pos hlt19, gd_pos g1, cl_1, cji, br_pos (by omega), gd_pos hi, v2, br_neg v3, gd_pos hi]
    rw [F_M_readLine, wh1 (i - 2) (by omega) hw, bp_some, w12, if_neg (by omega), bp_some, br_pos rfl, w13, if_neg (by omega), bp_some, br_pos rfl, w14, if_neg (by omega), bp_some, br_pos rfl, K_M_readLine_52, br_pos (and0 b hb8), K_M_readLine_64, br_pos (by decide), br_neg v3]
    obtain ⟨q, wM', hC, hM, hB⟩ := b_monk r hpL (o := i - 2) (by omega)
    exact line_end (b := b) (bit := 0) bo hC (by rw [hM, bv_some]; rfl) hB
  · have v2 := vo2 hv
    have hnw : ∀ v, v < 4 → ¬ wsB tx L p v = true := by
      intro v hv4 z
      have := WS (v + 2) (by omega) (by omega)
      rw [((voE_f (v + 2) (by omega)).1 (by omega) (by omega)).1, show v + 2 - 2 = v by omega] at this
      have : i = v + 2 := by rw [this]; exact z
      omega
    rw [F_M_readLine, wh2 hnw, bp_some, w12]
    by_cases h1 : i = 1
    · rw [F_Reader_readLine_44, bi_eq, e5, gd_pos hlt19, gd_pos g1, cl_1, cji, br_neg (fun z => z h1)]
      rw [if_neg (by omega), bp_some, br_pos rfl, w13, if_neg (by omega), bp_some, br_pos rfl, w14, if_neg (by omega), bp_some, br_pos rfl, K_M_readLine_52, br_pos (and0 b hb8), K_M_readLine_64, br_pos (by decide), br_pos rfl, w7, if_pos h1, bp_some, br_neg (by decide)]
      obtain ⟨q, wM', hC, hM, hB⟩ := b_room r hpL
      exact line_end (b := b) (bit := 0) bo hC (by rw [hM, bv_some]; rfl) hB
    · rw [F_Reader_readLine_44, bi_eq, e5, gd_pos hlt19, gd_pos g1, cl_1, cji, br_pos h1, gd_pos hi, v2, br_pos rfl, gd_pos hi, gd_pos g6, c6]
      by_cases h6 : i = 6
      · rw [br_neg (fun z => z h6), if_pos h6, bp_some, br_neg (by decide)]
        exact b_tires r hpL (-1)
      · rw [br_pos h6, gd_pos hi, gd_pos g7, c7, if_neg h6, bp_some, br_pos rfl, w13]
        by_cases h7 : i = 7
        · rw [br_neg (fun z => z h7), if_pos h7, bp_some, br_neg (by decide)]
          exact b_rests r hpL (-1)
        · rw [br_pos h7, gd_pos hi, gd_pos g8, c8, if_neg h7, bp_some, br_pos rfl, w14]
          by_cases h8 : i = 8
          · rw [br_neg (fun z => z h8), if_pos h8, bp_some, br_neg (by decide)]
            exact b_dreams r hpL (-1)
          · rw [br_pos h8, if_neg h8, bp_some, br_pos rfl, K_M_readLine_52, br_pos (and0 b hb8), K_M_readLine_64, br_pos (by decide), br_pos rfl, w7, if_neg h1, bp_some, br_pos rfl]
            refine line_end (b := b) (bit := 0) (wM' := wup (wup wM 0 21 1) 0 22 (wM 0 19)) bo (c_failed wC 1) (by rw [m_wrong0 r6, bv_some]; rfl) ⟨frm_wup (frm_wup frm_rf _ _ _ rfl) _ _ _ rfl, frm_wup (frm_wup frm_rf _ _ _ rfl) _ _ _ rfl, Or.inr ⟨rfl, fail_PF r1 (k := 1) (by decide)⟩⟩
theorem p_text {wR : Wld} {tx : Nat → Nat} {L : Nat} : ∀ m p, L - p ≤ m → ∀ i n D nr nm b wC wM, LR wR tx L wC wM p n D nr nm b → i ≤ p → ∃ wM', loop B_M_house_96 (jn b, wM) = some wM' ∧ Frm LLm KLm wM wM' ∧ ((∃ wC' p' n' D' nr' nm' b', loop B_Reader_readText_44_43_8 (jn i, wC) = some (.inl wC') ∧ Frm LLc [] wC wC' ∧ LR wR tx L wC' wM' p' n' D' nr' nm' b') ∨ (∃ wC', loop B_Reader_readText_44_43_8 (jn i, wC) = some (.inr (wC' 44 5, wC')) ∧ Frm LLc [] wC wC' ∧ PF wR wC' wM')) := by
  intro m
  induction m with
  | zero =>
    intro p hp i n D nr nm b wC wM r hi
    have hL := r.1.1.2.1
    have hpl := r.1.2.2.1
    have r6 := r.1.2.2.2.2.2.1
    have ck : (wC 45 4 = 0) = (kd tx L p = 0) := c_kind r.1.2.2.2.1 (k := 0) (by omega)
    have mk0 : (wM 0 17 = 0) = (kd tx L p = 0) := m_kind r.1.2.2.2.2.1 (k := 0) (by omega)
    have h0 : kd tx L p = 0 := by
      by_cases h : kd tx L p = 0
      · exact h
      · have := kd_lt hpl h; omega
    refine ⟨wM, ?_, frm_rf, Or.inl ⟨wC, p, n, D, nr, nm, b, ?_, frm_rf, r⟩⟩
    · rw [loop_eq, B_M_house_96]
      simp only
      rw [br_neg (fun z => z r6), br_pos (by rw [mk0]; exact h0)]
    · rw [loop_eq, B_Reader_readText_44_43_8]
      simp only
      rw [br_neg (by rw [li_700, jn_lt (by omega) (by omega)]; omega), br_pos (by rw [ck]; exact h0)]
  | succ m ih =>
    intro p hp i n D nr nm b wC wM r hi
    have hL := r.1.1.2.1
    have hpl := r.1.2.2.1
    have r6 := r.1.2.2.2.2.2.1
    have ck : (wC 45 4 = 0) = (kd tx L p = 0) := c_kind r.1.2.2.2.1 (k := 0) (by omega)
    have mk0 : (wM 0 17 = 0) = (kd tx L p = 0) := m_kind r.1.2.2.2.2.1 (k := 0) (by omega)
    have h7 : ¬ (700 : Int32) < jn i := by rw [li_700, jn_lt (by omega) (by omega)]; omega
    by_cases h0 : kd tx L p = 0
    · refine ⟨wM, ?_, frm_rf, Or.inl ⟨wC, p, n, D, nr, nm, b, ?_, frm_rf, r⟩⟩
      · rw [loop_eq, B_M_house_96]
        simp only
        rw [br_neg (fun z => z r6), br_pos (by rw [mk0]; exact h0)]
      · rw [loop_eq, B_Reader_readText_44_43_8]
        simp only
        rw [br_neg h7, br_pos (by rw [ck]; exact h0)]
    · have hpL := kd_lt hpl h0
      obtain ⟨⟨v, a1⟩, ⟨v', b1⟩, ea, eb, fa, fb, res⟩ := p_line r hpL
      simp only at fa fb res
      have eM : loop B_M_house_96 (jn b, wM) = loop B_M_house_96 (v', b1) := by
        rw [loop_eq, B_M_house_96]
        simp only
        rw [br_neg (fun z => z r6), br_neg (by rw [mk0]; exact h0), eb, bd_some]
      have eC1 : ¬ v = 0 → loop B_Reader_readText_44_43_8 (jn i, wC) = loop B_Reader_readText_44_43_8 (jn (i + 1), a1) := by
        intro hv
        rw [loop_eq, B_Reader_readText_44_43_8]
        simp only
        rw [br_neg h7, br_neg (by rw [ck]; exact h0), ea, bd_some]
        simp only
        rw [br_pos hv, bi_eq, jn_1a]
      have eC0 : v = 0 → loop B_Reader_readText_44_43_8 (jn i, wC) = some (.inr (a1 44 5, a1)) := by
        intro hv
        rw [loop_eq, B_Reader_readText_44_43_8]
        simp only
        rw [br_neg h7, br_neg (by rw [ck]; exact h0), ea, bd_some]
        simp only
        rw [br_neg (fun z => z hv)]
      rcases res with ⟨rfl, p1, n1, D1, nr1, nm1, b', hp1, rfl, r1⟩ | ⟨rfl, f1⟩
      · have eC := eC1 (by decide)
        obtain ⟨wM', g1, g2, g3⟩ := ih p1 (by omega) (i + 1) n1 D1 nr1 nm1 b' a1 b1 r1 (by omega)
        refine ⟨wM', eM.trans g1, frm_tr fb g2, ?_⟩
        rcases g3 with ⟨wC', p', n', D', nr', nm', b'', h1, h2, h3⟩ | ⟨wC', h1, h2, h3⟩
        · exact Or.inl ⟨wC', p', n', D', nr', nm', b'', eC.trans h1, frm_tr fa h2, h3⟩
        · exact Or.inr ⟨wC', eC.trans h1, frm_tr fa h2, h3⟩
      · have eC := eC0 rfl
        refine ⟨b1, ?_, fb, Or.inr ⟨a1, eC, fa, f1⟩⟩
        rw [eM, loop_eq, B_M_house_96]
        simp only
        rw [br_pos (PF_b f1)]
