/-! ===== expressions ===== -/
def POut (wR : Wld) (tx : Nat → Nat) (L : Nat) (wC wM : Wld) (p n D : Nat) (q : Int32 × Wld) (wM' : Wld) : Prop := Frm [51] KCe wC q.2 ∧ Frm [11] KMe wM wM' ∧ ((q.1 = 1 ∧ ∃ p' n', p < p' ∧ n' + p ≤ n + p' ∧ PR wR tx L q.2 wM' p' n' (D + 1)) ∨ (q.1 = 0 ∧ PF wR q.2 wM'))
/-- what is asked of the readers within parentheses -/
def HX (wR : Wld) (tx : Nat → Nat) (L : Nat) (rxC : Wld → Int32 → Option (Int32 × Wld)) (rxM : Wld → Int32 → Option Wld) (a : Nat) : Prop := (∀ wC wM p n D, PR wR tx L wC wM p n D → D ≤ 5 * (a + 1) → Ret2 (rxC wC (jn (a + 1))) (rxM wM (jn (a + 1))) (POut wR tx L wC wM p n D)) ∧ ∀ wM i, ¬ wM 0 21 = 0 → rxM wM i = some wM
def LOut (wR : Wld) (tx : Nat → Nat) (L : Nat) (wC wM : Wld) (p n D : Nat) (q : Int32 × Wld) (wM' : Wld) : Prop := Frm [51] KCe wC q.2 ∧ Frm [11] KMe wM wM' ∧ ((q.1 = 1 ∧ ∃ p' n', p ≤ p' ∧ n' + p ≤ n + p' ∧ PR wR tx L q.2 wM' p' n' D) ∨ (q.1 = 0 ∧ PF wR q.2 wM'))
theorem okS_bin {s : Int32} {d : Nat} (h1 : -18 ≤ s) (h2 : s ≤ -11) (hd : 2 ≤ d) : okS s d := Or.inr (Or.inr ⟨h1, h2, hd⟩)
theorem p_loop {wR : Wld} {tx : Nat → Nat} {L : Nat} {Bc : Int32 × Int32 × Wld → Option ((Int32 × Int32 × Wld) ⊕ (Int32 × Wld))} {Bm : Wld → Option (Wld ⊕ Wld)} {subC : Wld → Option (Int32 × Wld)} {subM : Wld → Option Wld} {op : Nat → Option Int32} {Bd : Nat}
    (hcN : ∀ i wC wM p n D, PR wR tx L wC wM p n D → op p = none → i < 701 → Bc (1, jn i, wC) = some (.inr (1, wC)))
    (hmN : ∀ wC wM p n D, PR wR tx L wC wM p n D → op p = none → Bm wM = some (.inr wM))
    (hcY : ∀ i wC wM p n D s, PR wR tx L wC wM p n D → op p = some s → i < 700 → Bc (1, jn i, wC) = bv (F_Tokens_step_45 wC) (fun w3 => bd (subC w3) (fun i4 w5 => bv (F_Rule_put_50 w5 s) (fun w6 => some (.inl (i4, jn (i + 1), w6))))))
    (hmY : ∀ wC wM p n D s, PR wR tx L wC wM p n D → op p = some s → Bm wM = bv (F_M_stepOn wM) (fun w4 => bv (subM w4) (fun w5 => bv (F_M_lay w5 (trc s)) (fun w6 => some (.inl w6)))))
    (hcF : ∀ i wC, Bc (0, i, wC) = some (.inr (0, wC)))
    (hmF : ∀ wM, ¬ wM 0 21 = 0 → Bm wM = some (.inr wM))
    (hop : ∀ p s, op p = some s → p ≤ L → p < L ∧ -18 ≤ s ∧ s ≤ -11)
    (hsub : ∀ wC wM p n D, PR wR tx L wC wM p n D → D ≤ Bd + 1 → Ret2 (subC wC) (subM wM) (POut wR tx L wC wM p n D)) :
    ∀ m p, L - p ≤ m → ∀ i n D wC wM, PR wR tx L wC wM p n (D + 1) → D ≤ Bd → i ≤ p → Ret2 (loop Bc (1, jn i, wC)) (loop Bm wM) (LOut wR tx L wC wM p n (D + 1)) := by
  intro m
  induction m with
  | zero =>
    intro p hp i n D wC wM r hD hi
    have hpL := r.2.2.1
    have hL := r.1.2.1
    cases ho : op p with
    | none =>
      refine ⟨(1, wC), wM, ?_, ?_, frm_rf, frm_rf, Or.inl ⟨rfl, p, n, Nat.le_refl _, by omega, r⟩⟩
      · rw [loop_eq, hcN i wC wM p n (D + 1) r ho (by omega)]
      · rw [loop_eq, hmN wC wM p n (D + 1) r ho]
    | some s =>
      have := (hop p s ho hpL).1
      omega
  | succ m ih =>
    intro p hp i n D wC wM r hD hi
    have hpL := r.2.2.1
    have hL := r.1.2.1
    have hnp := r.2.2.2.2.2.2.2
    cases ho : op p with
    | none =>
      refine ⟨(1, wC), wM, ?_, ?_, frm_rf, frm_rf, Or.inl ⟨rfl, p, n, Nat.le_refl _, by omega, r⟩⟩
      · rw [loop_eq, hcN i wC wM p n (D + 1) r ho (by omega)]
      · rw [loop_eq, hmN wC wM p n (D + 1) r ho]
    | some s =>
      obtain ⟨o1, o2, o3⟩ := hop p s ho hpL
      obtain ⟨a1, b1, ea1, eb1, fa1, fb1, p1, hp1, r1⟩ := both_step r o1
      obtain ⟨⟨v, a2⟩, b2, ea2, eb2, fa2, fb2, res⟩ := hsub a1 b1 p1 n (D + 1) r1 (by omega)
      simp only at fa2 res
      rcases res with ⟨rfl, p2, n2, hp2, hn2, r2⟩ | ⟨rfl, f2⟩
      · obtain ⟨a3, b3, ea3, eb3, fa3, fb3, r3⟩ := both_put r2 (by omega) (okS_bin (d := D + 1 + 1) o2 o3 (by omega))
        have hda : dAf s (D + 1 + 1) = D + 1 := by unfold dAf; rw [if_pos o3]; omega
        rw [hda] at r3
        have hL2 := r2.2.2.1
        obtain ⟨q, b4, eq, eb4, fq, fb4, res⟩ := ih p2 (by omega) (i + 1) (n2 + 1) D a3 b3 r3 hD (by omega)
        refine ⟨q, b4, ?_, ?_, frm_tr (frm_up fa1 rfl) (frm_tr fa2 (frm_tr fa3 fq)), frm_tr (frm_up fb1 rfl) (frm_tr fb2 (frm_tr fb3 fb4)), ?_⟩
        · rw [loop_eq, hcY i wC wM p n (D + 1) s r ho (by omega), ea1, bv_some, ea2, bd_some]
          simp only
          rw [ea3, bv_some]
          exact eq
        · rw [loop_eq, hmY wC wM p n (D + 1) s r ho, eb1, bv_some, eb2, bv_some, eb3, bv_some]
          exact eb4
        · rcases res with ⟨q1, p', n', h1, h2, r'⟩ | hf
          · exact Or.inl ⟨q1, p', n', by omega, by omega, r'⟩
          · exact Or.inr hf
      · obtain ⟨a3, ea3, fa3, f3⟩ := pf_put f2 s
        have hb := PF_b f2
        refine ⟨(0, a3), b2, ?_, ?_, frm_tr (frm_up fa1 rfl) (frm_tr fa2 (frm_up fa3 rfl)), frm_tr (frm_up fb1 rfl) fb2, Or.inr ⟨rfl, f3⟩⟩
        · rw [loop_eq, hcY i wC wM p n (D + 1) s r ho (by omega), ea1, bv_some, ea2, bd_some]
          simp only
          rw [ea3, bv_some]
          simp only
          rw [loop_eq, hcF]
        · rw [loop_eq, hmY wC wM p n (D + 1) s r ho, eb1, bv_some, eb2, bv_some, m_layB hb, bv_some]
          simp only
          rw [loop_eq, hmF b2 hb]
/-- first operand, then the loop -/
theorem p_chain {wR : Wld} {tx : Nat → Nat} {L : Nat} {Bc : Int32 × Int32 × Wld → Option ((Int32 × Int32 × Wld) ⊕ (Int32 × Wld))} {Bm : Wld → Option (Wld ⊕ Wld)} {xC : Option (Int32 × Wld)} {xM : Option Wld} {wC wM : Wld} {p n D : Nat}
    (h0 : Ret2 xC xM (POut wR tx L wC wM p n D))
    (hcF : ∀ i wC, Bc (0, i, wC) = some (.inr (0, wC))) (hmF : ∀ wM, ¬ wM 0 21 = 0 → Bm wM = some (.inr wM))
    (hl : ∀ p n wC wM, PR wR tx L wC wM p n (D + 1) → Ret2 (loop Bc (1, jn 0, wC)) (loop Bm wM) (LOut wR tx L wC wM p n (D + 1))) :
    Ret2 (bd xC (fun i1 w2 => bl (loop Bc (i1, 0, w2)) (fun r8 => gd (r8.1 = 0 ∨ r8.1 = 1) (some (r8.1, r8.2))))) (bv xM (fun w1 => bl (loop Bm w1) (fun r8 => some r8))) (POut wR tx L wC wM p n D) := by
  obtain ⟨⟨v, a⟩, b, ea, eb, fa, fb, res⟩ := h0
  simp only at fa res
  rcases res with ⟨rfl, p1, n1, hp1, hn1, r1⟩ | ⟨rfl, f1⟩
  · obtain ⟨⟨v2, a2⟩, b2, ea2, eb2, fa2, fb2, res⟩ := hl p1 n1 a b r1
    simp only at fa2 res
    refine ⟨(v2, a2), b2, ?_, ?_, frm_tr fa fa2, frm_tr fb fb2, ?_⟩
    · rw [ea, bd_some]
      show bl (loop Bc (1, jn 0, a)) _ = _
      rw [ea2, bl_some]
      simp only
      rw [gd_pos]
      rcases res with ⟨h, _⟩ | ⟨h, _⟩
      · exact Or.inr h
      · exact Or.inl h
    · rw [eb, bv_some, eb2, bl_some]
    · rcases res with ⟨q1, p', n', h1, h2, r'⟩ | hf
      · exact Or.inl ⟨q1, p', n', by omega, by omega, r'⟩
      · exact Or.inr hf
  · refine ⟨(0, a), b, ?_, ?_, fa, fb, Or.inr ⟨rfl, f1⟩⟩
    · rw [ea, bd_some]
      simp only
      rw [loop_eq, hcF, bl_some]
      simp only
      rw [gd_pos (Or.inl trivial)]
    · rw [eb, bv_some, loop_eq, hmF b (PF_b f1), bl_some]
/-! a part -/
theorem m_mark {wR : Wld} {tx : Nat → Nat} {L : Nat} {wC wM : Wld} {p n D : Nat} (r : PR wR tx L wC wM p n D) {c : Nat} (hc : isM c = true) (hc2 : c < 128) : (mk tx L p c = true → F_M_mark wM (jn c) = F_M_stepOn wM) ∧ (¬ mk tx L p c = true → F_M_mark wM (jn c) = some (wup (wup wM 0 21 1) 0 22 (wM 0 19))) := by
  obtain ⟨r1, r2, r3, r4, r5, r6, r7, r8⟩ := r
  have hm := m_mk r2 r5 r3 r6 hc hc2
  have id9 : ∀ x : Option Wld, bv x (fun w1 => K_M_mark_31 w1) = x := fun x => by cases x <;> rfl
  refine ⟨fun h => ?_, fun h => ?_⟩
  · rw [F_M_mark, r6, br_neg (fun z => z rfl), hm, if_pos h, bp_some, br_pos (by decide), K_M_mark_20, r6, br_neg (fun z => z rfl), id9]
  · have hb : ¬ (wup (wup wM 0 21 1) 0 22 (wM 0 19)) 0 21 = 0 := by rw [wup_s2 _ _ _ (by decide), wup_s1]; decide
    rw [F_M_mark, r6, br_neg (fun z => z rfl), hm, if_neg h, bp_some, br_neg (fun z => z rfl), m_wrong0 r6, bv_some, K_M_mark_20, br_pos hb, K_M_mark_31]
theorem m_markB {wM : Wld} (hb : ¬ wM 0 21 = 0) (c : Int32) : F_M_mark wM c = some wM := by
  rw [F_M_mark, br_pos hb, K_M_mark_20, br_pos hb, K_M_mark_31]
theorem c_sign {wR : Wld} {tx : Nat → Nat} {L : Nat} {wC wM : Wld} {p n D : Nat} (r : PR wR tx L wC wM p n D) {c : Nat} (hc2 : c < 128) (hc0 : c ≠ 0) : (mk tx L p c = true → F_Reader_readSign_44 wC (jn c) = bv (F_Tokens_step_45 wC) (fun w1 => some (1, w1))) ∧ (¬ mk tx L p c = true → F_Reader_readSign_44 wC (jn c) = some (0, wup (wup wC 44 5 1) 44 6 (wC 45 3))) := by
  have hm := c_mk r.1 r.2.2.2.1 r.2.2.1 hc2 hc0
  refine ⟨fun h => ?_, fun h => ?_⟩
  · rw [F_Reader_readSign_44, br_pos (by rw [hm]; exact h)]
  · rw [F_Reader_readSign_44, br_neg (by rw [hm]; exact h), c_failed, bd_some, gd_pos (Or.inl rfl)]
theorem mk_lt {tx : Nat → Nat} {L p c : Nat} (hp : p ≤ L) (h : mk tx L p c = true) : p < L := by
  unfold mk at h
  rw [decide_eq_true_eq] at h
  exact kd_lt hp (by rw [h.1]; decide)
def vlC (p : Nat) : Int32 := -2 - jn p
theorem vaE_f : ∀ v, v < 8 → ∃ i, i < 19 ∧ i ≠ 0 ∧ ltrs.getD i 0 = 4 + v ∧ enV 1 (jn i) = -2 - jn v ∧ (-2 - jn v : Int32) ≠ -1 ∧ trc (-2 - jn v) = -1 - jn v := by decide +kernel
theorem vaE_n : ∀ i, i < 19 → (enV 1 (jn i) = -1 ∨ ∃ v, v < 8 ∧ ltrs.getD i 0 = 4 + v ∧ i ≠ 0) := by decide +kernel
theorem m_which2 {tx : Nat → Nat} {L : Nat} {wM : Wld} {p : Nat} (ht : MTx wM tx L) (t : MTk wM tx L p) (hp : p ≤ L) (hb : wM 0 21 = 0) : (∀ v, v < 8 → wsB tx L p (4 + v) = true → F_M_which_2 wM = some (jn v)) ∧ ((∀ v, v < 8 → ¬ wsB tx L p (4 + v) = true) → F_M_which_2 wM = some (-1)) := by
  have uniq : ∀ v v', v < 8 → v' < 8 → wsB tx L p (4 + v) = true → wsB tx L p (4 + v') = true → v = v' := by
    intro v v' hv hv' h h'
    unfold wsB at h h'
    rw [Bool.and_eq_true] at h h'
    have := eqS_u (by omega) (by omega) h.2 h'.2
    omega
  refine ⟨fun v hv h => ?_, fun h => ?_⟩
  · have key : Ret (F_M_which_2 wM) (fun x => x = jn v) := by
      rw [F_M_which_2, ret_bx]
      refine loop_inv (I := fun j s => s = jn j ∧ j ≤ v) 8 ⟨rfl, Nat.zero_le _⟩ (fun j s hj hi => ?_) (fun s hi => ?_)
      · obtain ⟨rfl, i2⟩ := hi
        have hm := m_is ht t hp hb (k := 4 + j) (by omega)
        by_cases e : j = v
        · rw [if_pos (by rw [e]; exact h)] at hm
          simp (disch := omega) only [B_M_which_2_2, ↓bi_eq, ↓bw_eq, gd_pos, br_pos, br_neg, br_T, br_F, gd_T, bq_some, bd_some, bv_some, bl_some, bx_inl, bx_inr, bn_none, bn_some, bt_inl, bt_inr, not_true_eq_false, not_false_eq_true, eq_self, Bool.false_eq_true, if_true, if_false, jn_clamp, jn_lt, jn_le, jn_inj, jn_add, jn_sub, jn_mul, jn_vp, jn_0a, jn_1a, jn_1b, jn_1s, jn_1m, jn_neg0, jn_le0, jn_0le, jn_0lt, jn_1le, jn_le1, jn_lt1, jn_1lt, jn_e0, jn_e1, jn_em, ↓qB_f, ↓qT_f, cl_0, cl_1, vp_0, vp_1, li_8, hm, (by decide : ((1 : Int32) = 0) = False), ret_some, LQ_inr]
          rw [e]
        · rw [if_neg (fun z => e (uniq j v hj hv z h))] at hm
          simp (disch := omega) only [B_M_which_2_2, ↓bi_eq, ↓bw_eq, gd_pos, br_pos, br_neg, br_T, br_F, gd_T, bq_some, bd_some, bv_some, bl_some, bx_inl, bx_inr, bn_none, bn_some, bt_inl, bt_inr, not_true_eq_false, not_false_eq_true, eq_self, Bool.false_eq_true, if_true, if_false, jn_clamp, jn_lt, jn_le, jn_inj, jn_add, jn_sub, jn_mul, jn_vp, jn_0a, jn_1a, jn_1b, jn_1s, jn_1m, jn_neg0, jn_le0, jn_0le, jn_0lt, jn_1le, jn_le1, jn_lt1, jn_1lt, jn_e0, jn_e1, jn_em, ↓qB_f, ↓qT_f, cl_0, cl_1, vp_0, vp_1, li_8, hm, ret_some, LQ_inl]
          exact ⟨trivial, by omega⟩
      · omega
    exact ret_of key
  · have key : Ret (F_M_which_2 wM) (fun x => x = -1) := by
      rw [F_M_which_2, ret_bx]
      refine loop_inv (I := fun j s => s = jn j) 8 rfl (fun j s hj hi => ?_) (fun s hi => ?_)
      · subst hi
        have hm := m_is ht t hp hb (k := 4 + j) (by omega)
        rw [if_neg (h j hj)] at hm
        simp (disch := omega) only [B_M_which_2_2, ↓bi_eq, ↓bw_eq, gd_pos, br_pos, br_neg, br_T, br_F, gd_T, bq_some, bd_some, bv_some, bl_some, bx_inl, bx_inr, bn_none, bn_some, bt_inl, bt_inr, not_true_eq_false, not_false_eq_true, eq_self, Bool.false_eq_true, if_true, if_false, jn_clamp, jn_lt, jn_le, jn_inj, jn_add, jn_sub, jn_mul, jn_vp, jn_0a, jn_1a, jn_1b, jn_1s, jn_1m, jn_neg0, jn_le0, jn_0le, jn_0lt, jn_1le, jn_le1, jn_lt1, jn_1lt, jn_e0, jn_e1, jn_em, ↓qB_f, ↓qT_f, cl_0, cl_1, vp_0, vp_1, li_8, hm, ret_some, LQ_inl]
      · subst hi
        simp (disch := omega) only [B_M_which_2_2, ↓bi_eq, ↓bw_eq, gd_pos, br_pos, br_neg, br_T, br_F, gd_T, bq_some, bd_some, bv_some, bl_some, bx_inl, bx_inr, bn_none, bn_some, bt_inl, bt_inr, not_true_eq_false, not_false_eq_true, eq_self, Bool.false_eq_true, if_true, if_false, jn_clamp, jn_lt, jn_le, jn_inj, jn_add, jn_sub, jn_mul, jn_vp, jn_0a, jn_1a, jn_1b, jn_1s, jn_1m, jn_neg0, jn_le0, jn_0le, jn_0lt, jn_1le, jn_le1, jn_lt1, jn_1lt, jn_e0, jn_e1, jn_em, ↓qB_f, ↓qT_f, cl_0, cl_1, vp_0, vp_1, li_8, br_pos (Nat.le_refl 8), ret_some, LQ_inr, LQ_inl]
    exact ret_of key
theorem p_part {wR : Wld} {tx : Nat → Nat} {L : Nat} {rxC : Wld → Int32 → Option (Int32 × Wld)} {rxM : Wld → Int32 → Option Wld} {a : Nat} (hx : HX wR tx L rxC rxM a) (ha : a ≤ 5) {wC wM : Wld} {p n D : Nat} (r : PR wR tx L wC wM p n D) (hD : D ≤ 5 * a + 5) : Ret2 (F_Reader_readPart_44 rxC wC (jn a)) (F_M_readPart rxM wM (jn a)) (POut wR tx L wC wM p n D) := by
  have r0 := r
  obtain ⟨r1, r2, r3, r4, r5, r6, r7, r8⟩ := r0
  have hL := r1.2.1
  have hmk := c_mk r1 r4 r3 (c := 40) (by omega) (by omega)
  have hk1 : (wC 45 4 = 1) = (kd tx L p = 1) := c_kind r4 (k := 1) (by omega)
  have mk1 : (wM 0 17 = 1) = (kd tx L p = 1) := m_kind r5 (k := 1) (by omega)
  have mk2 : (wM 0 17 = 2) = (kd tx L p = 2) := m_kind r5 (k := 2) (by omega)
  have e40 : (40 : Int32) = jn 40 := rfl
  have e41 : (41 : Int32) = jn 41 := rfl
  rw [F_Reader_readPart_44, F_M_readPart, br_pos r6, e40]
  by_cases hP : mk tx L p 40 = true
  · have h3 : kd tx L p = 3 := by unfold mk at hP; rw [decide_eq_true_eq] at hP; exact hP.1
    have hpL := mk_lt r3 hP
    rw [br_neg (by rw [hmk]; exact fun z => z hP), br_pos (by rw [mk2]; omega), br_pos (by rw [mk1]; omega), (m_mark r (c := 40) (by decide) (by omega)).1 hP]
    obtain ⟨a1, b1, ea1, eb1, fa1, fb1, p1, hp1, r1'⟩ := both_step r hpL
    rw [ea1, bv_some, eb1, bv_some, jn_1a]
    obtain ⟨⟨v, a2⟩, b2, ea2, eb2, fa2, fb2, res⟩ := hx.1 a1 b1 p1 n D r1' (by omega)
    simp only at fa2 res
    rw [ea2, bd_some, eb2, bv_some]
    simp only
    have FA : Frm [51] KCe wC a2 := frm_tr (frm_up fa1 rfl) fa2
    have FB : Frm [11] KMe wM b2 := frm_tr (frm_up fb1 rfl) fb2
    rcases res with ⟨rfl, p2, n2, hp2, hn2, r2'⟩ | ⟨rfl, f2⟩
    · rw [br_neg (by decide), e41]
      by_cases hQ : mk tx L p2 41 = true
      · have hpL2 := mk_lt r2'.2.2.1 hQ
        obtain ⟨a3, b3, ea3, eb3, fa3, fb3, p3, hp3, r3'⟩ := both_step r2' hpL2
        rw [(c_sign r2' (c := 41) (by omega) (by omega)).1 hQ, ea3, (m_mark r2' (c := 41) (by decide) (by omega)).1 hQ, eb3]
        refine ⟨(1, a3), b3, ?_, rfl, frm_tr FA (frm_up fa3 rfl), frm_tr FB (frm_up fb3 rfl), Or.inl ⟨rfl, p3, n2, by omega, by omega, r3'⟩⟩
        rw [bv_some, bd_some]
        simp only
        rw [br_neg (by decide), K_Reader_readPart_44_43, gd_pos (Or.inr rfl)]
      · rw [(c_sign r2' (c := 41) (by omega) (by omega)).2 hQ, (m_mark r2' (c := 41) (by decide) (by omega)).2 hQ]
        refine ⟨(0, wup (wup a2 44 5 1) 44 6 (a2 45 3)), wup (wup b2 0 21 1) 0 22 (b2 0 19), ?_, rfl, frm_tr FA (frm_wup (frm_wup frm_rf _ _ _ rfl) _ _ _ rfl), frm_tr FB (frm_wup (frm_wup frm_rf _ _ _ rfl) _ _ _ rfl), Or.inr ⟨rfl, fail_PF r2' (k := 1) (by decide)⟩⟩
        rw [bd_some]
        simp only
        rw [br_pos trivial, K_Reader_readPart_44_42, K_Reader_readPart_44_43, gd_pos (Or.inl rfl)]
    · rw [br_pos rfl, K_Reader_readPart_44_42, K_Reader_readPart_44_43, gd_pos (Or.inl rfl), m_markB (PF_b f2)]
      exact ⟨(0, a2), b2, rfl, rfl, FA, FB, Or.inr ⟨rfl, f2⟩⟩
  · rw [br_pos (by rw [hmk]; exact hP)]
    by_cases h1 : kd tx L p = 1
    · have hpL := kd_lt r3 (by rw [h1]; decide)
      have hwl := c_wlt r4
      rw [br_neg (by rw [hk1]; exact fun z => z h1), br_pos (by rw [mk2]; omega), br_neg (by rw [mk1]; exact fun z => z h1), F_Reader_readValue_44, gd_pos hwl]
      have e5 : wC 45 5 = jn (wdI tx p (edT tx L p)) := by rw [r4.2.2.2.1, if_pos h1]
      have hwi := wdI_lt tx p (edT tx L p)
      obtain ⟨w2a, w2b⟩ := m_which2 r2 r5 r3 r6
      by_cases hv : ∃ v, v < 8 ∧ wsB tx L p (4 + v) = true
      · obtain ⟨v, hv8, hvw⟩ := hv
        obtain ⟨i, hi, hi0, il, ie, ine, itr⟩ := vaE_f v hv8
        have hwd : wdI tx p (edT tx L p) = i := by
          have := c_ws r4 hi hi0
          rw [il, e5, jn_clamp (by omega)] at this
          rw [this]; exact hvw
        have okp : okS (-2 - jn v) D := by
          refine Or.inl ⟨Or.inr ?_, by omega⟩
          have : ∀ v, v < 8 → (-9 : Int32) ≤ -2 - jn v ∧ -2 - jn v ≤ (-2 : Int32) := by decide +kernel
          exact this v hv8
        have hda : dAf (-2 - jn v) D = D + 1 := by
          have : ∀ v, v < 8 → ¬ (-2 - jn v : Int32) ≤ -11 ∧ ¬ (-2 - jn v : Int32) = -10 := by decide +kernel
          unfold dAf
          rw [if_neg (this v hv8).1, if_neg (this v hv8).2]
        have hvn : ¬ jn v = (-1 : Int32) := by rw [jn_em (by omega)]; exact id
        rw [e5, hwd, ie, br_pos ine, gd_pos (by rw [jn_clamp (by omega)]; exact hi), w2a v hv8 hvw, bp_some, br_pos hvn, K_M_readPart_56, ← itr]
        obtain ⟨a1, b1, ea1, eb1, fa1, fb1, r1'⟩ := both_put0 (PR_0 r) (by omega) okp
        rw [hda] at r1'
        obtain ⟨a2, b2, ea2, eb2, fa2, fb2, p2, hp2, r2'⟩ := both_step0 r1' hpL
        refine ⟨(1, a2), b2, ?_, ?_, frm_tr fa1 (frm_up fa2 rfl), frm_tr fb1 (frm_up fb2 rfl), Or.inl ⟨rfl, p2, n + 1, hp2, by omega, PR_of r2' (by omega)⟩⟩
        · rw [ea1, bv_some, ea2, bv_some, bd_some]
          simp only
          rw [gd_pos (Or.inr trivial)]
        · rw [eb1, bv_some, r1'.2.2.2.2.2.1, br_neg (fun z => z rfl), eb2, bv_some, K_M_readPart_74]
      · have hv' : ∀ v, v < 8 → ¬ wsB tx L p (4 + v) = true := fun v h9 z => hv ⟨v, h9, z⟩
        have hen : enV 1 (jn (wdI tx p (edT tx L p))) = -1 := by
          rcases vaE_n _ hwi with h | ⟨v, h1', h2, h3⟩
          · exact h
          · have := c_ws r4 hwi h3
            rw [h2, e5, jn_clamp (by omega)] at this
            exact absurd (this.mp rfl) (hv' v h1')
        have hb : ¬ (wup (wup wM 0 21 3) 0 22 (wM 0 19)) 0 21 = 0 := by rw [wup_s2 _ _ _ (by decide), wup_s1]; decide
        refine ⟨(0, wup (wup wC 44 5 3) 44 6 (wC 45 3)), wup (wup wM 0 21 3) 0 22 (wM 0 19), ?_, ?_, frm_wup (frm_wup frm_rf _ _ _ rfl) _ _ _ rfl, frm_wup (frm_wup frm_rf _ _ _ rfl) _ _ _ rfl, Or.inr ⟨rfl, fail_PF r (by decide)⟩⟩
        · rw [e5, hen, br_neg (fun z => z rfl), c_failed, bd_some, gd_pos (Or.inl rfl), bd_some]
          simp only
          rw [gd_pos (Or.inl trivial)]
        · rw [w2b hv', bp_some, br_neg (fun z => z rfl), m_wrong0 r6, bv_some, K_M_readPart_56, m_layB hb, bv_some, br_pos hb, K_M_readPart_74]
    · rw [br_pos (by rw [hk1]; exact h1)]
      by_cases h2 : kd tx L p = 2
      · rw [br_neg (by rw [mk2]; exact fun z => z h2)]
        obtain ⟨⟨v, a1⟩, ⟨v', b1⟩, ea1, eb1, fa1, fb1, res⟩ := both_num r (lo := 0) (hi := 9999) (by omega) (by omega)
        simp only at fa1 fb1 res
        rw [show F_Reader_readNumber_44 wC 0 9999 = _ from ea1, show F_M_readNumber wM 0 9999 = _ from eb1, bd_some, bd_some]
        simp only
        rcases res with ⟨rfl, x, p1, x1, x2, x3, rfl, hp1, r1'⟩ | ⟨rfl, rfl, f1⟩
        · have trx : trc (jn x) = jn x := by unfold trc; rw [if_pos (by rw [jn_0le (by omega)]; trivial)]
          have okp : okS (jn x) D := Or.inl ⟨Or.inl (by rw [jn_0le (by omega)]; trivial), by omega⟩
          have hda : dAf (jn x) D = D + 1 := by
            have h0 : (0 : Int32) ≤ jn x := by rw [jn_0le (by omega)]; trivial
            have pn := pushN_of h0
            unfold dAf
            rw [if_neg pn.2.2.2.1, if_neg pn.2.2.1]
          obtain ⟨a2, b2, ea2, eb2, fa2, fb2, r2'⟩ := both_put r1' (by omega) okp
          rw [hda] at r2'
          rw [trx] at eb2
          refine ⟨(1, a2), b2, ?_, ?_, frm_tr (frm_up fa1 rfl) fa2, frm_tr (frm_up fb1 rfl) fb2, Or.inl ⟨rfl, p1, n + 1, hp1, by omega, r2'⟩⟩
          · rw [br_pos (by decide), x3, ea2, bv_some]
          · rw [eb2, bv_some]
        · refine ⟨(0, a1), b1, ?_, ?_, frm_up fa1 rfl, frm_up fb1 rfl, Or.inr ⟨rfl, f1⟩⟩
          · rw [br_neg (fun z => z rfl)]
          · rw [m_layB (PF_b f1), bv_some]
      · rw [br_pos (by rw [mk2]; exact h2), br_pos (by rw [mk1]; exact h1)]
        have hno : ¬ numOK tx L p 0 9999 := fun z => h2 z.1
        have hb : ¬ (wup (wup wM 0 21 1) 0 22 (wM 0 19)) 0 21 = 0 := by rw [wup_s2 _ _ _ (by decide), wup_s1]; decide
        have ec := (c_num r (lo := 0) (hi := 9999) (by omega) (by omega)).2 hno
        rw [if_neg h2] at ec
        refine ⟨(0, wup (wup wC 44 5 1) 44 6 (wC 45 3)), wup (wup wM 0 21 1) 0 22 (wM 0 19), ?_, ?_, frm_wup (frm_wup frm_rf _ _ _ rfl) _ _ _ rfl, frm_wup (frm_wup frm_rf _ _ _ rfl) _ _ _ rfl, Or.inr ⟨rfl, fail_PF r (by decide)⟩⟩
        · rw [show F_Reader_readNumber_44 wC 0 9999 = _ from ec, bd_some]
          simp only
          rw [br_neg (fun z => z trivial)]
        · rw [(m_mark r (c := 40) (by decide) (by omega)).2 hP, bv_some, hx.2 _ _ hb, bv_some, m_markB hb, bv_some]
