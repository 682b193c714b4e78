/-! ===== tokens ===== -/
def CTx (w : Wld) (tx : Nat → Nat) (L : Nat) : Prop := w 45 1 = jn L ∧ L ≤ 700 ∧ ∀ k, k < L → tx k < 256 ∧ w 46 k = sb (tx k)
def MTx (w : Wld) (tx : Nat → Nat) (L : Nat) : Prop := w 0 16 = jn L ∧ L ≤ 700 ∧ ∀ k, k < L → tx k < 256 ∧ w 13 k = jn (tx k)
theorem CTx_fr {L9 : List Nat} {K : List (Nat × Nat)} {w w' : Wld} {tx : Nat → Nat} {L : Nat} (r : CTx w tx L) (f : Frm L9 K w w') (b : frB L9 K 45 1 = false ∧ ∀ j, frB L9 K 46 j = false) : CTx w' tx L := by
  unfold CTx at r ⊢
  rw [f _ _ b.1, frm_cell f 46 b.2]
  exact r
theorem MTx_fr {L9 : List Nat} {K : List (Nat × Nat)} {w w' : Wld} {tx : Nat → Nat} {L : Nat} (r : MTx w tx L) (f : Frm L9 K w w') (b : frB L9 K 0 16 = false ∧ ∀ j, frB L9 K 13 j = false) : MTx w' tx L := by
  unfold MTx at r ⊢
  rw [f _ _ b.1, frm_cell f 13 b.2]
  exact r
def nxt (tx : Nat → Nat) (L s : Nat) : Nat := scn (fun k => isK (tx k)) L s
def kd (tx : Nat → Nat) (L p : Nat) : Nat := if L ≤ p then 0 else if isL (tx p) = true then 1 else if isD (tx p) = true then 2 else 3
def edT (tx : Nat → Nat) (L p : Nat) : Nat := if L ≤ p then p else if isL (tx p) = true then scn (fun k => isL (tx k)) L p else if isD (tx p) = true then scn (fun k => isD (tx k)) L p else p + 1
theorem nxt_b {tx : Nat → Nat} {L s : Nat} (h : s ≤ L) : s ≤ nxt tx L s ∧ nxt tx L s ≤ L := scn_b h
theorem edT_b {tx : Nat → Nat} {L p : Nat} (h : p ≤ L) : p ≤ edT tx L p ∧ edT tx L p ≤ L ∧ (p < L → p < edT tx L p) := by
  unfold edT
  by_cases h1 : L ≤ p
  · rw [if_pos h1]; omega
  · rw [if_neg h1]
    by_cases h2 : isL (tx p) = true
    · rw [if_pos h2]
      have a := scn_b (q := fun k => isL (tx k)) h
      have b := scn_g (q := fun k => isL (tx k)) (show p < L by omega) h2
      exact ⟨a.1, a.2, fun _ => b⟩
    · rw [if_neg h2]
      by_cases h3 : isD (tx p) = true
      · rw [if_pos h3]
        have a := scn_b (q := fun k => isD (tx k)) h
        have b := scn_g (q := fun k => isD (tx k)) (show p < L by omega) h3
        exact ⟨a.1, a.2, fun _ => b⟩
      · rw [if_neg h3]; omega
theorem scn_all {q : Nat → Bool} {L : Nat} : ∀ n p, L - p ≤ n → p ≤ L → ∀ k, p ≤ k → k < scn q L p → q k = true := by
  intro n
  induction n with
  | zero => intro p h1 h2 k h3 h4; rw [scn_e (by omega)] at h4; omega
  | succ n ih =>
    intro p h1 h2 k h3 h4
    by_cases hp : p < L
    · by_cases hq : q p = true
      · rw [scn_y hp hq] at h4
        by_cases e : k = p
        · rw [e]; exact hq
        · exact ih (p + 1) (by omega) (by omega) k (by omega) h4
      · rw [scn_n hq] at h4; omega
    · rw [scn_e (by omega)] at h4; omega
/-- a number's value -/
def vl (tx : Nat → Nat) (p : Nat) : Nat → Nat := fl (fun j a => 10 * a + (tx (p + j) - 48)) 0
theorem vl_s (tx : Nat → Nat) (p j : Nat) : vl tx p (j + 1) = 10 * vl tx p j + (tx (p + j) - 48) := rfl
theorem vl_le {tx : Nat → Nat} {p j : Nat} (hd : ∀ i, i < j → isD (tx (p + i)) = true) : (j ≤ 4 → vl tx p j ≤ 9999) ∧ (j ≤ 3 → vl tx p j ≤ 999) ∧ (j ≤ 2 → vl tx p j ≤ 99) ∧ (j ≤ 1 → vl tx p j ≤ 9) ∧ (j ≤ 0 → vl tx p j ≤ 0) := by
  induction j with
  | zero => exact ⟨fun _ => Nat.zero_le _, fun _ => Nat.zero_le _, fun _ => Nat.zero_le _, fun _ => Nat.zero_le _, fun _ => Nat.le_refl _⟩
  | succ j ih =>
    obtain ⟨a, b, c, d, e⟩ := ih (fun i hi => hd i (by omega))
    have h9 := hd j (by omega)
    unfold isD at h9
    rw [decide_eq_true_eq] at h9
    rw [vl_s]
    refine ⟨fun h => ?_, fun h => ?_, fun h => ?_, fun h => ?_, fun h => by omega⟩
    · have := b (by omega); omega
    · have := c (by omega); omega
    · have := d (by omega); omega
    · have := e (by omega); omega
theorem isD_b {b : Nat} (h : isD b = true) : 48 ≤ b ∧ b ≤ 57 := by unfold isD at h; rw [decide_eq_true_eq] at h; exact h
theorem isL_b {b : Nat} (h : isL b = true) : 97 ≤ b ∧ b ≤ 122 := by unfold isL at h; rw [decide_eq_true_eq] at h; exact h
/-! the class's loops -/
theorem c_blank {w : Wld} {tx : Nat → Nat} {L p0 : Nat} (ht : CTx w tx L) (e3 : w 45 3 = jn p0) (h0 : p0 ≤ L) : Ret (loop (B_Tokens_step_45_8) w) (fun w' => Frm [] [(45, 3)] w w' ∧ w' 45 3 = jn (nxt tx L p0)) := by
  obtain ⟨t1, t2, t3⟩ := ht
  refine loop_ms (I := fun n s => ∃ p, n = L - p ∧ p ≤ L ∧ s 45 3 = jn p ∧ Frm [] [(45, 3)] w s ∧ nxt tx L p = nxt tx L p0) (n := L - p0) ⟨p0, rfl, h0, e3, frm_rf, rfl⟩ (fun n s hi => ?_)
  obtain ⟨p, i1, i2, i3, i4, i5⟩ := hi
  have e1 : s 45 1 = jn L := (i4 45 1 rfl).trans t1
  by_cases hp : p < L
  · obtain ⟨b1, b2⟩ := t3 p hp
    have e46 : s 46 p = sb (tx p) := (i4 46 p rfl).trans b2
    by_cases hk : isK (tx p) = true
    · have hn : nxt tx L (p + 1) = nxt tx L p0 := by rw [← i5]; exact (scn_y (q := fun k => isK (tx k)) hp hk).symm
      have fin : (fun x => LQ (fun s' => ∃ j, j < n ∧ ∃ p, j = L - p ∧ p ≤ L ∧ s' 45 3 = jn p ∧ Frm [] [(45, 3)] w s' ∧ nxt tx L p = nxt tx L p0) (fun w' => Frm [] [(45, 3)] w w' ∧ w' 45 3 = jn (nxt tx L p0)) x) (.inl (wup s 45 3 (jn (p + 1)))) := ⟨L - (p + 1), by omega, p + 1, rfl, by omega, wup_s1 _ _ _ _, frm_wup i4 _ _ _ rfl, hn⟩
      unfold isK at hk
      rw [decide_eq_true_eq] at hk
      rcases hk with hk | hk
      · have e46' : s 46 p = 32 := by rw [e46, hk]; decide
        simp (disch := omega) only [B_Tokens_step_45_8, K_Tokens_step_45_47, ↓bi_eq, ↓bw_eq, gd_pos, br_pos, br_neg, br_T, br_F, gd_T, bq_some, bd_some, bv_some, bl_some, bx_inl, bx_inr, bn_none, bn_some, bt_inl, bt_inr, not_true_eq_false, not_false_eq_true, eq_self, Bool.false_eq_true, if_true, if_false, jn_clamp, jn_lt, jn_le, jn_inj, jn_add, jn_sub, jn_mul, jn_vp, jn_0a, jn_1a, jn_1b, jn_1s, jn_1m, jn_neg0, jn_le0, jn_0le, jn_0lt, jn_1le, jn_le1, jn_lt1, jn_1lt, jn_e0, jn_e1, jn_em, ↓qB_f, ↓qT_f, cl_0, cl_1, vp_0, vp_1, e1, i3, e46', ret_some]
        exact fin
      · have e46' : s 46 p = 10 := by rw [e46, hk]; decide
        simp (disch := omega) only [B_Tokens_step_45_8, K_Tokens_step_45_47, ↓bi_eq, ↓bw_eq, gd_pos, br_pos, br_neg, br_T, br_F, gd_T, bq_some, bd_some, bv_some, bl_some, bx_inl, bx_inr, bn_none, bn_some, bt_inl, bt_inr, not_true_eq_false, not_false_eq_true, eq_self, Bool.false_eq_true, if_true, if_false, jn_clamp, jn_lt, jn_le, jn_inj, jn_add, jn_sub, jn_mul, jn_vp, jn_0a, jn_1a, jn_1b, jn_1s, jn_1m, jn_neg0, jn_le0, jn_0le, jn_0lt, jn_1le, jn_le1, jn_lt1, jn_1lt, jn_e0, jn_e1, jn_em, ↓qB_f, ↓qT_f, cl_0, cl_1, vp_0, vp_1, e1, i3, e46', (by decide : ((10 : Int32) = 32) = False), ret_some]
        exact fin
    · have hn : nxt tx L p = p := scn_n hk
      have h32 : ¬ sb (tx p) = 32 := by
        have : ∀ b, b < 256 → sb b = 32 → b = 32 := by decide +kernel
        intro z
        exact hk (by unfold isK; rw [decide_eq_true_eq]; exact Or.inl (this _ b1 z))
      have h10 : ¬ sb (tx p) = 10 := by
        have : ∀ b, b < 256 → sb b = 10 → b = 10 := by decide +kernel
        intro z
        exact hk (by unfold isK; rw [decide_eq_true_eq]; exact Or.inr (this _ b1 z))
      simp (disch := omega) only [B_Tokens_step_45_8, ↓bi_eq, ↓bw_eq, gd_pos, br_pos, br_neg, br_T, br_F, gd_T, bq_some, bd_some, bv_some, bl_some, bx_inl, bx_inr, bn_none, bn_some, bt_inl, bt_inr, not_true_eq_false, not_false_eq_true, eq_self, Bool.false_eq_true, if_true, if_false, jn_clamp, jn_lt, jn_le, jn_inj, jn_add, jn_sub, jn_mul, jn_vp, jn_0a, jn_1a, jn_1b, jn_1s, jn_1m, jn_neg0, jn_le0, jn_0le, jn_0lt, jn_1le, jn_le1, jn_lt1, jn_1lt, jn_e0, jn_e1, jn_em, ↓qB_f, ↓qT_f, cl_0, cl_1, vp_0, vp_1, e1, i3, e46, h32, h10, ret_some, LQ_inr]
      exact ⟨i4, by rw [← i5, hn]⟩
  · have hpe : p = L := by omega
    subst hpe
    simp (disch := omega) only [B_Tokens_step_45_8, ↓bi_eq, ↓bw_eq, gd_pos, br_pos, br_neg, br_T, br_F, gd_T, bq_some, bd_some, bv_some, bl_some, bx_inl, bx_inr, bn_none, bn_some, bt_inl, bt_inr, not_true_eq_false, not_false_eq_true, eq_self, Bool.false_eq_true, if_true, if_false, jn_clamp, jn_lt, jn_le, jn_inj, jn_add, jn_sub, jn_mul, jn_vp, jn_0a, jn_1a, jn_1b, jn_1s, jn_1m, jn_neg0, jn_le0, jn_0le, jn_0lt, jn_1le, jn_le1, jn_lt1, jn_1lt, jn_e0, jn_e1, jn_em, ↓qB_f, ↓qT_f, cl_0, cl_1, vp_0, vp_1, e1, i3, br_pos (Nat.le_refl p), ret_some, LQ_inr]
    refine ⟨i4, ?_⟩
    rw [← i5]; unfold nxt; rw [scn_e (Nat.le_refl _)]
theorem c_letters {w : Wld} {tx : Nat → Nat} {L p0 : Nat} (ht : CTx w tx L) (e2 : w 45 2 = jn p0) (h0 : p0 ≤ L) : Ret (loop (B_Tokens_readWord_45_5) w) (fun w' => Frm [] [(45, 2)] w w' ∧ w' 45 2 = jn (scn (fun k => isL (tx k)) L p0)) := by
  obtain ⟨t1, t2, t3⟩ := ht
  refine loop_ms (I := fun n s => ∃ p, n = L - p ∧ p ≤ L ∧ s 45 2 = jn p ∧ Frm [] [(45, 2)] w s ∧ scn (fun k => isL (tx k)) L p = scn (fun k => isL (tx k)) L p0) (n := L - p0) ⟨p0, rfl, h0, e2, frm_rf, rfl⟩ (fun n s hi => ?_)
  obtain ⟨p, i1, i2, i3, i4, i5⟩ := hi
  have e1 : s 45 1 = jn L := (i4 45 1 rfl).trans t1
  by_cases hp : p < L
  · obtain ⟨b1, b2⟩ := t3 p hp
    have e46 : s 46 p = sb (tx p) := (i4 46 p rfl).trans b2
    by_cases hk : isL (tx p) = true
    · simp (disch := omega) only [B_Tokens_readWord_45_5, ↓bi_eq, ↓bw_eq, gd_pos, br_pos, br_neg, br_T, br_F, gd_T, bq_some, bd_some, bv_some, bl_some, bx_inl, bx_inr, bn_none, bn_some, bt_inl, bt_inr, not_true_eq_false, not_false_eq_true, eq_self, Bool.false_eq_true, if_true, if_false, jn_clamp, jn_lt, jn_le, jn_inj, jn_add, jn_sub, jn_mul, jn_vp, jn_0a, jn_1a, jn_1b, jn_1s, jn_1m, jn_neg0, jn_le0, jn_0le, jn_0lt, jn_1le, jn_le1, jn_lt1, jn_1lt, jn_e0, jn_e1, jn_em, ↓qB_f, ↓qT_f, cl_0, cl_1, vp_0, vp_1, e1, i3, e46, c_isL, hk, (by decide : ((1 : Int32) = 0) = False), ret_some, LQ_inl]
      exact ⟨L - (p + 1), by omega, p + 1, rfl, by omega, wup_s1 _ _ _ _, frm_wup i4 _ _ _ rfl, by rw [← i5]; exact (scn_y (q := fun k => isL (tx k)) hp hk).symm⟩
    · simp (disch := omega) only [B_Tokens_readWord_45_5, ↓bi_eq, ↓bw_eq, gd_pos, br_pos, br_neg, br_T, br_F, gd_T, bq_some, bd_some, bv_some, bl_some, bx_inl, bx_inr, bn_none, bn_some, bt_inl, bt_inr, not_true_eq_false, not_false_eq_true, eq_self, Bool.false_eq_true, if_true, if_false, jn_clamp, jn_lt, jn_le, jn_inj, jn_add, jn_sub, jn_mul, jn_vp, jn_0a, jn_1a, jn_1b, jn_1s, jn_1m, jn_neg0, jn_le0, jn_0le, jn_0lt, jn_1le, jn_le1, jn_lt1, jn_1lt, jn_e0, jn_e1, jn_em, ↓qB_f, ↓qT_f, cl_0, cl_1, vp_0, vp_1, e1, i3, e46, c_isL, hk, ret_some, LQ_inr]
      exact ⟨i4, by rw [← i5, scn_n (q := fun k => isL (tx k)) hk]⟩
  · have hpe : p = L := by omega
    subst hpe
    simp (disch := omega) only [B_Tokens_readWord_45_5, ↓bi_eq, ↓bw_eq, gd_pos, br_pos, br_neg, br_T, br_F, gd_T, bq_some, bd_some, bv_some, bl_some, bx_inl, bx_inr, bn_none, bn_some, bt_inl, bt_inr, not_true_eq_false, not_false_eq_true, eq_self, Bool.false_eq_true, if_true, if_false, jn_clamp, jn_lt, jn_le, jn_inj, jn_add, jn_sub, jn_mul, jn_vp, jn_0a, jn_1a, jn_1b, jn_1s, jn_1m, jn_neg0, jn_le0, jn_0le, jn_0lt, jn_1le, jn_le1, jn_lt1, jn_1lt, jn_e0, jn_e1, jn_em, ↓qB_f, ↓qT_f, cl_0, cl_1, vp_0, vp_1, e1, i3, br_pos (Nat.le_refl p), ret_some, LQ_inr]
    exact ⟨i4, by rw [← i5, scn_e (Nat.le_refl _)]⟩
theorem c_digits {w : Wld} {tx : Nat → Nat} {L p0 : Nat} (ht : CTx w tx L) (e2 : w 45 2 = jn p0) (h0 : p0 ≤ L) : Ret (loop (B_Tokens_readNumber_45_7) (0, w)) (fun q => Frm [] [(45, 2)] w q.2 ∧ q.2 45 2 = jn (scn (fun k => isD (tx k)) L p0) ∧ (scn (fun k => isD (tx k)) L p0 - p0 ≤ 4 → q.1 = jn (vl tx p0 (scn (fun k => isD (tx k)) L p0 - p0)))) := by
  obtain ⟨t1, t2, t3⟩ := ht
  refine loop_ms (I := fun n s => ∃ p, n = L - p ∧ p0 ≤ p ∧ p ≤ L ∧ s.2 45 2 = jn p ∧ Frm [] [(45, 2)] w s.2 ∧ scn (fun k => isD (tx k)) L p = scn (fun k => isD (tx k)) L p0 ∧ (p - p0 ≤ 4 → s.1 = jn (vl tx p0 (p - p0))) ∧ ∀ i, i < p - p0 → isD (tx (p0 + i)) = true) (n := L - p0) ⟨p0, rfl, Nat.le_refl _, h0, e2, frm_rf, rfl, fun _ => by rw [Nat.sub_self]; rfl, fun i hi => by omega⟩ (fun n s hi => ?_)
  obtain ⟨v, w1⟩ := s
  obtain ⟨p, i1, i0, i2, i3, i4, i5, i6, i7⟩ := hi
  simp only at i3 i4 i6
  have e1 : w1 45 1 = jn L := (i4 45 1 rfl).trans t1
  by_cases hp : p < L
  · obtain ⟨b1, b2⟩ := t3 p hp
    have e46 : w1 46 p = sb (tx p) := (i4 46 p rfl).trans b2
    by_cases hk : isD (tx p) = true
    · have hb := isD_b hk
      have e46' : w1 46 p = jn (tx p) := by rw [e46, sb_lo _ (by omega)]
      have hci : F_Tokens_isDigit w1 (jn (tx p)) = some 1 := by rw [← sb_lo _ (by omega), c_isD w1 b1, if_pos hk]
      simp (disch := omega) only [B_Tokens_readNumber_45_7, ↓bi_eq, ↓bw_eq, gd_pos, br_pos, br_neg, br_T, br_F, gd_T, bq_some, bd_some, bv_some, bl_some, bx_inl, bx_inr, bn_none, bn_some, bt_inl, bt_inr, not_true_eq_false, not_false_eq_true, eq_self, Bool.false_eq_true, if_true, if_false, jn_clamp, jn_lt, jn_le, jn_inj, jn_add, jn_sub, jn_mul, jn_vp, jn_0a, jn_1a, jn_1b, jn_1s, jn_1m, jn_neg0, jn_le0, jn_0le, jn_0lt, jn_1le, jn_le1, jn_lt1, jn_1lt, jn_e0, jn_e1, jn_em, ↓qB_f, ↓qT_f, cl_0, cl_1, vp_0, vp_1, e1, i3, e46', hci, (by decide : ((1 : Int32) = 0) = False), ret_some, LQ_inl]
      refine ⟨L - (p + 1), by omega, p + 1, rfl, by omega, by omega, wup_s1 _ _ _ _, frm_wup i4 _ _ _ rfl, by rw [← i5]; exact (scn_y (q := fun k => isD (tx k)) hp hk).symm, fun h4 => ?_, fun i hi => ?_⟩
      · have hv := (vl_le (tx := tx) (p := p0) (j := p - p0) i7).1 (by omega)
        rw [i6 (by omega), show p + 1 - p0 = (p - p0) + 1 by omega, vl_s, show p0 + (p - p0) = p by omega, li_10, jn_mul, jn_add, li_48, jn_sub (by omega)]
        congr 1
        omega
      · by_cases e : i = p - p0
        · rw [e, show p0 + (p - p0) = p by omega]; exact hk
        · exact i7 i (by omega)
    · simp (disch := omega) only [B_Tokens_readNumber_45_7, ↓bi_eq, ↓bw_eq, gd_pos, br_pos, br_neg, br_T, br_F, gd_T, bq_some, bd_some, bv_some, bl_some, bx_inl, bx_inr, bn_none, bn_some, bt_inl, bt_inr, not_true_eq_false, not_false_eq_true, eq_self, Bool.false_eq_true, if_true, if_false, jn_clamp, jn_lt, jn_le, jn_inj, jn_add, jn_sub, jn_mul, jn_vp, jn_0a, jn_1a, jn_1b, jn_1s, jn_1m, jn_neg0, jn_le0, jn_0le, jn_0lt, jn_1le, jn_le1, jn_lt1, jn_1lt, jn_e0, jn_e1, jn_em, ↓qB_f, ↓qT_f, cl_0, cl_1, vp_0, vp_1, e1, i3, e46, c_isD, hk, ret_some, LQ_inr]
      rw [scn_n (q := fun k => isD (tx k)) hk] at i5
      rw [← i5]
      exact ⟨i4, rfl, i6⟩
  · have hpe : p = L := by omega
    subst hpe
    simp (disch := omega) only [B_Tokens_readNumber_45_7, ↓bi_eq, ↓bw_eq, gd_pos, br_pos, br_neg, br_T, br_F, gd_T, bq_some, bd_some, bv_some, bl_some, bx_inl, bx_inr, bn_none, bn_some, bt_inl, bt_inr, not_true_eq_false, not_false_eq_true, eq_self, Bool.false_eq_true, if_true, if_false, jn_clamp, jn_lt, jn_le, jn_inj, jn_add, jn_sub, jn_mul, jn_vp, jn_0a, jn_1a, jn_1b, jn_1s, jn_1m, jn_neg0, jn_le0, jn_0le, jn_0lt, jn_1le, jn_le1, jn_lt1, jn_1lt, jn_e0, jn_e1, jn_em, ↓qB_f, ↓qT_f, cl_0, cl_1, vp_0, vp_1, e1, i3, br_pos (Nat.le_refl p), ret_some, LQ_inr]
    rw [scn_e (Nat.le_refl _)] at i5
    rw [← i5]
    exact ⟨i4, rfl, i6⟩
theorem c_same {w : Wld} {tx : Nat → Nat} {L p e k : Nat} (ht : CTx w tx L) (hk : k < 19) (e3 : w 45 3 = jn p) (e2 : w 45 2 = jn e) (hpe : p ≤ e) (heL : e ≤ L) (hl : ∀ j, p ≤ j → j < e → isL (tx j) = true) (a1 : Int32) : Ret (loop (B_Tokens_readWord_45_65 a1 k w) 0) (fun r => ∃ m, m ≤ lnS k ∧ r = jn m ∧ ((m = lnS k ∧ p + m = e) ↔ eqS tx k p e = true)) := by
  obtain ⟨t1, t2, t3⟩ := ht
  have hs := (str_facts k hk).1
  refine loop_inv (I := fun j s => s = jn j ∧ j ≤ lnS k ∧ p + j ≤ e ∧ ∀ i, i < j → tx (p + i) = ltr k i) (lnS k) ⟨rfl, Nat.zero_le _, by omega, fun i hi => absurd hi (Nat.not_lt_zero i)⟩ (fun j s hj hi => ?_) (fun s hi => ?_)
  · obtain ⟨rfl, i1, i2, i3⟩ := hi
    by_cases he : p + j < e
    · obtain ⟨b1, b2⟩ := t3 (p + j) (by omega)
      have hb := isL_b (hl (p + j) (by omega) he)
      have e46 : w 46 (p + j) = jn (tx (p + j)) := by rw [b2, sb_lo _ (by omega)]
      obtain ⟨s4, s5⟩ := (str_facts k hk).2.2 j (by omega) hj
      by_cases hc : ltr k j = tx (p + j)
      · simp (disch := omega) only [B_Tokens_readWord_45_65, ↓bi_eq, ↓bw_eq, gd_pos, br_pos, br_neg, br_T, br_F, gd_T, bq_some, bd_some, bv_some, bl_some, bx_inl, bx_inr, bn_none, bn_some, bt_inl, bt_inr, not_true_eq_false, not_false_eq_true, eq_self, Bool.false_eq_true, if_true, if_false, jn_clamp, jn_lt, jn_le, jn_inj, jn_add, jn_sub, jn_mul, jn_vp, jn_0a, jn_1a, jn_1b, jn_1s, jn_1m, jn_neg0, jn_le0, jn_0le, jn_0lt, jn_1le, jn_le1, jn_lt1, jn_1lt, jn_e0, jn_e1, jn_em, ↓qB_f, ↓qT_f, cl_0, cl_1, vp_0, vp_1, gd_pos hk, t_slen w hk, t_schar w hk hj, e2, e3, e46, hc, ret_some, LQ_inl]
        refine ⟨trivial, by omega, by omega, fun i hi => ?_⟩
        by_cases e9 : i = j
        · rw [e9]; exact hc.symm
        · exact i3 i (by omega)
      · simp (disch := omega) only [B_Tokens_readWord_45_65, ↓bi_eq, ↓bw_eq, gd_pos, br_pos, br_neg, br_T, br_F, gd_T, bq_some, bd_some, bv_some, bl_some, bx_inl, bx_inr, bn_none, bn_some, bt_inl, bt_inr, not_true_eq_false, not_false_eq_true, eq_self, Bool.false_eq_true, if_true, if_false, jn_clamp, jn_lt, jn_le, jn_inj, jn_add, jn_sub, jn_mul, jn_vp, jn_0a, jn_1a, jn_1b, jn_1s, jn_1m, jn_neg0, jn_le0, jn_0le, jn_0lt, jn_1le, jn_le1, jn_lt1, jn_1lt, jn_e0, jn_e1, jn_em, ↓qB_f, ↓qT_f, cl_0, cl_1, vp_0, vp_1, gd_pos hk, t_slen w hk, t_schar w hk hj, e2, e3, e46, hc, ret_some, LQ_inr]
        refine ⟨j, i1, rfl, ⟨fun z => by omega, fun z => ?_⟩⟩
        rw [eqS_iff] at z
        exact absurd (z.2 j hj).symm hc
    · simp (disch := omega) only [B_Tokens_readWord_45_65, ↓bi_eq, ↓bw_eq, gd_pos, br_pos, br_neg, br_T, br_F, gd_T, bq_some, bd_some, bv_some, bl_some, bx_inl, bx_inr, bn_none, bn_some, bt_inl, bt_inr, not_true_eq_false, not_false_eq_true, eq_self, Bool.false_eq_true, if_true, if_false, jn_clamp, jn_lt, jn_le, jn_inj, jn_add, jn_sub, jn_mul, jn_vp, jn_0a, jn_1a, jn_1b, jn_1s, jn_1m, jn_neg0, jn_le0, jn_0le, jn_0lt, jn_1le, jn_le1, jn_lt1, jn_1lt, jn_e0, jn_e1, jn_em, ↓qB_f, ↓qT_f, cl_0, cl_1, vp_0, vp_1, gd_pos hk, t_slen w hk, e2, e3, ret_some, LQ_inr]
      refine ⟨j, i1, rfl, ⟨fun z => by omega, fun z => ?_⟩⟩
      rw [eqS_iff] at z
      omega
  · obtain ⟨rfl, i1, i2, i3⟩ := hi
    simp (disch := omega) only [B_Tokens_readWord_45_65, ↓bi_eq, ↓bw_eq, gd_pos, br_pos, br_neg, br_T, br_F, gd_T, bq_some, bd_some, bv_some, bl_some, bx_inl, bx_inr, bn_none, bn_some, bt_inl, bt_inr, not_true_eq_false, not_false_eq_true, eq_self, Bool.false_eq_true, if_true, if_false, jn_clamp, jn_lt, jn_le, jn_inj, jn_add, jn_sub, jn_mul, jn_vp, jn_0a, jn_1a, jn_1b, jn_1s, jn_1m, jn_neg0, jn_le0, jn_0le, jn_0lt, jn_1le, jn_le1, jn_lt1, jn_1lt, jn_e0, jn_e1, jn_em, ↓qB_f, ↓qT_f, cl_0, cl_1, vp_0, vp_1, gd_pos hk, t_slen w hk, br_pos (Nat.le_refl (lnS k)), ret_some, LQ_inr]
    refine ⟨lnS k, Nat.le_refl _, rfl, ⟨fun z => ?_, fun z => ?_⟩⟩
    · rw [eqS_iff]; exact ⟨by omega, i3⟩
    · rw [eqS_iff] at z; omega
theorem c_words {w : Wld} {tx : Nat → Nat} {L p e : Nat} (ht : CTx w tx L) (e3 : w 45 3 = jn p) (e2 : w 45 2 = jn e) (e5 : w 45 5 = 0) (hpe : p ≤ e) (heL : e ≤ L) (hl : ∀ j, p ≤ j → j < e → isL (tx j) = true) : Ret (loop (B_Tokens_readWord_45_46) (0, w)) (fun w' => Frm [] [(45, 5)] w w' ∧ w' 45 5 = jn (wdI tx p e)) := by
  have hL := ht.2.1
  refine loop_inv (I := fun i s => s.1 = jn i ∧ Frm [] [(45, 5)] w s.2 ∧ s.2 45 5 = jn (wdJ tx p e i)) 19 ⟨rfl, frm_rf, e5⟩ (fun i s hi9 hi => ?_) (fun s hi => ?_)
  · obtain ⟨v, w1⟩ := s
    obtain ⟨i1, i2, i3⟩ := hi
    simp only at i1 i2 i3
    subst i1
    have hk := ltrs_lt i hi9
    have hs := (str_facts _ hk).1
    have f3 : w1 45 3 = jn p := (i2 45 3 rfl).trans e3
    have f2 : w1 45 2 = jn e := (i2 45 2 rfl).trans e2
    obtain ⟨r, er, m, hm, rfl, hiff⟩ := c_same (CTx_fr ht i2 ⟨rfl, fun _ => rfl⟩) hk f3 f2 hpe heL hl (jn i)
    rw [wdJ_s]
    by_cases hz : eqS tx (ltrs.getD i 0) p e = true
    · obtain ⟨z1, z2⟩ := hiff.mpr hz
      simp (disch := omega) only [B_Tokens_readWord_45_46, K_Tokens_readWord_45_141, ↓bi_eq, ↓bw_eq, gd_pos, br_pos, br_neg, br_T, br_F, gd_T, bq_some, bd_some, bv_some, bl_some, bx_inl, bx_inr, bn_none, bn_some, bt_inl, bt_inr, not_true_eq_false, not_false_eq_true, eq_self, Bool.false_eq_true, if_true, if_false, jn_clamp, jn_lt, jn_le, jn_inj, jn_add, jn_sub, jn_mul, jn_vp, jn_0a, jn_1a, jn_1b, jn_1s, jn_1m, jn_neg0, jn_le0, jn_0le, jn_0lt, jn_1le, jn_le1, jn_lt1, jn_1lt, jn_e0, jn_e1, jn_em, ↓qB_f, ↓qT_f, cl_0, cl_1, vp_0, vp_1, li_19, er, gd_pos hk, gd_pos hi9, t_slen w1 hk, f3, f2, z1, hz, ret_some, LQ_inl]
      exact ⟨trivial, frm_wup i2 _ _ _ rfl, wup_s1 _ _ _ _⟩
    · rw [if_neg hz]
      by_cases z1 : m = lnS (ltrs.getD i 0)
      · have z2 : ¬ p + m = e := fun z => hz (hiff.mp ⟨z1, z⟩)
        have z2' : ¬ p + lnS (ltrs.getD i 0) = e := by rw [← z1]; exact z2
        simp (disch := omega) only [B_Tokens_readWord_45_46, K_Tokens_readWord_45_141, ↓bi_eq, ↓bw_eq, gd_pos, br_pos, br_neg, br_T, br_F, gd_T, bq_some, bd_some, bv_some, bl_some, bx_inl, bx_inr, bn_none, bn_some, bt_inl, bt_inr, not_true_eq_false, not_false_eq_true, eq_self, Bool.false_eq_true, if_true, if_false, jn_clamp, jn_lt, jn_le, jn_inj, jn_add, jn_sub, jn_mul, jn_vp, jn_0a, jn_1a, jn_1b, jn_1s, jn_1m, jn_neg0, jn_le0, jn_0le, jn_0lt, jn_1le, jn_le1, jn_lt1, jn_1lt, jn_e0, jn_e1, jn_em, ↓qB_f, ↓qT_f, cl_0, cl_1, vp_0, vp_1, li_19, er, gd_pos hk, gd_pos hi9, t_slen w1 hk, f3, f2, z1, z2', ret_some, LQ_inl]
        exact ⟨trivial, i2, i3⟩
      · simp (disch := omega) only [B_Tokens_readWord_45_46, K_Tokens_readWord_45_141, ↓bi_eq, ↓bw_eq, gd_pos, br_pos, br_neg, br_T, br_F, gd_T, bq_some, bd_some, bv_some, bl_some, bx_inl, bx_inr, bn_none, bn_some, bt_inl, bt_inr, not_true_eq_false, not_false_eq_true, eq_self, Bool.false_eq_true, if_true, if_false, jn_clamp, jn_lt, jn_le, jn_inj, jn_add, jn_sub, jn_mul, jn_vp, jn_0a, jn_1a, jn_1b, jn_1s, jn_1m, jn_neg0, jn_le0, jn_0le, jn_0lt, jn_1le, jn_le1, jn_lt1, jn_1lt, jn_e0, jn_e1, jn_em, ↓qB_f, ↓qT_f, cl_0, cl_1, vp_0, vp_1, li_19, er, gd_pos hk, gd_pos hi9, t_slen w1 hk, z1, ret_some, LQ_inl]
        exact ⟨trivial, i2, i3⟩
  · obtain ⟨v, w1⟩ := s
    obtain ⟨i1, i2, i3⟩ := hi
    simp only at i1 i2 i3
    subst i1
    simp (disch := omega) only [B_Tokens_readWord_45_46, ↓bi_eq, ↓bw_eq, gd_pos, br_pos, br_neg, br_T, br_F, gd_T, bq_some, bd_some, bv_some, bl_some, bx_inl, bx_inr, bn_none, bn_some, bt_inl, bt_inr, not_true_eq_false, not_false_eq_true, eq_self, Bool.false_eq_true, if_true, if_false, jn_clamp, jn_lt, jn_le, jn_inj, jn_add, jn_sub, jn_mul, jn_vp, jn_0a, jn_1a, jn_1b, jn_1s, jn_1m, jn_neg0, jn_le0, jn_0le, jn_0lt, jn_1le, jn_le1, jn_lt1, jn_1lt, jn_e0, jn_e1, jn_em, ↓qB_f, ↓qT_f, cl_0, cl_1, vp_0, vp_1, li_19, br_pos (Nat.le_refl 19), ret_some, LQ_inr]
    exact ⟨i2, i3⟩
