/-! ===== the rule's steps ===== -/
def dAf (s : Int32) (D : Nat) : Nat := if s ≤ -11 then D - 1 else if s = -10 then D else D + 1
theorem dep_c {c d : Nat → Int32} {n : Nat} (e : ∀ k, k < n → c k = d k) : ∀ k, k ≤ n → dep c k = dep d k := by
  intro k
  induction k with
  | zero => intro _; rfl
  | succ k ih =>
    intro hk
    rw [dep, dep, ih (by omega), e k (by omega)]
theorem okR_c {c d : Nat → Int32} {n : Nat} (e : ∀ k, k < n → c k = d k) (h : okR c n) : okR d n := by
  intro k hk
  rw [← e k hk, ← dep_c e k (by omega)]
  exact h k hk
theorem both_put0 {wR : Wld} {tx : Nat → Nat} {L : Nat} {wC wM : Wld} {p n D : Nat} (r : PR0 wR tx L wC wM p n D) (hn : n < 700) {s : Int32} (ok : okS s D) : Ret2 (F_Rule_put_50 wC s) (F_M_lay wM (trc s)) (fun wC' wM' => Frm [51] KCe wC wC' ∧ Frm [11] KMe wM wM' ∧ PR0 wR tx L wC' wM' p (n + 1) (dAf s D)) := by
  obtain ⟨r1, r2, r3, r4, r5, r6, r7⟩ := r
  obtain ⟨d1, d2, d3, d4, d5, d6⟩ := r7
  have hL := r1.2.1
  have fC : Frm [51] [(50, 2)] wC (wup (wup wC 51 n s) 50 2 (jn (n + 1))) := frm_wup (frm_wup frm_rf _ _ _ rfl) _ _ _ rfl
  have fM : Frm [11] [(3, 9)] wM (wup (wup wM 11 (700 + n) (trc s)) 3 9 (jn (n + 1))) := frm_wup (frm_wup frm_rf _ _ _ rfl) _ _ _ rfl
  have eC : F_Rule_put_50 wC s = some (wup (wup wC 51 n s) 50 2 (jn (n + 1))) := by
    simp (disch := omega) only [F_Rule_put_50, K_Rule_put_50_30, ↓bi_eq, ↓bw_eq, gd_pos, br_pos, br_neg, br_T, br_F, gd_T, bq_some, bd_some, bv_some, bl_some, bx_inl, bx_inr, bn_none, bn_some, bt_inl, bt_inr, not_true_eq_false, not_false_eq_true, eq_self, Bool.false_eq_true, if_true, if_false, jn_clamp, jn_lt, jn_le, jn_inj, jn_add, jn_sub, jn_mul, jn_vp, jn_0a, jn_1a, jn_1b, jn_1s, jn_1m, jn_neg0, jn_le0, jn_0le, jn_0lt, jn_1le, jn_le1, jn_lt1, jn_1lt, jn_e0, jn_e1, jn_em, ↓qB_f, ↓qT_f, cl_0, cl_1, vp_0, vp_1, li_700, d1, wup_o]
  have eM : F_M_lay wM (trc s) = some (wup (wup wM 11 (700 + n) (trc s)) 3 9 (jn (n + 1))) := by
    simp (disch := omega) only [F_M_lay, ↓bi_eq, ↓bw_eq, gd_pos, br_pos, br_neg, br_T, br_F, gd_T, bq_some, bd_some, bv_some, bl_some, bx_inl, bx_inr, bn_none, bn_some, bt_inl, bt_inr, not_true_eq_false, not_false_eq_true, eq_self, Bool.false_eq_true, if_true, if_false, jn_clamp, jn_lt, jn_le, jn_inj, jn_add, jn_sub, jn_mul, jn_vp, jn_0a, jn_1a, jn_1b, jn_1s, jn_1m, jn_neg0, jn_le0, jn_0le, jn_0lt, jn_1le, jn_le1, jn_lt1, jn_1lt, jn_e0, jn_e1, jn_em, ↓qB_f, ↓qT_f, cl_0, cl_1, vp_0, vp_1, r6, li_9, li_700, d2, wup_o]
  refine ⟨_, _, eC, eM, frm_up fC rfl, frm_up fM rfl, CTx_fr r1 fC ⟨rfl, fun _ => rfl⟩, MTx_fr r2 fM ⟨rfl, fun _ => rfl⟩, r3, CTk_fr r4 fC ⟨rfl, rfl, rfl, rfl, rfl, rfl⟩, MTk_fr r5 fM ⟨rfl, rfl, rfl, rfl, rfl⟩, (fM 0 21 rfl).trans r6, ?_⟩
  have e51 : (wup (wup wC 51 n s) 50 2 (jn (n + 1))) 51 = upd (wC 51) n s := by rw [wup_o _ _ _ (by decide), wup_same]
  have eag : ∀ k, k < n → wC 51 k = upd (wC 51) n s k := fun k hk => (upd_2 _ _ (by omega)).symm
  have hdn : dep (upd (wC 51) n s) n = D := by rw [← dep_c eag n (Nat.le_refl _)]; exact d5
  refine ⟨wup_s1 _ _ _ _, wup_s1 _ _ _ _, fun k hk => ?_, ?_, ?_, LoK_wup (LoK_wup d6 (noLo (by omega))) (noLo (by omega))⟩
  · rw [e51, wup_o _ _ _ (by decide), wup_s]
    by_cases e : k = n
    · rw [if_pos (by omega), e, upd_1]
    · rw [if_neg (by omega), upd_2 _ _ e]; exact d3 k (by omega)
  · rw [e51]
    intro k hk
    by_cases e : k = n
    · rw [e, upd_1, hdn]; exact ok
    · exact okR_c eag d4 k (by omega)
  · rw [e51, dep, hdn, upd_1]; rfl
theorem both_put {wR : Wld} {tx : Nat → Nat} {L : Nat} {wC wM : Wld} {p n D : Nat} (r : PR wR tx L wC wM p n D) (hn : n < p) {s : Int32} (ok : okS s D) : Ret2 (F_Rule_put_50 wC s) (F_M_lay wM (trc s)) (fun wC' wM' => Frm [51] KCe wC wC' ∧ Frm [11] KMe wM wM' ∧ PR wR tx L wC' wM' p (n + 1) (dAf s D)) := by
  have h1 := r.1.2.1
  have h2 := r.2.2.1
  obtain ⟨a, b, ha, hb, a1, b1, h3⟩ := both_put0 (PR_0 r) (by omega) ok
  exact ⟨a, b, ha, hb, a1, b1, PR_of h3 (by omega)⟩
theorem pf_put {wR : Wld} {wC wM : Wld} (r : PF wR wC wM) (s : Int32) : ∃ wC', F_Rule_put_50 wC s = some wC' ∧ Frm [51] [(50, 2)] wC wC' ∧ PF wR wC' wM := by
  obtain ⟨r1, r2, r3, m, r4, r5, r6⟩ := r
  by_cases hm : m = 700
  · refine ⟨wC, ?_, frm_rf, r1, r2, r3, m, r4, r5, r6⟩
    rw [F_Rule_put_50, r5, hm, br_pos (by decide), K_Rule_put_50_30]
  · have fC : Frm [51] [(50, 2)] wC (wup (wup wC 51 m s) 50 2 (jn (m + 1))) := frm_wup (frm_wup frm_rf _ _ _ rfl) _ _ _ rfl
    refine ⟨wup (wup wC 51 m s) 50 2 (jn (m + 1)), ?_, fC, ?_, ?_, ?_, m + 1, by omega, wup_s1 _ _ _ _, r6⟩
    · simp (disch := omega) only [F_Rule_put_50, K_Rule_put_50_30, ↓bi_eq, ↓bw_eq, gd_pos, br_pos, br_neg, br_T, br_F, gd_T, bq_some, bd_some, bv_some, bl_some, bx_inl, bx_inr, bn_none, bn_some, bt_inl, bt_inr, not_true_eq_false, not_false_eq_true, eq_self, Bool.false_eq_true, if_true, if_false, jn_clamp, jn_lt, jn_le, jn_inj, jn_add, jn_sub, jn_mul, jn_vp, jn_0a, jn_1a, jn_1b, jn_1s, jn_1m, jn_neg0, jn_le0, jn_0le, jn_0lt, jn_1le, jn_le1, jn_lt1, jn_1lt, jn_e0, jn_e1, jn_em, ↓qB_f, ↓qT_f, cl_0, cl_1, vp_0, vp_1, li_700, r5, wup_o]
    · rw [fC 44 5 rfl]; exact r1
    · rw [fC 44 5 rfl]; exact r2
    · rw [fC 44 6 rfl]; exact r3
theorem m_layB {wM : Wld} (h : ¬ wM 0 21 = 0) (s : Int32) : F_M_lay wM s = some wM := by rw [F_M_lay, br_neg h]
theorem PF_b {wR : Wld} {wC wM : Wld} (r : PF wR wC wM) : ¬ wM 0 21 = 0 := by rw [r.1]; exact r.2.1
/-! numbers -/
def numOK (tx : Nat → Nat) (L p lo hi : Nat) : Prop := kd tx L p = 2 ∧ edT tx L p - p ≤ 4 ∧ lo ≤ vl tx p (edT tx L p - p) ∧ vl tx p (edT tx L p - p) ≤ hi
theorem vl_9 {tx : Nat → Nat} {L p : Nat} (hp : p ≤ L) (hk : kd tx L p = 2) (h4 : edT tx L p - p ≤ 4) : vl tx p (edT tx L p - p) ≤ 9999 := by
  refine (vl_le (fun i hi => ?_)).1 h4
  rcases kd_cases tx L p hp with ⟨_, z, _⟩ | ⟨_, _, z, _⟩ | ⟨_, _, _, z, z2⟩ | ⟨_, _, _, z, _⟩
  · omega
  · omega
  · rw [z2] at hi; exact scn_all (q := fun k => isD (tx k)) (L - p) p (Nat.le_refl _) hp (p + i) (by omega) (by omega)
  · omega
theorem m_numNow {wR : Wld} {tx : Nat → Nat} {L : Nat} {wC wM : Wld} {p n D : Nat} (r : PR wR tx L wC wM p n D) {lo hi : Nat} (hh : hi ≤ 9999) (hlo : lo ≤ hi) : (numOK tx L p lo hi → F_M_numberNow wM (jn lo) (jn hi) = some (jn (vl tx p (edT tx L p - p)), wM)) ∧ (¬ numOK tx L p lo hi → F_M_numberNow wM (jn lo) (jn hi) = some (0, wup (wup wM 0 21 (if kd tx L p = 2 then 2 else 1)) 0 22 (wM 0 19))) := by
  obtain ⟨r1, r2, r3, r4, r5, r6, r7, r8⟩ := r
  have hL := r1.2.1
  obtain ⟨e1, e2, e3⟩ := edT_b (tx := tx) r3
  have hk2 : (wM 0 17 = 2) = (kd tx L p = 2) := m_kind r5 (k := 2) (by omega)
  have h54 : K_M_numberNow_54 wM = some (0, wup (wup wM 0 21 2) 0 22 (wM 0 19)) := by
    have hb : ¬ (wup (wup wM 0 21 2) 0 22 (wM 0 19)) 0 21 = 0 := by rw [wup_s2 _ _ _ (by decide), wup_s1]; decide
    rw [K_M_numberNow_54, m_wrong0 r6, bv_some, K_M_numberNow_59, br_pos hb, K_M_numberNow_74]
  by_cases h2 : kd tx L p = 2
  · have hd : wM 0 20 - wM 0 19 = jn (edT tx L p - p) := by rw [r5.2.2.1, r5.1, jn_sub e1]
    rw [F_M_numberNow, br_pos r6, br_pos (by rw [hk2]; exact h2), hd, if_pos h2]
    by_cases h4 : edT tx L p - p ≤ 4
    · have hv := vl_9 r3 h2 h4
      have e18 := r5.2.2.2.2 h2 h4
      rw [br_neg (by rw [li_4, jn_lt (by omega) (by omega)]; omega), e18]
      refine ⟨fun z => ?_, fun z => ?_⟩
      · rw [br_neg (by rw [jn_lt (by omega) (by omega)]; have := z.2.2.1; omega), br_pos (by rw [jn_le (by omega) (by omega)]; exact z.2.2.2), K_M_numberNow_59, r6, br_neg (fun z => z rfl), e18, K_M_numberNow_74]
      · by_cases hlt : vl tx p (edT tx L p - p) < lo
        · rw [br_pos (by rw [jn_lt (by omega) (by omega)]; exact hlt), h54]
        · rw [br_neg (by rw [jn_lt (by omega) (by omega)]; exact hlt), br_neg (by rw [jn_le (by omega) (by omega)]; exact fun y => z ⟨h2, h4, by omega, y⟩), h54]
    · refine ⟨fun z => absurd z.2.1 h4, fun z => ?_⟩
      rw [br_pos (by rw [li_4, jn_lt (by omega) (by omega)]; omega), h54]
  · refine ⟨fun z => absurd z.1 h2, fun z => ?_⟩
    have hb : ¬ (wup (wup wM 0 21 1) 0 22 (wM 0 19)) 0 21 = 0 := by rw [wup_s2 _ _ _ (by decide), wup_s1]; decide
    rw [F_M_numberNow, br_pos r6, br_neg (by rw [hk2]; exact h2), m_wrong0 r6, bv_some, K_M_numberNow_59, br_pos hb, K_M_numberNow_74, if_neg h2]
theorem c_num {wR : Wld} {tx : Nat → Nat} {L : Nat} {wC wM : Wld} {p n D : Nat} (r : PR wR tx L wC wM p n D) {lo hi : Nat} (hh : hi ≤ 9999) (hlo : lo ≤ hi) : (numOK tx L p lo hi → F_Reader_readNumber_44 wC (jn lo) (jn hi) = bv (F_Tokens_step_45 (wup wC 44 4 (jn (vl tx p (edT tx L p - p))))) (fun w4 => some (1, w4))) ∧ (¬ numOK tx L p lo hi → F_Reader_readNumber_44 wC (jn lo) (jn hi) = some (0, wup (wup wC 44 5 (if kd tx L p = 2 then 2 else 1)) 44 6 (wC 45 3))) := by
  obtain ⟨r1, r2, r3, r4, r5, r6, r7, r8⟩ := r
  have hL := r1.2.1
  have hk2 : (wC 45 4 = 2) = (kd tx L p = 2) := c_kind r4 (k := 2) (by omega)
  have h39 : K_Reader_readNumber_44_39 wC = some (0, wup (wup wC 44 5 2) 44 6 (wC 45 3)) := by
    rw [K_Reader_readNumber_44_39, c_failed, bd_some, gd_pos (Or.inl rfl)]
  by_cases h2 : kd tx L p = 2
  · rw [F_Reader_readNumber_44, br_pos (by rw [hk2]; exact h2), r4.2.2.2.2.1, if_pos h2]
    by_cases h4 : edT tx L p - p ≤ 4
    · have hv := vl_9 r3 h2 h4
      rw [if_pos ⟨h2, h4⟩]
      refine ⟨fun z => ?_, fun z => ?_⟩
      · rw [br_neg (by rw [jn_lt (by omega) (by omega)]; have := z.2.2.1; omega), br_pos (by rw [jn_le (by omega) (by omega)]; exact z.2.2.2), bw_eq]
      · by_cases hlt : vl tx p (edT tx L p - p) < lo
        · rw [br_pos (by rw [jn_lt (by omega) (by omega)]; exact hlt), h39]
        · rw [br_neg (by rw [jn_lt (by omega) (by omega)]; exact hlt), br_neg (by rw [jn_le (by omega) (by omega)]; exact fun y => z ⟨h2, h4, by omega, y⟩), h39]
    · refine ⟨fun z => absurd z.2.1 h4, fun z => ?_⟩
      have hneg : (-1 : Int32) < jn lo := Int32.lt_of_lt_of_le (by decide : (-1 : Int32) < 0) (by rw [jn_0le (by omega)]; trivial)
      rw [if_neg (fun z => h4 z.2), br_pos hneg, h39]
  · refine ⟨fun z => absurd z.1 h2, fun z => ?_⟩
    rw [F_Reader_readNumber_44, br_neg (by rw [hk2]; exact h2), c_failed, bd_some, gd_pos (Or.inl rfl), if_neg h2]
/-- a number on both sides -/
def NOut (wR : Wld) (tx : Nat → Nat) (L : Nat) (wC wM : Wld) (p n D lo hi : Nat) (q : Int32 × Wld) (q' : Int32 × Wld) : Prop := Frm [] KCe wC q.2 ∧ Frm [] KMe wM q'.2 ∧ ((q.1 = 1 ∧ ∃ v p', lo ≤ v ∧ v ≤ hi ∧ q.2 44 4 = jn v ∧ q'.1 = jn v ∧ p < p' ∧ PR wR tx L q.2 q'.2 p' n D) ∨ (q.1 = 0 ∧ q'.1 = 0 ∧ PF wR q.2 q'.2))
theorem PR_taken {wR : Wld} {tx : Nat → Nat} {L : Nat} {wC wM : Wld} {p n D : Nat} (r : PR wR tx L wC wM p n D) (v : Int32) : PR wR tx L (wup wC 44 4 v) wM p n D := by
  obtain ⟨r1, r2, r3, r4, r5, r6, r7, r8⟩ := r
  have f : Frm [] [(44, 4)] wC (wup wC 44 4 v) := frm_wup frm_rf _ _ _ rfl
  refine ⟨CTx_fr r1 f ⟨rfl, fun _ => rfl⟩, r2, r3, CTk_fr r4 f ⟨rfl, rfl, rfl, rfl, rfl, rfl⟩, r5, r6, ?_, r8⟩
  obtain ⟨d1, d2, d3, d4, d5, d6⟩ := r7
  have e51 : (wup wC 44 4 v) 51 = wC 51 := wup_o _ _ _ (by decide)
  refine ⟨(f 50 2 rfl).trans d1, d2, ?_, ?_, ?_, d6⟩
  · rw [e51]; exact d3
  · rw [e51]; exact d4
  · rw [e51]; exact d5
theorem kd_lt {tx : Nat → Nat} {L p : Nat} (hp : p ≤ L) (h : kd tx L p ≠ 0) : p < L := by
  rcases kd_cases tx L p hp with ⟨_, z, _⟩ | ⟨z, _⟩ | ⟨z, _⟩ | ⟨z, _⟩
  · exact absurd z h
  · exact z
  · exact z
  · exact z
theorem kd_nz {tx : Nat → Nat} {L p : Nat} : (if kd tx L p = 2 then 2 else 1 : Int32) ≠ 0 := by split <;> decide
theorem both_num {wR : Wld} {tx : Nat → Nat} {L : Nat} {wC wM : Wld} {p n D : Nat} (r : PR wR tx L wC wM p n D) {lo hi : Nat} (hh : hi ≤ 9999) (hlo : lo ≤ hi) : Ret2 (F_Reader_readNumber_44 wC (jn lo) (jn hi)) (F_M_readNumber wM (jn lo) (jn hi)) (NOut wR tx L wC wM p n D lo hi) := by
  obtain ⟨m1, m2⟩ := m_numNow r hh hlo
  obtain ⟨c1, c2⟩ := c_num r hh hlo
  by_cases h : numOK tx L p lo hi
  · have hpL := kd_lt r.2.2.1 (by rw [h.1]; decide)
    obtain ⟨a, b, ea, eb, f1, f2, p', hp', r'⟩ := both_step (PR_taken r (jn (vl tx p (edT tx L p - p)))) hpL
    have r6 := r.2.2.2.2.2.1
    refine ⟨(1, a), (jn (vl tx p (edT tx L p - p)), b), ?_, ?_, ?_, frm_up f2 rfl, Or.inl ⟨rfl, vl tx p (edT tx L p - p), p', h.2.2.1, h.2.2.2, ?_, rfl, hp', r'⟩⟩
    · rw [c1 h, ea, bv_some]
    · rw [F_M_readNumber, m1 h, bd_some]
      simp only
      rw [r6, br_neg (fun z => z rfl), eb, bv_some, K_M_readNumber_18]
    · exact frm_tr (frm_wup frm_rf _ _ _ rfl) (frm_up f1 rfl)
    · show a 44 4 = _
      rw [f1 44 4 rfl]; exact wup_s1 _ _ _ _
  · have hb : ¬ (wup (wup wM 0 21 (if kd tx L p = 2 then 2 else 1)) 0 22 (wM 0 19)) 0 21 = 0 := by rw [wup_s2 _ _ _ (by decide), wup_s1]; exact kd_nz
    refine ⟨(0, wup (wup wC 44 5 (if kd tx L p = 2 then 2 else 1)) 44 6 (wC 45 3)), (0, wup (wup wM 0 21 (if kd tx L p = 2 then 2 else 1)) 0 22 (wM 0 19)), c2 h, ?_, frm_wup (frm_wup frm_rf _ _ _ rfl) _ _ _ rfl, frm_wup (frm_wup frm_rf _ _ _ rfl) _ _ _ rfl, Or.inr ⟨rfl, rfl, fail_PF r kd_nz⟩⟩
    rw [F_M_readNumber, m2 h, bd_some]
    simp only
    rw [br_pos hb, K_M_readNumber_18]
theorem m_numB {wM : Wld} (hb : ¬ wM 0 21 = 0) (lo hi : Int32) : F_M_readNumber wM lo hi = some (0, wM) := by
  rw [F_M_readNumber, F_M_numberNow, br_neg hb, bd_some]
  simp only
  rw [br_pos hb, K_M_readNumber_18]
