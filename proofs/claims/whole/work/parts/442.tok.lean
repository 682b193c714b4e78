/-! ===== a token on both sides ===== -/
def CTk (w : Wld) (tx : Nat → Nat) (L p : Nat) : Prop := w 45 3 = jn p ∧ w 45 2 = jn (edT tx L p) ∧ w 45 4 = jn (kd tx L p) ∧ w 45 5 = jn (if kd tx L p = 1 then wdI tx p (edT tx L p) else 0) ∧ w 45 6 = (if kd tx L p = 2 ∧ edT tx L p - p ≤ 4 then jn (vl tx p (edT tx L p - p)) else -1) ∧ w 45 7 = (if kd tx L p = 3 then sb (tx p) else 0)
def MTk (w : Wld) (tx : Nat → Nat) (L p : Nat) : Prop := w 0 19 = jn p ∧ w 0 15 = jn (edT tx L p) ∧ w 0 20 = jn (edT tx L p) ∧ w 0 17 = jn (if kd tx L p = 3 then (if isM (tx p) = true then 3 else 4) else kd tx L p) ∧ (kd tx L p = 2 → edT tx L p - p ≤ 4 → w 0 18 = jn (vl tx p (edT tx L p - p)))
theorem CTk_fr {L9 : List Nat} {K : List (Nat × Nat)} {w w' : Wld} {tx : Nat → Nat} {L p : Nat} (r : CTk w tx L p) (f : Frm L9 K w w') (b : frB L9 K 45 2 = false ∧ frB L9 K 45 3 = false ∧ frB L9 K 45 4 = false ∧ frB L9 K 45 5 = false ∧ frB L9 K 45 6 = false ∧ frB L9 K 45 7 = false) : CTk w' tx L p := by
  unfold CTk at r ⊢
  obtain ⟨b2, b3, b4, b5, b6, b7⟩ := b
  rw [f _ _ b2, f _ _ b3, f _ _ b4, f _ _ b5, f _ _ b6, f _ _ b7]
  exact r
theorem MTk_fr {L9 : List Nat} {K : List (Nat × Nat)} {w w' : Wld} {tx : Nat → Nat} {L p : Nat} (r : MTk w tx L p) (f : Frm L9 K w w') (b : frB L9 K 0 15 = false ∧ frB L9 K 0 17 = false ∧ frB L9 K 0 18 = false ∧ frB L9 K 0 19 = false ∧ frB L9 K 0 20 = false) : MTk w' tx L p := by
  unfold MTk at r ⊢
  obtain ⟨b2, b3, b4, b5, b6⟩ := b
  rw [f _ _ b2, f _ _ b3, f _ _ b4, f _ _ b5, f _ _ b6]
  exact r
theorem kd_cases (tx : Nat → Nat) (L p : Nat) (hp : p ≤ L) : (p = L ∧ kd tx L p = 0 ∧ edT tx L p = p) ∨ (p < L ∧ isL (tx p) = true ∧ kd tx L p = 1 ∧ edT tx L p = scn (fun k => isL (tx k)) L p) ∨ (p < L ∧ ¬ isL (tx p) = true ∧ isD (tx p) = true ∧ kd tx L p = 2 ∧ edT tx L p = scn (fun k => isD (tx k)) L p) ∨ (p < L ∧ ¬ isL (tx p) = true ∧ ¬ isD (tx p) = true ∧ kd tx L p = 3 ∧ edT tx L p = p + 1) := by
  unfold kd edT
  by_cases h1 : L ≤ p
  · rw [if_pos h1, if_pos h1]; exact Or.inl ⟨by omega, rfl, rfl⟩
  · rw [if_neg h1, if_neg h1]
    by_cases h2 : isL (tx p) = true
    · rw [if_pos h2, if_pos h2]; exact Or.inr (Or.inl ⟨by omega, h2, rfl, rfl⟩)
    · rw [if_neg h2, if_neg h2]
      by_cases h3 : isD (tx p) = true
      · rw [if_pos h3, if_pos h3]; exact Or.inr (Or.inr (Or.inl ⟨by omega, h2, h3, rfl, rfl⟩))
      · rw [if_neg h3, if_neg h3]; exact Or.inr (Or.inr (Or.inr ⟨by omega, h2, h3, rfl, rfl⟩))
def KTs : List (Nat × Nat) := [(45, 2), (45, 3), (45, 4), (45, 5), (45, 6), (45, 7)]
theorem c_tstep {w : Wld} {tx : Nat → Nat} {L e0 : Nat} (ht : CTx w tx L) (he : w 45 2 = jn e0) (hl : e0 ≤ L) : Ret (F_Tokens_step_45 w) (fun w' => Frm [] KTs w w' ∧ CTk w' tx L (nxt tx L e0)) := by
  have hL := ht.2.1
  have hb := nxt_b (tx := tx) hl
  have f1 : Frm [] KTs w (wup w 45 3 (jn e0)) := frm_wup frm_rf _ _ _ rfl
  rw [F_Tokens_step_45, he, bw_eq, ret_bl]
  refine ret_mono (c_blank (CTx_fr ht f1 ⟨rfl, fun _ => rfl⟩) (wup_s1 _ _ _ _) hl) (fun w2 hq => ?_)
  obtain ⟨q1, q2⟩ := hq
  have f2 : Frm [] KTs w w2 := frm_tr f1 (frm_up q1 rfl)
  generalize nxt tx L e0 = p at hb q2 ⊢
  have f6 : Frm [] KTs w (wup (wup (wup (wup w2 45 2 (jn p)) 45 5 0) 45 6 (-1)) 45 7 0) := frm_wup (frm_wup (frm_wup (frm_wup f2 _ _ _ rfl) _ _ _ rfl) _ _ _ rfl) _ _ _ rfl
  have g2 : (wup (wup (wup (wup w2 45 2 (jn p)) 45 5 0) 45 6 (-1)) 45 7 0) 45 2 = jn p := by rw [wup_s2 _ _ _ (by decide), wup_s2 _ _ _ (by decide), wup_s2 _ _ _ (by decide), wup_s1]
  have g3 : (wup (wup (wup (wup w2 45 2 (jn p)) 45 5 0) 45 6 (-1)) 45 7 0) 45 3 = jn p := by rw [wup_s2 _ _ _ (by decide), wup_s2 _ _ _ (by decide), wup_s2 _ _ _ (by decide), wup_s2 _ _ _ (by decide)]; exact q2
  have g5 : (wup (wup (wup (wup w2 45 2 (jn p)) 45 5 0) 45 6 (-1)) 45 7 0) 45 5 = 0 := by rw [wup_s2 _ _ _ (by decide), wup_s2 _ _ _ (by decide), wup_s1]
  have g6 : (wup (wup (wup (wup w2 45 2 (jn p)) 45 5 0) 45 6 (-1)) 45 7 0) 45 6 = -1 := by rw [wup_s2 _ _ _ (by decide), wup_s1]
  have g7 : (wup (wup (wup (wup w2 45 2 (jn p)) 45 5 0) 45 6 (-1)) 45 7 0) 45 7 = 0 := wup_s1 _ _ _ _
  rw [q2, bw_eq, bw_eq, bw_eq, bw_eq]
  generalize wup (wup (wup (wup w2 45 2 (jn p)) 45 5 0) 45 6 (-1)) 45 7 0 = w6 at f6 g2 g3 g5 g6 g7 ⊢
  have t6 : CTx w6 tx L := CTx_fr ht f6 ⟨rfl, fun _ => rfl⟩
  have e1 := t6.1
  rw [g3, e1]
  unfold CTk
  rcases kd_cases tx L p hb.2 with ⟨k1, k2, k3⟩ | ⟨k1, k2, k3, k4⟩ | ⟨k1, k2, k3, k4, k5⟩ | ⟨k1, k2, k3, k4, k5⟩
  · rw [br_neg (by rw [jn_lt (by omega) (by omega)]; omega), bw_eq, K_Tokens_step_45_176, ret_some, k2, k3]
    have f7 : Frm [] [(45, 4)] w6 (wup w6 45 4 0) := frm_wup frm_rf _ _ _ rfl
    refine ⟨frm_tr f6 (frm_up f7 rfl), (f7 45 3 rfl).trans g3, (f7 45 2 rfl).trans g2, wup_s1 _ _ _ _, ?_, ?_, ?_⟩
    · rw [f7 45 5 rfl, g5]; rfl
    · rw [f7 45 6 rfl, g6]; rfl
    · rw [f7 45 7 rfl, g7]; rfl
  · obtain ⟨b1, b2⟩ := t6.2.2 p k1
    rw [br_pos (by rw [jn_lt (by omega) (by omega)]; exact k1), gd_pos (vpK (by omega) (by omega)), jn_clamp (by omega), b2, c_isL w6 b1, if_pos k2, bp_some, br_neg (by decide), F_Tokens_readWord_45, bw_eq, k3, k4]
    have f7 : Frm [] [(45, 4)] w6 (wup w6 45 4 1) := frm_wup frm_rf _ _ _ rfl
    have g4 : (wup w6 45 4 1) 45 4 = 1 := wup_s1 _ _ _ _
    generalize wup w6 45 4 1 = w7 at f7 g4 ⊢
    rw [ret_bv, ret_bl]
    refine ret_mono (c_letters (CTx_fr t6 f7 ⟨rfl, fun _ => rfl⟩) ((f7 45 2 rfl).trans g2) (by omega)) (fun w8 hq => ?_)
    obtain ⟨r1, r2⟩ := hq
    have sb9 := scn_b (q := fun k => isL (tx k)) hb.2
    rw [ret_bl]
    refine ret_mono (c_words (w := w8) (tx := tx) (L := L) (p := p) (CTx_fr (CTx_fr t6 f7 ⟨rfl, fun _ => rfl⟩) r1 ⟨rfl, fun _ => rfl⟩) ((r1 45 3 rfl).trans ((f7 45 3 rfl).trans g3)) r2 ((r1 45 5 rfl).trans ((f7 45 5 rfl).trans g5)) sb9.1 sb9.2 (fun j h1 h2 => scn_all (q := fun k => isL (tx k)) (L - p) p (Nat.le_refl _) hb.2 j h1 h2)) (fun w9 hq => ?_)
    obtain ⟨s1, s2⟩ := hq
    rw [ret_some, K_Tokens_step_45_176, ret_some]
    refine ⟨frm_tr f6 (frm_tr (frm_up f7 rfl) (frm_tr (frm_up r1 rfl) (frm_up s1 rfl))), ?_, ?_, ?_, ?_, ?_, ?_⟩
    · rw [s1 45 3 rfl, r1 45 3 rfl, f7 45 3 rfl]; exact g3
    · rw [s1 45 2 rfl]; exact r2
    · rw [s1 45 4 rfl, r1 45 4 rfl]; exact g4
    · rw [s2, if_pos rfl]
    · rw [s1 45 6 rfl, r1 45 6 rfl, f7 45 6 rfl, g6, if_neg (by omega)]
    · rw [s1 45 7 rfl, r1 45 7 rfl, f7 45 7 rfl, g7, if_neg (by decide)]
  · obtain ⟨b1, b2⟩ := t6.2.2 p k1
    rw [br_pos (by rw [jn_lt (by omega) (by omega)]; exact k1), gd_pos (vpK (by omega) (by omega)), jn_clamp (by omega), b2, c_isL w6 b1, if_neg k2, bp_some, br_pos rfl, gd_pos (vpK (by omega) (by omega)), c_isD w6 b1, if_pos k3, bp_some, br_neg (by decide), F_Tokens_readNumber_45, bw_eq, k4, k5]
    have f7 : Frm [] [(45, 4)] w6 (wup w6 45 4 2) := frm_wup frm_rf _ _ _ rfl
    have g4 : (wup w6 45 4 2) 45 4 = 2 := wup_s1 _ _ _ _
    generalize wup w6 45 4 2 = w7 at f7 g4 ⊢
    rw [ret_bv, ret_bl]
    refine ret_mono (c_digits (CTx_fr t6 f7 ⟨rfl, fun _ => rfl⟩) ((f7 45 2 rfl).trans g2) (by omega)) (fun q hq => ?_)
    obtain ⟨v, w8⟩ := q
    obtain ⟨r1, r2, r3⟩ := hq
    simp only at r1 r2 r3 ⊢
    have sb9 := scn_b (q := fun k => isD (tx k)) hb.2
    have r33 : w8 45 3 = jn p := (r1 45 3 rfl).trans ((f7 45 3 rfl).trans g3)
    rw [r2, r33, jn_sub sb9.1]
    have fin : ∀ x : Int32, x = (if True ∧ scn (fun k => isD (tx k)) L p - p ≤ 4 then jn (vl tx p (scn (fun k => isD (tx k)) L p - p)) else -1) → Ret (K_Tokens_readNumber_45_83 x w8) (fun q => Ret (K_Tokens_step_45_176 q) fun w' => Frm [] KTs w w' ∧ w' 45 3 = jn p ∧ w' 45 2 = jn (scn (fun k => isD (tx k)) L p) ∧ w' 45 4 = jn 2 ∧ (w' 45 5 = jn (if 2 = 1 then wdI tx p (scn (fun k => isD (tx k)) L p) else 0)) ∧ (w' 45 6 = if True ∧ scn (fun k => isD (tx k)) L p - p ≤ 4 then jn (vl tx p (scn (fun k => isD (tx k)) L p - p)) else -1) ∧ w' 45 7 = if 2 = 3 then sb (tx p) else 0) := by
      intro x hx
      have s1 : Frm [] [(45, 6)] w8 (wup w8 45 6 x) := frm_wup frm_rf _ _ _ rfl
      rw [K_Tokens_readNumber_45_83, bw_eq, ret_some, K_Tokens_step_45_176, ret_some]
      refine ⟨frm_tr f6 (frm_tr (frm_up f7 rfl) (frm_tr (frm_up r1 rfl) (frm_up s1 rfl))), (s1 45 3 rfl).trans r33, (s1 45 2 rfl).trans r2, ?_, ?_, ?_, ?_⟩
      · rw [s1 45 4 rfl, r1 45 4 rfl]; exact g4
      · rw [s1 45 5 rfl, r1 45 5 rfl, f7 45 5 rfl, g5]; rfl
      · rw [wup_s1]; exact hx
      · rw [s1 45 7 rfl, r1 45 7 rfl, f7 45 7 rfl, g7]; rfl
    by_cases h4 : scn (fun k => isD (tx k)) L p - p ≤ 4
    · rw [br_pos (by rw [li_4, jn_le (by omega) (by omega)]; exact h4)]
      exact fin v (by rw [if_pos ⟨trivial, h4⟩]; exact r3 h4)
    · rw [br_neg (by rw [li_4, jn_le (by omega) (by omega)]; exact h4)]
      exact fin (-1) (by rw [if_neg (fun z => h4 z.2)])
  · obtain ⟨b1, b2⟩ := t6.2.2 p k1
    have f7 : Frm [] [(45, 4)] w6 (wup w6 45 4 3) := frm_wup frm_rf _ _ _ rfl
    have g4 : (wup w6 45 4 3) 45 4 = 3 := wup_s1 _ _ _ _
    rw [br_pos (by rw [jn_lt (by omega) (by omega)]; exact k1), gd_pos (vpK (by omega) (by omega)), jn_clamp (by omega), b2, c_isL w6 b1, if_neg k2, bp_some, br_pos rfl, gd_pos (vpK (by omega) (by omega)), c_isD w6 b1, if_neg k3, bp_some, br_pos rfl, bw_eq, k4, k5]
    generalize wup w6 45 4 3 = w7 at f7 g4 ⊢
    have h3 : w7 45 3 = jn p := (f7 45 3 rfl).trans g3
    have h46 : w7 46 p = sb (tx p) := (f7 46 p rfl).trans b2
    have h2 : (wup w7 45 7 (sb (tx p))) 45 2 = jn p := by rw [wup_s2 _ _ _ (by decide), f7 45 2 rfl]; exact g2
    rw [h3, gd_pos (vpK (by omega) (by omega)), jn_clamp (by omega), h46, bw_eq, h2, jn_1a, bw_eq, K_Tokens_step_45_176, ret_some]
    have f9 : Frm [] [(45, 2), (45, 7)] w7 (wup (wup w7 45 7 (sb (tx p))) 45 2 (jn (p + 1))) := frm_wup (frm_wup frm_rf _ _ _ rfl) _ _ _ rfl
    refine ⟨frm_tr f6 (frm_tr (frm_up f7 rfl) (frm_up f9 rfl)), (f9 45 3 rfl).trans h3, wup_s1 _ _ _ _, (f9 45 4 rfl).trans g4, ?_, ?_, ?_⟩
    · rw [f9 45 5 rfl, f7 45 5 rfl, g5]; rfl
    · rw [f9 45 6 rfl, f7 45 6 rfl, g6]; rfl
    · rw [wup_s2 _ _ _ (by decide), wup_s1, if_pos rfl]
/-! the model's loops -/
theorem m_byte {w : Wld} {tx : Nat → Nat} {L p : Nat} (ht : MTx w tx L) (hp : p < L) : F_M_byteAt w (jn p) = some (jn (tx p)) := by
  obtain ⟨t1, t2, t3⟩ := ht
  rw [F_M_byteAt, t1, br_neg (by rw [jn_le (by omega) (by omega)]; omega), gd_pos (vpK (by omega) (by omega)), jn_clamp (by omega), (t3 p hp).2]; rfl
theorem m_byteE {w : Wld} {tx : Nat → Nat} {L : Nat} (ht : MTx w tx L) : F_M_byteAt w (jn L) = some (-1) := by
  obtain ⟨t1, t2, t3⟩ := ht
  rw [F_M_byteAt, t1, br_pos (by rw [jn_le (by omega) (by omega)]; omega)]; rfl
theorem m_blank {w : Wld} {tx : Nat → Nat} {L p0 : Nat} (ht : MTx w tx L) (e : w 0 15 = jn p0) (h0 : p0 ≤ L) : Ret (loop (B_M_stepOn_0) w) (fun w' => Frm [] [(0, 15)] w w' ∧ w' 0 15 = jn (nxt tx L p0)) := by
  have t2 := ht.2.1
  refine loop_ms (I := fun n s => ∃ p, n = L - p ∧ p ≤ L ∧ s 0 15 = jn p ∧ Frm [] [(0, 15)] w s ∧ nxt tx L p = nxt tx L p0) (n := L - p0) ⟨p0, rfl, h0, e, frm_rf, rfl⟩ (fun n s hi => ?_)
  obtain ⟨p, i1, i2, i3, i4, i5⟩ := hi
  have ts : MTx s tx L := MTx_fr ht i4 ⟨rfl, fun _ => rfl⟩
  by_cases hp : p < L
  · have hbt := m_byte ts hp
    have b1 := (ht.2.2 p hp).1
    by_cases hk : isK (tx p) = true
    · have hn : nxt tx L (p + 1) = nxt tx L p0 := by rw [← i5]; exact (scn_y (q := fun k => isK (tx k)) hp hk).symm
      have fin : LQ (fun s' => ∃ j, j < n ∧ ∃ p, j = L - p ∧ p ≤ L ∧ s' 0 15 = jn p ∧ Frm [] [(0, 15)] w s' ∧ nxt tx L p = nxt tx L p0) (fun w' => Frm [] [(0, 15)] w w' ∧ w' 0 15 = jn (nxt tx L p0)) (.inl (wup s 0 15 (jn (p + 1)))) := ⟨L - (p + 1), by omega, p + 1, rfl, by omega, wup_s1 _ _ _ _, frm_wup i4 _ _ _ rfl, hn⟩
      unfold isK at hk
      rw [decide_eq_true_eq] at hk
      rcases hk with hk | hk
      · rw [B_M_stepOn_0, i3, hbt, bp_some, hk, br_pos (show jn 32 = 32 from rfl), K_M_stepOn_26, i3, jn_1a, bw_eq, ret_some]
        exact fin
      · rw [B_M_stepOn_0, i3, hbt, bp_some, hk, br_neg (by decide), bp_some, br_neg (fun z => z rfl), K_M_stepOn_26, i3, jn_1a, bw_eq, ret_some]
        exact fin
    · have hk' : ¬ (tx p = 32 ∨ tx p = 10) := fun z => hk (by unfold isK; rw [decide_eq_true_eq]; exact z)
      rw [B_M_stepOn_0, i3, hbt, bp_some, br_neg (by rw [li_32, jn_inj (by omega) (by omega)]; omega), bp_some, br_pos (by rw [li_10, jn_inj (by omega) (by omega)]; omega), ret_some, LQ_inr]
      exact ⟨i4, by rw [← i5, i3]; unfold nxt; rw [scn_n (q := fun k => isK (tx k)) hk]⟩
  · have hpe : p = L := by omega
    subst hpe
    rw [B_M_stepOn_0, i3, m_byteE ts, bp_some, br_neg (by decide), bp_some, br_pos (by decide), ret_some, LQ_inr]
    refine ⟨i4, ?_⟩
    rw [← i5, i3]; unfold nxt; rw [scn_e (Nat.le_refl _)]
theorem m_letters {w : Wld} {tx : Nat → Nat} {L p0 : Nat} (ht : MTx w tx L) (e : w 0 15 = jn p0) (h0 : p0 ≤ L) : Ret (loop (B_M_stepOn_76) w) (fun w' => Frm [] [(0, 15)] w w' ∧ w' 0 15 = jn (scn (fun k => isL (tx k)) L p0)) := by
  have t2 := ht.2.1
  refine loop_ms (I := fun n s => ∃ p, n = L - p ∧ p ≤ L ∧ s 0 15 = jn p ∧ Frm [] [(0, 15)] w s ∧ scn (fun k => isL (tx k)) L p = scn (fun k => isL (tx k)) L p0) (n := L - p0) ⟨p0, rfl, h0, e, frm_rf, rfl⟩ (fun n s hi => ?_)
  obtain ⟨p, i1, i2, i3, i4, i5⟩ := hi
  have ts : MTx s tx L := MTx_fr ht i4 ⟨rfl, fun _ => rfl⟩
  by_cases hp : p < L
  · have b1 := (ht.2.2 p hp).1
    by_cases hk : isL (tx p) = true
    · rw [B_M_stepOn_76, i3, m_byte ts hp, bp_some, m_isL s b1, if_pos hk, bp_some, br_neg (by decide), jn_1a, bw_eq, ret_some, LQ_inl]
      exact ⟨L - (p + 1), by omega, p + 1, rfl, by omega, wup_s1 _ _ _ _, frm_wup i4 _ _ _ rfl, by rw [← i5]; exact (scn_y (q := fun k => isL (tx k)) hp hk).symm⟩
    · rw [B_M_stepOn_76, i3, m_byte ts hp, bp_some, m_isL s b1, if_neg hk, bp_some, br_pos rfl, ret_some, LQ_inr]
      exact ⟨i4, by rw [← i5, i3, scn_n (q := fun k => isL (tx k)) hk]⟩
  · have hpe : p = L := by omega
    subst hpe
    rw [B_M_stepOn_76, i3, m_byteE ts, bp_some, m_isLe, bp_some, br_pos rfl, ret_some, LQ_inr]
    exact ⟨i4, by rw [← i5, i3, scn_e (Nat.le_refl _)]⟩
theorem m_digits {w : Wld} {tx : Nat → Nat} {L p0 : Nat} (ht : MTx w tx L) (e : w 0 15 = jn p0) (e18 : w 0 18 = 0) (h0 : p0 ≤ L) : Ret (loop (B_M_stepOn_123) w) (fun w' => Frm [] [(0, 15), (0, 18)] w w' ∧ w' 0 15 = jn (scn (fun k => isD (tx k)) L p0) ∧ (scn (fun k => isD (tx k)) L p0 - p0 ≤ 4 → w' 0 18 = jn (vl tx p0 (scn (fun k => isD (tx k)) L p0 - p0)))) := by
  have t2 := ht.2.1
  refine loop_ms (I := fun n s => ∃ p, n = L - p ∧ p0 ≤ p ∧ p ≤ L ∧ s 0 15 = jn p ∧ Frm [] [(0, 15), (0, 18)] w s ∧ scn (fun k => isD (tx k)) L p = scn (fun k => isD (tx k)) L p0 ∧ (p - p0 ≤ 4 → s 0 18 = jn (vl tx p0 (p - p0))) ∧ ∀ i, i < p - p0 → isD (tx (p0 + i)) = true) (n := L - p0) ⟨p0, rfl, Nat.le_refl _, h0, e, frm_rf, rfl, fun _ => by rw [Nat.sub_self, e18]; rfl, fun i hi => by omega⟩ (fun n s hi => ?_)
  obtain ⟨p, i1, i0, i2, i3, i4, i5, i6, i7⟩ := hi
  have ts : MTx s tx L := MTx_fr ht i4 ⟨rfl, fun _ => rfl⟩
  by_cases hp : p < L
  · have b1 := (ht.2.2 p hp).1
    by_cases hk : isD (tx p) = true
    · have hb := isD_b hk
      have e15 : ∀ v, (wup s 0 18 v) 0 15 = jn p := fun v => by rw [wup_s2 _ _ _ (by decide)]; exact i3
      rw [B_M_stepOn_123, i3, m_byte ts hp, bp_some, m_isD s b1, if_pos hk, bp_some, br_neg (by decide), bp_some, bw_eq, e15, jn_1a, bw_eq, ret_some, LQ_inl]
      refine ⟨L - (p + 1), by omega, p + 1, rfl, by omega, by omega, wup_s1 _ _ _ _, frm_wup (frm_wup i4 _ _ _ rfl) _ _ _ rfl, by rw [← i5]; exact (scn_y (q := fun k => isD (tx k)) hp hk).symm, fun h4 => ?_, fun i hi => ?_⟩
      · have hv := (vl_le (tx := tx) (p := p0) (j := p - p0) i7).2.1 (by omega)
        rw [wup_s2 _ _ _ (by decide), wup_s1, i6 (by omega), show p + 1 - p0 = (p - p0) + 1 by omega, vl_s, show p0 + (p - p0) = p by omega, li_10, jn_mul, jn_add, li_48, jn_sub (by omega), li_100000, imin_jn (by omega) (by omega)]
        congr 1
        omega
      · by_cases e : i = p - p0
        · rw [e, show p0 + (p - p0) = p by omega]; exact hk
        · exact i7 i (by omega)
    · rw [B_M_stepOn_123, i3, m_byte ts hp, bp_some, m_isD s b1, if_neg hk, bp_some, br_pos rfl, ret_some, LQ_inr]
      rw [scn_n (q := fun k => isD (tx k)) hk] at i5
      rw [← i5]
      exact ⟨i4, i3, i6⟩
  · have hpe : p = L := by omega
    subst hpe
    rw [B_M_stepOn_123, i3, m_byteE ts, bp_some, m_isDe, bp_some, br_pos rfl, ret_some, LQ_inr]
    rw [scn_e (Nat.le_refl _)] at i5
    rw [← i5]
    exact ⟨i4, i3, i6⟩
def KMs : List (Nat × Nat) := [(0, 15), (0, 17), (0, 18), (0, 19), (0, 20)]
theorem m_tstep {w : Wld} {tx : Nat → Nat} {L e0 : Nat} (ht : MTx w tx L) (he : w 0 15 = jn e0) (hl : e0 ≤ L) : Ret (F_M_stepOn w) (fun w' => Frm [] KMs w w' ∧ MTk w' tx L (nxt tx L e0)) := by
  have hL := ht.2.1
  have hb := nxt_b (tx := tx) hl
  rw [F_M_stepOn, ret_bl]
  refine ret_mono (m_blank ht he hl) (fun w2 hq => ?_)
  obtain ⟨q1, q2⟩ := hq
  generalize nxt tx L e0 = p at hb q2 ⊢
  have f3 : Frm [] KMs w (wup w2 0 19 (jn p)) := frm_wup (frm_up q1 rfl) _ _ _ rfl
  have g19 : (wup w2 0 19 (jn p)) 0 19 = jn p := wup_s1 _ _ _ _
  have g15 : (wup w2 0 19 (jn p)) 0 15 = jn p := by rw [wup_s2 _ _ _ (by decide)]; exact q2
  rw [q2, bw_eq]
  generalize wup w2 0 19 (jn p) = w3 at f3 g19 g15 ⊢
  have t3 : MTx w3 tx L := MTx_fr ht f3 ⟨rfl, fun _ => rfl⟩
  rw [g15]
  unfold MTk
  rcases kd_cases tx L p hb.2 with ⟨k1, k2, k3⟩ | ⟨k1, k2, k3, k4⟩ | ⟨k1, k2, k3, k4, k5⟩ | ⟨k1, k2, k3, k4, k5⟩
  · subst k1
    have f4 : Frm [] KMs w3 (wup (wup w3 0 17 0) 0 20 (jn p)) := frm_wup (frm_wup frm_rf _ _ _ rfl) _ _ _ rfl
    have h15 : (wup w3 0 17 0) 0 15 = jn p := by rw [wup_s2 _ _ _ (by decide)]; exact g15
    rw [m_byteE t3, bp_some, br_neg (fun z => z rfl), bw_eq, K_M_stepOn_212, h15, bw_eq, ret_some, k2, k3]
    refine ⟨frm_tr f3 f4, ?_, ?_, wup_s1 _ _ _ _, ?_, fun z => by omega⟩
    · rw [wup_s2 _ _ _ (by decide), wup_s2 _ _ _ (by decide)]; exact g19
    · rw [wup_s2 _ _ _ (by decide)]; exact h15
    · rw [wup_s2 _ _ _ (by decide), wup_s1]; rfl
  · have b1 := (ht.2.2 p k1).1
    have hne : ¬ jn (tx p) = -1 := by rw [jn_em (by omega)]; exact id
    rw [m_byte t3 k1, bp_some, br_pos hne, m_isL w3 b1, if_pos k2, bp_some, br_neg (by decide), ret_bl]
    refine ret_mono (m_letters t3 g15 (by omega)) (fun w4 hq => ?_)
    obtain ⟨r1, r2⟩ := hq
    have f4 : Frm [] [(0, 17), (0, 20)] w4 (wup (wup w4 0 17 1) 0 20 (jn (scn (fun k => isL (tx k)) L p))) := frm_wup (frm_wup frm_rf _ _ _ rfl) _ _ _ rfl
    have h15 : (wup w4 0 17 1) 0 15 = jn (scn (fun k => isL (tx k)) L p) := by rw [wup_s2 _ _ _ (by decide)]; exact r2
    rw [bw_eq, K_M_stepOn_212, h15, bw_eq, ret_some, k3, k4]
    refine ⟨frm_tr f3 (frm_tr (frm_up r1 rfl) (frm_up f4 rfl)), ?_, ?_, wup_s1 _ _ _ _, ?_, fun z => by omega⟩
    · rw [f4 0 19 rfl, r1 0 19 rfl]; exact g19
    · rw [f4 0 15 rfl]; exact r2
    · rw [wup_s2 _ _ _ (by decide), wup_s1]; rfl
  · have b1 := (ht.2.2 p k1).1
    have hne : ¬ jn (tx p) = -1 := by rw [jn_em (by omega)]; exact id
    have f18 : Frm [] [(0, 18)] w3 (wup w3 0 18 0) := frm_wup frm_rf _ _ _ rfl
    have e18 : (wup w3 0 18 0) 0 18 = 0 := wup_s1 _ _ _ _
    rw [m_byte t3 k1, bp_some, br_pos hne, m_isL w3 b1, if_neg k2, bp_some, br_pos rfl, m_isD w3 b1, if_pos k3, bp_some, br_neg (by decide), bw_eq, ret_bl]
    generalize wup w3 0 18 0 = w4 at f18 e18 ⊢
    refine ret_mono (m_digits (MTx_fr t3 f18 ⟨rfl, fun _ => rfl⟩) ((f18 0 15 rfl).trans g15) e18 (by omega)) (fun w5 hq => ?_)
    obtain ⟨r1, r2, r3⟩ := hq
    have f6 : Frm [] [(0, 17), (0, 20)] w5 (wup (wup w5 0 17 2) 0 20 (jn (scn (fun k => isD (tx k)) L p))) := frm_wup (frm_wup frm_rf _ _ _ rfl) _ _ _ rfl
    have h15 : (wup w5 0 17 2) 0 15 = jn (scn (fun k => isD (tx k)) L p) := by rw [wup_s2 _ _ _ (by decide)]; exact r2
    rw [bw_eq, K_M_stepOn_212, h15, bw_eq, ret_some, k4, k5]
    refine ⟨frm_tr f3 (frm_tr (frm_up f18 rfl) (frm_tr (frm_up r1 rfl) (frm_up f6 rfl))), ?_, ?_, wup_s1 _ _ _ _, ?_, fun _ z => ?_⟩
    · rw [f6 0 19 rfl, r1 0 19 rfl, f18 0 19 rfl]; exact g19
    · rw [f6 0 15 rfl]; exact r2
    · rw [wup_s2 _ _ _ (by decide), wup_s1]; rfl
    · rw [f6 0 18 rfl]; exact r3 z
  · have b1 := (ht.2.2 p k1).1
    have hne : ¬ jn (tx p) = -1 := by rw [jn_em (by omega)]; exact id
    rw [m_byte t3 k1, bp_some, br_pos hne, m_isL w3 b1, if_neg k2, bp_some, br_pos rfl, m_isD w3 b1, if_neg k3, bp_some, br_pos rfl, jn_1a, bw_eq]
    have f4 : Frm [] [(0, 15)] w3 (wup w3 0 15 (jn (p + 1))) := frm_wup frm_rf _ _ _ rfl
    have h15 : (wup w3 0 15 (jn (p + 1))) 0 15 = jn (p + 1) := wup_s1 _ _ _ _
    generalize wup w3 0 15 (jn (p + 1)) = w4 at f4 h15 ⊢
    rw [m_isM w4 b1, bp_some, k4, k5]
    have fin : ∀ x : Nat, x = (if isM (tx p) = true then 3 else 4) → Ret (K_M_stepOn_209 (jn x) w4) (fun w' => Frm [] KMs w w' ∧ w' 0 19 = jn p ∧ w' 0 15 = jn (p + 1) ∧ w' 0 20 = jn (p + 1) ∧ (w' 0 17 = jn (if 3 = 3 then (if isM (tx p) = true then 3 else 4) else 3)) ∧ (3 = 2 → p + 1 - p ≤ 4 → w' 0 18 = jn (vl tx p (p + 1 - p)))) := by
      intro x hx
      have f6 : Frm [] [(0, 17), (0, 20)] w4 (wup (wup w4 0 17 (jn x)) 0 20 (jn (p + 1))) := frm_wup (frm_wup frm_rf _ _ _ rfl) _ _ _ rfl
      have i15 : (wup w4 0 17 (jn x)) 0 15 = jn (p + 1) := by rw [wup_s2 _ _ _ (by decide)]; exact h15
      rw [K_M_stepOn_209, bw_eq, K_M_stepOn_212, i15, bw_eq, ret_some]
      refine ⟨frm_tr f3 (frm_tr (frm_up f4 rfl) (frm_up f6 rfl)), ?_, ?_, wup_s1 _ _ _ _, ?_, fun z => by omega⟩
      · rw [f6 0 19 rfl, f4 0 19 rfl]; exact g19
      · rw [f6 0 15 rfl]; exact h15
      · rw [wup_s2 _ _ _ (by decide), wup_s1, hx, if_pos rfl]
    by_cases hz : isM (tx p) = true
    · rw [if_pos hz, br_neg (by decide)]
      exact fin 3 (by rw [if_pos hz])
    · rw [if_neg hz, br_pos rfl]
      exact fin 4 (by rw [if_neg hz])
