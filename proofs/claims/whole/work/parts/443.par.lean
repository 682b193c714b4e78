/-! ===== the reading of a text, both sides side by side ===== -/
def Ret2 {α β : Type} (x : Option α) (y : Option β) (R : α → β → Prop) : Prop := ∃ a b, x = some a ∧ y = some b ∧ R a b
def KCe : List (Nat × Nat) := [(44, 4), (44, 5), (44, 6), (45, 2), (45, 3), (45, 4), (45, 5), (45, 6), (45, 7), (50, 2)]
def KMe : List (Nat × Nat) := [(0, 15), (0, 17), (0, 18), (0, 19), (0, 20), (0, 21), (0, 22), (3, 9)]
/-- the model's own half of its cells, which no reading touches -/
def loB (n i : Nat) : Prop := (n = 3 ∧ i < 5) ∨ (n = 4 ∧ i < 9) ∨ (n = 7 ∧ i < 8) ∨ (n = 11 ∧ i < 700)
def LoK (w w' : Wld) : Prop := ∀ n i, loB n i → w' n i = w n i
theorem LoK_rf {w : Wld} : LoK w w := fun _ _ _ => rfl
theorem LoK_tr {w w1 w2 : Wld} (h1 : LoK w w1) (h2 : LoK w1 w2) : LoK w w2 := fun n i h => (h2 n i h).trans (h1 n i h)
theorem LoK_wup {w w1 : Wld} (h : LoK w w1) {n i : Nat} {v : Int32} (hn : ¬ loB n i) : LoK w (wup w1 n i v) := by
  intro n9 i9 h9
  by_cases e : n9 = n
  · subst e
    by_cases e2 : i9 = i
    · subst e2; exact absurd h9 hn
    · rw [wup_s2 _ _ _ e2]; exact h _ _ h9
  · rw [wup_o _ _ _ e]; exact h _ _ h9
theorem LoK_frm {L : List Nat} {K : List (Nat × Nat)} {w w' : Wld} (f : Frm L K w w') (h : (∀ i, frB L K 3 i = false ∨ ¬ i < 5) ∧ (∀ i, frB L K 4 i = false) ∧ (∀ i, frB L K 7 i = false) ∧ ∀ i, frB L K 11 i = false) : LoK w w' := by
  intro n i hn
  rcases hn with ⟨rfl, hi⟩ | ⟨rfl, hi⟩ | ⟨rfl, hi⟩ | ⟨rfl, hi⟩
  · rcases h.1 i with z | z
    · exact f _ _ z
    · exact absurd hi z
  · exact f _ _ (h.2.1 i)
  · exact f _ _ (h.2.2.1 i)
  · exact f _ _ (h.2.2.2 i)
theorem noLo {n i : Nat} (h : (n ≠ 3 ∨ 5 ≤ i) ∧ (n ≠ 4 ∨ 9 ≤ i) ∧ (n ≠ 7 ∨ 8 ≤ i) ∧ (n ≠ 11 ∨ 700 ≤ i)) : ¬ loB n i := by
  unfold loB
  omega
/-- the steps of the rule so far -/
def CDs (wR : Wld) (wC wM : Wld) (n D : Nat) : Prop := wC 50 2 = jn n ∧ wM 3 9 = jn n ∧ (∀ k, k < n → wM 11 (700 + k) = trc (wC 51 k)) ∧ okR (wC 51) n ∧ dep (wC 51) n = D ∧ LoK wR wM
def PR (wR : Wld) (tx : Nat → Nat) (L : Nat) (wC wM : Wld) (p n D : Nat) : Prop := CTx wC tx L ∧ MTx wM tx L ∧ p ≤ L ∧ CTk wC tx L p ∧ MTk wM tx L p ∧ wM 0 21 = 0 ∧ CDs wR wC wM n D ∧ n ≤ p
/-- a fault, told alike -/
def PF (wR : Wld) (wC wM : Wld) : Prop := wM 0 21 = wC 44 5 ∧ ¬ wC 44 5 = 0 ∧ wM 0 22 = wC 44 6 ∧ ∃ m, m ≤ 700 ∧ wC 50 2 = jn m ∧ LoK wR wM
def PR0 (wR : Wld) (tx : Nat → Nat) (L : Nat) (wC wM : Wld) (p n D : Nat) : Prop := CTx wC tx L ∧ MTx wM tx L ∧ p ≤ L ∧ CTk wC tx L p ∧ MTk wM tx L p ∧ wM 0 21 = 0 ∧ CDs wR wC wM n D
theorem PR_0 {wR : Wld} {tx : Nat → Nat} {L : Nat} {wC wM : Wld} {p n D : Nat} (r : PR wR tx L wC wM p n D) : PR0 wR tx L wC wM p n D := ⟨r.1, r.2.1, r.2.2.1, r.2.2.2.1, r.2.2.2.2.1, r.2.2.2.2.2.1, r.2.2.2.2.2.2.1⟩
theorem PR_of {wR : Wld} {tx : Nat → Nat} {L : Nat} {wC wM : Wld} {p n D : Nat} (r : PR0 wR tx L wC wM p n D) (h : n ≤ p) : PR wR tx L wC wM p n D := ⟨r.1, r.2.1, r.2.2.1, r.2.2.2.1, r.2.2.2.2.1, r.2.2.2.2.2.1, r.2.2.2.2.2.2, h⟩
theorem both_step0 {wR : Wld} {tx : Nat → Nat} {L : Nat} {wC wM : Wld} {p n D : Nat} (r : PR0 wR tx L wC wM p n D) (hp : p < L) : Ret2 (F_Tokens_step_45 wC) (F_M_stepOn wM) (fun wC' wM' => Frm [] KTs wC wC' ∧ Frm [] KMs wM wM' ∧ ∃ p', p < p' ∧ PR0 wR tx L wC' wM' p' n D) := by
  obtain ⟨r1, r2, r3, r4, r5, r6, r7⟩ := r
  obtain ⟨e1, e2, e3⟩ := edT_b (tx := tx) r3
  have e4 := nxt_b (tx := tx) e2
  obtain ⟨a, ha, a1, a2⟩ := c_tstep r1 r4.2.1 e2
  obtain ⟨b, hb, b1, b2⟩ := m_tstep r2 r5.2.1 e2
  refine ⟨a, b, ha, hb, a1, b1, nxt tx L (edT tx L p), by have := e3 hp; omega, CTx_fr r1 a1 ⟨rfl, fun _ => rfl⟩, MTx_fr r2 b1 ⟨rfl, fun _ => rfl⟩, e4.2, a2, b2, (b1 0 21 rfl).trans r6, ?_⟩
  obtain ⟨d1, d2, d3, d4, d5, d6⟩ := r7
  refine ⟨(a1 50 2 rfl).trans d1, (b1 3 9 rfl).trans d2, fun k hk => ?_, ?_, ?_, LoK_tr d6 (LoK_frm b1 ⟨fun _ => Or.inl rfl, fun _ => rfl, fun _ => rfl, fun _ => rfl⟩)⟩
  · rw [b1 11 _ rfl, a1 51 _ rfl]; exact d3 k hk
  · rw [frm_cell a1 51 (fun _ => rfl)]; exact d4
  · rw [frm_cell a1 51 (fun _ => rfl)]; exact d5
theorem both_step {wR : Wld} {tx : Nat → Nat} {L : Nat} {wC wM : Wld} {p n D : Nat} (r : PR wR tx L wC wM p n D) (hp : p < L) : Ret2 (F_Tokens_step_45 wC) (F_M_stepOn wM) (fun wC' wM' => Frm [] KTs wC wC' ∧ Frm [] KMs wM wM' ∧ ∃ p', p < p' ∧ PR wR tx L wC' wM' p' n D) := by
  have r8 := r.2.2.2.2.2.2.2
  obtain ⟨a, b, ha, hb, a1, b1, p', h1, h2⟩ := both_step0 (PR_0 r) hp
  exact ⟨a, b, ha, hb, a1, b1, p', h1, PR_of h2 (by omega)⟩
theorem c_failed (wC : Wld) (k : Int32) : F_Reader_failed_44 wC k = some (0, wup (wup wC 44 5 k) 44 6 (wC 45 3)) := by
  rw [F_Reader_failed_44, bw_eq, bw_eq, wup_o _ _ _ (by decide)]
theorem m_wrong0 {wM : Wld} (h : wM 0 21 = 0) (k : Int32) : F_M_wrong wM k = some (wup (wup wM 0 21 k) 0 22 (wM 0 19)) := by
  rw [F_M_wrong, br_pos h, bw_eq, bw_eq, wup_s2 _ _ _ (by decide)]
theorem m_wrongB {wM : Wld} (h : ¬ wM 0 21 = 0) (k : Int32) : F_M_wrong wM k = some wM := by rw [F_M_wrong, br_neg h]
theorem fail_PF {wR : Wld} {tx : Nat → Nat} {L : Nat} {wC wM : Wld} {p n D : Nat} (r : PR wR tx L wC wM p n D) {k : Int32} (hk : ¬ k = 0) : PF wR (wup (wup wC 44 5 k) 44 6 (wC 45 3)) (wup (wup wM 0 21 k) 0 22 (wM 0 19)) := by
  refine ⟨?_, ?_, ?_, n, ?_, ?_, LoK_wup (LoK_wup r.2.2.2.2.2.2.1.2.2.2.2.2 (noLo (by omega))) (noLo (by omega))⟩
  · rw [wup_s2 _ _ _ (by decide), wup_s1, wup_s2 _ _ _ (by decide), wup_s1]
  · rw [wup_s2 _ _ _ (by decide), wup_s1]; exact hk
  · rw [wup_s1, wup_s1, r.2.2.2.2.1.1, r.2.2.2.1.1]
  · have h1 := r.1.2.1
    have h2 := r.2.2.1
    have h3 := r.2.2.2.2.2.2.2
    omega
  · rw [wup_o _ _ _ (by decide), wup_o _ _ _ (by decide)]; exact r.2.2.2.2.2.2.1.1
/-! what the tokens answer -/
def mk (tx : Nat → Nat) (L p c : Nat) : Bool := decide (kd tx L p = 3 ∧ tx p = c)
theorem sb_eq : ∀ b, b < 256 → ∀ c, c < 128 → ((sb b = jn c) ↔ b = c) := by
  intro b hb c hc
  by_cases h : b < 128
  · rw [sb_lo b h, jn_inj (by omega) (by omega)]
  · have h1 := sb_hi b hb (by omega)
    constructor
    · intro e
      rw [e, jn_neg0 (by omega)] at h1
      exact h1.elim
    · intro e; omega
theorem c_mk {tx : Nat → Nat} {L : Nat} {wC : Wld} {p c : Nat} (ht : CTx wC tx L) (k : CTk wC tx L p) (hp : p ≤ L) (hc : c < 128) (hc0 : c ≠ 0) : (wC 45 7 = jn c) = (mk tx L p c = true) := by
  unfold mk
  rw [decide_eq_true_eq, k.2.2.2.2.2]
  by_cases h3 : kd tx L p = 3
  · rw [if_pos h3]
    have hpl : p < L := by
      rcases kd_cases tx L p hp with ⟨_, z, _⟩ | ⟨z, _⟩ | ⟨z, _⟩ | ⟨z, _⟩
      · omega
      · exact z
      · exact z
      · exact z
    exact propext ⟨fun e => ⟨h3, (sb_eq _ (ht.2.2 p hpl).1 c hc).mp e⟩, fun e => (sb_eq _ (ht.2.2 p hpl).1 c hc).mpr e.2⟩
  · rw [if_neg h3]
    refine propext ⟨fun e => ?_, fun e => absurd e.1 h3⟩
    have : jn 0 = jn c := e
    rw [jn_inj (by omega) (by omega)] at this
    omega
theorem m_mk {tx : Nat → Nat} {L : Nat} {wM : Wld} {p c : Nat} (ht : MTx wM tx L) (k : MTk wM tx L p) (hp : p ≤ L) (hb : wM 0 21 = 0) (hc : isM c = true) (hc2 : c < 128) : F_M_isMarked wM (jn c) = some (if mk tx L p c = true then 1 else 0) := by
  unfold mk
  have hkd : kd tx L p ≤ 3 := by rcases kd_cases tx L p hp with ⟨_, z, _⟩ | ⟨_, _, z, _⟩ | ⟨_, _, _, z, _⟩ | ⟨_, _, _, z, _⟩ <;> omega
  rw [F_M_isMarked, hb, br_neg (fun z => z rfl), k.2.2.2.1, k.1]
  by_cases h3 : kd tx L p = 3
  · have hpl : p < L := by
      rcases kd_cases tx L p hp with ⟨_, z, _⟩ | ⟨z, _⟩ | ⟨z, _⟩ | ⟨z, _⟩
      · omega
      · exact z
      · exact z
      · exact z
    obtain ⟨b1, b2⟩ := ht.2.2 p hpl
    have hL := ht.2.1
    rw [if_pos h3]
    by_cases hm : isM (tx p) = true
    · rw [if_pos hm, br_neg (fun z => z rfl), gd_pos (vpK (by omega) (by omega)), jn_clamp (by omega), b2]
      by_cases he : tx p = c
      · rw [br_neg (by rw [he]; exact fun z => z rfl), K_M_isMarked_33, gd_pos (Or.inr rfl)]
        simp [h3, he]
      · rw [br_pos (by rw [jn_inj (by omega) (by omega)]; exact he), K_M_isMarked_32, K_M_isMarked_33, gd_pos (Or.inl rfl)]
        simp [he]
    · have he : ¬ tx p = c := fun z => hm (by rw [z]; exact hc)
      rw [if_neg hm, br_pos (by decide), K_M_isMarked_32, K_M_isMarked_33, gd_pos (Or.inl rfl)]
      simp [he]
  · rw [if_neg h3, br_pos (by rw [li_3, jn_inj (by omega) (by omega)]; exact h3), K_M_isMarked_32, K_M_isMarked_33, gd_pos (Or.inl rfl)]
    simp [h3]
theorem m_mkB {wM : Wld} (hb : ¬ wM 0 21 = 0) (c : Int32) : F_M_isMarked wM c = some 0 := by
  rw [F_M_isMarked, br_pos hb, K_M_isMarked_32, K_M_isMarked_33, gd_pos (Or.inl rfl)]
/-- the token is the word k -/
def wsB (tx : Nat → Nat) (L p k : Nat) : Bool := decide (kd tx L p = 1) && eqS tx k p (edT tx L p)
theorem m_is0 (w : Wld) {k : Nat} (hk : k < 19) : K_M_is_36 k 0 w = some 0 := by
  rw [K_M_is_36, loop_eq, B_M_is_39, br_pos rfl, bl_some, gd_pos (Or.inl rfl)]
theorem m_isB {wM : Wld} (hb : ¬ wM 0 21 = 0) {k : Nat} (hk : k < 19) : F_M_is wM k = some 0 := by
  rw [F_M_is, br_pos hb, K_M_is_35, m_is0 wM hk]
theorem m_is {tx : Nat → Nat} {L : Nat} {wM : Wld} {p k : Nat} (ht : MTx wM tx L) (t : MTk wM tx L p) (hp : p ≤ L) (hb : wM 0 21 = 0) (hk : k < 19) : F_M_is wM k = some (if wsB tx L p k = true then 1 else 0) := by
  have hL := ht.2.1
  have hs := (str_facts k hk).1
  obtain ⟨e1, e2, e3⟩ := edT_b (tx := tx) hp
  unfold wsB
  rw [F_M_is, hb, br_neg (fun z => z rfl), t.2.2.2.1]
  by_cases h1 : kd tx L p = 1
  · have h3 : ¬ kd tx L p = 3 := by omega
    have hlet : ∀ j, p ≤ j → j < edT tx L p → isL (tx j) = true := by
      rcases kd_cases tx L p hp with ⟨_, z, _⟩ | ⟨_, _, z, z2⟩ | ⟨_, _, _, z, _⟩ | ⟨_, _, _, z, _⟩
      · omega
      · intro j h1 h2; rw [z2] at h2; exact scn_all (q := fun k => isL (tx k)) (L - p) p (Nat.le_refl _) hp j h1 h2
      · omega
      · omega
    rw [if_neg h3, h1, br_neg (fun z => z rfl), gd_pos hk, t_slen wM hk, bp_some, t.2.2.1, t.1, jn_sub e1]
    by_cases hl : lnS k = edT tx L p - p
    · rw [br_neg (by rw [hl]; exact fun z => z rfl), K_M_is_36]
      have key : Ret (loop (B_M_is_39 k wM) (1, 0)) (fun r => r = (if (∀ j, j < lnS k → tx (p + j) = ltr k j) then 1 else 0)) := by
        refine loop_inv (I := fun j s => s.2 = jn j ∧ s.1 = (if (∀ i, i < j → tx (p + i) = ltr k i) then 1 else 0)) (lnS k) ⟨rfl, by rw [if_pos (fun i hi => absurd hi (Nat.not_lt_zero i))]⟩ (fun j s hj hi => ?_) (fun s hi => ?_)
        · obtain ⟨b, i⟩ := s
          obtain ⟨i1, i2⟩ := hi
          simp only at i1 i2
          subst i1
          by_cases hall : ∀ i, i < j → tx (p + i) = ltr k i
          · rw [if_pos hall] at i2
            subst i2
            obtain ⟨b1, b2⟩ := ht.2.2 (p + j) (by omega)
            obtain ⟨s4, s5⟩ := (str_facts k hk).2.2 j (by omega) hj
            have t1 := t.1
            by_cases hc : ltr k j = tx (p + j)
            · simp (disch := omega) only [B_M_is_39, K_M_is_75, ↓bi_eq, ↓bw_eq, gd_pos, br_pos, br_neg, br_T, br_F, gd_T, bq_some, bd_some, bv_some, bl_some, bx_inl, bx_inr, bn_none, bn_some, bt_inl, bt_inr, not_true_eq_false, not_false_eq_true, eq_self, Bool.false_eq_true, if_true, if_false, jn_clamp, jn_lt, jn_le, jn_inj, jn_add, jn_sub, jn_mul, jn_vp, jn_0a, jn_1a, jn_1b, jn_1s, jn_1m, jn_neg0, jn_le0, jn_0le, jn_0lt, jn_1le, jn_le1, jn_lt1, jn_1lt, jn_e0, jn_e1, jn_em, ↓qB_f, ↓qT_f, cl_0, cl_1, vp_0, vp_1, gd_pos hk, t_slen wM hk, t_schar wM hk hj, t1, b2, hc, (by decide : ((1 : Int32) = 0) = False), ret_some, LQ_inl]
              refine ⟨trivial, ?_⟩
              rw [if_pos]
              intro i hi
              by_cases e : i = j
              · rw [e]; exact hc.symm
              · exact hall i (by omega)
            · simp (disch := omega) only [B_M_is_39, K_M_is_75, ↓bi_eq, ↓bw_eq, gd_pos, br_pos, br_neg, br_T, br_F, gd_T, bq_some, bd_some, bv_some, bl_some, bx_inl, bx_inr, bn_none, bn_some, bt_inl, bt_inr, not_true_eq_false, not_false_eq_true, eq_self, Bool.false_eq_true, if_true, if_false, jn_clamp, jn_lt, jn_le, jn_inj, jn_add, jn_sub, jn_mul, jn_vp, jn_0a, jn_1a, jn_1b, jn_1s, jn_1m, jn_neg0, jn_le0, jn_0le, jn_0lt, jn_1le, jn_le1, jn_lt1, jn_1lt, jn_e0, jn_e1, jn_em, ↓qB_f, ↓qT_f, cl_0, cl_1, vp_0, vp_1, gd_pos hk, t_slen wM hk, t_schar wM hk hj, t1, b2, hc, (by decide : ((1 : Int32) = 0) = False), ret_some, LQ_inl]
              refine ⟨trivial, ?_⟩
              rw [if_neg]
              intro z
              exact hc (z j (by omega)).symm
          · rw [if_neg hall] at i2
            subst i2
            simp only [B_M_is_39, eq_self, br_T, ret_some, LQ_inr]
            rw [if_neg (fun z => hall (fun i hi => z i (by omega)))]
        · obtain ⟨b, i⟩ := s
          obtain ⟨i1, i2⟩ := hi
          simp only at i1 i2
          subst i1 i2
          by_cases hall : ∀ i, i < lnS k → tx (p + i) = ltr k i
          · rw [if_pos hall]
            simp (disch := omega) only [B_M_is_39, ↓bi_eq, ↓bw_eq, gd_pos, br_pos, br_neg, br_T, br_F, gd_T, bq_some, bd_some, bv_some, bl_some, bx_inl, bx_inr, bn_none, bn_some, bt_inl, bt_inr, not_true_eq_false, not_false_eq_true, eq_self, Bool.false_eq_true, if_true, if_false, jn_clamp, jn_lt, jn_le, jn_inj, jn_add, jn_sub, jn_mul, jn_vp, jn_0a, jn_1a, jn_1b, jn_1s, jn_1m, jn_neg0, jn_le0, jn_0le, jn_0lt, jn_1le, jn_le1, jn_lt1, jn_1lt, jn_e0, jn_e1, jn_em, ↓qB_f, ↓qT_f, cl_0, cl_1, vp_0, vp_1, gd_pos hk, t_slen wM hk, br_pos (Nat.le_refl (lnS k)), (by decide : ((1 : Int32) = 0) = False), ret_some, LQ_inr]
          · rw [if_neg hall]
            simp only [B_M_is_39, eq_self, br_T, ret_some, LQ_inr]
      rw [ret_of key, bl_some]
      by_cases hall : ∀ j, j < lnS k → tx (p + j) = ltr k j
      · have hq : eqS tx k p (edT tx L p) = true := (eqS_iff _ _ _ _).mpr ⟨hl.symm, hall⟩
        rw [if_pos hall, gd_pos (Or.inr rfl), hq]
        simp
      · have hq : ¬ eqS tx k p (edT tx L p) = true := fun z => hall ((eqS_iff _ _ _ _).mp z).2
        rw [if_neg hall, gd_pos (Or.inl rfl), Bool.eq_false_iff.mpr hq]
        simp
    · have hq : ¬ eqS tx k p (edT tx L p) = true := fun z => hl ((eqS_iff _ _ _ _).mp z).1.symm
      rw [br_pos (by rw [jn_inj (by omega) (by omega)]; exact hl), K_M_is_35, m_is0 wM hk, Bool.eq_false_iff.mpr hq]
      simp
  · have hne : ¬ jn (if kd tx L p = 3 then (if isM (tx p) = true then 3 else 4) else kd tx L p) = 1 := by
      have hkd : kd tx L p ≤ 3 := by rcases kd_cases tx L p hp with ⟨_, z, _⟩ | ⟨_, _, z, _⟩ | ⟨_, _, _, z, _⟩ | ⟨_, _, _, z, _⟩ <;> omega
      intro z
      rw [jn_e1 (by split <;> (try split) <;> omega)] at z
      split at z
      · split at z <;> omega
      · omega
    rw [br_pos hne, K_M_is_35, m_is0 wM hk]
    simp [h1]
theorem c_ws {tx : Nat → Nat} {L : Nat} {wC : Wld} {p i : Nat} (t : CTk wC tx L p) (hi : i < 19) (h0 : i ≠ 0) : (Int32.toNatClampNeg (wC 45 5) = i) = (wsB tx L p (ltrs.getD i 0) = true) := by
  have hlt := wdI_lt tx p (edT tx L p)
  unfold wsB
  rw [t.2.2.2.1]
  by_cases h1 : kd tx L p = 1
  · rw [if_pos h1, jn_clamp (by omega), Bool.and_eq_true, decide_eq_true_eq]
    exact propext ⟨fun e => ⟨h1, (wdI_iff hi h0).mp e⟩, fun e => (wdI_iff hi h0).mpr e.2⟩
  · rw [if_neg h1, jn_clamp (by omega), Bool.and_eq_true, decide_eq_true_eq]
    exact propext ⟨fun e => absurd e.symm h0, fun e => absurd e.1 h1⟩
theorem c_wlt {tx : Nat → Nat} {L : Nat} {wC : Wld} {p : Nat} (t : CTk wC tx L p) : Int32.toNatClampNeg (wC 45 5) < 19 := by
  have hlt := wdI_lt tx p (edT tx L p)
  rw [t.2.2.2.1, jn_clamp (by split <;> omega)]
  split <;> omega
theorem kd_le (tx : Nat → Nat) (L p : Nat) : kd tx L p ≤ 3 := by
  unfold kd
  repeat' split
  all_goals omega
theorem m_kind {tx : Nat → Nat} {L : Nat} {wM : Wld} {p k : Nat} (t : MTk wM tx L p) (hk : k < 3) : (wM 0 17 = jn k) = (kd tx L p = k) := by
  have := kd_le tx L p
  rw [t.2.2.2.1, jn_inj (by split <;> (try split) <;> omega) (by omega)]
  refine propext ⟨fun z => ?_, fun z => ?_⟩
  · split at z
    · split at z <;> omega
    · exact z
  · rw [if_neg (by omega)]; exact z
theorem c_kind {tx : Nat → Nat} {L : Nat} {wC : Wld} {p k : Nat} (t : CTk wC tx L p) (hk : k < 4) : (wC 45 4 = jn k) = (kd tx L p = k) := by
  have := kd_le tx L p
  rw [t.2.2.1, jn_inj (by omega) (by omega)]
