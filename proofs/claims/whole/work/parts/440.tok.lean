/-! ===== the text: bytes, words ===== -/
theorem sb_lo : ∀ b, b < 128 → sb b = jn b := by decide +kernel
theorem sb_hi : ∀ b, b < 256 → 128 ≤ b → sb b < 0 := by decide +kernel
def isL (b : Nat) : Bool := decide (97 ≤ b ∧ b ≤ 122)
def isD (b : Nat) : Bool := decide (48 ≤ b ∧ b ≤ 57)
def isK (b : Nat) : Bool := decide (b = 32 ∨ b = 10)
def isM (b : Nat) : Bool := decide (b = 59 ∨ b = 40 ∨ b = 41 ∨ b = 43 ∨ b = 45 ∨ b = 42 ∨ b = 47 ∨ b = 60 ∨ b = 61)
theorem c_isL (w : Wld) {b : Nat} (hb : b < 256) : F_Tokens_isLetter w (sb b) = some (if isL b = true then 1 else 0) := by
  have : ∀ b, b < 256 → F_Tokens_isLetter w (sb b) = some (if isL b = true then 1 else 0) := by
    simp only [F_Tokens_isLetter, K_Tokens_isLetter_16, K_Tokens_isLetter_17, br_ite, gd_ite]
    decide +kernel
  exact this b hb
theorem c_isD (w : Wld) {b : Nat} (hb : b < 256) : F_Tokens_isDigit w (sb b) = some (if isD b = true then 1 else 0) := by
  have : ∀ b, b < 256 → F_Tokens_isDigit w (sb b) = some (if isD b = true then 1 else 0) := by
    simp only [F_Tokens_isDigit, K_Tokens_isDigit_16, K_Tokens_isDigit_17, br_ite, gd_ite]
    decide +kernel
  exact this b hb
theorem m_isL (w : Wld) {b : Nat} (hb : b < 256) : F_M_isLetter w (jn b) = some (if isL b = true then 1 else 0) := by
  have : ∀ b, b < 256 → F_M_isLetter w (jn b) = some (if isL b = true then 1 else 0) := by
    simp only [F_M_isLetter, K_M_isLetter_16, K_M_isLetter_17, br_ite, gd_ite]
    decide +kernel
  exact this b hb
theorem m_isD (w : Wld) {b : Nat} (hb : b < 256) : F_M_isDigit w (jn b) = some (if isD b = true then 1 else 0) := by
  have : ∀ b, b < 256 → F_M_isDigit w (jn b) = some (if isD b = true then 1 else 0) := by
    simp only [F_M_isDigit, K_M_isDigit_16, K_M_isDigit_17, br_ite, gd_ite]
    decide +kernel
  exact this b hb
theorem m_isM (w : Wld) {b : Nat} (hb : b < 256) : F_M_isMark w (jn b) = some (if isM b = true then 1 else 0) := by
  have : ∀ b, b < 256 → F_M_isMark w (jn b) = some (if isM b = true then 1 else 0) := by
    simp only [F_M_isMark, K_M_isMark_54, K_M_isMark_59, br_ite, gd_ite]
    decide +kernel
  exact this b hb
theorem m_isLe (w : Wld) : F_M_isLetter w (-1) = some 0 := by
  simp only [F_M_isLetter, K_M_isLetter_16, K_M_isLetter_17, br_ite, gd_ite]
  decide
theorem m_isDe (w : Wld) : F_M_isDigit w (-1) = some 0 := by
  simp only [F_M_isDigit, K_M_isDigit_16, K_M_isDigit_17, br_ite, gd_ite]
  decide
/-- where a run that begins at p ends -/
def scF (q : Nat → Bool) : Nat → Nat → Nat
  | 0, p => p
  | f + 1, p => if q p = true then scF q f (p + 1) else p
def scn (q : Nat → Bool) (L p : Nat) : Nat := scF q (L - p) p
theorem scn_e {q : Nat → Bool} {L p : Nat} (h : L ≤ p) : scn q L p = p := by unfold scn; rw [show L - p = 0 by omega]; rfl
theorem scn_n {q : Nat → Bool} {L p : Nat} (h : ¬ q p = true) : scn q L p = p := by
  unfold scn
  cases hf : L - p with
  | zero => rfl
  | succ f => show (if q p = true then _ else p) = p; rw [if_neg h]
theorem scn_y {q : Nat → Bool} {L p : Nat} (hp : p < L) (h : q p = true) : scn q L p = scn q L (p + 1) := by
  unfold scn
  rw [show L - p = (L - (p + 1)) + 1 by omega]
  show (if q p = true then _ else p) = _
  rw [if_pos h]
theorem scn_le {q : Nat → Bool} {L : Nat} : ∀ n p, L - p ≤ n → p ≤ L → p ≤ scn q L p ∧ scn q L p ≤ L := by
  intro n
  induction n with
  | zero => intro p h1 h2; rw [scn_e (by omega)]; omega
  | succ n ih =>
    intro p h1 h2
    by_cases hp : p < L
    · by_cases hq : q p = true
      · rw [scn_y hp hq]; have := ih (p + 1) (by omega) (by omega); omega
      · rw [scn_n hq]; omega
    · rw [scn_e (by omega)]; omega
theorem scn_b {q : Nat → Bool} {L p : Nat} (h : p ≤ L) : p ≤ scn q L p ∧ scn q L p ≤ L := scn_le (L - p) p (Nat.le_refl _) h
theorem scn_g {q : Nat → Bool} {L p : Nat} (h : p < L) (hq : q p = true) : p < scn q L p := by
  rw [scn_y h hq]; have := (scn_b (q := q) (L := L) (p := p + 1) (by omega)).1; omega
theorem scn_f {q : Nat → Bool} {L : Nat} : ∀ n p, L - p ≤ n → p ≤ L → scn q L p = L ∨ ¬ q (scn q L p) = true := by
  intro n
  induction n with
  | zero => intro p h1 h2; rw [scn_e (by omega)]; left; omega
  | succ n ih =>
    intro p h1 h2
    by_cases hp : p < L
    · by_cases hq : q p = true
      · rw [scn_y hp hq]; exact ih (p + 1) (by omega) (by omega)
      · rw [scn_n hq]; exact Or.inr hq
    · rw [scn_e (by omega)]; left; omega
/-! the words -/
def ltr (k j : Nat) : Nat := ((bytJS.getD k []).getD j 0).toNatClampNeg
def lnS (k : Nat) : Nat := lenJS.getD k 0
theorem str_facts : ∀ k, k < 19 → (lnS k ≤ 6 ∧ (Int32.ofNat (lenJS.getD k 0)) >>> ((0 : Int32) &&& 31) = jn (lnS k) ∧ ∀ j, j < 6 → j < lnS k → (ltr k j < 128 ∧ (((((bytJS.getD k []).getD j 0) &&& (255 : Int32)).toUInt32 % 65536).toInt32) = jn (ltr k j))) := by decide +kernel
theorem nar_c {c : Nat} (hc : c < 128) : narrow .char (.int (jn c)) = .int (jn c) := by
  have h : ∀ c, c < 128 → (jn c).toUInt32.toUInt16.toUInt32.toInt32 = jn c := by decide +kernel
  show Value.int ((jn c).toUInt32.toUInt16.toUInt32.toInt32) = _
  rw [h c hc]
theorem t_slen (w : Wld) {k : Nat} (hk : k < 19) : F_String_length w k = some (jn (lnS k)) := by
  have hc : F_String_coder w k = some 0 := by
    rw [F_String_coder, br_neg (by decide), gd_pos hk, K_String_coder_14, gd_pos (show narrow .byte (.int (0 : Int32)) = .int 0 from rfl)]
  rw [F_String_length, gd_pos hk, gd_pos hk, gd_pos hk, hc, bp_some, (str_facts k hk).2.1]
theorem t_schar (w : Wld) {k j : Nat} (hk : k < 19) (hj : j < lnS k) : F_String_charAt w k (jn j) = some (jn (ltr k j)) := by
  obtain ⟨s1, s2, s3⟩ := str_facts k hk
  obtain ⟨s4, s5⟩ := s3 j (by omega) hj
  have hl : F_String_isLatin1 w k = some 1 := by
    rw [F_String_isLatin1, br_neg (by decide), gd_pos hk, br_neg (fun z => z rfl), K_String_isLatin1_18, gd_pos (Or.inr rfl)]
  have hi : F_String_checkIndex w (jn j) (Int32.ofNat (lenJS.getD k 0)) = some () := by
    rw [F_String_checkIndex, gd_pos]
    refine ⟨by rw [jn_neg0 (by omega)]; exact id, ?_⟩
    show jn j < jn (lnS k)
    rw [jn_lt (by omega) (by omega)]; exact hj
  have hc : F_Latin1_charAt w k (jn j) = some (jn (ltr k j)) := by
    rw [F_Latin1_charAt, gd_pos hk, hi]
    show gd _ _ = _
    rw [gd_pos hk, gd_pos (vpK (n := lenJS.getD k 0) (by omega) hj), jn_clamp (by omega), s5, gd_pos (nar_c s4)]
  rw [F_String_charAt, gd_pos hk, hl, bp_some, br_neg (by decide), gd_pos hk, hc, bp_some, gd_pos (nar_c s4)]
/-- the text's slice from p to e is the word k -/
def eqS (tx : Nat → Nat) (k p e : Nat) : Bool := decide (e - p = lnS k) && decide (∀ j, j < lnS k → tx (p + j) = ltr k j)
theorem eqS_iff (tx : Nat → Nat) (k p e : Nat) : eqS tx k p e = true ↔ e - p = lnS k ∧ ∀ j, j < lnS k → tx (p + j) = ltr k j := by
  unfold eqS
  rw [Bool.and_eq_true, decide_eq_true_eq, decide_eq_true_eq]
theorem word_dist : ∀ k, k < 19 → ∀ k', k' < 19 → k ≠ k' → (lnS k ≠ lnS k' ∨ ∃ j, j < 6 ∧ j < lnS k ∧ ltr k j ≠ ltr k' j) := by decide +kernel
theorem eqS_u {tx : Nat → Nat} {k k' p e : Nat} (hk : k < 19) (hk' : k' < 19) (h : eqS tx k p e = true) (h' : eqS tx k' p e = true) : k = k' := by
  rw [eqS_iff] at h h'
  by_cases hne : k = k'
  · exact hne
  · rcases word_dist k hk k' hk' hne with h1 | ⟨j, _, h1, h2⟩
    · exact absurd (h.1.symm.trans h'.1) h1
    · have e1 : lnS k = lnS k' := h.1.symm.trans h'.1
      exact absurd ((h.2 j h1).symm.trans (h'.2 j (by omega))) h2
/-- the class's word: its number among the enum's -/
def wdJ (tx : Nat → Nat) (p e : Nat) : Nat → Nat := fl (fun i a => if eqS tx (ltrs.getD i 0) p e = true then i else a) 0
def wdI (tx : Nat → Nat) (p e : Nat) : Nat := wdJ tx p e 19
theorem wdJ_s (tx : Nat → Nat) (p e i : Nat) : wdJ tx p e (i + 1) = if eqS tx (ltrs.getD i 0) p e = true then i else wdJ tx p e i := rfl
theorem ltrs_lt : ∀ i, i < 19 → ltrs.getD i 0 < 19 := by decide
theorem ltrs_inj : ∀ i, i < 19 → ∀ j, j < 19 → ltrs.getD i 0 = ltrs.getD j 0 → i = j := by decide +kernel
theorem wdJ_lt (tx : Nat → Nat) (p e n : Nat) (hn : n ≤ 19) : wdJ tx p e n < 19 := by
  induction n with
  | zero => exact (by decide : 0 < 19)
  | succ n ih => rw [wdJ_s]; split; omega; exact ih (by omega)
theorem wdI_lt (tx : Nat → Nat) (p e : Nat) : wdI tx p e < 19 := wdJ_lt tx p e 19 (by omega)
theorem wdJ_y {tx : Nat → Nat} {p e i : Nat} (h : eqS tx (ltrs.getD i 0) p e = true) (hi : i < 19) : ∀ n, n ≤ 19 → i < n → wdJ tx p e n = i := by
  intro n
  induction n with
  | zero => intro _ h; omega
  | succ n ih =>
    intro hn hin
    rw [wdJ_s]
    by_cases e9 : i = n
    · subst e9; rw [if_pos h]
    · have hne : ¬ eqS tx (ltrs.getD n 0) p e = true := fun h2 => e9 (ltrs_inj i hi n (by omega) (eqS_u (ltrs_lt i hi) (ltrs_lt n (by omega)) h h2))
      rw [if_neg hne]
      exact ih (by omega) (by omega)
theorem wdJ_n {tx : Nat → Nat} {p e : Nat} : ∀ n, n ≤ 19 → wdJ tx p e n = 0 ∨ eqS tx (ltrs.getD (wdJ tx p e n) 0) p e = true := by
  intro n
  induction n with
  | zero => intro _; exact Or.inl rfl
  | succ n ih =>
    intro hn
    rw [wdJ_s]
    by_cases h : eqS tx (ltrs.getD n 0) p e = true
    · rw [if_pos h]; exact Or.inr h
    · rw [if_neg h]; exact ih (by omega)
/-- the class's word is i where the slice is its letters (i none but OTHER) -/
theorem wdI_iff {tx : Nat → Nat} {p e i : Nat} (hi : i < 19) (h0 : i ≠ 0) : wdI tx p e = i ↔ eqS tx (ltrs.getD i 0) p e = true := by
  constructor
  · intro h
    rcases wdJ_n (tx := tx) (p := p) (e := e) 19 (by omega) with h1 | h1
    · exact absurd (h.symm.trans h1) h0
    · rw [show wdJ tx p e 19 = i from h] at h1; exact h1
  · intro h
    exact wdJ_y h hi 19 (by omega) hi
