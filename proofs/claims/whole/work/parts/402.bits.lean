/-! ===== sets of bits, as natural numbers ===== -/
theorem br_ite {α : Type} (c : Prop) [d : Decidable c] (x y : Option α) : br c x y = if c then x else y := by
  by_cases h : c
  · rw [br_pos h, if_pos h]
  · rw [br_neg h, if_neg h]
theorem gd_ite {α : Type} (c : Prop) [d : Decidable c] (x : Option α) : gd c x = if c then x else none := by
  unfold gd
  by_cases h : c
  · rw [if_pos h, if_pos h]
  · rw [if_neg h, if_neg h]
theorem jn_or (a b : Nat) : jn a ||| jn b = jn (a ||| b) := by
  show Int32.ofBitVec (BitVec.ofNat 32 a) ||| Int32.ofBitVec (BitVec.ofNat 32 b) = Int32.ofBitVec (BitVec.ofNat 32 (a ||| b))
  rw [BitVec.ofNat_or]; rfl
theorem jn_and (a b : Nat) : jn a &&& jn b = jn (a &&& b) := by
  show Int32.ofBitVec (BitVec.ofNat 32 a) &&& Int32.ofBitVec (BitVec.ofNat 32 b) = Int32.ofBitVec (BitVec.ofNat 32 (a &&& b))
  rw [BitVec.ofNat_and]; rfl
theorem jn_xor (a b : Nat) : jn a ^^^ jn b = jn (a ^^^ b) := by
  show Int32.ofBitVec (BitVec.ofNat 32 a) ^^^ Int32.ofBitVec (BitVec.ofNat 32 b) = Int32.ofBitVec (BitVec.ofNat 32 (a ^^^ b))
  rw [BitVec.ofNat_xor]; rfl
theorem jn_m1 : (-1 : Int32) = jn 4294967295 := by decide +kernel
theorem qB_jn {k : Nat} (h : k < 31) : qB k = jn (2 ^ k) := by
  have : ∀ k, k < 31 → qB k = jn (2 ^ k) := by decide +kernel
  exact this k h
theorem qT_all : ∀ m, m < 9 → ∀ a, a < 512 → qT (jn a) m = if Nat.testBit a m then 1 else 0 := by decide +kernel
theorem qT_jn {a m : Nat} (ha : a < 512) (hm : m < 9) : qT (jn a) m = if Nat.testBit a m then 1 else 0 := qT_all m hm a ha
theorem qT_1 {a m : Nat} (ha : a < 512) (hm : m < 9) : (qT (jn a) m = 1) = (Nat.testBit a m = true) := by
  rw [qT_jn ha hm]
  cases Nat.testBit a m <;> simp
theorem qT_0 {a m : Nat} (ha : a < 512) (hm : m < 9) : (qT (jn a) m = 0) = (Nat.testBit a m = false) := by
  rw [qT_jn ha hm]
  cases Nat.testBit a m <;> simp
/-- of the first n numbers those with p, as bits -/
def nAll (p : Nat → Bool) : Nat → Nat := fl (fun k a => if p k = true then a ||| 2 ^ k else a) 0
theorem nAll_0 (p : Nat → Bool) : nAll p 0 = 0 := rfl
theorem nAll_s (p : Nat → Bool) (n : Nat) : nAll p (n + 1) = if p n = true then nAll p n ||| 2 ^ n else nAll p n := rfl
theorem nAll_bit (p : Nat → Bool) (n i : Nat) : (nAll p n).testBit i = (decide (i < n) && p i) := by
  induction n with
  | zero => simp [nAll_0]
  | succ n ih =>
    rw [nAll_s]
    by_cases hp : p n = true
    · rw [if_pos hp, Nat.testBit_or, ih, Nat.testBit_two_pow]
      by_cases h1 : n = i
      · subst h1; simp [hp]
      · have : (decide (i < n + 1)) = decide (i < n) := by
          by_cases h2 : i < n
          · simp [h2]; omega
          · simp [h2]; omega
        simp [h1, this]
    · rw [if_neg hp, ih]
      by_cases h1 : n = i
      · subst h1; simp [hp]
      · have : (decide (i < n + 1)) = decide (i < n) := by
          by_cases h2 : i < n
          · simp [h2]; omega
          · simp [h2]; omega
        rw [this]
theorem nAll_lt (p : Nat → Bool) (n : Nat) : nAll p n < 2 ^ n := by
  apply Nat.lt_pow_two_of_testBit
  intro i hi
  rw [nAll_bit]
  have : decide (i < n) = false := by simp; omega
  rw [this, Bool.false_and]
theorem pow_le {n k : Nat} (h : n ≤ k) : 2 ^ n ≤ 2 ^ k := Nat.pow_le_pow_right (by decide) h
theorem nAll_lt8 (p : Nat → Bool) {n : Nat} (h : n ≤ 8) : nAll p n < 256 := Nat.lt_of_lt_of_le (nAll_lt p n) (pow_le h)
theorem nAll_lt9 (p : Nat → Bool) {n : Nat} (h : n ≤ 9) : nAll p n < 512 := Nat.lt_of_lt_of_le (nAll_lt p n) (pow_le h)
theorem nAll_congr {p q : Nat → Bool} {n : Nat} (h : ∀ k, k < n → p k = q k) : nAll p n = nAll q n :=
  fl_congr (fun k x hk => by rw [h k hk])
/-- without the bit k -/
def clr (a k : Nat) : Nat := a &&& (2 ^ k ^^^ 4294967295)
theorem jn_clr {k : Nat} (a : Nat) (h : k < 31) : jn a &&& (qB k ^^^ (-1)) = jn (clr a k) := by
  rw [qB_jn h, jn_m1, jn_xor, jn_and]; rfl
theorem jn_clr2 (a k : Nat) : jn a &&& (jn (2 ^ k) ^^^ (-1)) = jn (clr a k) := by
  rw [jn_m1, jn_xor, jn_and]; rfl
theorem clr_bit {a k i : Nat} (ha : a < 4294967296) : (clr a k).testBit i = (a.testBit i && !decide (k = i)) := by
  unfold clr
  rw [Nat.testBit_and, Nat.testBit_xor, Nat.testBit_two_pow]
  have h1 : (4294967295 : Nat).testBit i = decide (i < 32) := Nat.testBit_two_pow_sub_one 32 i
  rw [h1]
  by_cases hi : i < 32
  · simp [hi]
  · have h2 : a.testBit i = false := by
      apply Nat.testBit_lt_two_pow
      exact Nat.lt_of_lt_of_le ha (pow_le (n := 32) (by omega))
    simp [h2]
theorem clr_le (a k : Nat) : clr a k ≤ a := Nat.and_le_left
/-- how many bits -/
def pcn (k : Nat) : Nat := k % 2 + k / 2 % 2 + k / 4 % 2 + k / 8 % 2 + k / 16 % 2 + k / 32 % 2 + k / 64 % 2 + k / 128 % 2 + k / 256 % 2
theorem pcn_le (k : Nat) : pcn k ≤ 9 := by unfold pcn; omega
theorem pcn_down : ∀ k, k < 512 → k ≠ 0 → pcn k = pcn (k &&& (k - 1)) + 1 ∧ k &&& (k - 1) < k := by decide +kernel
/-- the lowest bit -/
def ltz (k : Nat) : Nat := if k % 2 = 1 then 0 else if k / 2 % 2 = 1 then 1 else if k / 4 % 2 = 1 then 2 else if k / 8 % 2 = 1 then 3 else if k / 16 % 2 = 1 then 4 else if k / 32 % 2 = 1 then 5 else if k / 64 % 2 = 1 then 6 else if k / 128 % 2 = 1 then 7 else 8
theorem ltz_bit : ∀ k, k < 512 → k ≠ 0 → (k.testBit (ltz k) = true ∧ ∀ i, i < ltz k → k.testBit i = false) := by decide +kernel
set_option maxRecDepth 10000 in
theorem t_bitCount {k : Nat} (w : Wld) (h : k < 512) : F_JI_bitCount w (jn k) = some (jn (pcn k)) := by
  have : ∀ k, k < 512 → F_JI_bitCount w (jn k) = some (jn (pcn k)) := by
    simp only [F_JI_bitCount, bi_eq, Option.some.injEq]
    decide +kernel
  exact this k h
set_option maxRecDepth 10000 in
theorem t_ntz {k : Nat} (w : Wld) (h : k < 512) (h0 : k ≠ 0) : F_JI_numberOfTrailingZeros w (jn k) = some (jn (ltz k)) := by
  have : ∀ k, k < 512 → k ≠ 0 → F_JI_numberOfTrailingZeros w (jn k) = some (jn (ltz k)) := by
    simp only [F_JI_numberOfTrailingZeros, K_JI_numberOfTrailingZeros_34, K_JI_numberOfTrailingZeros_49, K_JI_numberOfTrailingZeros_62, K_JI_numberOfTrailingZeros_74, bi_eq, br_ite]
    decide +kernel
  exact this k h h0
