/-! ===== the house and a state, as both sides have them ===== -/
abbrev Hs : Type := (Nat × Nat × Int32 × Int32) × (Nat → Int32) × (Nat → Int32) × (Nat → Int32) × Nat
def hsN (h : Hs) : Nat := h.1.1
def hsM (h : Hs) : Nat := h.1.2.1
def hsT (h : Hs) : Int32 := h.1.2.2.1
def hsR (h : Hs) : Int32 := h.1.2.2.2
def hsV (h : Hs) : Nat → Int32 := h.2.1
def hsO (h : Hs) : Nat → Int32 := h.2.2.1
def hsC (h : Hs) : Nat → Int32 := h.2.2.2.1
def hsL (h : Hs) : Nat := h.2.2.2.2
/-- a state: sleep 0.., fish 8.., room 16.., met 24.., door 32.., wet 41.., tied 50, last 51, night 52 -/
abbrev Sta : Type := Nat → Int32
/-- rules: the number of values on the stack behind k steps -/
def dep (cs : Nat → Int32) : Nat → Nat
  | 0 => 0
  | k + 1 => if cs k ≤ -11 then dep cs k - 1 else if cs k = -10 then dep cs k else dep cs k + 1
/-- a step is one of those that there are, and the stack has what it needs -/
def okS (s : Int32) (d : Nat) : Prop := ((0 ≤ s ∨ (-9 ≤ s ∧ s ≤ -2)) ∧ d < 40) ∨ (s = -10 ∧ 1 ≤ d) ∨ (-18 ≤ s ∧ s ≤ -11 ∧ 2 ≤ d)
def okR (cs : Nat → Int32) (n : Nat) : Prop := ∀ k, k < n → okS (cs k) (dep cs k)
def join (s a b : Int32) : Int32 :=
  if s = -17 then a * b else if s = -16 then a - b else if s = -15 then a + b else if s = -14 then (if a = b then 1 else 0) else if s = -13 then (if a < b then 1 else 0) else if s = -12 then (if a ≠ 0 ∧ b ≠ 0 then 1 else 0) else if s = -11 then (if a ≠ 0 ∨ b ≠ 0 then 1 else 0) else (if b = 0 then 0 else a / b)
/-- what lies at the places of the stack behind k steps -/
def stk (cs vs : Nat → Int32) : Nat → Nat → Int32
  | 0 => fun _ => 0
  | k + 1 => if cs k ≤ -11 then upd (stk cs vs k) (dep cs k - 2) (join (cs k) (stk cs vs k (dep cs k - 2)) (stk cs vs k (dep cs k - 1)))
    else if cs k = -10 then upd (stk cs vs k) (dep cs k - 1) (if stk cs vs k (dep cs k - 1) = 0 then 1 else 0)
    else upd (stk cs vs k) (dep cs k) (if 0 ≤ cs k then cs k else vs (-2 - cs k).toNatClampNeg)
def sThose (h : Hs) (c : Sta) (r : Int32) : Nat := nAll (fun m => decide (c (16 + m) = r)) (hsM h)
def sVals (h : Hs) (c : Sta) (m : Nat) : Nat → Int32 := fun v =>
  if v = 0 then c m else if v = 1 then c (8 + m) else if v = 2 then hsO h m else if v = 3 then c (16 + m) else if v = 4 then hsV h (c (16 + m)).toNatClampNeg else if v = 5 then c 52 else if v = 6 then jn (pcn (sThose h c (c (16 + m)))) - 1 else qT (c 51) m
def sUp (h : Hs) (c : Sta) (m : Nat) : Bool :=
  if qT (c 50) m = 1 then false else if hsL h = 0 then decide (50 ≤ c m) else decide (0 < stk (hsC h) (sVals h c m) (hsL h) 0)
def sRis (h : Hs) (c : Sta) : Nat := nAll (sUp h c) (hsM h)
/-- who is up in the room -/
def sSing (h : Hs) (c : Sta) (r : Int32) : Nat := nAll (fun m => sUp h c m && decide (c (16 + m) = r)) (hsM h)
/-- a night, for the first j monks -/
def sPasJ (h : Hs) (c : Sta) (j : Nat) : Sta := fun i =>
  if i < 8 then (if i < j then (if sUp h c i = true then imax 0 (c i - hsT h) else imin 99 (c i + hsR h)) else c i)
  else if i < 16 then (if i - 8 < j then imax 0 (c i - 1) else c i)
  else if i < 24 then (if i - 16 < j then (if sUp h c (i - 16) = true then (if 0 < c (8 + (i - 16)) then c (41 + (c i).toNatClampNeg) else c (32 + (c i).toNatClampNeg)) else c i) else c i)
  else if i < 32 then (if i - 24 < j then (if sUp h c (i - 24) = true then c i ||| jn (clr (sSing h c (c (16 + (i - 24)))) (i - 24)) else c i) else c i)
  else c i
def sPass (h : Hs) (c : Sta) : Sta := fun i => if i = 51 then jn (sRis h c) else if i = 52 then c 52 + 1 else sPasJ h c (hsM h) i
/-- so many nights -/
def sGo (h : Hs) (c : Sta) : Nat → Sta
  | 0 => c
  | n + 1 => sPass h (sGo h c n)
/-- what is known of a house, of a state of it -/
def GdH (h : Hs) : Prop := hsN h ≤ 9 ∧ hsM h ≤ 8 ∧ (∀ r, r < hsN h → ∃ x, x < 100 ∧ hsV h r = jn x) ∧ (∀ m, m < hsM h → ∃ x, x < 4 ∧ hsO h m = jn x) ∧ hsL h ≤ 700 ∧ okR (hsC h) (hsL h)
def GdS (h : Hs) (c : Sta) : Prop := (∀ m, m < hsM h → ∃ x, x < hsN h ∧ c (16 + m) = jn x) ∧ (∀ r, r < hsN h → ∃ x, x < hsN h ∧ c (32 + r) = jn x) ∧ (∀ r, r < hsN h → ∃ x, x < hsN h ∧ c (41 + r) = jn x) ∧ (∀ m, m < hsM h → ∃ x, x < 10 ∧ c (8 + m) = jn x) ∧ (∀ m, m < hsM h → ∃ x, x < 256 ∧ c (24 + m) = jn x) ∧ (∃ x, x < 256 ∧ c 50 = jn x) ∧ (∃ x, x < 256 ∧ c 51 = jn x)
theorem sThose_lt {h : Hs} (hh : GdH h) (c : Sta) (r : Int32) : sThose h c r < 256 := nAll_lt8 _ hh.2.1
theorem sRis_lt {h : Hs} (hh : GdH h) (c : Sta) : sRis h c < 256 := nAll_lt8 _ hh.2.1
theorem sSing_lt {h : Hs} (hh : GdH h) (c : Sta) (r : Int32) : sSing h c r < 256 := nAll_lt8 _ hh.2.1
theorem imax_jn {a b : Nat} (ha : a < 2147483648) (hb : b < 2147483648) : imax (jn a) (jn b) = jn (max a b) := by
  unfold imax
  by_cases h : a < b
  · rw [if_pos (by rw [jn_lt ha hb]; exact h), Nat.max_eq_right (by omega)]
  · rw [if_neg (by rw [jn_lt ha hb]; exact h), Nat.max_eq_left (by omega)]
theorem imin_jn {a b : Nat} (ha : a < 2147483648) (hb : b < 2147483648) : imin (jn a) (jn b) = jn (min a b) := by
  unfold imin
  by_cases h : b < a
  · rw [if_pos (by rw [jn_lt hb ha]; exact h), Nat.min_eq_right (by omega)]
  · rw [if_neg (by rw [jn_lt hb ha]; exact h), Nat.min_eq_left (by omega)]
theorem imax_dec : ∀ x, x < 10 → imax 0 (jn x - 1) = jn (x - 1) := by decide +kernel
theorem sPass_good {h : Hs} (hh : GdH h) {c : Sta} (g : GdS h c) : GdS h (sPass h c) := by
  obtain ⟨g1, g2, g3, g4, g5, g6, g7⟩ := g
  have hN := hh.1
  have hM := hh.2.1
  refine ⟨fun m hm => ?_, fun r hr => ?_, fun r hr => ?_, fun m hm => ?_, fun m hm => ?_, ?_, ?_⟩
  · obtain ⟨x, hx, e⟩ := g1 m hm
    have i1 : ¬ (16 + m = 51) := by omega
    have i2 : ¬ (16 + m = 52) := by omega
    have i3 : ¬ (16 + m < 8) := by omega
    have i4 : ¬ (16 + m < 16) := by omega
    have i5 : 16 + m < 24 := by omega
    have i6 : 16 + m - 16 = m := by omega
    simp only [sPass, sPasJ, i1, i2, i3, i4, i5, i6, if_true, if_false, hm]
    rw [e, jn_clamp (by omega)]
    split
    · split
      · exact g3 x hx
      · exact g2 x hx
    · exact ⟨x, hx, rfl⟩
  · have i1 : ¬ (32 + r = 51) := by omega
    have i2 : ¬ (32 + r = 52) := by omega
    have i3 : ¬ (32 + r < 8) := by omega
    have i4 : ¬ (32 + r < 16) := by omega
    have i5 : ¬ (32 + r < 24) := by omega
    have i6 : ¬ (32 + r < 32) := by omega
    simp only [sPass, sPasJ, i1, i2, i3, i4, i5, i6, if_false]
    exact g2 r hr
  · have i1 : ¬ (41 + r = 51) := by omega
    have i2 : ¬ (41 + r = 52) := by omega
    have i3 : ¬ (41 + r < 8) := by omega
    have i4 : ¬ (41 + r < 16) := by omega
    have i5 : ¬ (41 + r < 24) := by omega
    have i6 : ¬ (41 + r < 32) := by omega
    simp only [sPass, sPasJ, i1, i2, i3, i4, i5, i6, if_false]
    exact g3 r hr
  · obtain ⟨x, hx, e⟩ := g4 m hm
    have i1 : ¬ (8 + m = 51) := by omega
    have i2 : ¬ (8 + m = 52) := by omega
    have i3 : ¬ (8 + m < 8) := by omega
    have i4 : 8 + m < 16 := by omega
    have i6 : 8 + m - 8 = m := by omega
    simp only [sPass, sPasJ, i1, i2, i3, i4, i6, if_true, if_false, hm]
    rw [e, imax_dec x hx]
    exact ⟨x - 1, by omega, rfl⟩
  · obtain ⟨x, hx, e⟩ := g5 m hm
    have i1 : ¬ (24 + m = 51) := by omega
    have i2 : ¬ (24 + m = 52) := by omega
    have i3 : ¬ (24 + m < 8) := by omega
    have i4 : ¬ (24 + m < 16) := by omega
    have i5 : ¬ (24 + m < 24) := by omega
    have i6 : 24 + m < 32 := by omega
    have i7 : 24 + m - 24 = m := by omega
    simp only [sPass, sPasJ, i1, i2, i3, i4, i5, i6, i7, if_true, if_false, hm]
    rw [e]
    split
    · rw [jn_or]
      refine ⟨_, Nat.or_lt_two_pow (n := 8) hx ?_, rfl⟩
      exact Nat.lt_of_le_of_lt (clr_le _ _) (sSing_lt hh c _)
    · exact ⟨x, hx, rfl⟩
  · have : sPass h c 50 = c 50 := by simp [sPass, sPasJ]
    rw [this]
    exact g6
  · have : sPass h c 51 = jn (sRis h c) := by simp [sPass]
    rw [this]
    exact ⟨_, sRis_lt hh c, rfl⟩
theorem sGo_good {h : Hs} (hh : GdH h) {c : Sta} (g : GdS h c) (n : Nat) : GdS h (sGo h c n) := by
  induction n with
  | zero => exact g
  | succ n ih => exact sPass_good hh ih
/-! what is sung, who is short, who sings alone: of the state ahead of the night -/
def sMatJ (h : Hs) (c : Sta) : Nat → Int32 := fl (fun m a => if sUp h c m = true then a + hsV h (c (16 + m)).toNatClampNeg else a) 0
def sMat (h : Hs) (c : Sta) : Int32 := sMatJ h c (hsM h)
/-- the voices of those in the set -/
def sVoiJ (h : Hs) (p : Nat → Bool) : Nat → Nat := fl (fun m a => if p m = true then a ||| 2 ^ (hsO h m).toNatClampNeg else a) 0
def sVoi (h : Hs) (p : Nat → Bool) : Nat := sVoiJ h p (hsM h)
def sAllV (h : Hs) : Nat := sVoi h (fun _ => true)
def sShort (h : Hs) (c : Sta) : Nat := sAllV h &&& (sVoi h (sUp h c) ^^^ 4294967295)
def sLonP (h : Hs) (c : Sta) : Nat → Bool := fun m => sUp h c m && decide (clr (sSing h c (c (16 + m))) m = 0)
def sLon (h : Hs) (c : Sta) : Nat := nAll (sLonP h c) (hsM h)
/-- how many sing the verse -/
def sSungJ (h : Hs) (c : Sta) (v : Nat) : Nat → Int32 := fl (fun m a => if sUp h c m = true ∧ hsV h (c (16 + m)).toNatClampNeg = jn v then a + 1 else a) 0
def sSung (h : Hs) (c : Sta) (v : Nat) : Int32 := sSungJ h c v (hsM h)
theorem sVoiJ_lt {h : Hs} (hh : GdH h) (p : Nat → Bool) : ∀ n, n ≤ hsM h → sVoiJ h p n < 16 := by
  intro n
  induction n with
  | zero => intro _; exact (by decide : 0 < 16)
  | succ n ih =>
    intro hn
    have h1 := ih (by omega)
    show (if p n = true then sVoiJ h p n ||| 2 ^ (hsO h n).toNatClampNeg else sVoiJ h p n) < 16
    split
    · obtain ⟨x, hx, e⟩ := hh.2.2.2.1 n (by omega)
      rw [e, jn_clamp (by omega)]
      exact Nat.or_lt_two_pow (n := 4) h1 (Nat.pow_lt_pow_right (by decide) hx)
    · exact h1
theorem sVoi_lt {h : Hs} (hh : GdH h) (p : Nat → Bool) : sVoi h p < 16 := sVoiJ_lt hh p _ (Nat.le_refl _)
theorem sVoi_congr {h : Hs} {p q : Nat → Bool} (e : ∀ m, m < hsM h → p m = q m) : sVoi h p = sVoi h q :=
  fl_congr (fun k x hk => by rw [e k hk])
theorem nAll_and (p q : Nat → Bool) (n : Nat) : nAll p n &&& nAll q n = nAll (fun m => p m && q m) n := by
  apply Nat.eq_of_testBit_eq
  intro i
  rw [Nat.testBit_and, nAll_bit, nAll_bit, nAll_bit]
  cases decide (i < n) <;> simp
/-! codes -/
theorem i32_cases {s : Int32} {n : Int} (h : s.toInt = n) (x : Int32) (hx : x.toInt = n) : s = x := Int32.toInt_inj.mp (h.trans hx.symm)
def pushN (s : Int32) : Prop := 0 ≤ s ∧ -11 < s ∧ ¬ s = -10 ∧ ¬ s ≤ -11 ∧ ¬ s < 0
theorem pushN_of {s : Int32} (h : 0 ≤ s) : pushN s := by
  have h0 : (0 : Int) ≤ s.toInt := Int32.le_iff_toInt_le.mp h
  refine ⟨h, Int32.lt_iff_toInt_lt.mpr ?_, fun e => ?_, fun e => ?_, fun e => ?_⟩
  · have : (-11 : Int32).toInt = -11 := by decide
    omega
  · rw [e] at h0; exact absurd h0 (by decide)
  · have h1 := Int32.le_iff_toInt_le.mp e
    have : (-11 : Int32).toInt = -11 := by decide
    omega
  · have h1 := Int32.lt_iff_toInt_lt.mp e
    have : (0 : Int32).toInt = 0 := by decide
    omega
theorem pushV_of {s : Int32} (h1 : -9 ≤ s) (h2 : s ≤ -2) : ∃ v, v < 8 ∧ s = -2 - jn v := by
  have a1 := Int32.le_iff_toInt_le.mp h1
  have a2 := Int32.le_iff_toInt_le.mp h2
  have e1 : (-9 : Int32).toInt = -9 := by decide
  have e2 : (-2 : Int32).toInt = -2 := by decide
  rw [e1] at a1
  rw [e2] at a2
  refine ⟨(-2 - s.toInt).toNat, by omega, ?_⟩
  have h3 : s.toInt = -2 ∨ s.toInt = -3 ∨ s.toInt = -4 ∨ s.toInt = -5 ∨ s.toInt = -6 ∨ s.toInt = -7 ∨ s.toInt = -8 ∨ s.toInt = -9 := by omega
  rcases h3 with h | h | h | h | h | h | h | h <;> rw [h]
  · exact i32_cases h (-2 - jn 0) (by decide)
  · exact i32_cases h (-2 - jn 1) (by decide)
  · exact i32_cases h (-2 - jn 2) (by decide)
  · exact i32_cases h (-2 - jn 3) (by decide)
  · exact i32_cases h (-2 - jn 4) (by decide)
  · exact i32_cases h (-2 - jn 5) (by decide)
  · exact i32_cases h (-2 - jn 6) (by decide)
  · exact i32_cases h (-2 - jn 7) (by decide)
theorem pushV_facts : ∀ v, v < 8 → (-11 < (-2 - jn v : Int32) ∧ ¬ (-2 - jn v : Int32) = -10 ∧ ¬ (-2 - jn v : Int32) ≤ -11 ∧ (-2 - jn v : Int32) < 0 ∧ ¬ (0 : Int32) ≤ (-2 - jn v : Int32) ∧ -2 - (-2 - jn v : Int32) = jn v) := by decide +kernel
theorem binS_of {s : Int32} (h1 : -18 ≤ s) (h2 : s ≤ -11) : s = -11 ∨ s = -12 ∨ s = -13 ∨ s = -14 ∨ s = -15 ∨ s = -16 ∨ s = -17 ∨ s = -18 := by
  have a1 := Int32.le_iff_toInt_le.mp h1
  have a2 := Int32.le_iff_toInt_le.mp h2
  have e1 : (-18 : Int32).toInt = -18 := by decide
  have e2 : (-11 : Int32).toInt = -11 := by decide
  rw [e1] at a1
  rw [e2] at a2
  have h3 : s.toInt = -11 ∨ s.toInt = -12 ∨ s.toInt = -13 ∨ s.toInt = -14 ∨ s.toInt = -15 ∨ s.toInt = -16 ∨ s.toInt = -17 ∨ s.toInt = -18 := by omega
  rcases h3 with h | h | h | h | h | h | h | h
  · exact Or.inl (i32_cases h (-11) (by decide))
  · exact Or.inr (Or.inl (i32_cases h (-12) (by decide)))
  · exact Or.inr (Or.inr (Or.inl (i32_cases h (-13) (by decide))))
  · exact Or.inr (Or.inr (Or.inr (Or.inl (i32_cases h (-14) (by decide)))))
  · exact Or.inr (Or.inr (Or.inr (Or.inr (Or.inl (i32_cases h (-15) (by decide))))))
  · exact Or.inr (Or.inr (Or.inr (Or.inr (Or.inr (Or.inl (i32_cases h (-16) (by decide)))))))
  · exact Or.inr (Or.inr (Or.inr (Or.inr (Or.inr (Or.inr (Or.inl (i32_cases h (-17) (by decide))))))))
  · exact Or.inr (Or.inr (Or.inr (Or.inr (Or.inr (Or.inr (Or.inr (i32_cases h (-18) (by decide))))))))
/-- the three kinds of steps: what is pushed, not, an operator of two -/
theorem okS_cases {s : Int32} {d : Nat} (h : okS s d) : ((pushN s ∨ ∃ v, v < 8 ∧ s = -2 - jn v) ∧ d < 40) ∨ (s = -10 ∧ 1 ≤ d) ∨ (s ≤ -11 ∧ ¬ -11 < s ∧ 2 ≤ d ∧ (s = -11 ∨ s = -12 ∨ s = -13 ∨ s = -14 ∨ s = -15 ∨ s = -16 ∨ s = -17 ∨ s = -18)) := by
  rcases h with ⟨h1 | ⟨h1, h2⟩, h3⟩ | ⟨h1, h2⟩ | ⟨h1, h2, h3⟩
  · exact Or.inl ⟨Or.inl (pushN_of h1), h3⟩
  · exact Or.inl ⟨Or.inr (pushV_of h1 h2), h3⟩
  · exact Or.inr (Or.inl ⟨h1, h2⟩)
  · refine Or.inr (Or.inr ⟨h2, fun h => ?_, h3, binS_of h1 h2⟩)
    have a1 := Int32.lt_iff_toInt_lt.mp h
    have a2 := Int32.le_iff_toInt_le.mp h2
    omega
theorem dep_le {cs : Nat → Int32} {n : Nat} (h : okR cs n) : ∀ k, k ≤ n → dep cs k ≤ 40 := by
  intro k
  induction k with
  | zero => intro _; exact Nat.zero_le _
  | succ k ih =>
    intro hk
    have h1 := ih (by omega)
    rw [dep]
    split
    · omega
    · split
      · exact h1
      · rename_i e1 e2
        rcases okS_cases (h k (by omega)) with ⟨_, h3⟩ | ⟨h3, _⟩ | ⟨h3, _⟩
        · omega
        · exact absurd h3 e2
        · exact absurd h3 e1
theorem dep_pos {cs : Nat → Int32} {n : Nat} (h : okR cs n) : ∀ k, k ≤ n → 1 ≤ k → 1 ≤ dep cs k := by
  intro k
  induction k with
  | zero => intro _ h; omega
  | succ k ih =>
    intro hk _
    rw [dep]
    rcases okS_cases (h k (by omega)) with ⟨h2, h3⟩ | ⟨h2, h3⟩ | ⟨h2, _, h3, _⟩
    · have e : ¬ cs k ≤ -11 ∧ ¬ cs k = -10 := by
        rcases h2 with h2 | ⟨v, hv, h2⟩
        · exact ⟨h2.2.2.2.1, h2.2.2.1⟩
        · rw [h2]; exact ⟨(pushV_facts v hv).2.2.1, (pushV_facts v hv).2.1⟩
      rw [if_neg e.1, if_neg e.2]
      omega
    · have e : ¬ cs k ≤ -11 := by rw [h2]; decide
      rw [if_neg e, if_pos h2]
      exact h3
    · rw [if_pos h2]; omega
/-! a night, monk by monk -/
theorem sPasJ_0 (h : Hs) (c : Sta) : sPasJ h c 0 = c := by
  funext i
  unfold sPasJ
  repeat' split
  all_goals first | rfl | (exfalso; omega)
theorem sPasJ_hi (h : Hs) (c : Sta) (k : Nat) {i : Nat} (hi : 32 ≤ i) : sPasJ h c k i = c i := by
  unfold sPasJ
  rw [if_neg (by omega), if_neg (by omega), if_neg (by omega), if_neg (by omega)]
theorem sPasJ_a (h : Hs) (c : Sta) {k m : Nat} (hm : m < 8) (hk : k ≤ m) : sPasJ h c k m = c m := by
  unfold sPasJ
  rw [if_pos hm, if_neg (by omega)]
theorem sPasJ_b (h : Hs) (c : Sta) {k m : Nat} (hm : m < 8) (hk : k ≤ m) : sPasJ h c k (8 + m) = c (8 + m) := by
  unfold sPasJ
  rw [if_neg (by omega), if_pos (by omega), if_neg (by omega)]
theorem sPasJ_c (h : Hs) (c : Sta) {k m : Nat} (hm : m < 8) (hk : k ≤ m) : sPasJ h c k (16 + m) = c (16 + m) := by
  unfold sPasJ
  rw [if_neg (by omega), if_neg (by omega), if_pos (by omega), if_neg (by omega)]
theorem sPasJ_d (h : Hs) (c : Sta) {k m : Nat} (hm : m < 8) (hk : k ≤ m) : sPasJ h c k (24 + m) = c (24 + m) := by
  unfold sPasJ
  rw [if_neg (by omega), if_neg (by omega), if_neg (by omega), if_pos (by omega), if_neg (by omega)]
theorem upd_1 (f : Nat → Int32) (k : Nat) (v : Int32) : upd f k v k = v := if_pos rfl
theorem upd_2 (f : Nat → Int32) {k j : Nat} (v : Int32) (h : j ≠ k) : upd f k v j = f j := if_neg h
/-- where i isn't one of monk k's own -/
theorem sPasJ_ot (h : Hs) (c : Sta) {k i : Nat} (h0 : i ≠ k) (h1 : i ≠ 8 + k) (h2 : i ≠ 16 + k) (h3 : i ≠ 24 + k) : sPasJ h c (k + 1) i = sPasJ h c k i := by
  unfold sPasJ
  by_cases a1 : i < 8
  · rw [if_pos a1, if_pos a1]
    by_cases a : i < k
    · rw [if_pos a, if_pos (by omega)]
    · rw [if_neg a, if_neg (by omega)]
  rw [if_neg a1, if_neg a1]
  by_cases a2 : i < 16
  · rw [if_pos a2, if_pos a2]
    by_cases a : i - 8 < k
    · rw [if_pos a, if_pos (by omega)]
    · rw [if_neg a, if_neg (by omega)]
  rw [if_neg a2, if_neg a2]
  by_cases a3 : i < 24
  · rw [if_pos a3, if_pos a3]
    by_cases a : i - 16 < k
    · rw [if_pos a, if_pos (by omega)]
    · rw [if_neg a, if_neg (by omega)]
  rw [if_neg a3, if_neg a3]
  by_cases a4 : i < 32
  · rw [if_pos a4, if_pos a4]
    by_cases a : i - 24 < k
    · rw [if_pos a, if_pos (by omega)]
    · rw [if_neg a, if_neg (by omega)]
  rw [if_neg a4, if_neg a4]
theorem sPasJ_a1 (h : Hs) (c : Sta) {k m : Nat} (hm : m < 8) (hk : m < k) : sPasJ h c k m = if sUp h c m = true then imax 0 (c m - hsT h) else imin 99 (c m + hsR h) := by
  unfold sPasJ
  rw [if_pos hm, if_pos hk]
theorem sPasJ_b1 (h : Hs) (c : Sta) {k m : Nat} (hm : m < 8) (hk : m < k) : sPasJ h c k (8 + m) = imax 0 (c (8 + m) - 1) := by
  unfold sPasJ
  rw [if_neg (by omega), if_pos (by omega), if_pos (by omega)]
theorem sPasJ_c1 (h : Hs) (c : Sta) {k m : Nat} (hm : m < 8) (hk : m < k) : sPasJ h c k (16 + m) = if sUp h c m = true then (if 0 < c (8 + m) then c (41 + (c (16 + m)).toNatClampNeg) else c (32 + (c (16 + m)).toNatClampNeg)) else c (16 + m) := by
  have e : 16 + m - 16 = m := by omega
  unfold sPasJ
  rw [if_neg (by omega), if_neg (by omega), if_pos (by omega), if_pos (by omega), e]
theorem sPasJ_d1 (h : Hs) (c : Sta) {k m : Nat} (hm : m < 8) (hk : m < k) : sPasJ h c k (24 + m) = if sUp h c m = true then c (24 + m) ||| jn (clr (sSing h c (c (16 + m))) m) else c (24 + m) := by
  have e : 24 + m - 24 = m := by omega
  unfold sPasJ
  rw [if_neg (by omega), if_neg (by omega), if_neg (by omega), if_pos (by omega), if_pos (by omega), e]
theorem sPasJ_up {h : Hs} {c : Sta} {k : Nat} (hk : k < 8) (hu : sUp h c k = true) {a b d e : Int32} (ha : a = c (24 + k) ||| jn (clr (sSing h c (c (16 + k))) k)) (hb : b = imax 0 (c k - hsT h)) (hd : d = if 0 < c (8 + k) then c (41 + (c (16 + k)).toNatClampNeg) else c (32 + (c (16 + k)).toNatClampNeg)) (he : e = imax 0 (c (8 + k) - 1)) :
    upd (upd (upd (upd (sPasJ h c k) (24 + k) a) k b) (16 + k) d) (8 + k) e = sPasJ h c (k + 1) := by
  funext i
  by_cases i1 : i = 8 + k
  · subst i1; rw [upd_1, sPasJ_b1 h c hk (by omega), he]
  rw [upd_2 _ _ i1]
  by_cases i2 : i = 16 + k
  · subst i2; rw [upd_1, sPasJ_c1 h c hk (by omega), if_pos hu, hd]
  rw [upd_2 _ _ i2]
  by_cases i3 : i = k
  · subst i3; rw [upd_1, sPasJ_a1 h c hk (by omega), if_pos hu, hb]
  rw [upd_2 _ _ i3]
  by_cases i4 : i = 24 + k
  · subst i4; rw [upd_1, sPasJ_d1 h c hk (by omega), if_pos hu, ha]
  rw [upd_2 _ _ i4, sPasJ_ot h c i3 i1 i2 i4]
theorem sPasJ_dn {h : Hs} {c : Sta} {k : Nat} (hk : k < 8) (hu : ¬ sUp h c k = true) {b e : Int32} (hb : b = imin 99 (c k + hsR h)) (he : e = imax 0 (c (8 + k) - 1)) :
    upd (upd (sPasJ h c k) k b) (8 + k) e = sPasJ h c (k + 1) := by
  funext i
  by_cases i1 : i = 8 + k
  · subst i1; rw [upd_1, sPasJ_b1 h c hk (by omega), he]
  rw [upd_2 _ _ i1]
  by_cases i3 : i = k
  · subst i3; rw [upd_1, sPasJ_a1 h c hk (by omega), if_neg hu, hb]
  rw [upd_2 _ _ i3]
  by_cases i2 : i = 16 + k
  · subst i2; rw [sPasJ_c1 (k := k + 1) h c hk (by omega), if_neg hu, sPasJ_c h c hk (Nat.le_refl k)]
  by_cases i4 : i = 24 + k
  · subst i4; rw [sPasJ_d1 (k := k + 1) h c hk (by omega), if_neg hu, sPasJ_d h c hk (Nat.le_refl k)]
  rw [sPasJ_ot h c i3 i1 i2 i4]
