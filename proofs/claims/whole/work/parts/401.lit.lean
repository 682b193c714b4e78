/-! ===== numbers as they are written ===== -/
theorem li_2 : (2 : Int32) = jn 2 := rfl
theorem li_3 : (3 : Int32) = jn 3 := rfl
theorem li_4 : (4 : Int32) = jn 4 := rfl
theorem li_5 : (5 : Int32) = jn 5 := rfl
theorem li_6 : (6 : Int32) = jn 6 := rfl
theorem li_7 : (7 : Int32) = jn 7 := rfl
theorem li_8 : (8 : Int32) = jn 8 := rfl
theorem li_9 : (9 : Int32) = jn 9 := rfl
theorem li_10 : (10 : Int32) = jn 10 := rfl
theorem li_11 : (11 : Int32) = jn 11 := rfl
theorem li_12 : (12 : Int32) = jn 12 := rfl
theorem li_13 : (13 : Int32) = jn 13 := rfl
theorem li_14 : (14 : Int32) = jn 14 := rfl
theorem li_15 : (15 : Int32) = jn 15 := rfl
theorem li_16 : (16 : Int32) = jn 16 := rfl
theorem li_17 : (17 : Int32) = jn 17 := rfl
theorem li_18 : (18 : Int32) = jn 18 := rfl
theorem li_19 : (19 : Int32) = jn 19 := rfl
theorem li_20 : (20 : Int32) = jn 20 := rfl
theorem li_24 : (24 : Int32) = jn 24 := rfl
theorem li_28 : (28 : Int32) = jn 28 := rfl
theorem li_29 : (29 : Int32) = jn 29 := rfl
theorem li_30 : (30 : Int32) = jn 30 := rfl
theorem li_32 : (32 : Int32) = jn 32 := rfl
theorem li_33 : (33 : Int32) = jn 33 := rfl
theorem li_35 : (35 : Int32) = jn 35 := rfl
theorem li_36 : (36 : Int32) = jn 36 := rfl
theorem li_40 : (40 : Int32) = jn 40 := rfl
theorem li_41 : (41 : Int32) = jn 41 := rfl
theorem li_42 : (42 : Int32) = jn 42 := rfl
theorem li_43 : (43 : Int32) = jn 43 := rfl
theorem li_45 : (45 : Int32) = jn 45 := rfl
theorem li_46 : (46 : Int32) = jn 46 := rfl
theorem li_47 : (47 : Int32) = jn 47 := rfl
theorem li_48 : (48 : Int32) = jn 48 := rfl
theorem li_50 : (50 : Int32) = jn 50 := rfl
theorem li_51 : (51 : Int32) = jn 51 := rfl
theorem li_52 : (52 : Int32) = jn 52 := rfl
theorem li_53 : (53 : Int32) = jn 53 := rfl
theorem li_54 : (54 : Int32) = jn 54 := rfl
theorem li_56 : (56 : Int32) = jn 56 := rfl
theorem li_57 : (57 : Int32) = jn 57 := rfl
theorem li_59 : (59 : Int32) = jn 59 := rfl
theorem li_60 : (60 : Int32) = jn 60 := rfl
theorem li_61 : (61 : Int32) = jn 61 := rfl
theorem li_64 : (64 : Int32) = jn 64 := rfl
theorem li_80 : (80 : Int32) = jn 80 := rfl
theorem li_97 : (97 : Int32) = jn 97 := rfl
theorem li_99 : (99 : Int32) = jn 99 := rfl
theorem li_100 : (100 : Int32) = jn 100 := rfl
theorem li_122 : (122 : Int32) = jn 122 := rfl
theorem li_255 : (255 : Int32) = jn 255 := rfl
theorem li_256 : (256 : Int32) = jn 256 := rfl
theorem li_680 : (680 : Int32) = jn 680 := rfl
theorem li_700 : (700 : Int32) = jn 700 := rfl
theorem li_999 : (999 : Int32) = jn 999 := rfl
theorem li_1400 : (1400 : Int32) = jn 1400 := rfl
theorem li_1440 : (1440 : Int32) = jn 1440 := rfl
theorem li_1600 : (1600 : Int32) = jn 1600 := rfl
theorem li_2120 : (2120 : Int32) = jn 2120 := rfl
theorem li_9999 : (9999 : Int32) = jn 9999 := rfl
theorem li_32767 : (32767 : Int32) = jn 32767 := rfl
theorem li_65536 : (65536 : Int32) = jn 65536 := rfl
theorem li_100000 : (100000 : Int32) = jn 100000 := rfl
theorem jn_00 : (0 : Int32) = jn 0 := rfl
theorem jn_11 : (1 : Int32) = jn 1 := rfl
theorem jn_0a (x : Int32) : (0 : Int32) + x = x := Int32.zero_add x
theorem jn_1a (k : Nat) : jn k + 1 = jn (k + 1) := jn_add k 1
theorem jn_1b (k : Nat) : 1 + jn k = jn (1 + k) := jn_add 1 k
theorem jn_1s {k : Nat} (h : 1 ≤ k) : jn k - 1 = jn (k - 1) := jn_sub h
theorem jn_1m {k : Nat} (h : 1 ≤ k) : jn k + (-1) = jn (k - 1) := by rw [← Int32.sub_eq_add_neg]; exact jn_sub h
theorem jn_le0 {k : Nat} (h : k < 2147483648) : (jn k ≤ 0) = (k = 0) := by
  have h1 : (jn k ≤ 0) = (k ≤ 0) := jn_le (b := 0) h (by decide)
  rw [h1]
  exact propext ⟨fun h => by omega, fun h => by omega⟩
theorem jn_0le {k : Nat} (h : k < 2147483648) : ((0 : Int32) ≤ jn k) = True := by
  have h1 : ((0 : Int32) ≤ jn k) = (0 ≤ k) := jn_le (a := 0) (by decide) h
  rw [h1]
  exact eq_true (Nat.zero_le k)
theorem jn_0lt {k : Nat} (h : k < 2147483648) : ((0 : Int32) < jn k) = (0 < k) := jn_lt (a := 0) (by decide) h
theorem jn_1le {k : Nat} (h : k < 2147483648) : ((1 : Int32) ≤ jn k) = (1 ≤ k) := jn_le (a := 1) (by decide) h
theorem jn_le1 {k : Nat} (h : k < 2147483648) : (jn k ≤ 1) = (k ≤ 1) := jn_le (b := 1) h (by decide)
theorem jn_lt1 {k : Nat} (h : k < 2147483648) : (jn k < 1) = (k = 0) := by
  have h1 : (jn k < 1) = (k < 1) := jn_lt (b := 1) h (by decide)
  rw [h1]
  exact propext ⟨fun h => by omega, fun h => by omega⟩
theorem jn_1lt {k : Nat} (h : k < 2147483648) : ((1 : Int32) < jn k) = (1 < k) := jn_lt (a := 1) (by decide) h
theorem jn_e0 {k : Nat} (h : k < 2147483648) : (jn k = 0) = (k = 0) := jn_inj (b := 0) h (by decide)
theorem jn_e1 {k : Nat} (h : k < 2147483648) : (jn k = 1) = (k = 1) := jn_inj (b := 1) h (by decide)
theorem jn_em {k : Nat} (h : k < 2147483648) : (jn k = -1) = False := by
  refine eq_false (fun h1 => ?_)
  have h2 := jn_neg0 h
  rw [h1] at h2
  exact (by decide : ¬ (((-1 : Int32) < 0) = False)) h2
/-- the bit k, and whether it is set (1 or 0) -/
def qB (k : Nat) : Int32 := (1 : Int32) <<< (jn k &&& 31)
def qT (x : Int32) (k : Nat) : Int32 := (x >>> (jn k &&& 31)) &&& (1 : Int32)
theorem qB_f (k : Nat) : (1 : Int32) <<< (jn k &&& 31) = qB k := rfl
theorem qT_f (x : Int32) (k : Nat) : (x >>> (jn k &&& 31)) &&& (1 : Int32) = qT x k := rfl
theorem int32_cases (x : Int32) : (x < 0 ∧ True) ∨ ∃ k, k < 2147483648 ∧ x = jn k := by
  by_cases h : x < 0
  · exact Or.inl ⟨h, trivial⟩
  · exact Or.inr ⟨x.toNatClampNeg, x.toNatClampNeg_lt, (Int32.ofNat_toNatClampNeg x (Int32.not_lt.mp h)).symm⟩
theorem br_T {α : Type} {x y : Option α} : br True x y = x := br_pos trivial
theorem br_F {α : Type} {x y : Option α} : br False x y = y := br_neg (fun h => h)
theorem gd_T {α : Type} {x : Option α} : gd True x = x := gd_pos trivial
theorem cl_0 : Int32.toNatClampNeg 0 = 0 := rfl
theorem cl_1 : Int32.toNatClampNeg 1 = 1 := rfl
theorem vp_0 (n : Nat) : vp_in 0 n = (0 < n) := jn_vp (k := 0) (by decide)
theorem vp_1 (n : Nat) : vp_in 1 n = (1 < n) := jn_vp (k := 1) (by decide)
theorem nt_nt {p : Prop} : (¬ ¬ p) = p := propext Classical.not_not
