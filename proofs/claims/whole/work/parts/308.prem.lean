/-! ===== what the Statement gives of the start ===== -/
def FL1 : List Cond := flatC (Cond.and given_1 narrow_1)
def wxS : List Nat := [105, 108, 111, 114, 135, 138, 141, 100, 143, 146, 149, 152, 117, 120, 123, 132, 129, 126, 94]
def sxS : List Nat := [544, 553, 563, 572, 583, 593, 602, 481, 612, 622, 632, 640, 490, 500, 510, 521, 529, 537, 477]
def exS : List Nat := [4, 40, 103, 116, 130, 145, 46, 53, 61, 91, 80, 70, 161, 178, 196, 215, 235, 256, 278]
def nxS : List Nat := [0, 45, 108, 121, 135, 150, 51, 58, 66, 96, 85, 75, 166, 183, 201, 220, 240, 261, 283, 45, 0, 109, 122, 136, 151, 52, 59, 67, 97, 86, 76, 167, 184, 202, 221, 241, 262, 284, 108, 109, 0, 129, 143, 158, 110, 111, 112, 115, 114, 113, 174, 191, 209, 228, 248, 269, 291, 121, 122, 129, 0, 144, 159, 123, 124, 125, 128, 127, 126, 175, 192, 210, 229, 249, 270, 292, 135, 136, 143, 144, 0, 160, 137, 138, 139, 142, 141, 140, 176, 193, 211, 230, 250, 271, 293, 150, 151, 158, 159, 160, 0, 152, 153, 154, 157, 156, 155, 177, 194, 212, 231, 251, 272, 294, 51, 52, 110, 123, 137, 152, 0, 60, 68, 98, 87, 77, 168, 185, 203, 222, 242, 263, 285, 58, 59, 111, 124, 138, 153, 60, 0, 69, 99, 88, 78, 169, 186, 204, 223, 243, 264, 286, 66, 67, 112, 125, 139, 154, 68, 69, 0, 100, 89, 79, 170, 187, 205, 224, 244, 265, 287, 96, 97, 115, 128, 142, 157, 98, 99, 100, 0, 102, 101, 173, 190, 208, 227, 247, 268, 290, 85, 86, 114, 127, 141, 156, 87, 88, 89, 102, 0, 90, 172, 189, 207, 226, 246, 267, 289, 75, 76, 113, 126, 140, 155, 77, 78, 79, 101, 90, 0, 171, 188, 206, 225, 245, 266, 288, 166, 167, 174, 175, 176, 177, 168, 169, 170, 173, 172, 171, 0, 195, 213, 232, 252, 273, 295, 183, 184, 191, 192, 193, 194, 185, 186, 187, 190, 189, 188, 195, 0, 214, 233, 253, 274, 296, 201, 202, 209, 210, 211, 212, 203, 204, 205, 208, 207, 206, 213, 214, 0, 234, 254, 275, 297, 220, 221, 228, 229, 230, 231, 222, 223, 224, 227, 226, 225, 232, 233, 234, 0, 255, 276, 298, 240, 241, 248, 249, 250, 251, 242, 243, 244, 247, 246, 245, 252, 253, 254, 255, 0, 277, 299, 261, 262, 269, 270, 271, 272, 263, 264, 265, 268, 267, 266, 273, 274, 275, 276, 277, 0, 300, 283, 284, 291, 292, 293, 294, 285, 286, 287, 290, 289, 288, 295, 296, 297, 298, 299, 300, 0]
def lxS : List Nat := [150, 758, 1845, 1846, 1847, 1848, 777, 783, 789, 843, 841, 811, 1849, 1850, 1851, 1852, 1853, 1854, 1855]
def mxS : List Nat := [499, 509, 520, 489, 543, 536, 528, 552, 562, 571, 582, 592, 601, 611, 489, 621, 631, 639, 648]
def rxS : List Nat := [1456, 1457, 1458, 1209, 1509, 1508, 1487, 1202, 1203, 1204, 1205, 1206, 1207, 1208, 1209, 1210, 1211, 1212, 1213]
def tmW (i : Nat) : Term := .string "DreamMatins$Word" (wxS.getD i 0)
def stE (i : Nat) : Term := .static "DreamMatins$Word" (nmE.getD i "") "LDreamMatins$Word;"
def vlS (i : Nat) : Term := .field (tmW i) "java/lang/String" "value" "[B"
set_option maxRecDepth 100000 in
theorem p_s1 : ∀ i, i < 19 → FL1[sxS.getD i 0]? = some (.exactly (tmW i) "java/lang/String") := by decide +kernel
set_option maxRecDepth 100000 in
theorem p_s2 : ∀ i, i < 19 → FL1[sxS.getD i 0 + 1]? = some (.eq (.field (tmW i) "java/lang/String" "coder" "B") (.int 0)) := by decide +kernel
set_option maxRecDepth 100000 in
theorem p_s3 : ∀ i, i < 19 → FL1[sxS.getD i 0 + 2]? = some (.arrayOf (vlS i) .byte) := by decide +kernel
set_option maxRecDepth 100000 in
theorem p_s4 : ∀ i, i < 19 → FL1[sxS.getD i 0 + 3]? = some (.eq (.length (vlS i)) (.int (Int32.ofNat (lenJS.getD i 0)))) := by decide +kernel
set_option maxRecDepth 100000 in
theorem p_s5 : ∀ i, i < 19 → ∀ j, j < lenJS.getD i 0 → FL1[sxS.getD i 0 + 4 + j]? = some (.eq (.elem (vlS i) (.int (Int32.ofNat j))) (.int ((bytJS.getD i []).getD j 0))) := by decide +kernel
set_option maxRecDepth 100000 in
theorem p_e1 : ∀ i, i < 19 → FL1[exS.getD i 0]? = some (.exactly (stE i) "DreamMatins$Word") := by decide +kernel
set_option maxRecDepth 100000 in
theorem p_e3 : ∀ i, i < 19 → FL1[exS.getD i 0 + 2]? = some (.eq (.field (stE i) "DreamMatins$Word" "letters" "Ljava/lang/String;") (tmW (ltrs.getD i 0))) := by decide +kernel
set_option maxRecDepth 100000 in
theorem p_e4 : ∀ i, i < 19 → FL1[exS.getD i 0 + 3]? = some (.eq (.field (stE i) "DreamMatins$Word" "voice" "I") (.int (voE.getD i 0))) := by decide +kernel
set_option maxRecDepth 100000 in
theorem p_e5 : ∀ i, i < 19 → FL1[exS.getD i 0 + 4]? = some (.eq (.field (stE i) "DreamMatins$Word" "value" "I") (.int (vaE.getD i 0))) := by decide +kernel
set_option maxRecDepth 100000 in
theorem p_ne : ∀ i, i < 19 → ∀ j, j < 19 → i ≠ j → FL1[nxS.getD (19 * i + j) 0]? = some (.not (.eq (stE i) (stE j))) ∨ FL1[nxS.getD (19 * i + j) 0]? = some (.not (.eq (stE j) (stE i))) := by decide +kernel
set_option maxRecDepth 100000 in
theorem p_le : ∀ i, i < 19 → lw_tbl[lxS.getD i 0]? = some (.laysStatic "DreamMatins$Word" (nmE.getD i "") "LDreamMatins$Word;") := by decide +kernel
set_option maxRecDepth 100000 in
theorem p_w : ∀ i, i < 19 → FL1[12 + 4 + i]? = some (.eq (.elem (.static "DreamMatins" "WORDS" "[LDreamMatins$Word;") (.int (Int32.ofNat i))) (stE i)) := by decide +kernel
set_option maxRecDepth 100000 in
theorem p_m : ∀ i, i < (LDS ++ LDK).length → FL1[mxS.getD i 0]? = some (.eq (.string "DreamMatinsModel" ((LDS ++ LDK).getD i (0, 0, "", 0)).2.1) (tmW ((LDS ++ LDK).getD i (0, 0, "", 0)).2.2.2)) ∧ lw_tbl[rxS.getD i 0]? = some (.stringRef "DreamMatinsModel" ((LDS ++ LDK).getD i (0, 0, "", 0)).2.1 ((LDS ++ LDK).getD i (0, 0, "", 0)).2.2.1) ∧ ((LDS ++ LDK).getD i (0, 0, "", 0)).1 = 10 ∧ ((LDS ++ LDK).getD i (0, 0, "", 0)).2.2.2 < 19 := by decide +kernel
theorem p_lt : ∀ i, i < 19 → lenJS.getD i 0 < 100 ∧ ltrs.getD i 0 < 19 := by decide +kernel
theorem p_un : ∀ i, i < 19 → ∀ j, j < 19 → lenJS.getD i 0 = lenJS.getD j 0 → (∀ k, k < lenJS.getD i 0 → (bytJS.getD i []).getD k 0 = (bytJS.getD j []).getD k 0) → i = j := by decide +kernel
/-- all that is never written, apart from a set of cells -/
def KA (adE adS : Nat → Nat) (A : Nat → Prop) (U : State) (H : Heap) : Prop :=
  vx_Zq Bundle.tN "UNASSIGNED_STACK" Bundle.steD A U H ∧ vx_Zq Bundle.tN "SUPPRESSED_SENTINEL" Bundle.listD A U H ∧ (∀ w ∈ NGW, va_Nw w U) ∧
  va_En "DreamMatins$Word" "LDreamMatins$Word;" nmE FE adE A U H ∧ va_Ef 19 "DreamMatins$Word" "letters" "Ljava/lang/String;" (fun i => .ref (adS (ltrs.getD i 0))) adE A U H ∧
  va_Z "DreamMatins" "WORDS" "[LDreamMatins$Word;" (.ref (adS 999)) A U H ∧ va_T (.object "DreamMatins$Word") (adS 999) 19 (fun i => .ref (adE i)) A U H ∧
  vk_S 19 lenJS bytJS adS (fun i => adS (1000 + i)) A U H ∧ va_Nw WNest U ∧ (∀ q ∈ LDS ++ LDK, vk_R (RN q.1) q.2.1 q.2.2.1 (adS q.2.2.2) U) ∧
  va_Z "java/lang/String" "COMPACT_STRINGS" "Z" (.int 1) A U H ∧ va_Zq "jdk/internal/util/Preconditions" "SIOOBE_FORMATTER" "Ljava/util/function/BiFunction;" A U H
theorem KA.kst {adE adS : Nat → Nat} {A : Nat → Prop} {U : State} {H : Heap} {Z : ZT} (h : KA adE adS A U H) (hA : ∀ q, AW Z q → A q) (hE : Z.2.2.1 = adE) (hS : Z.2.2.2.1 = adS) : Kst Z U H := by
  subst hE
  subst hS
  obtain ⟨h1, h2, h3, h4, h5, h6, h7, h8, h9, h10, h11, h12⟩ := h
  exact ⟨h1.narrow hA, h2.narrow hA, h3, h4.narrow hA, h5.narrow hA, h6.narrow hA, h7.narrow hA, h8.narrow hA, h9, fun q hq => h10 q (List.mem_append_left _ hq), h11.narrow hA, h12.narrow hA⟩
theorem KA.ni {adE adS : Nat → Nat} {U : State} {H : Heap} {sz0 : Nat} (h : KA adE adS (fun q => sz0 ≤ q) U H) (hn : ∀ w ∈ NGI, va_Nw w U) (ho : va_AO "java/lang/String" U) : NI adE adS sz0 U H := by
  obtain ⟨h1, h2, h3, h4, h5, h6, h7, h8, h9, h10, h11, h12⟩ := h
  exact ⟨hn, (h4.1 0 (by decide)).1, h8, fun q hq => h10 q (List.mem_append_right _ hq), ho⟩
/-- one String lies in one place -/
theorem str_inj {adK adV : Nat → Nat} {A : Nat → Prop} {U : State} {H : Heap} (h : ∀ i : Nat, i < 19 → va_OF "java/lang/String" "value" "[B" (.ref (adV i)) (adK i) A U H ∧ va_T .byte (adV i) (lenJS.getD i 0) (fun j => .int ((bytJS.getD i []).getD j 0)) A U H) : ∀ i j : Nat, i < 19 → j < 19 → adK i = adK j → i = j := by
  intro i j hi hj he
  obtain ⟨⟨cf, k, x, f, cell, a1, a2, a3, a4, a5, a6⟩, c1, b1, b2, b3, b4, b5, b6, b7⟩ := h i hi
  obtain ⟨⟨cf', k', x', f', cell', a1', a2', a3', a4', a5', a6'⟩, c1', b1', b2', b3', b4', b5', b6', b7'⟩ := h j hj
  rw [a1] at a1'
  cases a1'
  rw [he, a3'] at a3
  cases a3
  rw [a5] at a5'
  have hv : adV i = adV j := by
    have := Option.some.inj a5'
    exact Value.ref.inj this
  rw [hv, b1'] at b1
  cases b1
  have hl : lenJS.getD i 0 = lenJS.getD j 0 := by
    rw [b5] at b5'
    have h1 := (p_lt i hi).1
    have h2 := (p_lt j hj).1
    have h3 := congrArg Int32.toNatClampNeg b5'
    have k1 : ∀ n, n < 100 → Int32.toNatClampNeg (Int32.ofNat n) = n := by decide +kernel
    rw [k1 _ h1, k1 _ h2] at h3
    exact h3
  refine p_un i hi j hj hl (fun k hk => ?_)
  have h1 := b6 k hk
  have h2 := b6' k (by rw [← hl]; exact hk)
  rw [h1] at h2
  exact Value.int.inj (Option.some.inj h2)
set_option maxRecDepth 100000 in
set_option maxHeartbeats 4000000 in
theorem prem_of {b : Nat} {s : State} (hts : ∀ w ∈ lw_tbl, w.before #[Value.ref b] s = true) (hgv : (Cond.and given_1 narrow_1).before #[Value.ref b] s = true) : ∃ adE adS : Nat → Nat, adS 998 = b ∧ KA adE adS (fun q => s.heap.size ≤ q) s s.heap := by
  have hfl : ∀ c ∈ FL1, c.before #[Value.ref b] s = true := flat_of_before _ hgv
  have hat : ∀ {k : Nat} {c : Cond}, FL1[k]? = some c → c.before #[Value.ref b] s = true := fun h => hfl _ (List.mem_of_getElem? h)
  have hlt : ∀ {k : Nat} {c : Cond}, lw_tbl[k]? = some c → c.before #[Value.ref b] s = true := fun h => hts _ (List.mem_of_getElem? h)
  have hA : ∀ a : Nat, a < s.heap.size → ¬ s.heap.size ≤ a := fun a h1 h2 => Nat.lt_irrefl _ (Nat.lt_of_lt_of_le h1 h2)
  -- the enum
  have hE0 : ∀ i : Nat, ∃ t : Nat, i < 19 → (stE i).eval #[Value.ref b] s none [] s = some (.ref t) ∧ va_O "DreamMatins$Word" t (fun q => s.heap.size ≤ q) s s.heap := by
    intro i
    by_cases hi : i < 19
    · obtain ⟨a, c, cell, k, q1, q2, q3, q4, q5, q6, -⟩ := Cond.exactly_spec (hat (p_e1 i hi))
      exact ⟨a, fun _ => ⟨q1, cell, q3, q5, by rw [q6]; exact q2, hA a (Array.getElem?_eq_some_iff.mp q3).1⟩⟩
    · exact ⟨0, fun h => absurd h hi⟩
  obtain ⟨adE, hadE⟩ := Classical.axiomOfChoice hE0
  -- the Strings
  have hS0 : ∀ i : Nat, ∃ q : Nat × Nat, i < 19 → (tmW i).eval #[Value.ref b] s none [] s = some (.ref q.1) ∧ va_O "java/lang/String" q.1 (fun q => s.heap.size ≤ q) s s.heap ∧ va_OF "java/lang/String" "coder" "B" (.int 0) q.1 (fun q => s.heap.size ≤ q) s s.heap ∧ va_OF "java/lang/String" "value" "[B" (.ref q.2) q.1 (fun q => s.heap.size ≤ q) s s.heap ∧ va_T .byte q.2 (lenJS.getD i 0) (fun j => .int ((bytJS.getD i []).getD j 0)) (fun q => s.heap.size ≤ q) s s.heap := by
    intro i
    by_cases hi : i < 19
    · obtain ⟨a, c, cell, k, q1, q2, q3, q4, q5, q6, -⟩ := Cond.exactly_spec (hat (p_s1 i hi))
      obtain ⟨t, ht, hT⟩ := va_Tof (f := fun j => .int ((bytJS.getD i []).getD j 0)) (A := fun q => s.heap.size ≤ q) (Nat.lt_trans (p_lt i hi).1 (by decide)) (hat (p_s3 i hi)) (va_eqt (hat (p_s4 i hi))) (fun j hj => va_eqt (hat (p_s5 i hi j hj))) hA
      exact ⟨(a, t), fun _ => ⟨q1, ⟨cell, q3, q5, by rw [q6]; exact q2, hA a (Array.getElem?_eq_some_iff.mp q3).1⟩, vk_OFof q1 (va_eqt (hat (p_s2 i hi))) hA, vk_OFof q1 ht hA, hT⟩⟩
    · exact ⟨(0, 0), fun h => absurd h hi⟩
  obtain ⟨ad, had⟩ := Classical.axiomOfChoice hS0
  -- WORDS
  obtain ⟨tw, htw, hTw⟩ := va_Tof (N := 19) (f := fun i => .ref (adE i)) (A := fun q => s.heap.size ≤ q) (by decide) (hfl _ (List.mem_of_getElem? (i := 13) rfl)) (va_eqt (hfl _ (List.mem_of_getElem? (i := 14) rfl))) (fun j hj => va_eqv (hat (p_w j hj)) (hadE j hj).1) hA
  refine ⟨adE, fun k => if k < 19 then (ad k).1 else if k = 998 then b else if k = 999 then tw else (ad (k - 1000)).2, by simp, (vx_Zqof (hts _ (in_t3 42 rfl)) (hts _ (in_t1 14 rfl)) (hfl _ (List.mem_of_getElem? (i := 9) rfl)) hA), (vx_Zqof (hts _ (in_t3 44 rfl)) (hts _ (in_t1 14 rfl)) (hfl _ (List.mem_of_getElem? (i := 10) rfl)) hA), ?_, ⟨fun i hi => ⟨va_Zref (hlt (p_le i hi)) (hts _ (in_t1 5 rfl)) (hadE i hi).1 hA, (hadE i hi).2, fun q hq => ?_⟩, fun i j hi hj e => ?_⟩, ?_, ?_, ?_, ⟨fun i hi => ?_, fun i j hi hj e => ?_⟩, (va_Nw.of rfl (hts _ WNest_in)), fun q hq => ?_, (va_Zof (hts _ (in_t3 125 rfl)) (hts _ (in_t1 21 rfl)) (va_eqt (hfl _ (List.mem_of_getElem? (i := 35) rfl))) hA), (va_Zqof (hts _ (in_t3 141 rfl)) (hts _ (in_t1 23 rfl)) (hfl _ (List.mem_of_getElem? (i := 36) rfl)) hA)⟩
  · intro w hw
    unfold NGW at hw
    simp only [List.mem_cons, List.not_mem_nil, or_false] at hw
    rcases hw with rfl | rfl | rfl | rfl | rfl
    · exact va_Nw.of rfl (hts _ (in_t4 55 rfl))
    · exact va_Nw.of rfl (hts _ (in_t3 17 rfl))
    · exact va_Nw.of rfl (hts _ (in_t3 18 rfl))
    · exact va_Nw.of rfl (hts _ (in_t3 20 rfl))
    · exact va_Nw.of rfl (hts _ (in_t3 22 rfl))
  · unfold FE at hq
    simp only [List.mem_cons, List.not_mem_nil, or_false] at hq
    rcases hq with rfl | rfl
    · exact vk_OFof (hadE i hi).1 (va_eqt (hat (p_e4 i hi))) hA
    · exact vk_OFof (hadE i hi).1 (va_eqt (hat (p_e5 i hi))) hA
  · by_cases hij : i = j
    · exact hij
    · rcases p_ne i hi j hj hij with h | h
      · exact absurd e (va_neR (hat h) (hadE i hi).1 (hadE j hj).1)
      · exact absurd e.symm (va_neR (hat h) (hadE j hj).1 (hadE i hi).1)
  · refine va_Efof (nm := nmE) (tm := fun i => tmW (ltrs.getD i 0)) (fun i hi => (hadE i hi).1) (fun i hi => hat (p_e3 i hi)) (fun i hi => ?_) hA
    have h1 := (p_lt i hi).2
    simp only [h1, if_true]
    exact (had _ h1).1
  · exact va_Zref (hts _ (in_t3 115 rfl)) (hts _ (in_t1 1 rfl)) htw hA
  · exact hTw
  · have h9 : ¬ (1000 + i < 19) := by omega
    have h8 : ¬ (1000 + i = 998) := by omega
    have h7 : ¬ (1000 + i = 999) := by omega
    simp only [hi, h9, h8, h7, if_true, if_false, Nat.add_sub_cancel_left]
    exact (had i hi).2
  · simp only [hi, hj, if_true] at e
    exact str_inj (adK := fun i => (ad i).1) (adV := fun i => (ad i).2) (fun i hi => (had i hi).2.2.2) i j hi hj e
  · obtain ⟨i, hi, rfl⟩ := List.getElem_of_mem hq
    obtain ⟨g1, g2, g3, g4⟩ := p_m i hi
    have hg : (LDS ++ LDK).getD i (0, 0, "", 0) = (LDS ++ LDK)[i] := by rw [List.getD_eq_getElem?_getD, List.getElem?_eq_getElem hi]; rfl
    rw [hg] at g1 g2 g3 g4
    rw [g3]
    simp only [g4, if_true]
    exact vk_R.of (hlt g2) (va_eqv (hat g1) (had _ g4).1)
theorem arr_K {s : State} {args : Array Value} {ty : FieldType} (hno : ∀ C, ty ≠ .object C) (h : (Cond.arrayClass ty).before args s = true) : ∃ cA : ClassId, ArrOfT s cA ty ∧ va_RA s cA ty := by
  obtain ⟨c, k, comp, h1, h2, h3⟩ := Cond.arrayClass_spec h
  refine ⟨c, fun n z => ⟨fun k h => (by cases h), k, h2, comp, h3⟩, ?_⟩
  cases ty with
  | object C => exact absurd rfl (hno C)
  | _ => exact h1
theorem arr_Q {s : State} {C : String} (h : va_AO C s) : ∃ cA : ClassId, ArrOfT s cA (.object C) ∧ va_RA s cA (.object C) := by
  obtain ⟨comp, c, k, h1, h2, h3, h4, h5⟩ := Cond.arrayOver_spec h
  exact ⟨c, fun n z => ⟨fun k h => (by cases h), k, h3, comp, h4⟩, k, comp, h3, h4, h1, h5⟩
theorem ngi_of {b : Nat} {s : State} (hts : ∀ w ∈ lw_tbl, w.before #[Value.ref b] s = true) : ∀ w ∈ NGI, va_Nw w s := fun w hw => va_Nw.of (NGI_on w hw) (hts _ (NGI_in w hw))
theorem nc_of {b : Nat} {s : State} (hgv : (Cond.and given_1 narrow_1).before #[Value.ref b] s = true) : va_Nc "java/lang/IllegalArgumentException" "java/util/NoSuchElementException" s := va_Nc.of (flat_of_before _ hgv _ (show _ ∈ FL1 from List.mem_of_getElem? (i := 326) rfl))
theorem ao_of {b : Nat} {s : State} (hts : ∀ w ∈ lw_tbl, w.before #[Value.ref b] s = true) : va_AO "java/lang/String" s := va_AO.of (A := #[Value.ref b]) (hts _ (in_t5 139 rfl))
set_option maxRecDepth 100000 in
theorem known_of {b : Nat} {s : State} (hts : ∀ w ∈ lw_tbl, w.before #[Value.ref b] s = true) : ∃ (D : va_G) (cT : FieldType → ClassId), va_K D vwCl (tyS cT) s := by
  have h0 : ∀ c : Nat, ∃ q : ClassId × (Nat → Nat), ∀ r : vw_C, vwCl[c]? = some r → u_Kn s r.1 r.2.1 r.2.2 q.1 q.2 := by
    intro c
    match c with
    | 0 =>
      obtain ⟨cC, iS, h⟩ := u_known (n := 3) hts (lay_in 0 _ rfl) (hts _ (in_t1 223 rfl))
      exact ⟨(cC, iS), fun r hr => by cases hr; exact h⟩
    | 1 =>
      obtain ⟨cC, iS, h⟩ := u_known (n := 4) hts (lay_in 1 _ rfl) (hts _ (in_t1 215 rfl))
      exact ⟨(cC, iS), fun r hr => by cases hr; exact h⟩
    | 2 =>
      obtain ⟨cC, iS, h⟩ := u_known (n := 4) hts (lay_in 2 _ rfl) (hts _ (in_t2 0 rfl))
      exact ⟨(cC, iS), fun r hr => by cases hr; exact h⟩
    | 3 =>
      obtain ⟨cC, iS, h⟩ := u_known (n := 7) hts (lay_in 3 _ rfl) (hts _ (in_t1 81 rfl))
      exact ⟨(cC, iS), fun r hr => by cases hr; exact h⟩
    | 4 =>
      obtain ⟨cC, iS, h⟩ := u_known (n := 4) hts (lay_in 4 _ rfl) (hts _ (in_t1 192 rfl))
      exact ⟨(cC, iS), fun r hr => by cases hr; exact h⟩
    | 5 =>
      obtain ⟨cC, iS, h⟩ := u_known (n := 9) hts (lay_in 5 _ rfl) (hts _ (in_t1 36 rfl))
      exact ⟨(cC, iS), fun r hr => by cases hr; exact h⟩
    | 6 =>
      obtain ⟨cC, iS, h⟩ := u_known (n := 3) hts (lay_in 6 _ rfl) (hts _ (in_t1 87 rfl))
      exact ⟨(cC, iS), fun r hr => by cases hr; exact h⟩
    | 7 =>
      obtain ⟨cC, iS, h⟩ := u_known (n := 1) hts (lay_in 7 _ rfl) (hts _ (in_t1 147 rfl))
      exact ⟨(cC, iS), fun r hr => by cases hr; exact h⟩
    | 8 =>
      obtain ⟨cC, iS, h⟩ := u_known (n := 8) hts (lay_in 8 _ rfl) (hts _ (in_t1 42 rfl))
      exact ⟨(cC, iS), fun r hr => by cases hr; exact h⟩
    | 9 =>
      obtain ⟨cC, iS, h⟩ := u_known (n := 14) hts (lay_in 9 _ rfl) (hts _ (in_t1 28 rfl))
      exact ⟨(cC, iS), fun r hr => by cases hr; exact h⟩
    | 10 =>
      obtain ⟨cC, iS, h⟩ := u_known (n := 64) hts (lay_in 10 _ rfl) (hts _ (in_t5 133 rfl))
      exact ⟨(cC, iS), fun r hr => by cases hr; exact h⟩
    | c + 11 => exact ⟨(0, fun _ => 0), fun r hr => by simp [vwCl] at hr⟩
  obtain ⟨dd, hd⟩ := Classical.axiomOfChoice h0
  obtain ⟨c0, a0⟩ := arr_K (ty := .int) (fun _ h => nomatch h) (hts _ (in_t1 104 rfl))
  obtain ⟨c1, a1⟩ := arr_K (ty := .byte) (fun _ h => nomatch h) (hts _ (in_t1 79 rfl))
  obtain ⟨c2, a2⟩ := arr_K (ty := .boolean) (fun _ h => nomatch h) (hts _ (in_t2 19 rfl))
  obtain ⟨c3, a3⟩ := arr_K (ty := .long) (fun _ h => nomatch h) (hts _ (in_t8 39 rfl))
  obtain ⟨c4, a4⟩ := arr_Q (ao_of hts)
  refine ⟨(fun c => (dd c).1, fun c => (dd c).2), fun t => match t with | .int => c0 | .byte => c1 | .boolean => c2 | .long => c3 | _ => c4, fun c r hr => hd c r hr, fun k q hq => ?_⟩
  match k, hq with
  | 0, hq => cases hq; exact a0
  | 1, hq => cases hq; exact a1
  | 2, hq => cases hq; exact a2
  | 3, hq => cases hq; exact a3
  | 4, hq => cases hq; exact a4
  | k + 5, hq => simp [tyS] at hq
