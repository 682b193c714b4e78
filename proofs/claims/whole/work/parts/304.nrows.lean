/-! ===== constructors: what they need, arrays of a known class ===== -/
def NGI : List Cond := [.methodLinkNest (RN 9) 22 yX5_init "DreamMatins", .methodLinkNest (RN 5) 11 yX8_init "DreamMatins", .methodLinkNest (RN 5) 40 yX3_init "DreamMatins", .methodLinkNest (RN 3) 33 yX6_init "DreamMatins", .methodLinkNest (RN 5) 47 yX7_init "DreamMatins", .methodLinkNest (RN 9) 29 yX4_init "DreamMatins", .methodLinkNest (RN 4) 11 yX3_init "DreamMatins", .methodLinkNest (RN 9) 41 yX1_init "DreamMatins", .methodLinkNest (RN 1) 11 yX7_init "DreamMatins", .methodLinkNest (RN 1) 20 yX0_init "DreamMatins", .methodLinkNest (RN 1) 27 yX2_init "DreamMatins", .methodLinkNest (RN 9) 55 yX7_init "DreamMatins"]
theorem NGI_in : ∀ w ∈ NGI, w ∈ lw_tbl := List.forall_mem_cons.mpr ⟨in_t1 37 rfl, List.forall_mem_cons.mpr ⟨in_t1 43 rfl, List.forall_mem_cons.mpr ⟨in_t1 82 rfl, List.forall_mem_cons.mpr ⟨in_t1 88 rfl, List.forall_mem_cons.mpr ⟨in_t1 148 rfl, List.forall_mem_cons.mpr ⟨in_t1 193 rfl, List.forall_mem_cons.mpr ⟨in_t1 198 rfl, List.forall_mem_cons.mpr ⟨in_t1 216 rfl, List.forall_mem_cons.mpr ⟨in_t1 221 rfl, List.forall_mem_cons.mpr ⟨in_t1 224 rfl, List.forall_mem_cons.mpr ⟨in_t2 1 rfl, List.forall_mem_cons.mpr ⟨in_t2 38 rfl, fun _ h => absurd h List.not_mem_nil⟩⟩⟩⟩⟩⟩⟩⟩⟩⟩⟩⟩
theorem NGI_on : ∀ w ∈ NGI, w.onTables = true := by decide +kernel
def LDK : List (Nat × Nat × String × Nat) := [(10, 11, "bass", 0), (10, 13, "tenor", 1), (10, 15, "alto", 2), (10, 17, "treble", 3), (10, 23, "sleep", 4), (10, 25, "fish", 5), (10, 27, "voice", 6), (10, 29, "room", 7), (10, 31, "verse", 8), (10, 33, "night", 9), (10, 35, "met", 10), (10, 37, "last", 11)]
theorem NGI_warm {s U : State} (hW : s.WarmedH U.vm) (h : ∀ w ∈ NGI, va_Nw w s) : ∀ w ∈ NGI, va_Nw w U := by
  intro w hw
  have h1 := h w hw
  unfold NGI at hw
  simp only [List.mem_cons, List.not_mem_nil, or_false] at hw
  rcases hw with rfl | rfl | rfl | rfl | rfl | rfl | rfl | rfl | rfl | rfl | rfl | rfl <;> exact va_Nw.warmM hW h1
/-- what a constructor needs beside its object -/
def NI (adE adS : Nat → Nat) (sz0 : Nat) (U : State) (H : Heap) : Prop :=
  (∀ w ∈ NGI, va_Nw w U) ∧ va_Z "DreamMatins$Word" "OTHER" "LDreamMatins$Word;" (.ref (adE 0)) (fun q => sz0 ≤ q) U H ∧ vk_S 19 lenJS bytJS adS (fun i => adS (1000 + i)) (fun q => sz0 ≤ q) U H ∧ (∀ q ∈ LDK, vk_R (RN q.1) q.2.1 q.2.2.1 (adS q.2.2.2) U) ∧ va_AO "java/lang/String" U
theorem NI.warm {adE adS : Nat → Nat} {sz0 : Nat} {u U : State} {H : Heap} (hW : u.WarmedH U.vm) (h : NI adE adS sz0 u H) : NI adE adS sz0 U H :=
  ⟨NGI_warm hW h.1, h.2.1.moved hW.alike, h.2.2.1.moved hW.alike, fun q hq => vk_R.warm hW (h.2.2.2.1 q hq), h.2.2.2.2.moved hW.alike⟩
theorem NI.same {adE adS : Nat → Nat} {sz0 : Nat} {u U : State} {H : Heap} (hvm : u.vm = U.vm) (h : NI adE adS sz0 u H) : NI adE adS sz0 U H := by
  have ha : u.vm.Alike U.vm := by rw [hvm]; exact Vm.Alike.refl _
  exact ⟨fun w hw => va_Nw.same (NGI_on w hw) hvm (h.1 w hw), h.2.1.moved ha, h.2.2.1.moved ha, fun q hq => vk_R.same hvm.symm (h.2.2.2.1 q hq), h.2.2.2.2.moved ha⟩
theorem NI.kept {adE adS : Nat → Nat} {sz0 : Nat} {U : State} {H H1 : Heap} (h : NI adE adS sz0 U H) (hq : ∀ a : Nat, a < H.size → ¬ sz0 ≤ a → H1[a]? = H[a]?) : NI adE adS sz0 U H1 :=
  ⟨h.1, h.2.1.kept hq, h.2.2.1.kept hq, h.2.2.2.1, h.2.2.2.2⟩
theorem ra_eq {U : State} {c1 c2 : ClassId} {ty : FieldType} (h1 : va_RA U c1 ty) (h2 : va_RA U c2 ty) : c1 = c2 := by
  cases ty with
  | object C =>
    obtain ⟨_, _, _, _, _, a⟩ := h1
    obtain ⟨_, _, _, _, _, b⟩ := h2
    rw [a] at b
    exact Option.some.inj b
  | _ =>
    have h1 : U.vm.findClass _ = some c1 := h1
    have h2 : U.vm.findClass _ = some c2 := h2
    rw [h1] at h2
    exact Option.some.inj h2
def tyS (cT : FieldType → ClassId) : List (ClassId × FieldType) := [(cT .int, .int), (cT .byte, .byte), (cT .boolean, .boolean), (cT .long, .long), (cT (.object "java/lang/String"), .object "java/lang/String")]
def nthA : List Nat → Nat → Nat
  | [], _ => 0
  | a :: _, 0 => a
  | _ :: t, k + 1 => nthA t k
theorem a0_of {h0 sz0 sz : Nat} {e : va_E} (h00 : sz0 ≤ h0) (h01 : sz0 ≤ sz) : ∀ q : Nat, va_A [(h0, e)] sz q → sz0 ≤ q := by
  intro q h
  rcases h with ⟨k, e9, h⟩ | h
  · match k, h with
    | 0, h =>
      have h9 : (h0, e) = (q, e9) := Option.some.inj h
      rw [← (Prod.mk.inj h9).1]
      exact h00
    | k + 1, h => exact nomatch h
  · exact Nat.le_trans h01 h
theorem good_code {M : MI} (h : Cond.code M.1 M.2.1 M.2.2.1 M.2.2.2 ∈ TBL) : GoodIn TBL (wsM M) := by
  intro x hx
  have hin : x ∈ TBL := by
    rcases List.mem_cons.mp hx with rfl | hx
    · exact h
    · exact hx
  exact ⟨hin, good_of_word (List.mem_filter.mp hin).2⟩
section NW
variable {p : Program} {l : Launch} {e : Env} {R : Room} {s : State} {m : MethodId} {args : Array Value} {below : List Frame} {meth : Method} {c : Code} {H H0 : Heap} {locs : List Loc} {cells slots : Nat} {Q : State → Prop} {D : va_G} {cl : List vw_C} {tys : List (ClassId × FieldType)} {ws : va_W} {A : Nat → Prop}
variable {cc : ByteArray} {pc : Nat} {ls : Array Slot} {rest : List Value}
theorem nw_a (hexec : p.tables.exec = Jvm.exec) (hb : c.code = cc) {atype : ArrayType} (harr : (Cond.arrayClass (newarray.typeOf atype)).before args s = true) {ty : FieldType} (hty : newarray.typeOf atype = ty) (hK : va_K D cl tys s) (t0 : Nat) {cA0 : ClassId} (ht : tys[t0]? = some (cA0, ty)) (hP : va_P D cl ws H) (hD : va_D A ws) (hS : va_S A H0 H locs) (hA : ∀ q, H0.size ≤ q → A q)
    {n : Int32} {N' : Nat} {a0 : vp_A} (ha : ∀ cA : ClassId, vp_cell cA a0 = arrV cA N' (fun _ => defaultValue ty)) (hn : ¬ n < 0) (hN : n.toNatClampNeg = N') (hbytes : N' * componentBytes ty ≤ 536870912) (hcells : cells + 1 ≤ R.cells) (hslots : slots + N' ≤ R.slots) (hdg : decode cc pc = .ok (.newarray atype, 2))
    (kk : ∀ (q : Nat) (H1 : Heap), va_P D cl (ws ++ [(q, .inl (cA0, a0))]) H1 → va_D A (ws ++ [(q, .inl (cA0, a0))]) → va_S A H0 H1 locs →
      W p l e R s m args below meth c H1 locs (cells + 1) (slots + N') Q (F0 m (pc + 2) ls (.ref q :: rest))) : W p l e R s m args below meth c H locs cells slots Q (F0 m pc ls (.int n :: rest)) := by
  refine va_newa hexec hb harr hty hK hP hD hS hA ha hn hN hbytes hcells hslots hdg (fun q cA H1 hK1 hP1 hD1 hS1 => ?_)
  have h1 := (hK1.2 tys.length (cA, ty) (by simp)).2
  have h2 := (hK.2 t0 _ ht).2
  have h3 := ra_eq h1 h2
  subst h3
  exact kk q H1 hP1 hD1 hS1
theorem nw_q (hexec : p.tables.exec = Jvm.exec) (hb : c.code = cc) {own C : String} {index : Nat} (hown : s.vm.findClass own = some m.cls) (hclink : (Cond.classLink own index C).before args s = true) (hover : va_AO C s) (hK : va_K D cl tys s) (t0 : Nat) {cA0 : ClassId} (ht : tys[t0]? = some (cA0, .object C)) (hP : va_P D cl ws H) (hD : va_D A ws) (hS : va_S A H0 H locs) (hA : ∀ q, H0.size ≤ q → A q)
    {n : Int32} {N' : Nat} (hn : ¬ n < 0) (hN : n.toNatClampNeg = N') (hbytes : N' * 4 ≤ 536870912) (hcells : cells + 1 ≤ R.cells) (hslots : slots + N' ≤ R.slots) (hdg : decode cc pc = .ok (.anewarray index, 3))
    (kk : ∀ (q : Nat) (H1 : Heap), va_P D cl (ws ++ [(q, .inl (cA0, N', .inr (.inr (.inr (.inr (fun _ => none))))))]) H1 → va_D A (ws ++ [(q, .inl (cA0, N', .inr (.inr (.inr (.inr (fun _ => none))))))]) → va_S A H0 H1 locs →
      W p l e R s m args below meth c H1 locs (cells + 1) (slots + N') Q (F0 m (pc + 3) ls (.ref q :: rest))) : W p l e R s m args below meth c H locs cells slots Q (F0 m pc ls (.int n :: rest)) := by
  refine va_newq hexec hb hown hclink hover hK hP hD hS hA hn hN hbytes hcells hslots hdg (fun q cA H1 hK1 hP1 hD1 hS1 => ?_)
  have h1 := (hK1.2 tys.length (cA, .object C) (by simp)).2
  have h2 := (hK.2 t0 _ ht).2
  have h3 := ra_eq h1 h2
  subst h3
  exact kk q H1 hP1 hD1 hS1
theorem ast_q (hexec : p.tables.exec = Jvm.exec) (hb : c.code = cc) {a : Nat} (hK : va_K D cl tys s) (hP : va_P D cl ws H) (hD : va_D A ws) (hS : va_S A H0 H locs) (q0 t0 : Nat) {E : String} {cA : ClassId} {n v : Nat} {f : Nat → Option Nat} (ha : ws[q0]? = some (a, .inl (cA, n, .inr (.inr (.inr (.inr f)))))) (ht : tys[t0]? = some (cA, .object E)) (hr : va_Any E s H v) {i : Int32} {k : Nat} (hk : i.toNatClampNeg = k) (hin : vp_in i n) (hdg : decode cc pc = .ok (.aastore, 1))
    (kk : ∀ (H1 : Heap) (locs1 : List Loc), va_P D cl (ws.set q0 (a, .inl (cA, n, .inr (.inr (.inr (.inr (va_up f k (some v)))))))) H1 → va_D A (ws.set q0 (a, .inl (cA, n, .inr (.inr (.inr (.inr (va_up f k (some v)))))))) → va_S A H0 H1 locs1 → W p l e R s m args below meth c H1 locs1 cells slots Q (F0 m (pc + 1) ls rest)) : W p l e R s m args below meth c H locs cells slots Q (F0 m pc ls (.ref v :: .int i :: .ref a :: rest)) := by
  subst hk
  exact va_astqM hexec hb hK hP hD hS q0 t0 ha ht hr hin hdg kk
theorem ast_i (hexec : p.tables.exec = Jvm.exec) (hb : c.code = cc) {a : Nat} (hK : va_K D cl tys s) (hP : va_P D cl ws H) (hD : va_D A ws) (hS : va_S A H0 H locs) (q0 t0 : Nat) {cA : ClassId} {n : Nat} {f : Nat → Int32} (ha : ws[q0]? = some (a, .inl (cA, n, .inl f))) (ht : tys[t0]? = some (cA, .int)) {i : Int32} {x : Int32} {k : Nat} (hk : i.toNatClampNeg = k) (hin : vp_in i n) (hdg : decode cc pc = .ok (.iastore, 1))
    (kk : ∀ (H1 : Heap) (locs1 : List Loc), va_P D cl (ws.set q0 (a, .inl (cA, n, .inl (upd f k x)))) H1 → va_D A (ws.set q0 (a, .inl (cA, n, .inl (upd f k x)))) → va_S A H0 H1 locs1 → W p l e R s m args below meth c H1 locs1 cells slots Q (F0 m (pc + 1) ls rest)) : W p l e R s m args below meth c H locs cells slots Q (F0 m pc ls (.int x :: .int i :: .ref a :: rest)) := by
  subst hk
  exact va_iast hexec hb hK hP hD hS q0 t0 ha ht hin hdg kk
end NW
theorem any_str {adE adS : Nat → Nat} {sz0 : Nat} {s : State} {H : Heap} (h : NI adE adS sz0 s H) {k : Nat} (hk : k < 19) : va_Any "java/lang/String" s H (adS k) := by
  obtain ⟨cell, h1, h2, h3, -⟩ := (h.2.2.1.1 k hk).1
  obtain ⟨kC, hkC, -⟩ := Vm.findClass_spec h3
  refine ⟨cell, h1, h2, ⟨kC, hkC⟩, fun comp hc => ?_⟩
  rw [h3] at hc
  cases hc
  exact va_asg _ _
