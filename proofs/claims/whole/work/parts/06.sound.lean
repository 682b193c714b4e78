/-! ===== what holds throughout a method's body ===== -/
/-- constants that are never written: the enum, its row, the Strings -/
def Kse (Z : ZT) (U : State) (H : Heap) : Prop :=
  va_En "DreamMatins$Word" "LDreamMatins$Word;" nmE FE Z.2.2.1 (AW Z) U H ∧ va_Ef 19 "DreamMatins$Word" "letters" "Ljava/lang/String;" (fun i => .ref (Z.2.2.2.1 (ltrs.getD i 0))) Z.2.2.1 (AW Z) U H ∧
  va_Z "DreamMatins" "WORDS" "[LDreamMatins$Word;" (.ref (Z.2.2.2.1 999)) (AW Z) U H ∧ va_T (.object "DreamMatins$Word") (Z.2.2.2.1 999) 19 (fun i => .ref (Z.2.2.1 i)) (AW Z) U H ∧
  vk_S 19 lenJS bytJS Z.2.2.2.1 (fun i => Z.2.2.2.1 (1000 + i)) (AW Z) U H ∧ va_Nw WNest U ∧ (∀ q ∈ LDS, vk_R (RN q.1) q.2.1 q.2.2.1 (Z.2.2.2.1 q.2.2.2) U) ∧
  va_Z "java/lang/String" "COMPACT_STRINGS" "Z" (.int 1) (AW Z) U H ∧ va_Zq "jdk/internal/util/Preconditions" "SIOOBE_FORMATTER" "Ljava/util/function/BiFunction;" (AW Z) U H
theorem Kse.warm {Z : ZT} {u U : State} {H : Heap} (hvm : u.WarmedH U.vm) (h : Kse Z u H) : Kse Z U H :=
  ⟨h.1.moved hvm.alike, h.2.1.moved hvm.alike, h.2.2.1.moved hvm.alike, h.2.2.2.1.moved hvm.alike, h.2.2.2.2.1.moved hvm.alike, va_Nw.warmF hvm h.2.2.2.2.2.1, fun q hq => vk_R.warm hvm (h.2.2.2.2.2.2.1 q hq), h.2.2.2.2.2.2.2.1.moved hvm.alike, h.2.2.2.2.2.2.2.2.moved hvm.alike⟩
theorem Kse.same {Z : ZT} {u U : State} {H : Heap} (hvm : u.vm = U.vm) (h : Kse Z u H) : Kse Z U H := by
  have ha : u.vm.Alike U.vm := by rw [hvm]; exact Vm.Alike.refl _
  exact ⟨h.1.moved ha, h.2.1.moved ha, h.2.2.1.moved ha, h.2.2.2.1.moved ha, h.2.2.2.2.1.moved ha, va_Nw.same rfl hvm h.2.2.2.2.2.1, fun q hq => vk_R.same hvm.symm (h.2.2.2.2.2.2.1 q hq), h.2.2.2.2.2.2.2.1.moved ha, h.2.2.2.2.2.2.2.2.moved ha⟩
theorem Kse.kept {Z : ZT} {U : State} {H H1 : Heap} (h : Kse Z U H) (hq : ∀ a : Nat, a < H.size → ¬ AW Z a → H1[a]? = H[a]?) : Kse Z U H1 :=
  ⟨h.1.kept hq, h.2.1.kept hq, h.2.2.1.kept hq, h.2.2.2.1.kept hq, h.2.2.2.2.1.kept hq, h.2.2.2.2.2.1, h.2.2.2.2.2.2.1, h.2.2.2.2.2.2.2.1.kept hq, h.2.2.2.2.2.2.2.2.kept hq⟩
def Kst (Z : ZT) (U : State) (H : Heap) : Prop := vx_Zq Bundle.tN "UNASSIGNED_STACK" Bundle.steD (AW Z) U H ∧ vx_Zq Bundle.tN "SUPPRESSED_SENTINEL" Bundle.listD (AW Z) U H ∧ (∀ w ∈ NGW, va_Nw w U) ∧ Kse Z U H
theorem Kst.warm {Z : ZT} {u U : State} {H : Heap} (hvm : u.WarmedH U.vm) (h : Kst Z u H) : Kst Z U H := ⟨h.1.moved hvm.alike, h.2.1.moved hvm.alike, NGW_moved hvm.alike h.2.2.1, h.2.2.2.warm hvm⟩
theorem Kst.same {Z : ZT} {u U : State} {H : Heap} (hvm : u.vm = U.vm) (h : Kst Z u H) : Kst Z U H := by
  have ha : u.vm.Alike U.vm := by rw [hvm]; exact Vm.Alike.refl _
  exact ⟨h.1.moved ha, h.2.1.moved ha, NGW_moved ha h.2.2.1, h.2.2.2.same hvm⟩
theorem Kst.kept {Z : ZT} {U : State} {H H1 : Heap} (h : Kst Z U H) (hq : ∀ a : Nat, a < H.size → ¬ AW Z a → H1[a]? = H[a]?) : Kst Z U H1 := ⟨h.1.kept hq, h.2.1.kept hq, h.2.2.1, h.2.2.2.kept hq⟩
def cL (Z : ZT) (lv : List (Nat × MV)) : List (Nat × Value) := lv.map (fun q => (q.1, cv Z q.2))
theorem getL_at {Z : ZT} {ls : Array Slot} {nL i : Nat} {lv : List (Nat × MV)} {v : MV} (h : lv_has ls nL (cL Z lv)) (hg : getL lv i = some v) : ls[i]? = some (.val (cv Z v)) := by
  have key : ∀ l : List (Nat × MV), getL l i = some v → (i, v) ∈ l := by
    intro l
    induction l with
    | nil => intro h; cases h
    | cons q t ih =>
      obtain ⟨j, u⟩ := q
      intro hg
      simp only [getL] at hg
      cases hb : Nat.beq j i with
      | true =>
        rw [hb] at hg
        cases hg
        rw [Nat.eq_of_beq_eq_true hb]
        exact List.mem_cons_self
      | false =>
        rw [hb] at hg
        exact List.mem_cons_of_mem _ (ih hg)
  exact h.2.2 (i, cv Z v) (List.mem_map.mpr ⟨(i, v), key lv hg, rfl⟩)
theorem is1_cat {Z : ZT} {v : MV} (h : is1 v = true) : (cv Z v).category = 1 := by
  rcases v with x | x | x | x | x
  · rfl
  · cases h
  · rfl
  · rfl
  · rfl
theorem insL_mem {i : Nat} {v : MV} : ∀ {l : List (Nat × MV)} {q : Nat × MV}, q ∈ insL i v l → q = (i, v) ∨ q ∈ l := by
  intro l
  induction l with
  | nil => intro q h; simp [insL] at h; exact Or.inl h
  | cons p t ih =>
    intro q h
    obtain ⟨j, u⟩ := p
    simp only [insL] at h
    cases hb2 : Nat.blt j i with
    | true =>
      rw [hb2] at h
      rcases List.mem_cons.mp h with h | h
      · exact Or.inr (by rw [h]; exact List.mem_cons_self)
      · rcases ih h with h | h
        · exact Or.inl h
        · exact Or.inr (List.mem_cons_of_mem _ h)
    | false =>
      rw [hb2] at h
      rcases List.mem_cons.mp h with h | h
      · exact Or.inl h
      · exact Or.inr h
theorem drpL_mem {i : Nat} : ∀ {l : List (Nat × MV)} {q : Nat × MV}, q ∈ drpL i l → q ∈ l ∧ q.1 ≠ i := by
  intro l
  induction l with
  | nil => intro q h; simp [drpL] at h
  | cons p t ih =>
    intro q h
    obtain ⟨j, u⟩ := p
    simp only [drpL] at h
    cases hb : Nat.beq j i with
    | true =>
      rw [hb] at h
      obtain ⟨h1, h2⟩ := ih h
      exact ⟨List.mem_cons_of_mem _ h1, h2⟩
    | false =>
      rw [hb] at h
      rcases List.mem_cons.mp h with h | h
      · refine ⟨by rw [h]; exact List.mem_cons_self, ?_⟩
        intro e
        rw [h] at e
        have e : j = i := e
        rw [e, Nat.beq_refl] at hb
        cases hb
      · obtain ⟨h1, h2⟩ := ih h
        exact ⟨List.mem_cons_of_mem _ h1, h2⟩
theorem setL_has {Z : ZT} {ls : Array Slot} {nL i : Nat} {v : MV} {lv lv' : List (Nat × MV)} (hs : setL i v lv = some lv')
    (h : lv_has ls nL ((i, cv Z v) :: (cL Z lv).filter (fun q => !(q.1 == i) && !(q.1 + 1 == i && q.2.category == 2)))) : lv_has ls nL (cL Z lv') := by
  unfold setL at hs
  cases ha : lv.all (fun q => is1 q.2) with
  | false => rw [ha] at hs; cases hs
  | true =>
    rw [ha] at hs
    cases hs
    refine ⟨h.1, h.2.1, fun q hq => ?_⟩
    obtain ⟨r, hr, rfl⟩ := List.mem_map.mp hq
    apply h.2.2
    rcases insL_mem hr with rfl | hr
    · exact List.mem_cons_self
    · obtain ⟨h1, h2⟩ := drpL_mem hr
      apply List.mem_cons_of_mem
      rw [List.mem_filter]
      refine ⟨List.mem_map.mpr ⟨r, h1, rfl⟩, ?_⟩
      have hc := is1_cat (Z := Z) (List.all_eq_true.mp ha r h1)
      have hn : (r.1 == i) = false := by simpa using h2
      simp [hn, hc]
theorem FLT_tbl {q : Nat × Nat × Nat × Nat} (h : q ∈ FLT) (hc : vwCl[q.2.2.1]? ≠ none) : fieldWord q ∈ TBL := by
  refine List.mem_filter.mpr ⟨FLT_in q h, ?_⟩
  unfold fieldWord
  cases hv : vwCl[q.2.2.1]? with
  | none => exact absurd hv hc
  | some c => rfl
theorem lay_tbl (ci : Nat) (q : vw_C) (h : vwCl[ci]? = some q) : ∀ w ∈ u_ws q.1 q.2.1 q.2.2, w ∈ TBL := by
  intro w hw
  refine List.mem_filter.mpr ⟨lay_in ci q h w hw, ?_⟩
  obtain ⟨k, -, rfl⟩ := List.mem_map.mp hw
  unfold u_lay
  split <;> rfl
theorem CLT_tbl {q : Nat × Nat × Int32} (h : q ∈ CLT) : constWord q ∈ TBL := List.mem_filter.mpr ⟨CLT_in q h, rfl⟩
theorem CLL_tbl {q : Nat × Nat × Int64} (h : q ∈ CLL) : constLWord q ∈ TBL := List.mem_filter.mpr ⟨CLL_in q h, rfl⟩
theorem MLT_tbl {q : Nat × Nat × MI × Bool} (h : q ∈ MLT) : ∀ w ∈ methWords q, w ∈ TBL := by
  intro w hw
  refine List.mem_filter.mpr ⟨MLT_in q h w hw, ?_⟩
  unfold methWords at hw
  rcases List.mem_cons.mp hw with rfl | hw
  · rfl
  rcases List.mem_cons.mp hw with rfl | hw
  · rfl
  rcases List.mem_cons.mp hw with rfl | hw
  · rfl
  cases hb : q.2.2.2 with
  | true =>
    rw [hb] at hw
    rcases List.mem_cons.mp hw with rfl | hw
    · rfl
    · cases hw
  | false =>
    rw [hb] at hw
    rcases List.mem_cons.mp hw with rfl | hw
    · rfl
    rcases List.mem_cons.mp hw with rfl | hw
    · rfl
    · cases hw
/-- the classes' fields: types, names apart -/
theorem cl_ok : ∀ (ci : Nat) (q : vw_C), vwCl[ci]? = some q → ∃ ty0 : Nat → FieldType, (∀ k, k < q.2.2 → parseFieldDescriptor (q.2.1 k).2.2.1 = some (ty0 k)) ∧ ∀ a, a < q.2.2 → ∀ b, b < q.2.2 → a ≠ b → (q.2.1 a).2.1 ≠ (q.2.1 b).2.1 := by
  intro ci q h
  match ci, h with
  | 0, h => cases h; exact ⟨tyX0, tyX0_ok, nmX0⟩
  | 1, h => cases h; exact ⟨tyX1, tyX1_ok, nmX1⟩
  | 2, h => cases h; exact ⟨tyX2, tyX2_ok, nmX2⟩
  | 3, h => cases h; exact ⟨tyX3, tyX3_ok, nmX3⟩
  | 4, h => cases h; exact ⟨tyX4, tyX4_ok, nmX4⟩
  | 5, h => cases h; exact ⟨tyX5, tyX5_ok, nmX5⟩
  | 6, h => cases h; exact ⟨tyX6, tyX6_ok, nmX6⟩
  | 7, h => cases h; exact ⟨tyX7, tyX7_ok, nmX7⟩
  | 8, h => cases h; exact ⟨tyX8, tyX8_ok, nmX8⟩
  | 9, h => cases h; exact ⟨tyX10, tyX10_ok, nmX10⟩
  | 10, h => cases h; exact ⟨tyX11, tyX11_ok, nmX11⟩
  | k + 11, h => simp [vwCl] at h
def cdsB : Bool := cds.all (fun cd => match cd with
  | .inr (.inl (ci, fds)) => match vwCl[ci]? with
    | some q => fds.length == q.2.2
    | none => false
  | _ => true)
theorem cds_ok : cdsB = true := by decide +kernel
theorem cds_obj {n ci : Nat} {fds : List FD} (h : cds[n]? = some (.inr (.inl (ci, fds)))) : ∃ q : vw_C, vwCl[ci]? = some q ∧ fds.length = q.2.2 := by
  have h1 := List.all_eq_true.mp cds_ok _ (List.mem_of_getElem? h)
  dsimp only at h1
  cases hv : vwCl[ci]? with
  | none => rw [hv] at h1; cases h1
  | some q => rw [hv] at h1; exact ⟨q, rfl, by simpa using h1⟩
theorem fdOf_spec {n k : Nat} {fd : FD} (h : fdOf n k = some fd) : ∃ (ci : Nat) (fds : List FD) (q : vw_C), cds[n]? = some (.inr (.inl (ci, fds))) ∧ fds[k]? = some fd ∧ clsOf n = ci ∧ vwCl[ci]? = some q ∧ k < q.2.2 ∧ k < fds.length := by
  unfold fdOf at h
  split at h
  next ci fds hc =>
    obtain ⟨q, h1, h2⟩ := cds_obj hc
    have hl := (List.getElem?_eq_some_iff.mp h).1
    exact ⟨ci, fds, q, hc, h, by simp [clsOf, hc], h1, by omega, hl⟩
  next => cases h
theorem arrOf_spec {n : Nat} {q : FieldType × Nat} (h : arrOf n = some q) : cds[n]? = some (.inl q) := by
  unfold arrOf at h
  split at h
  next q' hc => cases h; exact hc
  next => cases h
theorem cE_arr {Z : ZT} (f : Nat → Int32) (b : Nat) {d : Nat} (h : d < 4) : ∃ g, cE Z f (.inl (tyOf d, b)) = .inl (Z.2.2.2.2 (tyOf d), b, g) := by
  match d, h with
  | 0, _ => exact ⟨_, rfl⟩
  | 1, _ => exact ⟨_, rfl⟩
  | 2, _ => exact ⟨_, rfl⟩
  | 3, _ => exact ⟨_, rfl⟩
section Body
variable {Z : ZT} {p : Program} {l : Launch} {e : Env} {R : Room} {s : State} {m : MethodId} {args : Array Value} {below : List Frame} {meth : Method} {c : Code} {cells slots : Nat} {Q : State → Prop}
variable {oc nL : Nat} {cc : ByteArray}
def Fx (Z : ZT) (p : Program) (l : Launch) (s : State) (m : MethodId) (args : Array Value) (meth : Method) (c : Code) (oc nL : Nat) (cc : ByteArray) : Prop :=
  p.tables.exec = Jvm.exec ∧ c.code = cc ∧ c.maxLocals = nL ∧ s.vm.findClass (RN oc) = some m.cls ∧ (∀ w ∈ TBL, w.before args s = true) ∧ va_K Z.1 vwCl (tysO Z) s ∧ (∀ w : Wld, va_D (AW Z) (cW Z w)) ∧ meth.locks = false ∧ Kst Z s s.heap
abbrev Cfg : Type := Nat × List (Nat × MV) × List MV × Wld
/-- from here on the machine comes to its end -/
def Okc (Z : ZT) (p : Program) (l : Launch) (e : Env) (R : Room) (s : State) (m : MethodId) (args : Array Value) (below : List Frame) (meth : Method) (c : Code) (cells slots nL : Nat) (Q : State → Prop) (g : Cfg) : Prop :=
  ∀ (H : Heap) (locs : List Loc) (ls : Array Slot), va_P Z.1 vwCl (cW Z g.2.2.2) H → va_S (AW Z) s.heap H locs → lv_has ls nL (cL Z g.2.1) → W p l e R s m args below meth c H locs cells slots Q (F0 m g.1 ls (g.2.2.1.map (cv Z)))
theorem ok_get (F : Fx Z p l s m args meth c oc nL cc) {idx pc a b d : Nat} {v : Int32} {lv : List (Nat × MV)} {st : List MV} {w : Wld} (hd : decode cc pc = .ok (.getfield idx, 3)) (ha : ann oc (.getfield idx) a b d v = true)
    (k : Okc Z p l e R s m args below meth c cells slots nL Q (pc + 3, lv, gfv w a b d :: st, w)) : Okc Z p l e R s m args below meth c cells slots nL Q (pc, lv, vR a :: st, w) := by
  intro H locs ls hP hS hl
  obtain ⟨hx, hb, hml, hown, hts, hK, hD, hlk, hk⟩ := F
  simp only [ann, Bool.and_eq_true, decide_eq_true_eq] at ha
  obtain ⟨h1, h2⟩ := ha
  obtain ⟨ci, fds, q, g1, g2, g3, g4, g5, g6⟩ := fdOf_spec h2
  subst g3
  have hw : fieldWord (oc, idx, clsOf a, b) ∈ TBL := FLT_tbl h1 (by show vwCl[clsOf a]? ≠ none; rw [g4]; exact fun h => nomatch h)
  have hw2 := hts _ hw
  simp only [fieldWord, g4] at hw2
  refine va_get (own := RN oc) hx hb hts (lay_tbl _ q g4) hown hK hP a (fs := fds.mapIdx (fun k fd => cF Z (w a k) fd)) (cW_of g1) g4 b g5 hw2 (fun _ h => h) (v := cF Z (w a b) (noFd d)) (by rw [List.getElem?_mapIdx, g2]; rfl) hd ?_
  have := k H locs ls hP hS hl
  match d, this with
  | 0, this => exact this
  | 1, this => exact this
  | n + 2, this => exact this
/-- a field written: x is what the value is as a number -/
theorem ok_put (F : Fx Z p l s m args meth c oc nL cc) {idx pc a b : Nat} {ty : FieldType} {x : Int32} {val : MV} {fd : FD} {lv : List (Nat × MV)} {st : List MV} {w : Wld} (hd : decode cc pc = .ok (.putfield idx, 3))
    (hf : (oc, idx, clsOf a, b) ∈ FLT) (hfin : finOf (clsOf a) b = false) (hfd : fdOf a b = some fd) (hty : parseFieldDescriptor (dscOf (clsOf a) b) = some ty) (hn : narrow ty (cv Z val) = cv Z val) (hfit : fits ty (cv Z val) = true) (hcv : cv Z val = cF Z x fd)
    (k : Okc Z p l e R s m args below meth c cells slots nL Q (pc + 3, lv, st, wup w a b x)) : Okc Z p l e R s m args below meth c cells slots nL Q (pc, lv, val :: vR a :: st, w) := by
  intro H locs ls hP hS hl
  obtain ⟨hx, hb, hml, hown, hts, hK, hD, hlk, hk⟩ := F
  obtain ⟨ci, fds, q, g1, g2, g3, g4, g5, g6⟩ := fdOf_spec hfd
  subst g3
  have hw : fieldWord (oc, idx, clsOf a, b) ∈ TBL := FLT_tbl hf (by show vwCl[clsOf a]? ≠ none; rw [g4]; exact fun h => nomatch h)
  have hw2 := hts _ hw
  simp only [fieldWord, g4] at hw2
  simp only [finOf, g4] at hfin
  simp only [dscOf, g4] at hty
  obtain ⟨ty0, t1, t2⟩ := cl_ok _ q g4
  refine va_put (own := RN oc) hx hb hts (lay_tbl _ q g4) ty0 t1 t2 hown hK hP (hD w) hS a (fs := fds.mapIdx (fun k fd => cF Z (w a k) fd)) (cW_of g1) g4 b g5 hw2 (fun _ h => h) hfin hty hn hfit (by rw [List.length_mapIdx]; exact g6) hd ?_
  intro H1 locs1 hP1 hD1 hS1
  have he : (Sum.inr (clsOf a, (fds.mapIdx (fun k fd => cF Z (w a k) fd)).set b (cv Z val)) : va_E) = cE Z (wup w a b x a) (.inr (.inl (clsOf a, fds))) := by
    show _ = Sum.inr (clsOf a, fds.mapIdx (fun k fd => cF Z (wup w a b x a k) fd))
    congr 2
    apply List.ext_getElem?
    intro j
    by_cases hj : j = b
    · subst hj
      rw [List.getElem?_set_self (by rw [List.length_mapIdx]; exact g6), List.getElem?_mapIdx, g2, wup_same]
      simp [upd, hcv]
    · rw [List.getElem?_set_ne (Ne.symm hj), List.getElem?_mapIdx, List.getElem?_mapIdx, wup_same]
      simp [upd, hj]
  rw [cW_set g1 he (fun n' hn' => wup_other w b x hn')] at hP1
  exact k H1 locs1 ls hP1 hS1 hl
theorem ty_at {d : Nat} (h : d < 4) : (tysO Z)[d]? = some (Z.2.2.2.2 (tyOf d), tyOf d) := by
  match d, h with
  | 0, _ => rfl
  | 1, _ => rfl
  | 2, _ => rfl
  | 3, _ => rfl
theorem ok_iald (F : Fx Z p l s m args meth c oc nL cc) {pc a b : Nat} {i : Int32} {lv : List (Nat × MV)} {st : List MV} {w : Wld} (hd : decode cc pc = .ok (.iaload, 1)) (ha : arrOf a = some (.int, b)) (hin : vp_in i b)
    (k : Okc Z p l e R s m args below meth c cells slots nL Q (pc + 1, lv, vI (w a i.toNatClampNeg) :: st, w)) : Okc Z p l e R s m args below meth c cells slots nL Q (pc, lv, vI i :: vR a :: st, w) := by
  intro H locs ls hP hS hl
  obtain ⟨hx, hb, hml, hown, hts, hK, hD, hlk, hk⟩ := F
  exact va_iald hx hb hK hP a 0 (cW_of (arrOf_spec ha)) rfl hin hd (k H locs ls hP hS hl)
theorem ok_bald (F : Fx Z p l s m args meth c oc nL cc) {pc a b : Nat} {i : Int32} {lv : List (Nat × MV)} {st : List MV} {w : Wld} (hd : decode cc pc = .ok (.baload, 1)) (ha : arrOf a = some (.byte, b)) (hin : vp_in i b)
    (k : Okc Z p l e R s m args below meth c cells slots nL Q (pc + 1, lv, vI (w a i.toNatClampNeg) :: st, w)) : Okc Z p l e R s m args below meth c cells slots nL Q (pc, lv, vI i :: vR a :: st, w) := by
  intro H locs ls hP hS hl
  obtain ⟨hx, hb, hml, hown, hts, hK, hD, hlk, hk⟩ := F
  exact va_bald hx hb hK hP a 1 (cW_of (arrOf_spec ha)) rfl hin hd (k H locs ls hP hS hl)
theorem ok_zald (F : Fx Z p l s m args meth c oc nL cc) {pc a b : Nat} {i : Int32} {lv : List (Nat × MV)} {st : List MV} {w : Wld} (hd : decode cc pc = .ok (.baload, 1)) (ha : arrOf a = some (.boolean, b)) (hin : vp_in i b)
    (k : Okc Z p l e R s m args below meth c cells slots nL Q (pc + 1, lv, vI (w a i.toNatClampNeg) :: st, w)) : Okc Z p l e R s m args below meth c cells slots nL Q (pc, lv, vI i :: vR a :: st, w) := by
  intro H locs ls hP hS hl
  obtain ⟨hx, hb, hml, hown, hts, hK, hD, hlk, hk⟩ := F
  exact va_zald hx hb hK hP a 2 (cW_of (arrOf_spec ha)) rfl hin hd (k H locs ls hP hS hl)
theorem ok_lald (F : Fx Z p l s m args meth c oc nL cc) {pc a b : Nat} {i : Int32} {lv : List (Nat × MV)} {st : List MV} {w : Wld} (hd : decode cc pc = .ok (.laload, 1)) (ha : arrOf a = some (.long, b)) (hin : vp_in i b)
    (k : Okc Z p l e R s m args below meth c cells slots nL Q (pc + 1, lv, vL (w a i.toNatClampNeg).toInt64 :: st, w)) : Okc Z p l e R s m args below meth c cells slots nL Q (pc, lv, vI i :: vR a :: st, w) := by
  intro H locs ls hP hS hl
  obtain ⟨hx, hb, hml, hown, hts, hK, hD, hlk, hk⟩ := F
  exact va_lald hx hb hK hP a 3 (cW_of (arrOf_spec ha)) rfl hin hd (k H locs ls hP hS hl)
theorem ok_iast (F : Fx Z p l s m args meth c oc nL cc) {pc a b : Nat} {i x : Int32} {lv : List (Nat × MV)} {st : List MV} {w : Wld} (hd : decode cc pc = .ok (.iastore, 1)) (ha : arrOf a = some (.int, b)) (hin : vp_in i b)
    (k : Okc Z p l e R s m args below meth c cells slots nL Q (pc + 1, lv, st, wup w a i.toNatClampNeg x)) : Okc Z p l e R s m args below meth c cells slots nL Q (pc, lv, vI x :: vI i :: vR a :: st, w) := by
  intro H locs ls hP hS hl
  obtain ⟨hx, hb, hml, hown, hts, hK, hD, hlk, hk⟩ := F
  refine va_iast hx hb hK hP (hD w) hS a 0 (cW_of (arrOf_spec ha)) rfl hin hd (fun H1 locs1 hP1 hD1 hS1 => ?_)
  have he : (Sum.inl (Z.2.2.2.2 .int, b, Sum.inl (upd (w a) i.toNatClampNeg x)) : va_E) = cE Z (wup w a i.toNatClampNeg x a) (.inl (.int, b)) := by rw [wup_same]; rfl
  rw [cW_set (arrOf_spec ha) he (fun n' hn' => wup_other w _ x hn')] at hP1
  exact k H1 locs1 ls hP1 hS1 hl
theorem ok_bast (F : Fx Z p l s m args meth c oc nL cc) {pc a b : Nat} {i x : Int32} {lv : List (Nat × MV)} {st : List MV} {w : Wld} (hd : decode cc pc = .ok (.bastore, 1)) (ha : arrOf a = some (.byte, b)) (hin : vp_in i b)
    (k : Okc Z p l e R s m args below meth c cells slots nL Q (pc + 1, lv, st, wup w a i.toNatClampNeg (vp_nar .byte x))) : Okc Z p l e R s m args below meth c cells slots nL Q (pc, lv, vI x :: vI i :: vR a :: st, w) := by
  intro H locs ls hP hS hl
  obtain ⟨hx, hb, hml, hown, hts, hK, hD, hlk, hk⟩ := F
  refine va_bast hx hb hK hP (hD w) hS a 1 (cW_of (arrOf_spec ha)) rfl hin hd (fun H1 locs1 hP1 hD1 hS1 => ?_)
  have he : (Sum.inl (Z.2.2.2.2 .byte, b, Sum.inl (upd (w a) i.toNatClampNeg (vp_nar .byte x))) : va_E) = cE Z (wup w a i.toNatClampNeg (vp_nar .byte x) a) (.inl (.byte, b)) := by rw [wup_same]; rfl
  rw [cW_set (arrOf_spec ha) he (fun n' hn' => wup_other w _ _ hn')] at hP1
  exact k H1 locs1 ls hP1 hS1 hl
theorem ok_zast (F : Fx Z p l s m args meth c oc nL cc) {pc a b : Nat} {i x : Int32} {lv : List (Nat × MV)} {st : List MV} {w : Wld} (hd : decode cc pc = .ok (.bastore, 1)) (ha : arrOf a = some (.boolean, b)) (hin : vp_in i b)
    (k : Okc Z p l e R s m args below meth c cells slots nL Q (pc + 1, lv, st, wup w a i.toNatClampNeg (vp_nar .boolean x))) : Okc Z p l e R s m args below meth c cells slots nL Q (pc, lv, vI x :: vI i :: vR a :: st, w) := by
  intro H locs ls hP hS hl
  obtain ⟨hx, hb, hml, hown, hts, hK, hD, hlk, hk⟩ := F
  refine va_zast hx hb hK hP (hD w) hS a 2 (cW_of (arrOf_spec ha)) rfl hin hd (fun H1 locs1 hP1 hD1 hS1 => ?_)
  have he : (Sum.inl (Z.2.2.2.2 .boolean, b, Sum.inl (upd (w a) i.toNatClampNeg (vp_nar .boolean x))) : va_E) = cE Z (wup w a i.toNatClampNeg (vp_nar .boolean x) a) (.inl (.boolean, b)) := by rw [wup_same]; rfl
  rw [cW_set (arrOf_spec ha) he (fun n' hn' => wup_other w _ _ hn')] at hP1
  exact k H1 locs1 ls hP1 hS1 hl
theorem ok_last (F : Fx Z p l s m args meth c oc nL cc) {pc a b : Nat} {i : Int32} {x : Int64} {lv : List (Nat × MV)} {st : List MV} {w : Wld} (hd : decode cc pc = .ok (.lastore, 1)) (ha : arrOf a = some (.long, b)) (hin : vp_in i b) (hx32 : x.toInt32.toInt64 = x)
    (k : Okc Z p l e R s m args below meth c cells slots nL Q (pc + 1, lv, st, wup w a i.toNatClampNeg x.toInt32)) : Okc Z p l e R s m args below meth c cells slots nL Q (pc, lv, vL x :: vI i :: vR a :: st, w) := by
  intro H locs ls hP hS hl
  obtain ⟨hx, hb, hml, hown, hts, hK, hD, hlk, hk⟩ := F
  refine va_last hx hb hK hP (hD w) hS a 3 (cW_of (arrOf_spec ha)) rfl hin hd (fun H1 locs1 hP1 hD1 hS1 => ?_)
  have he : (Sum.inl (Z.2.2.2.2 .long, b, Sum.inr (Sum.inl (vp_updL (fun j => (w a j).toInt64) i.toNatClampNeg x))) : va_E) = cE Z (wup w a i.toNatClampNeg x.toInt32 a) (.inl (.long, b)) := by
    rw [wup_same]
    show _ = Sum.inl (Z.2.2.2.2 .long, b, Sum.inr (Sum.inl (fun j => (upd (w a) i.toNatClampNeg x.toInt32 j).toInt64)))
    congr 5
    funext j
    by_cases hj : j = i.toNatClampNeg
    · simp [vp_updL, upd, hj, hx32]
    · simp [vp_updL, upd, hj]
  rw [cW_set (arrOf_spec ha) he (fun n' hn' => wup_other w _ _ hn')] at hP1
  exact k H1 locs1 ls hP1 hS1 hl
theorem ok_alen (F : Fx Z p l s m args meth c oc nL cc) {pc a b d : Nat} {v : Int32} {lv : List (Nat × MV)} {st : List MV} {w : Wld} (hd : decode cc pc = .ok (.arraylength, 1)) (h4 : d < 4) (ha : arrOf a = some (tyOf d, b)) (hv : Int32.ofNat b = v)
    (k : Okc Z p l e R s m args below meth c cells slots nL Q (pc + 1, lv, vI v :: st, w)) : Okc Z p l e R s m args below meth c cells slots nL Q (pc, lv, vR a :: st, w) := by
  intro H locs ls hP hS hl
  obtain ⟨hx, hb, hml, hown, hts, hK, hD, hlk, hk⟩ := F
  have hc := cW_of (Z := Z) (w := w) (arrOf_spec ha)
  obtain ⟨f, hf⟩ := cE_arr (Z := Z) (w a) b h4
  rw [hf] at hc
  exact va_alen hx hb hK hP a d hc (ty_at h4) hv hd (k H locs ls hP hS hl)
end Body
