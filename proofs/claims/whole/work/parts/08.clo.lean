/-! ===== rows of straight code, branches, returns, calls ===== -/
def exB : List AI → List (Nat × MV) → List MV → Wld → Rs
  | [], lv, st, w => some ([], lv, st, w)
  | i :: t, lv, st, w => match stp i.1 i.2.1 i.2.2.1 i.2.2.2.1 i.2.2.2.2 lv st w with
    | none => none
    | some (cs, lv', st', w') => match exB t lv' st' w' with
      | none => none
      | some (cs2, r) => some (cs ++ cs2, r)
def stoB (nL : Nat) (i : Instr) : Bool := match stoL i with
  | some k => Nat.blt k nL
  | none => true
def dcB (oc nL : Nat) (cc : ByteArray) : Nat → List AI → Bool
  | _, [] => true
  | pc, i :: t => decide (decode cc pc = .ok (i.1, ilen i.1)) && (ann oc i.1 i.2.1 i.2.2.1 i.2.2.2.1 i.2.2.2.2 && (stoB nL i.1 && dcB oc nL cc (pc + ilen i.1) t))
def lenB : List AI → Nat
  | [] => 0
  | i :: t => ilen i.1 + lenB t
/-- a branch: when it jumps, what is left on the stack -/
def brn (i : Instr) (st : List MV) : Option (Prop × List MV) := match i with
  | .ifCond k _ => match st with
    | .inl x :: t => some ((match k with
      | .eq => x = 0
      | .ne => ¬ x = 0
      | .lt => x < 0
      | .ge => 0 ≤ x
      | .gt => 0 < x
      | .le => x ≤ 0), t)
    | _ => none
  | .if_icmp k _ => match st with
    | .inl y :: .inl x :: t => some ((match k with
      | .eq => x = y
      | .ne => ¬ x = y
      | .lt => x < y
      | .ge => y ≤ x
      | .gt => y < x
      | .le => x ≤ y), t)
    | _ => none
  | _ => none
def boff : Instr → Int
  | .ifCond _ o => o
  | .if_icmp _ o => o
  | .goto o => o
  | _ => 0
/-- what a method comes to: it throws, or returns -/
abbrev Oc : Type := Nat ⊕ Option Int32
def EX : Nat → String
  | 0 => "java/util/NoSuchElementException"
  | _ => "java/lang/IllegalArgumentException"
def mcO : Oc → Nat
  | .inl _ => 1
  | .inr _ => 0
def msO : Oc → Nat
  | .inl _ => 6
  | .inr _ => 0
def PcO (Z : ZT) (as : List MV) (w : Wld) : Array Value → State → Prop := va_Pc (as.map (cv Z)) (fun U => va_P Z.1 vwCl (cW Z w) U.heap ∧ va_K Z.1 vwCl (tysO Z) U ∧ (∀ w : Wld, va_D (AW Z) (cW Z w)) ∧ Kst Z U U.heap)
def QcO (Z : ZT) (o : Oc) (w' : Wld) : Array Value → State → Outcome → State → Prop := fun _ st oc t => (∃ v : Option Int32, o = .inr v ∧ oc = .returned (v.map Value.int) ∧ va_P Z.1 vwCl (cW Z w') t.heap) ∧ va_F (AW Z) st t
def XcO (Z : ZT) (o : Oc) (w' : Wld) : String → State → State → Prop := fun E st t => (∃ k : Nat, o = .inl k ∧ E = EX k ∧ va_P Z.1 vwCl (cW Z w') t.heap) ∧ va_F (AW Z) st t
def wsM (M : MI) : List Cond := .code M.1 M.2.1 M.2.2.1 M.2.2.2 :: TBL
/-- a method's contract at these arguments in this world -/
def Con (Z : ZT) (l : Launch) (M : MI) (fr lc : Nat) (as : List MV) (w : Wld) (o : Oc) (w' : Wld) : Prop :=
  l.stackTraces = false → vx_Met l M.1 (wsM M) { frames := fr, cells := mcO o, slots := msO o, locals := lc } (PcO Z as w) (QcO Z o w') (XcO Z o w') (mcO o) (msO o) (AW Z)
def retV (v : Option Int32) : List MV := match v with
  | none => []
  | some x => [vI x]
def catS : List MV → Nat
  | [] => 0
  | v :: t => (bif is1 v then 1 else 2) + catS t
/-- the receiver is an object of that class -/
def rcvB (n : Nat) (C : String) : Bool := match cds[n]? with
  | some (.inr (.inl (ci, _))) => match vwCl[ci]? with
    | some q => q.1 == C
    | none => false
  | _ => false
def parB (M : MI) (n : Nat) : Bool := decide ((parseMethodDescriptor M.1.desc).map (fun d => d.parameters.length) = some n) && decide (M.1.cls ≠ "java/lang/invoke/MethodHandle") && decide (M.1.cls ≠ "java/lang/invoke/VarHandle")
def mlA : Nat → List MV → List (Nat × MV)
  | _, [] => []
  | i, v :: vs => (i, v) :: mlA (bif is1 v then i + 1 else i + 2) vs
def retB (ret : Option FieldType) (v : Int32) : Prop := match ret with
  | some .int => True
  | some .boolean => v = 0 ∨ v = 1
  | _ => False
/-- arraycopy: the ranges are right, what is copied fits -/
def cpO (w : Wld) (a na nb d : Nat) (sp dp n : Int32) : Prop := ¬ sp < 0 ∧ ¬ dp < 0 ∧ ¬ n < 0 ∧ sp.toNatClampNeg + n.toNatClampNeg ≤ na ∧ dp.toNatClampNeg + n.toNatClampNeg ≤ nb ∧ ∀ i, i < n.toNatClampNeg → fits (tyOf d) (.int (w a (sp.toNatClampNeg + i))) = true
/-- 'throw new': of the class alone, the two exceptions -/
def thrB (oc ik ic k : Nat) : Bool := decide (oc = 9) && ((decide (k = 0) && decide (ik = 151) && decide (ic = 153)) || (decide (k = 1) && decide (ik = 294) && decide (ic = 296)))
def imax (x y : Int32) : Int32 := if x < y then y else x
def imin (x y : Int32) : Int32 := if y < x then y else x
/-- what is known of the predicate 'from here on it goes well' -/
def Clo (Z : ZT) (l : Launch) (oc nL : Nat) (cc : ByteArray) (ret : Option FieldType) (fr lc : Nat) (o : Oc) (wo : Wld) (Ok : Cfg → Prop) : Prop :=
  (∀ (pc : Nat) (is : List AI) (lv : List (Nat × MV)) (st : List MV) (w : Wld) (cs : List Prop) (lv' : List (Nat × MV)) (st' : List MV) (w' : Wld), dcB oc nL cc pc is = true → exB is lv st w = some (cs, lv', st', w') → (∀ q ∈ cs, q) → Ok (pc + lenB is, lv', st', w') → Ok (pc, lv, st, w)) ∧
  (∀ (pc : Nat) (i : Instr) (tgt : Nat) (lv : List (Nat × MV)) (st : List MV) (w : Wld) (q : Prop) (t : List MV), decode cc pc = .ok (i, 3) → brn i st = some (q, t) → (pc : Int) + boff i = (tgt : Int) → (q → Ok (tgt, lv, t, w)) → (¬ q → Ok (pc + 3, lv, t, w)) → Ok (pc, lv, st, w)) ∧
  (∀ (pc : Nat) (off : Int) (tgt : Nat) (lv : List (Nat × MV)) (st : List MV) (w : Wld), decode cc pc = .ok (.goto off, 3) → (pc : Int) + off = (tgt : Int) → Ok (tgt, lv, st, w) → Ok (pc, lv, st, w)) ∧
  (∀ (pc : Nat) (dflt lo hi : Int) (offs : Array Int) (len : Nat) (off : Int) (tgt : Nat) (x : Int32) (lv : List (Nat × MV)) (st : List MV) (w : Wld), decode cc pc = .ok (.tableswitch dflt lo hi offs, len) → ¬ x.toInt < lo → ¬ hi < x.toInt → offs[(x.toInt - lo).toNat]? = some off → (pc : Int) + off = (tgt : Int) → Ok (tgt, lv, st, w) → Ok (pc, lv, vI x :: st, w)) ∧
  (∀ (pc : Nat) (dflt lo hi : Int) (offs : Array Int) (len : Nat) (tgt : Nat) (x : Int32) (lv : List (Nat × MV)) (st : List MV) (w : Wld), decode cc pc = .ok (.tableswitch dflt lo hi offs, len) → (x.toInt < lo ∨ hi < x.toInt) → (pc : Int) + dflt = (tgt : Int) → Ok (tgt, lv, st, w) → Ok (pc, lv, vI x :: st, w)) ∧
  (∀ (pc : Nat) (dflt : Int) (ps : Array (Int × Int)) (len : Nat) (off : Int) (tgt : Nat) (x : Int32) (lv : List (Nat × MV)) (st : List MV) (w : Wld), decode cc pc = .ok (.lookupswitch dflt ps, len) → (ps.toList.zip (ps.toList.drop 1)).all (fun (a, next) => a.1 < next.1) = true → Op.lookupswitch.offset ps.toList dflt x.toInt = off → (pc : Int) + off = (tgt : Int) → Ok (tgt, lv, st, w) → Ok (pc, lv, vI x :: st, w)) ∧
  (∀ (pc : Nat) (lv : List (Nat × MV)) (v : Int32) (w : Wld), decode cc pc = .ok (.ireturn, 1) → retB ret v → o = .inr (some v) → wo = w → Ok (pc, lv, [vI v], w)) ∧
  (∀ (pc : Nat) (lv : List (Nat × MV)) (w : Wld), decode cc pc = .ok (.return_, 1) → ret = none → o = .inr none → wo = w → Ok (pc, lv, [], w)) ∧
  (∀ (pc : Nat) (lv lv' : List (Nat × MV)) (st : List MV) (w : Wld), (∀ q ∈ lv', q ∈ lv) → Ok (pc, lv', st, w) → Ok (pc, lv, st, w)) ∧
  (∀ (pc idx : Nat) (M : MI) (fr' lc' n : Nat) (as : List MV) (lv : List (Nat × MV)) (st t : List MV) (w : Wld) (o' : Oc) (w' : Wld), decode cc pc = .ok (.invokevirtual idx, 3) → (oc, idx, M, false) ∈ MLT → rcvB n M.1.cls = true → parB M as.length = true → st = as.reverse ++ vR n :: t → Nat.ble (catS t) 8 = true → Nat.ble (fr' + 1) fr = true → Nat.ble (8 + (M.2.2.1 + 11) + lc') lc = true → Con Z l M fr' lc' (vR n :: as) w o' w' → (∀ v, o' = .inr v → Ok (pc + 3, lv, retV v ++ t, w')) → (∀ k, o' = .inl k → o = .inl k ∧ wo = w') → Ok (pc, lv, st, w)) ∧
  (∀ (pc idx : Nat) (M : MI) (fr' lc' : Nat) (as : List MV) (lv : List (Nat × MV)) (st t : List MV) (w : Wld) (o' : Oc) (w' : Wld), decode cc pc = .ok (.invokestatic idx, 3) → (oc, idx, M, true) ∈ MLT → parB M as.length = true → st = as.reverse ++ t → Nat.ble (catS t) 8 = true → Nat.ble (fr' + 1) fr = true → Nat.ble (8 + (M.2.2.1 + 11) + lc') lc = true → Con Z l M fr' lc' as w o' w' → (∀ v, o' = .inr v → Ok (pc + 3, lv, retV v ++ t, w')) → (∀ k, o' = .inl k → o = .inl k ∧ wo = w') → Ok (pc, lv, st, w)) ∧
  (∀ (pc idx a b na nb d : Nat) (sp dp n : Int32) (lv : List (Nat × MV)) (t : List MV) (w : Wld), decode cc pc = .ok (.invokestatic idx, 3) → (oc, idx) ∈ ACT → d < 3 → arrOf a = some (tyOf d, na) → arrOf b = some (tyOf d, nb) → Nat.ble 1 fr = true → Nat.ble (8 + (nativeFrameWords "java/lang/System" "arraycopy" 5 + 11)) lc = true → Nat.ble (catS t) 8 = true → cpO w a na nb d sp dp n → Ok (pc + 3, lv, t, wcp w a b sp.toNatClampNeg dp.toNatClampNeg n.toNatClampNeg) → Ok (pc, lv, vI n :: vI dp :: vR b :: vI sp :: vR a :: t, w)) ∧
  (∀ (pc ik ic k : Nat) (lv : List (Nat × MV)) (t : List MV) (w : Wld), decode cc pc = .ok (.new ik, 3) → decode cc (pc + 3) = .ok (.dup, 1) → decode cc (pc + 4) = .ok (.invokespecial ic, 3) → decode cc (pc + 7) = .ok (.athrow, 1) → thrB oc ik ic k = true → Nat.ble (catS t) 8 = true → Nat.ble 6 fr = true → Nat.ble 89 lc = true → o = .inl k → wo = w → Ok (pc, lv, t, w)) ∧
  (∀ (pc idx : Nat) (x y : Int32) (lv : List (Nat × MV)) (t : List MV) (w : Wld), decode cc pc = .ok (.invokestatic idx, 3) → (oc, idx, mJ9_max_7cf53, true) ∈ MLT → Nat.ble 1 fr = true → Nat.ble 21 lc = true → Nat.ble (catS t) 8 = true → Ok (pc + 3, lv, vI (imax x y) :: t, w) → Ok (pc, lv, vI y :: vI x :: t, w)) ∧
  (∀ (pc idx : Nat) (x y : Int32) (lv : List (Nat × MV)) (t : List MV) (w : Wld), decode cc pc = .ok (.invokestatic idx, 3) → (oc, idx, mJ9_min_7cf53, true) ∈ MLT → Nat.ble 1 fr = true → Nat.ble 21 lc = true → Nat.ble (catS t) 8 = true → Ok (pc + 3, lv, vI (imin x y) :: t, w) → Ok (pc, lv, vI y :: vI x :: t, w))
section Body2
variable {Z : ZT} {p : Program} {l : Launch} {e : Env} {R : Room} {s : State} {m : MethodId} {args : Array Value} {below : List Frame} {meth : Method} {c : Code} {cells slots : Nat} {Q : State → Prop}
variable {oc nL : Nat} {cc : ByteArray}
theorem exB_ok (F : Fx Z p l s m args meth c oc nL cc) : ∀ (is : List AI) {pc : Nat} {lv lv' : List (Nat × MV)} {st st' : List MV} {w w' : Wld} {cs : List Prop}, dcB oc nL cc pc is = true → exB is lv st w = some (cs, lv', st', w') → (∀ q ∈ cs, q) →
    Okc Z p l e R s m args below meth c cells slots nL Q (pc + lenB is, lv', st', w') → Okc Z p l e R s m args below meth c cells slots nL Q (pc, lv, st, w) := by
  intro is
  induction is with
  | nil =>
    intro pc lv lv' st st' w w' cs _ hs _ k
    cases hs
    exact k
  | cons i t ih =>
    intro pc lv lv' st st' w w' cs hd hs hcs k
    simp only [dcB, Bool.and_eq_true, decide_eq_true_eq] at hd
    obtain ⟨d1, d2, d3, d4⟩ := hd
    simp only [exB] at hs
    split at hs
    next => cases hs
    next cs1 lv1 st1 w1 h1 =>
      split at hs
      next => cases hs
      next cs2 r h2 =>
        cases hs
        refine stp_ok F d1 d2 (fun k hk => ?_) h1 (fun q hq => hcs q (List.mem_append_left _ hq)) ?_
        · simp only [stoB, hk] at d3
          exact Nat.le_of_ble_eq_true d3
        · refine ih d4 h2 (fun q hq => hcs q (List.mem_append_right _ hq)) ?_
          have e1 : pc + ilen i.1 + lenB t = pc + lenB (i :: t) := by simp only [lenB]; omega
          rw [e1]
          exact k
theorem brn_ok (F : Fx Z p l s m args meth c oc nL cc) {i : Instr} {pc tgt : Nat} {lv : List (Nat × MV)} {st t : List MV} {w : Wld} {q : Prop} (hd : decode cc pc = .ok (i, 3)) (hb9 : brn i st = some (q, t)) (ht : (pc : Int) + boff i = (tgt : Int))
    (k1 : q → Okc Z p l e R s m args below meth c cells slots nL Q (tgt, lv, t, w)) (k2 : ¬ q → Okc Z p l e R s m args below meth c cells slots nL Q (pc + 3, lv, t, w)) : Okc Z p l e R s m args below meth c cells slots nL Q (pc, lv, st, w) := by
  obtain ⟨hx, hb, hml, hown, hts, hK, hD, hlk, hk⟩ := F
  intro H locs ls hP hS hl
  cases i with
  | ifCond kd off =>
    simp only [brn] at hb9
    split at hb9
    next x t =>
      cases hb9
      cases kd with
      | eq => exact lv_if_eq hx hb hd ht (fun h => k1 h H locs ls hP hS hl) (fun h => k2 h H locs ls hP hS hl)
      | ne => exact lv_if_ne hx hb hd ht (fun h => k1 h H locs ls hP hS hl) (fun h => k2 (fun z => z h) H locs ls hP hS hl)
      | lt => exact lv_if_lt hx hb hd ht (fun h => k1 h H locs ls hP hS hl) (fun h => k2 h H locs ls hP hS hl)
      | ge => exact lv_if_ge hx hb hd ht (fun h => k1 h H locs ls hP hS hl) (fun h => k2 h H locs ls hP hS hl)
      | gt => exact lv_if_gt hx hb hd ht (fun h => k1 h H locs ls hP hS hl) (fun h => k2 h H locs ls hP hS hl)
      | le => exact lv_if_le hx hb hd ht (fun h => k1 h H locs ls hP hS hl) (fun h => k2 h H locs ls hP hS hl)
    next => cases hb9
  | if_icmp kd off =>
    simp only [brn] at hb9
    split at hb9
    next y x t =>
      cases hb9
      cases kd with
      | eq => exact lv_icmp_eq hx hb hd ht (fun h => k1 h H locs ls hP hS hl) (fun h => k2 h H locs ls hP hS hl)
      | ne => exact lv_icmp_ne hx hb hd ht (fun h => k1 h H locs ls hP hS hl) (fun h => k2 (fun z => z h) H locs ls hP hS hl)
      | lt => exact lv_icmp_lt hx hb hd ht (fun h => k1 h H locs ls hP hS hl) (fun h => k2 h H locs ls hP hS hl)
      | ge => exact lv_icmp_ge hx hb hd ht (fun h => k1 h H locs ls hP hS hl) (fun h => k2 h H locs ls hP hS hl)
      | gt => exact lv_icmp_gt hx hb hd ht (fun h => k1 h H locs ls hP hS hl) (fun h => k2 h H locs ls hP hS hl)
      | le => exact lv_icmp_le hx hb hd ht (fun h => k1 h H locs ls hP hS hl) (fun h => k2 h H locs ls hP hS hl)
    next => cases hb9
  | _ => cases hb9
theorem catS_ok (t : List MV) : ((t.map (cv Z)).map fun v => v.category).sum = catS t := by
  induction t with
  | nil => rfl
  | cons v t ih =>
    simp only [List.map_cons, List.sum_cons, catS]
    rw [ih]
    rcases v with x | x | x | x | x <;> rfl
theorem PcO_blind (as : List MV) (w : Wld) : FrameBlind (PcO Z as w) := by
  intro a U g mk q
  obtain ⟨q0, qP, qK, qD, qS⟩ := q
  exact ⟨q0, qP, va_K.moved (u := U) (U := U.calling g mk a) (Vm.Alike.refl U.vm) qK, qD, Kst.same (u := U) (U := U.calling g mk a) rfl qS⟩
theorem PcO_of (F : Fx Z p l s m args meth c oc nL cc) {as : List MV} {w : Wld} {H : Heap} {locs : List Loc} (hP : va_P Z.1 vwCl (cW Z w) H) (hS : va_S (AW Z) s.heap H locs) : ∀ U : State, U.heap = H → s.WarmedH U.vm → PcO Z as w (as.map (cv Z)).toArray U := by
  intro U hU hW
  obtain ⟨hx, hb, hml, hown, hts, hK, hD, hlk, hk⟩ := F
  refine ⟨rfl, by rw [hU]; exact hP, va_K.moved hW.alike hK, hD, ?_⟩
  rw [hU]
  exact Kst.warm hW (hk.kept hS.2.1)
end Body2
