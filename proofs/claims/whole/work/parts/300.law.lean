/-! THE CLAIM OUT OF ONE WALK OF THE LAW'S BODY. Your part is whole_start (and what it stands on); all else here is the same for every law, but numbers. -/
def R_law : String := "DreamMatinsLaw"
def lw_P (b : Addr) (xs : List Int32) (args : Array Value) (s : State) : Prop := args = #[.ref b] ∧ s.IntsAt b xs ∧ xs.length ≤ 3072 ∧ (Jvm.Cond.and given_1 narrow_1).before args s = true
def lw_Q (_ : Array Value) (s : State) (o : Outcome) (t : State) : Prop := o = .returned (some (.int 1)) ∧ Framed s o t [] 601024 7293034
def lw_Z (below : List Frame) (a : Array Value) (s : State) : State → Prop := fun t => ∃ o, t.status = .running ∧ Ended t below o ∧ lw_Q a s o t
/-- the law's own end, with 1 on the stack, nothing written that was there before, its room as the claim has it -/
theorem lw_ret {p : Program} {l : Launch} {e : Env} {s : State} {m : MethodId} {below : List Frame} {meth : Method} {c : Code} {b : Nat} (hx : p.tables.exec = Jvm.exec) (hb : c.code = code) (hr : meth.sig.returnType = ret) (hlocks : meth.locks = false) {pc : Nat} {H : Heap} {ls : Array Slot} (hdg : decode code pc = .ok (.ireturn, 1)) : W p l e room_1 s m #[Value.ref b] below meth c H [] 601024 7293034 (lw_Z below #[Value.ref b] s) (F0 m pc ls [.int 1]) := by
  intro T hT X
  obtain ⟨fs, hret, hrun, hended, hW, hframe⟩ := X.leave (v := some (.int 1)) (hlocks := hlocks) (fun h => by rw [hr] at h; cases h)
  have hmeth' : T.vm.method? m = some meth := X.method'
  refine ⟨T.setFrames fs, ?_, .returned (some (.int 1)), hrun, hended, rfl, ⟨_, rfl⟩, hW, hframe⟩
  jvm_step X.here [X.here.top, hx, hb, hdg, hmeth', hr, ret, narrow_b1]
  (try refine ⟨rfl, ?_⟩); (try refine ⟨rfl, ?_⟩)
  first | (intro acts; rw [hret _ acts rfl rfl rfl]) | rw [hret _ _ rfl rfl rfl]
  exact Steps.refl _
/-- what holds at the law's entry: the machine, the code, the tables' words (any of lw_tbl by 'hts w (by decide +kernel)'), the script of L ints xs at the cell b, what the Statement gives of the start (any of its parts by flat_of_before) -/
def lw_At (p : Program) (s : State) (m : MethodId) (meth : Method) (c : Code) (b L : Nat) (xs : Nat → Int32) : Prop :=
  p.tables.exec = Jvm.exec ∧ c.code = code ∧ meth.sig.returnType = ret ∧ c.maxLocals = 7 ∧ s.vm.findClass R_law = some m.cls ∧ (∀ w ∈ lw_tbl, w.before #[Value.ref b] s = true) ∧ va_X b L xs s s.heap ∧ b < s.heap.size ∧ meth.locks = false ∧ (Jvm.Cond.and given_1 narrow_1).before #[Value.ref b] s = true
section Gen
variable {Z : ZT} {p : Program} {l : Launch} {e : Env} {R : Room} {s : State} {m : MethodId} {args : Array Value} {below : List Frame} {meth : Method} {c : Code} {cells slots : Nat} {Q : State → Prop}
variable {oc nL : Nat} {cc : ByteArray}
/-- a call that returns or throws, from any body -/
theorem try_run {pc : Nat} {lv : List (Nat × MV)} {t st0 : List MV} {w' : Wld} {o' : Oc} {a : Array Value} {H : Heap} {locs : List Loc} {ls : Array Slot}
    (hr : vx_Run p l e R s m args below meth c H locs cells slots (mcO o') (msO o') (F0 m pc ls (st0.map (cv Z))) (t.map (cv Z)) (QcO Z o' w' a) (XcO Z o' w') (AW Z))
    (hS : va_S (AW Z) s.heap H locs) (hl : lv_has ls nL (cL Z lv))
    (kr : ∀ v, o' = .inr v → Okc Z p l e R s m args below meth c cells slots nL Q (pc + 3, lv, retV v ++ t, w'))
    (kt : ∀ k, o' = .inl k → ∀ (H : Heap) (locs : List Loc) (q : Nat) (ce : Cell), va_P Z.1 vwCl (cW Z w') H → va_S (AW Z) s.heap H locs → H[q]? = some ce → ce.vm = .none → s.vm.findClass (EX k) = some ce.cls → vx_W p l e R s m args below meth c H locs (cells + 1) (slots + 6) Q (F0 m pc ls (t.map (cv Z))) q) :
    W p l e R s m args below meth c H locs cells slots Q (F0 m pc ls (st0.map (cv Z))) := by
  intro T hT X
  rcases hr T hT X with ⟨v, st₀, t', T', L, h0, X', hL, e1, e2, ⟨⟨v0, ho, hv, hb1⟩, hF⟩, st⟩ | ⟨q, st₀, t', T', L, E, ce, h0, X', hL, e1, e2, ⟨⟨k, ho, hE, hb1⟩, hF⟩, hce, hcv, hcl, st⟩
  · obtain ⟨k1, k2, k3⟩ := vx_keep h0 e1 hS (fun q _ h => h) (fun q h => h) hL hF
    have hk := kr v0 ho
    subst ho
    have hv : v = v0.map Value.int := by cases hv; rfl
    subst hv
    have hst : (v0.map Value.int).toList ++ t.map (cv Z) = (retV v0 ++ t).map (cv Z) := by cases v0 <;> rfl
    obtain ⟨t2, a1, b1⟩ := hk T'.heap (locs ++ L) ls (by rw [e1]; exact hb1) k3 hl T' rfl X'
    refine ⟨t2, st t2 ?_, b1⟩
    rw [show ({ F0 m pc ls (st0.map (cv Z)) with pc := (F0 m pc ls (st0.map (cv Z))).pc + 3, stack := (v0.map Value.int).toList ++ t.map (cv Z) } : JFrame) = F0 m (pc + 3) ls ((retV v0 ++ t).map (cv Z)) by rw [hst]]
    exact a1
  · obtain ⟨k1, k2, k3⟩ := vx_keep h0 e1 hS (fun q _ h => h) (fun q h => h) hL hF
    have hk := kt k ho
    subst ho
    obtain ⟨t2, a1, b1⟩ := hk T'.heap (locs ++ L) q ce (by rw [e1]; exact hb1) k3 (by rw [e1]; exact hce) hcv (by rw [← hE]; exact hcl) T' rfl X'
    exact ⟨t2, st.trans a1, b1⟩
theorem callV_try (F : Fx Z p l s m args meth c oc nL cc) (hst : l.stackTraces = false) {pc idx : Nat} {M : MI} {fr' lc' n : Nat} {as : List MV} {lv : List (Nat × MV)} {st t : List MV} {w : Wld} {o' : Oc} {w' : Wld}
    (hd : decode cc pc = .ok (.invokevirtual idx, 3)) (hm : (oc, idx, M, false) ∈ MLT) (hrc : rcvB n M.1.cls = true) (hpar : parB M as.length = true) (hstk : st = as.reverse ++ vR n :: t) (hcat : catS t ≤ 8) (hfr : fr' + 1 ≤ R.frames) (hlc : 8 + (M.2.2.1 + 11) + lc' ≤ R.locals) (hce : cells + mcO o' ≤ R.cells) (hsl : slots + msO o' ≤ R.slots) (hC : Con Z l M fr' lc' (vR n :: as) w o' w')
    (kr : ∀ v, o' = .inr v → Okc Z p l e R s m args below meth c cells slots nL Q (pc + 3, lv, retV v ++ t, w'))
    (kt : ∀ k, o' = .inl k → ∀ (H : Heap) (locs : List Loc) (ls : Array Slot) (q : Nat) (ce : Cell), va_P Z.1 vwCl (cW Z w') H → va_S (AW Z) s.heap H locs → lv_has ls nL (cL Z lv) → H[q]? = some ce → ce.vm = .none → s.vm.findClass (EX k) = some ce.cls → vx_W p l e R s m args below meth c H locs (cells + 1) (slots + 6) Q (F0 m pc ls (t.map (cv Z))) q) :
    Okc Z p l e R s m args below meth c cells slots nL Q (pc, lv, st, w) := by
  intro H locs ls hP hS hl
  have F9 := F
  obtain ⟨hx, hb, hml, hown, hts, hK, hD, hlk, hk⟩ := F
  simp only [parB, Bool.and_eq_true, decide_eq_true_eq] at hpar
  have cw : CallW R s args (RN oc) M.1.cls idx M.1 M.2.1 M.2.2.1 M.2.2.2 (wsM M) { frames := fr', cells := mcO o', slots := msO o', locals := lc' } (mcO o') (msO o') as.length :=
    cwV as.length hts (wsV_good hm) rfl rfl rfl ⟨rfl, hpar.1.2, hpar.2, hpar.1.1⟩ ⟨hfr, hlc⟩
  have hr := vx_runV (g := F0 m pc ls (st.map (cv Z))) (H := H) (locs := locs) (cells := cells) (slots := slots) (e := e) (below := below) (meth := meth) (b := Z.2.1 n) (As := as.map (cv Z)) (rest := t.map (cv Z)) ⟨hx, hb, hml, hown, hts⟩ (hC hst) cw ⟨PcO_blind _ _, rcv_ok F9 hrc hP, PcO_of (as := vR n :: as) F9 hP hS⟩ rfl (by simp) hl.1 (by rw [hstk]; simp [cv]) (lv_room (by rw [catS_ok]; exact hcat)) hd ⟨hce, hsl⟩
  exact try_run hr hS hl kr (fun k hk H locs q ce h1 h2 h3 h4 h5 => kt k hk H locs ls q ce h1 h2 hl h3 h4 h5)
theorem callS_try (F : Fx Z p l s m args meth c oc nL cc) (hst : l.stackTraces = false) {pc idx : Nat} {M : MI} {fr' lc' : Nat} {as : List MV} {lv : List (Nat × MV)} {st t : List MV} {w : Wld} {o' : Oc} {w' : Wld}
    (hd : decode cc pc = .ok (.invokestatic idx, 3)) (hm : (oc, idx, M, true) ∈ MLT) (hpar : parB M as.length = true) (hstk : st = as.reverse ++ t) (hcat : catS t ≤ 8) (hfr : fr' + 1 ≤ R.frames) (hlc : 8 + (M.2.2.1 + 11) + lc' ≤ R.locals) (hce : cells + mcO o' ≤ R.cells) (hsl : slots + msO o' ≤ R.slots) (hC : Con Z l M fr' lc' as w o' w')
    (kr : ∀ v, o' = .inr v → Okc Z p l e R s m args below meth c cells slots nL Q (pc + 3, lv, retV v ++ t, w'))
    (kt : ∀ k, o' = .inl k → ∀ (H : Heap) (locs : List Loc) (ls : Array Slot) (q : Nat) (ce : Cell), va_P Z.1 vwCl (cW Z w') H → va_S (AW Z) s.heap H locs → lv_has ls nL (cL Z lv) → H[q]? = some ce → ce.vm = .none → s.vm.findClass (EX k) = some ce.cls → vx_W p l e R s m args below meth c H locs (cells + 1) (slots + 6) Q (F0 m pc ls (t.map (cv Z))) q) :
    Okc Z p l e R s m args below meth c cells slots nL Q (pc, lv, st, w) := by
  intro H locs ls hP hS hl
  have F9 := F
  obtain ⟨hx, hb, hml, hown, hts, hK, hD, hlk, hk⟩ := F
  simp only [parB, Bool.and_eq_true, decide_eq_true_eq] at hpar
  have cw : CallB R s args (RN oc) idx M.1 M.2.1 M.2.2.1 M.2.2.2 (wsM M) { frames := fr', cells := mcO o', slots := msO o', locals := lc' } (mcO o') (msO o') as.length ∧ (Cond.static M.1).before args s = true :=
    va_cwS9 as.length hts (wsS_good hm) rfl rfl rfl ⟨hpar.1.2, hpar.2, hpar.1.1⟩ ⟨hfr, hlc⟩
  have hr := vx_runS (g := F0 m pc ls (st.map (cv Z))) (H := H) (locs := locs) (cells := cells) (slots := slots) (e := e) (below := below) (meth := meth) (As := as.map (cv Z)) (rest := t.map (cv Z)) ⟨hx, hb, hml, hown, hts⟩ (hC hst) cw ⟨PcO_blind _ _, PcO_of (as := as) F9 hP hS⟩ rfl (by simp) hl.1 (by rw [hstk]; simp) (lv_room (by rw [catS_ok]; exact hcat)) hd ⟨hce, hsl⟩
  exact try_run hr hS hl kr (fun k hk H locs q ce h1 h2 h3 h4 h5 => kt k hk H locs ls q ce h1 h2 hl h3 h4 h5)
/-- a handler: the exception laid aside, a number returned -/
theorem hnd_n {Qc : Array Value → State → Outcome → State → Prop} {XC : String → State → State → Prop} {free : Addr → Prop} (F : Fx Z p l s m args meth c oc nL cc) (hr : meth.sig.returnType = some .int) {hp : Nat} {k : Fin 4} {n : Int} {v : Int32} {q : Nat} {H : Heap} {locs : List Loc} {ls : Array Slot} {lv : List (Nat × MV)} (hl : lv_has ls nL (cL Z lv)) (hk : k.val < nL)
    (d0 : decode cc hp = .ok (.astore_n k, 1)) (d1 : decode cc (hp + 1) = .ok (.iconst n, 1)) (hv : Int32.ofInt n = v) (d2 : decode cc (hp + 1 + 1) = .ok (.ireturn, 1))
    (hq : ∀ t : State, t.heap = H → s.WarmedH t.vm → Qc args s (.returned (some (.int v))) t) (hf : ∀ q ∈ locs, free q.base) : W p l e R s m args below meth c H locs cells slots (vx_MQ below Qc XC args s cells slots free) (F0 m hp ls [.ref q]) := by
  obtain ⟨hx, hb, hml, hown, hts, hK, hD, hlk, hks⟩ := F
  refine lv_astore_n hx hb d0 rfl hl hk rfl (fun ls2 hl2 => ?_)
  refine lv_iconst hx hb d1 hv ?_
  apply vx_ret
  exact W.iret hx hb hr hq hf d2 hlk
theorem hnd_w {Qc : Array Value → State → Outcome → State → Prop} {XC : String → State → State → Prop} {free : Addr → Prop} (F : Fx Z p l s m args meth c oc nL cc) (hr : meth.sig.returnType = some .int) {hp k : Nat} {n : Int} {v : Int32} {q : Nat} {H : Heap} {locs : List Loc} {ls : Array Slot} {lv : List (Nat × MV)} (hl : lv_has ls nL (cL Z lv)) (hk : k < nL)
    (d0 : decode cc hp = .ok (.astore k, 2)) (d1 : decode cc (hp + 2) = .ok (.iconst n, 1)) (hv : Int32.ofInt n = v) (d2 : decode cc (hp + 2 + 1) = .ok (.ireturn, 1))
    (hq : ∀ t : State, t.heap = H → s.WarmedH t.vm → Qc args s (.returned (some (.int v))) t) (hf : ∀ q ∈ locs, free q.base) : W p l e R s m args below meth c H locs cells slots (vx_MQ below Qc XC args s cells slots free) (F0 m hp ls [.ref q]) := by
  obtain ⟨hx, hb, hml, hown, hts, hK, hD, hlk, hks⟩ := F
  refine lv_astore hx hb d0 hl hk rfl (fun ls2 hl2 => ?_)
  refine lv_iconst hx hb d1 hv ?_
  apply vx_ret
  exact W.iret hx hb hr hq hf d2 hlk
theorem okc_goto (F : Fx Z p l s m args meth c oc nL cc) {pc tgt : Nat} {off : Int} {lv : List (Nat × MV)} {st : List MV} {w : Wld} (hd : decode cc pc = .ok (.goto off, 3)) (ht : (pc : Int) + off = (tgt : Int)) (k : Okc Z p l e R s m args below meth c cells slots nL Q (tgt, lv, st, w)) : Okc Z p l e R s m args below meth c cells slots nL Q (pc, lv, st, w) := by
  intro H locs ls hP hS hl
  exact lv_goto F.1 F.2.1 hd ht (k H locs ls hP hS hl)
theorem okc_ret (F : Fx Z p l s m args meth c oc nL cc) (hr : meth.sig.returnType = some .int) {pc : Nat} {lv : List (Nat × MV)} {v : Int32} {w : Wld} {XC : String → State → State → Prop} {mc ms : Nat} (hc : cells ≤ mc) (hs : slots ≤ ms) (hd : decode cc pc = .ok (.ireturn, 1)) : Okc Z p l e R s m args below meth c cells slots nL (vx_MQ below (QcO Z (.inr (some v)) w) XC args s mc ms (AW Z)) (pc, lv, [vI v], w) := by
  intro H locs ls hP hS hl
  refine W.widen hc hs ?_
  apply vx_ret
  have hq : ∀ t : State, t.heap = H → s.WarmedH t.vm → QcO Z (.inr (some v)) w args s (.returned (some (.int v))) t := fun t h9 _ => ⟨⟨some v, rfl, rfl, by rw [h9]; exact hP⟩, hS.F h9⟩
  exact W.iret F.1 F.2.1 hr hq hS.2.2 hd F.2.2.2.2.2.2.2.1
end Gen
theorem long32 (r : Int32) : (Int32.toInt64 r).toInt32 = r := by simp
/-- a helper of the law: it catches -/
abbrev HI : Type := MethodName × ByteArray × Nat × List (Nat × Nat × Nat × Nat)
def wsH (M : HI) : List Cond := .codeWith M.1 M.2.1 M.2.2.1 (some .int) M.2.2.2 :: TBL
def PcH (Z : ZT) (as : List MV) (w : Wld) : Array Value → State → Prop := fun a U => PcO Z as w a U ∧ va_Nc "java/lang/IllegalArgumentException" "java/util/NoSuchElementException" U
def ConH (Z : ZT) (l : Launch) (M : HI) (fr lc : Nat) (as : List MV) (w : Wld) (r : Int32) (w' : Wld) : Prop :=
  l.stackTraces = false → vx_Met l M.1 (wsH M) { frames := fr, cells := 1, slots := 6, locals := lc } (PcH Z as w) (QcO Z (.inr (some r)) w') (fun _ _ _ => False) 1 6 (AW Z)
