section Body3
variable {Z : ZT} {p : Program} {l : Launch} {e : Env} {s : State} {m : MethodId} {args : Array Value} {below : List Frame} {meth : Method} {c : Code}
variable {oc nL : Nat} {cc : ByteArray} {fr lc : Nat} {o : Oc} {wo : Wld}
def RmO (fr lc : Nat) (o : Oc) : Room := { frames := fr, cells := mcO o, slots := msO o, locals := lc }
def QmO (Z : ZT) (below : List Frame) (args : Array Value) (s : State) (o : Oc) (wo : Wld) : State → Prop := vx_MQ below (QcO Z o wo) (XcO Z o wo) args s (mcO o) (msO o) (AW Z)
/-- the predicate of a method's body -/
def Okm (Z : ZT) (p : Program) (l : Launch) (e : Env) (s : State) (m : MethodId) (args : Array Value) (below : List Frame) (meth : Method) (c : Code) (nL fr lc : Nat) (o : Oc) (wo : Wld) : Cfg → Prop := Okc Z p l e (RmO fr lc o) s m args below meth c 0 0 nL (QmO Z below args s o wo)
theorem run_ok (ht : ∀ x ∈ c.exceptionTable.toList, False) (hlk : meth.locks = false) {pc : Nat} {lv : List (Nat × MV)} {t st0 : List MV} {w' : Wld} {o' : Oc} {a : Array Value} {H : Heap} {locs : List Loc} {ls : Array Slot}
    (hr : vx_Run p l e (RmO fr lc o) s m args below meth c H locs 0 0 (mcO o') (msO o') (F0 m pc ls (st0.map (cv Z))) (t.map (cv Z)) (QcO Z o' w' a) (XcO Z o' w') (AW Z))
    (hS : va_S (AW Z) s.heap H locs) (hl : lv_has ls nL (cL Z lv))
    (kr : ∀ v, o' = .inr v → Okm Z p l e s m args below meth c nL fr lc o wo (pc + 3, lv, retV v ++ t, w')) (kt : ∀ k, o' = .inl k → o = .inl k ∧ wo = w') :
    W p l e (RmO fr lc o) s m args below meth c H locs 0 0 (QmO Z below args s o wo) (F0 m pc ls (st0.map (cv Z))) := by
  intro T hT X
  rcases hr T hT X with ⟨v, st₀, t', T', L, h0, X', hL, e1, e2, ⟨⟨v0, ho, hv, hb1⟩, hF⟩, st⟩ | ⟨q, st₀, t', T', L, E, ce, h0, X', hL, e1, e2, ⟨⟨k, ho, hE, hb1⟩, hF⟩, hce, hcv, hcl, st⟩
  · obtain ⟨k1, k2, k3⟩ := vx_keep h0 e1 hS (fun q _ h => h) (fun q h => h) hL hF
    have hk := kr v0 ho
    subst ho
    have hv : v = v0.map Value.int := by cases hv; rfl
    subst hv
    have hst : (v0.map Value.int).toList ++ t.map (cv Z) = (retV v0 ++ t).map (cv Z) := by cases v0 <;> rfl
    obtain ⟨t2, a1, b1⟩ := hk T'.heap (locs ++ L) ls (by rw [e1]; exact hb1) k3 hl T' rfl X'
    refine ⟨t2, st t2 ?_, b1⟩
    rw [show ({ F0 m pc ls (st0.map (cv Z)) with pc := (F0 m pc ls (st0.map (cv Z))).pc + 3, stack := (v0.map Value.int).toList ++ t.map (cv Z) } : JFrame) = F0 m (pc + 3) ls ((retV v0 ++ t).map (cv Z)) by rw [hst]]
    exact a1
  · obtain ⟨k1, k2, k3⟩ := vx_keep h0 e1 hS (fun q _ h => h) (fun q h => h) hL hF
    obtain ⟨hok, hwo⟩ := kt k ho
    subst ho; subst hok; subst hwo
    have hx : ∀ t9 : State, t9.heap = T'.heap → s.vm.Alike t9.vm → XcO Z (.inl k) wo E s t9 := fun t9 h9 _ => ⟨⟨k, rfl, hE, by rw [h9, e1]; exact hb1⟩, k3.F h9⟩
    obtain ⟨t2, a1, b1⟩ := vx_out (Qc := QcO Z (.inl k) wo) (XC := XcO Z (.inl k) wo) (free := AW Z) (mc := 1) (ms := 6) (pc := pc) (ls := ls) (rest := t.map (cv Z)) (R := RmO fr lc (.inl k)) (p := p) (l := l) (e := e) (m := m) (args := args) (below := below) (meth := meth) (c := c) (fun x hx => absurd hx (fun z => ht x z)) hlk (by rw [e1]; exact hce) hcv hcl hx k3.2.2 (Nat.le_refl _) (Nat.le_refl _) T' rfl X'
    exact ⟨t2, st.trans a1, b1⟩
theorem wsV_good {idx : Nat} {M : MI} (hm : (oc, idx, M, false) ∈ MLT) : GoodIn TBL (wsV (RN oc) idx M.1.cls M.1 (wsM M)) := by
  have h := MLT_tbl hm
  intro w hw
  have hin : w ∈ TBL := by
    simp only [wsV, wsM, List.mem_append, List.mem_cons] at hw
    rcases hw with (rfl | rfl | rfl | rfl | hw) | rfl | hw
    · exact h _ (by simp [methWords])
    · exact h _ (by simp [methWords])
    · exact h _ (by simp [methWords])
    · exact h _ (by simp [methWords])
    · cases hw
    · exact h _ (by simp [methWords])
    · exact hw
  exact ⟨hin, good_of_word (List.mem_filter.mp hin).2⟩
theorem wsS_good {idx : Nat} {M : MI} (hm : (oc, idx, M, true) ∈ MLT) : GoodIn TBL (va_wsS (RN oc) idx M.1 (wsM M)) := by
  have h := MLT_tbl hm
  intro w hw
  have hin : w ∈ TBL := by
    simp only [va_wsS, wsM, List.mem_append, List.mem_cons] at hw
    rcases hw with (rfl | rfl | rfl | hw) | rfl | hw
    · exact h _ (by simp [methWords])
    · exact h _ (by simp [methWords])
    · exact h _ (by simp [methWords])
    · cases hw
    · exact h _ (by simp [methWords])
    · exact hw
  exact ⟨hin, good_of_word (List.mem_filter.mp hin).2⟩
theorem rcv_ok (F : Fx Z p l s m args meth c oc nL cc) {n : Nat} {C : String} {w : Wld} {H : Heap} (h : rcvB n C = true) (hP : va_P Z.1 vwCl (cW Z w) H) : ∃ cell : Cell, H[Z.2.1 n]? = some cell ∧ cell.vm.isStatics = false ∧ s.vm.findClass C = some cell.cls := by
  obtain ⟨hx, hb, hml, hown, hts, hK, hD, hlk, hk⟩ := F
  unfold rcvB at h
  split at h
  next ci fds hc =>
    split at h
    next q hq =>
      have hC : q.1 = C := by simpa using h
      rw [← hC]
      exact va_recv hK hP hq (cW_of hc)
    next => cases h
  next => cases h
theorem callV_ok (F : Fx Z p l s m args meth c oc nL cc) (hst : l.stackTraces = false) (ht : ∀ x ∈ c.exceptionTable.toList, False) {pc idx : Nat} {M : MI} {fr' lc' n : Nat} {as : List MV} {lv : List (Nat × MV)} {st t : List MV} {w : Wld} {o' : Oc} {w' : Wld}
    (hd : decode cc pc = .ok (.invokevirtual idx, 3)) (hm : (oc, idx, M, false) ∈ MLT) (hrc : rcvB n M.1.cls = true) (hpar : parB M as.length = true) (hstk : st = as.reverse ++ vR n :: t) (hcat : catS t ≤ 8) (hfr : fr' + 1 ≤ fr) (hlc : 8 + (M.2.2.1 + 11) + lc' ≤ lc) (hC : Con Z l M fr' lc' (vR n :: as) w o' w')
    (kr : ∀ v, o' = .inr v → Okm Z p l e s m args below meth c nL fr lc o wo (pc + 3, lv, retV v ++ t, w')) (kt : ∀ k, o' = .inl k → o = .inl k ∧ wo = w') : Okm Z p l e s m args below meth c nL fr lc o wo (pc, lv, st, w) := by
  intro H locs ls hP hS hl
  have F9 := F
  obtain ⟨hx, hb, hml, hown, hts, hK, hD, hlk, hk⟩ := F
  simp only [parB, Bool.and_eq_true, decide_eq_true_eq] at hpar
  have hroom : 0 + mcO o' ≤ mcO o ∧ 0 + msO o' ≤ msO o := by
    cases o' with
    | inl k => obtain ⟨h1, -⟩ := kt k rfl; subst h1; exact ⟨Nat.le_refl _, Nat.le_refl _⟩
    | inr v => exact ⟨Nat.zero_le _, Nat.zero_le _⟩
  have cw : CallW (RmO fr lc o) s args (RN oc) M.1.cls idx M.1 M.2.1 M.2.2.1 M.2.2.2 (wsM M) { frames := fr', cells := mcO o', slots := msO o', locals := lc' } (mcO o') (msO o') as.length :=
    cwV as.length hts (wsV_good hm) rfl rfl rfl ⟨rfl, hpar.1.2, hpar.2, hpar.1.1⟩ ⟨hfr, hlc⟩
  have hr := vx_runV (g := F0 m pc ls (st.map (cv Z))) (H := H) (locs := locs) (cells := 0) (slots := 0) (e := e) (below := below) (meth := meth) (b := Z.2.1 n) (As := as.map (cv Z)) (rest := t.map (cv Z)) ⟨hx, hb, hml, hown, hts⟩ (hC hst) cw ⟨PcO_blind _ _, rcv_ok F9 hrc hP, PcO_of (as := vR n :: as) F9 hP hS⟩ rfl (by simp) hl.1 (by rw [hstk]; simp [cv]) (lv_room (by rw [catS_ok]; exact hcat)) hd hroom
  exact run_ok ht hlk hr hS hl kr kt
theorem va_cwS9 (n : Nat) {R : Room} {Ts ws ws' : List Cond} {own : String} {idx mc ms maxL : Nat} {y : MethodName} {bytes : ByteArray} {ret : Option FieldType} {rm : Room} (ht : ∀ w ∈ Ts, w.before args s = true) (hT : GoodIn Ts (va_wsS own idx y ws)) (hw : ws = Cond.code y bytes maxL ret :: ws') (hrc : rm.cells = mc) (hrs : rm.slots = ms)
    (hd : y.cls ≠ "java/lang/invoke/MethodHandle" ∧ y.cls ≠ "java/lang/invoke/VarHandle" ∧ (parseMethodDescriptor y.desc).map (fun d => d.parameters.length) = some n) (hR : rm.frames + 1 ≤ R.frames ∧ 8 + (maxL + 11) + rm.locals ≤ R.locals) :
    CallB R s args own idx y bytes maxL ret ws rm mc ms n ∧ (Cond.static y).before args s = true := by
  have ok : ∀ w ∈ va_wsS own idx y ws, w.before args s = true := fun w h => ht w (hT w h).1
  exact ⟨callB_of n ht (fun w h => hT w (by unfold va_wsS; exact List.mem_append_right _ h)) hw hrc hrs (ok _ (by simp [va_wsS])) (ok _ (by simp [va_wsS])) hd hR, ok _ (by simp [va_wsS])⟩
theorem callS_ok (F : Fx Z p l s m args meth c oc nL cc) (hst : l.stackTraces = false) (ht : ∀ x ∈ c.exceptionTable.toList, False) {pc idx : Nat} {M : MI} {fr' lc' : Nat} {as : List MV} {lv : List (Nat × MV)} {st t : List MV} {w : Wld} {o' : Oc} {w' : Wld}
    (hd : decode cc pc = .ok (.invokestatic idx, 3)) (hm : (oc, idx, M, true) ∈ MLT) (hpar : parB M as.length = true) (hstk : st = as.reverse ++ t) (hcat : catS t ≤ 8) (hfr : fr' + 1 ≤ fr) (hlc : 8 + (M.2.2.1 + 11) + lc' ≤ lc) (hC : Con Z l M fr' lc' as w o' w')
    (kr : ∀ v, o' = .inr v → Okm Z p l e s m args below meth c nL fr lc o wo (pc + 3, lv, retV v ++ t, w')) (kt : ∀ k, o' = .inl k → o = .inl k ∧ wo = w') : Okm Z p l e s m args below meth c nL fr lc o wo (pc, lv, st, w) := by
  intro H locs ls hP hS hl
  have F9 := F
  obtain ⟨hx, hb, hml, hown, hts, hK, hD, hlk, hk⟩ := F
  simp only [parB, Bool.and_eq_true, decide_eq_true_eq] at hpar
  have hroom : 0 + mcO o' ≤ mcO o ∧ 0 + msO o' ≤ msO o := by
    cases o' with
    | inl k => obtain ⟨h1, -⟩ := kt k rfl; subst h1; exact ⟨Nat.le_refl _, Nat.le_refl _⟩
    | inr v => exact ⟨Nat.zero_le _, Nat.zero_le _⟩
  have cw : CallB (RmO fr lc o) s args (RN oc) idx M.1 M.2.1 M.2.2.1 M.2.2.2 (wsM M) { frames := fr', cells := mcO o', slots := msO o', locals := lc' } (mcO o') (msO o') as.length ∧ (Cond.static M.1).before args s = true :=
    va_cwS9 as.length hts (wsS_good hm) rfl rfl rfl ⟨hpar.1.2, hpar.2, hpar.1.1⟩ ⟨hfr, hlc⟩
  have hr := vx_runS (g := F0 m pc ls (st.map (cv Z))) (H := H) (locs := locs) (cells := 0) (slots := 0) (e := e) (below := below) (meth := meth) (As := as.map (cv Z)) (rest := t.map (cv Z)) ⟨hx, hb, hml, hown, hts⟩ (hC hst) cw ⟨PcO_blind _ _, PcO_of (as := as) F9 hP hS⟩ rfl (by simp) hl.1 (by rw [hstk]; simp) (lv_room (by rw [catS_ok]; exact hcat)) hd hroom
  exact run_ok ht hlk hr hS hl kr kt
theorem ACT_tbl {q : Nat × Nat} (h : q ∈ ACT) : copyWord q ∈ TBL := List.mem_filter.mpr ⟨ACT_in q h, rfl⟩
theorem copy_ok (F : Fx Z p l s m args meth c oc nL cc) {pc idx a b na nb d : Nat} {sp dp n : Int32} {lv : List (Nat × MV)} {t : List MV} {w : Wld} (hd : decode cc pc = .ok (.invokestatic idx, 3)) (hi : (oc, idx) ∈ ACT) (h3 : d < 3) (ha : arrOf a = some (tyOf d, na)) (hb9 : arrOf b = some (tyOf d, nb)) (hfr : 1 ≤ fr) (hlc : 8 + (nativeFrameWords "java/lang/System" "arraycopy" 5 + 11) ≤ lc) (hcat : catS t ≤ 8) (hc : cpO w a na nb d sp dp n)
    (k : Okm Z p l e s m args below meth c nL fr lc o wo (pc + 3, lv, t, wcp w a b sp.toNatClampNeg dp.toNatClampNeg n.toNatClampNeg)) : Okm Z p l e s m args below meth c nL fr lc o wo (pc, lv, vI n :: vI dp :: vR b :: vI sp :: vR a :: t, w) := by
  intro H locs ls hP hS hl
  obtain ⟨hx, hb, hml, hown, hts, hK, hD, hlk, hk⟩ := F
  obtain ⟨c1, c2, c3, c4, c5, c6⟩ := hc
  have e0 : cE Z (w a) (.inl (tyOf d, na)) = .inl (Z.2.2.2.2 (tyOf d), na, .inl (w a)) := by match d, h3 with | 0, _ => rfl | 1, _ => rfl | 2, _ => rfl
  have e1 : ∀ f, cE Z f (.inl (tyOf d, nb)) = .inl (Z.2.2.2.2 (tyOf d), nb, .inl f) := by match d, h3 with | 0, _ => exact fun _ => rfl | 1, _ => exact fun _ => rfl | 2, _ => exact fun _ => rfl
  have hr : refKind (tyOf d) = false := by match d, h3 with | 0, _ => rfl | 1, _ => rfl | 2, _ => rfl
  have g0 := cW_of (Z := Z) (w := w) (arrOf_spec ha)
  rw [e0] at g0
  have g1 := cW_of (Z := Z) (w := w) (arrOf_spec hb9)
  rw [e1] at g1
  have good : ∀ {w9 : Cond}, w9 ∈ lw_tbl → goodWord w9 = true → w9.before args s = true := fun h1 h2 => hts _ (List.mem_filter.mpr ⟨h1, h2⟩)
  refine va_copyi (own := RN oc) (ls := ls) hx hb (hml.trans hl.1.symm) hown (hts _ (ACT_tbl hi)) (good ACT0_in.1 rfl) (good ACT0_in.2.1 rfl) (good ACT0_in.2.2 rfl) hK hP (hD w) hS a b d d g0 g1 (ty_at (Nat.lt_succ_of_lt h3)) (ty_at (Nat.lt_succ_of_lt h3)) hr c1 c2 c3 c4 c5 c6 hfr (Nat.le_trans (Nat.add_le_add_right (by rw [catS_ok]; exact hcat) _) hlc) hd (fun H1 locs1 hP1 hD1 hS1 => ?_)
  rw [cW_set (w' := wcp w a b sp.toNatClampNeg dp.toNatClampNeg n.toNatClampNeg) (arrOf_spec hb9) (by rw [wcp_same, e1]) (fun n' hn' => wcp_other w _ _ _ _ hn')] at hP1
  exact k H1 locs1 ls hP1 hS1 hl
theorem throw_ok (F : Fx Z p l s m args meth c oc nL cc) (hst : l.stackTraces = false) (ht : ∀ x ∈ c.exceptionTable.toList, False) {pc ik ic k : Nat} {lv : List (Nat × MV)} {t : List MV} {w : Wld} (d0 : decode cc pc = .ok (.new ik, 3)) (d3 : decode cc (pc + 3) = .ok (.dup, 1)) (d4 : decode cc (pc + 4) = .ok (.invokespecial ic, 3)) (d7 : decode cc (pc + 7) = .ok (.athrow, 1)) (hb9 : thrB oc ik ic k = true) (hcat : catS t ≤ 8) (hfr : 6 ≤ fr) (hlc : 89 ≤ lc) (ho : o = .inl k) (hwo : wo = w) :
    Okm Z p l e s m args below meth c nL fr lc o wo (pc, lv, t, w) := by
  intro H locs ls hP hS hl
  obtain ⟨hx, hb, hml, hown, hts, hK, hD, hlk, hk⟩ := F
  subst ho; subst hwo
  simp only [thrB, Bool.and_eq_true, Bool.or_eq_true, decide_eq_true_eq] at hb9
  obtain ⟨rfl, hb9⟩ := hb9
  have hX : ∀ t9 : State, s.vm.Alike t9.vm → H.size ≤ t9.heap.size → (∀ q : Nat, q < H.size → t9.heap[q]? = H[q]?) → XcO Z (.inl k) wo (EX k) s t9 := fun t9 _ h2 h3 =>
    ⟨⟨k, rfl, rfl, fun j q hj => (hP j q hj).kept (h3 q.1 (hP j q hj).lt)⟩, Nat.le_trans hS.1 h2, fun q h4 h5 => by rw [h3 q (Nat.lt_of_lt_of_le h4 hS.1)]; exact hS.2.1 q h4 h5⟩
  rcases hb9 with ⟨⟨rfl, rfl⟩, rfl⟩ | ⟨⟨rfl, rfl⟩, rfl⟩
  · exact vx_throw0 (names := ["java/lang/RuntimeException", "java/lang/Exception"]) (A := AW Z) hx hb hst hown (by decide +kernel) (by decide +kernel) (hts _ thr0_cl.1) (hts _ thr0_cl.2) (fun w9 hw => thr0_at hts hk.2.2.1 w9 (List.mem_filter.mp hw).1 (List.mem_filter.mp hw).2) thr0_good hk.1 hk.2.1 hS (hl.1.trans hml.symm) d0 d3 d4 d7 (fun x hx => absurd hx (fun z => ht x z)) (by show 2 + 3 < fr; omega) (by show _ + (13 * (2 + 1) + 42) ≤ lc; rw [catS_ok]; show catS t + _ ≤ lc; omega) (Nat.le_refl _) (Nat.le_refl _) hlk hX hS.2.2 (Nat.le_refl _) (Nat.le_refl _)
  · exact vx_throw0 (names := ["java/lang/RuntimeException", "java/lang/Exception"]) (A := AW Z) hx hb hst hown (by decide +kernel) (by decide +kernel) (hts _ thr1_cl.1) (hts _ thr1_cl.2) (fun w9 hw => thr1_at hts hk.2.2.1 w9 (List.mem_filter.mp hw).1 (List.mem_filter.mp hw).2) thr1_good hk.1 hk.2.1 hS (hl.1.trans hml.symm) d0 d3 d4 d7 (fun x hx => absurd hx (fun z => ht x z)) (by show 2 + 3 < fr; omega) (by show _ + (13 * (2 + 1) + 42) ≤ lc; rw [catS_ok]; show catS t + _ ≤ lc; omega) (Nat.le_refl _) (Nat.le_refl _) hlk hX hS.2.2 (Nat.le_refl _) (Nat.le_refl _)
theorem Clo_of (F : Fx Z p l s m args meth c oc nL cc) (hst : l.stackTraces = false) (ht : ∀ x ∈ c.exceptionTable.toList, False) {ret : Option FieldType} (hret : meth.sig.returnType = ret) : Clo Z l oc nL cc ret fr lc o wo (Okm Z p l e s m args below meth c nL fr lc o wo) := by
  have F9 := F
  obtain ⟨hx, hb, hml, hown, hts, hK, hD, hlk, hk⟩ := F
  refine ⟨?_, ?_, ?_, ?_, ?_, ?_, ?_, ?_, ?_, ?_, ?_, ?_, ?_, ?_, ?_⟩
  · intro pc is lv st w cs lv' st' w' h1 h2 h3 k
    exact exB_ok F9 is h1 h2 h3 k
  · intro pc i tgt lv st w q t h1 h2 h3 k1 k2
    exact brn_ok F9 h1 h2 h3 k1 k2
  · intro pc off tgt lv st w h1 h2 k H locs ls hP hS hl
    exact lv_goto hx hb h1 h2 (k H locs ls hP hS hl)
  · intro pc dflt lo hi offs len off tgt x lv st w h1 h2 h3 h4 h5 k H locs ls hP hS hl
    exact lv_tableIn hx hb h1 h2 h3 h4 h5 (k H locs ls hP hS hl)
  · intro pc dflt lo hi offs len tgt x lv st w h1 h2 h3 k H locs ls hP hS hl
    exact lv_tableOut hx hb h1 h2 h3 (k H locs ls hP hS hl)
  · intro pc dflt ps len off tgt x lv st w h1 h2 h3 h4 k H locs ls hP hS hl
    exact lv_lookup hx hb h1 h2 h3 h4 (k H locs ls hP hS hl)
  · intro pc lv v w h1 h2 h3 h4 H locs ls hP hS hl
    subst h3; subst h4
    apply vx_ret
    have hq : ∀ t : State, t.heap = H → s.WarmedH t.vm → QcO Z (.inr (some v)) wo args s (.returned (some (.int v))) t := fun t h9 _ => ⟨⟨some v, rfl, rfl, by rw [h9]; exact hP⟩, hS.F h9⟩
    cases hr9 : ret with
    | none => rw [hr9] at h2; exact absurd h2 (by simp [retB])
    | some ty =>
      rw [hr9] at h2
      have hn : narrow ty (.int v) = .int v := by
        cases ty with
        | int => rfl
        | boolean => rcases h2 with rfl | rfl <;> rfl
        | _ => exact absurd h2 (by simp [retB])
      exact W.zret hx hb (hret.trans hr9) hn hq hS.2.2 h1 hlk
  · intro pc lv w h1 h2 h3 h4 H locs ls hP hS hl
    subst h3; subst h4
    apply vx_ret
    have hq : ∀ t : State, t.heap = H → s.WarmedH t.vm → QcO Z (.inr none) wo args s (.returned none) t := fun t h9 _ => ⟨⟨none, rfl, rfl, by rw [h9]; exact hP⟩, hS.F h9⟩
    exact W.vret hx hb (hret.trans h2) hq hS.2.2 h1 hlk
  · intro pc lv lv' st w h1 k H locs ls hP hS hl
    refine k H locs ls hP hS ⟨hl.1, hl.2.1, fun q hq => ?_⟩
    obtain ⟨r, hr, rfl⟩ := List.mem_map.mp hq
    exact hl.2.2 _ (List.mem_map.mpr ⟨r, h1 r hr, rfl⟩)
  · intro pc idx M fr' lc' n as lv st t w o' w' h1 h2 h3 h4 h5 h6 h7 h8 h9 k1 k2
    exact callV_ok F9 hst ht h1 h2 h3 h4 h5 (Nat.le_of_ble_eq_true h6) (Nat.le_of_ble_eq_true h7) (Nat.le_of_ble_eq_true h8) h9 k1 k2
  · intro pc idx M fr' lc' as lv st t w o' w' h1 h2 h3 h4 h5 h6 h7 h8 k1 k2
    exact callS_ok F9 hst ht h1 h2 h3 h4 (Nat.le_of_ble_eq_true h5) (Nat.le_of_ble_eq_true h6) (Nat.le_of_ble_eq_true h7) h8 k1 k2
  · intro pc idx a b na nb d sp dp n lv t w h1 h2 h3 h4 h5 h6 h7 h8 h9 k
    exact copy_ok F9 h1 h2 h3 h4 h5 (Nat.le_of_ble_eq_true h6) (Nat.le_of_ble_eq_true h7) (Nat.le_of_ble_eq_true h8) h9 k
  · intro pc ik ic k lv t w h1 h2 h3 h4 h5 h6 h7 h8 h9 h10
    exact throw_ok F9 hst ht h1 h2 h3 h4 h5 (Nat.le_of_ble_eq_true h6) (Nat.le_of_ble_eq_true h7) (Nat.le_of_ble_eq_true h8) h9 h10
  · intro pc idx x y lv t w h1 h2 h3 h4 h5 k H locs ls hP hS hl
    have hw := MLT_tbl h2
    have h3 : 1 ≤ fr := Nat.le_of_ble_eq_true h3
    have h4 : 21 ≤ lc := Nat.le_of_ble_eq_true h4
    have h5 : catS t ≤ 8 := Nat.le_of_ble_eq_true h5
    exact va_mmax (own := RN oc) hx hb (hml.trans hl.1.symm) hown (hts _ (hw _ (List.mem_of_getElem? (i := 0) rfl))) (hts _ (hw _ (List.mem_of_getElem? (i := 3) rfl))) (hts _ (hw _ (List.mem_of_getElem? (i := 2) rfl))) (hts _ (hw _ (List.mem_of_getElem? (i := 1) rfl))) h3 (by show _ + 13 ≤ lc; rw [catS_ok]; omega) (Nat.zero_le _) (Nat.zero_le _) h1 (k H locs ls hP hS hl)
  · intro pc idx x y lv t w h1 h2 h3 h4 h5 k H locs ls hP hS hl
    have hw := MLT_tbl h2
    have h3 : 1 ≤ fr := Nat.le_of_ble_eq_true h3
    have h4 : 21 ≤ lc := Nat.le_of_ble_eq_true h4
    have h5 : catS t ≤ 8 := Nat.le_of_ble_eq_true h5
    exact va_mmin (own := RN oc) hx hb (hml.trans hl.1.symm) hown (hts _ (hw _ (List.mem_of_getElem? (i := 0) rfl))) (hts _ (hw _ (List.mem_of_getElem? (i := 3) rfl))) (hts _ (hw _ (List.mem_of_getElem? (i := 2) rfl))) (hts _ (hw _ (List.mem_of_getElem? (i := 1) rfl))) h3 (by show _ + 13 ≤ lc; rw [catS_ok]; omega) (Nat.zero_le _) (Nat.zero_le _) h1 (k H locs ls hP hS hl)
end Body3
theorem mlA_ok {Z : ZT} : ∀ (i : Nat) (as : List MV), lv_args i (as.map (cv Z)) = cL Z (mlA i as) := by
  intro i as
  induction as generalizing i with
  | nil => rfl
  | cons v t ih =>
    simp only [List.map_cons, lv_args, mlA, cL]
    have hc : (if (cv Z v).category = 2 then i + 2 else i + 1) = (bif is1 v then i + 1 else i + 2) := by
      rcases v with x | x | x | x | x <;> rfl
    rw [hc, ih]
    rfl
theorem lgsl_len {Z : ZT} (as : List MV) : (lg_sl (as.map (cv Z))).length = catS as := by
  induction as with
  | nil => rfl
  | cons v t ih =>
    rw [List.map_cons]
    simp only [lg_sl, List.flatMap_cons, List.length_append, catS]
    have := ih
    simp only [lg_sl] at this
    rw [this]
    rcases v with x | x | x | x | x <;> rfl
def slO (as : List MV) : Nat := catS as
/-- a method's contract out of its body -/
theorem Con_of {Z : ZT} {l : Launch} {M : MI} {oc fr lc : Nat} {as : List MV} {w : Wld} {o : Oc} {wo : Wld} (hpl : plainName M.1.cls = true) (hoc : M.1.cls = RN oc) (hsz : Nat.ble (catS as) M.2.2.1 = true)
    (h : ∀ Ok : Cfg → Prop, Clo Z l oc M.2.2.1 M.2.1 M.2.2.2 fr lc o wo Ok → Ok (0, mlA 0 as, [], w)) : Con Z l M fr lc as w o wo := by
  intro hst
  refine vx_ofW (cc := M.2.1) (maxL := M.2.2.1) (ret := M.2.2.2) hpl rfl ?_
  intro p e s m args below meth c s₁ B hml ht hv
  obtain ⟨rfl, hP, hK, hD, hS9⟩ := hv
  have hts0 := atoms_spec (ws := wsM M) B.pre
  have F : Fx Z p l s m (as.map (cv Z)).toArray meth c oc M.2.2.1 M.2.1 := ⟨B.exec, B.bytes, hml, by rw [← hoc]; exact findClass_of_methodNamed B.named, fun w hw => hts0 w (List.mem_cons_of_mem _ hw), hK, hD, B.notSynchronized, hS9⟩
  have hk := h _ (Clo_of (e := e) (below := below) (fr := fr) (lc := lc) (o := o) (wo := wo) F hst ht B.returns)
  have hcs : (lg_sl (as.map (cv Z))).length ≤ M.2.2.1 := by
    have := lgsl_len (Z := Z) as
    rw [this]
    exact Nat.le_of_ble_eq_true hsz
  rw [lg_entry_eq]
  have hl := lv_entry (as.map (cv Z)) hcs
  rw [mlA_ok] at hl
  exact hk s.heap [] _ hP va_S.rf hl
