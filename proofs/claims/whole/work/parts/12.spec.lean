/-! ===== the enum and the Strings ===== -/
def enV (k : Nat) (x : Int32) : Int32 := (bif Nat.beq k 0 then voE else vaE).getD x.toNatClampNeg 0
def strB (n : Nat) : Option (Nat × Nat) := match cds[n]? with
  | some (.inr (.inr q)) => some q
  | _ => none
def Clo2 (Z : ZT) (l : Launch) (oc nL : Nat) (cc : ByteArray) (ret : Option FieldType) (fr lc : Nat) (o : Oc) (wo : Wld) (Ok : Cfg → Prop) : Prop :=
  (∀ (pc idx : Nat) (x : Int32) (lv : List (Nat × MV)) (st : List MV) (w : Wld), decode cc pc = .ok (.getstatic idx, 3) → (oc, idx, x.toNatClampNeg) ∈ GSE → Ok (pc + 3, lv, vE x :: st, w) → Ok (pc, lv, st, w)) ∧
  (∀ (pc : Nat) (lv : List (Nat × MV)) (st : List MV) (w : Wld), oc = 8 → decode cc pc = .ok (.getstatic 74, 3) → Ok (pc + 3, lv, vS 999 :: st, w) → Ok (pc, lv, st, w)) ∧
  (∀ (pc : Nat) (i : Int32) (lv : List (Nat × MV)) (st : List MV) (w : Wld), decode cc pc = .ok (.aaload, 1) → vp_in i 19 → Ok (pc + 1, lv, vE i :: st, w) → Ok (pc, lv, vI i :: vS 999 :: st, w)) ∧
  (∀ (pc : Nat) (lv : List (Nat × MV)) (st : List MV) (w : Wld), decode cc pc = .ok (.arraylength, 1) → Ok (pc + 1, lv, vI 19 :: st, w) → Ok (pc, lv, vS 999 :: st, w)) ∧
  (∀ (pc idx : Nat) (x : Int32) (lv : List (Nat × MV)) (st : List MV) (w : Wld), decode cc pc = .ok (.getfield idx, 3) → (oc, idx, 2) ∈ EFL → x.toNatClampNeg < 19 → Ok (pc + 3, lv, vS (ltrs.getD x.toNatClampNeg 0) :: st, w) → Ok (pc, lv, vE x :: st, w)) ∧
  (∀ (pc idx k : Nat) (x : Int32) (lv : List (Nat × MV)) (st : List MV) (w : Wld), decode cc pc = .ok (.getfield idx, 3) → (oc, idx, k) ∈ EFL → k < 2 → x.toNatClampNeg < 19 → Ok (pc + 3, lv, vI (enV k x) :: st, w) → Ok (pc, lv, vE x :: st, w)) ∧
  (∀ (pc tgt : Nat) (off : Int) (x y : Int32) (lv : List (Nat × MV)) (st : List MV) (w : Wld), decode cc pc = .ok (.if_acmp .ne off, 3) → (pc : Int) + off = (tgt : Int) → x.toNatClampNeg < 19 → y.toNatClampNeg < 19 → (¬ x.toNatClampNeg = y.toNatClampNeg → Ok (tgt, lv, st, w)) → (x.toNatClampNeg = y.toNatClampNeg → Ok (pc + 3, lv, st, w)) → Ok (pc, lv, vE y :: vE x :: st, w)) ∧
  (∀ (pc idx k : Nat) (tx : String) (lv : List (Nat × MV)) (st : List MV) (w : Wld), decode cc pc = .ok (.ldc idx, 2) → (oc, idx, tx, k) ∈ LDS → Ok (pc + 2, lv, vS k :: st, w) → Ok (pc, lv, st, w)) ∧
  (∀ (pc idx k : Nat) (tx : String) (lv : List (Nat × MV)) (st : List MV) (w : Wld), decode cc pc = .ok (.ldc_w idx, 3) → (oc, idx, tx, k) ∈ LDS → Ok (pc + 3, lv, vS k :: st, w) → Ok (pc, lv, st, w)) ∧
  (∀ (pc n k b : Nat) (i : Int32) (lv : List (Nat × MV)) (st : List MV) (w : Wld), decode cc pc = .ok (.aaload, 1) → strB n = some (k, b) → vp_in i k → Ok (pc + 1, lv, vS (b + i.toNatClampNeg) :: st, w) → Ok (pc, lv, vI i :: vR n :: st, w)) ∧
  (∀ (pc n k b : Nat) (v : Int32) (lv : List (Nat × MV)) (st : List MV) (w : Wld), decode cc pc = .ok (.arraylength, 1) → strB n = some (k, b) → Int32.ofNat k = v → Ok (pc + 1, lv, vI v :: st, w) → Ok (pc, lv, vR n :: st, w)) ∧
  (∀ (pc n : Nat) (lv : List (Nat × MV)) (st : List MV) (w : Wld), oc = 15 → decode cc pc = .ok (.getfield 9, 3) → n < 19 → Ok (pc + 3, lv, vS (1000 + n) :: st, w) → Ok (pc, lv, vS n :: st, w)) ∧
  (∀ (pc n : Nat) (lv : List (Nat × MV)) (st : List MV) (w : Wld), oc = 15 → decode cc pc = .ok (.getfield 15, 3) → n < 19 → Ok (pc + 3, lv, vI 0 :: st, w) → Ok (pc, lv, vS n :: st, w)) ∧
  (∀ (pc n : Nat) (lv : List (Nat × MV)) (st : List MV) (w : Wld), decode cc pc = .ok (.arraylength, 1) → n < 19 → Ok (pc + 1, lv, vI (Int32.ofNat (lenJS.getD n 0)) :: st, w) → Ok (pc, lv, vS (1000 + n) :: st, w)) ∧
  (∀ (pc n : Nat) (i : Int32) (lv : List (Nat × MV)) (st : List MV) (w : Wld), decode cc pc = .ok (.baload, 1) → n < 19 → vp_in i (lenJS.getD n 0) → Ok (pc + 1, lv, vI ((bytJS.getD n []).getD i.toNatClampNeg 0) :: st, w) → Ok (pc, lv, vI i :: vS (1000 + n) :: st, w)) ∧
  (∀ (pc : Nat) (lv : List (Nat × MV)) (st : List MV) (w : Wld), oc = 15 → decode cc pc = .ok (.getstatic 38, 3) → Ok (pc + 3, lv, vI 1 :: st, w) → Ok (pc, lv, st, w)) ∧
  (∀ (pc : Nat) (x : Int32) (lv : List (Nat × MV)) (st : List MV) (w : Wld), decode cc pc = .ok (.i2c, 1) → Ok (pc + 1, lv, vI (x.toUInt32 % 65536).toInt32 :: st, w) → Ok (pc, lv, vI x :: st, w)) ∧
  (∀ (pc : Nat) (ty : FieldType) (lv : List (Nat × MV)) (v : Int32) (w : Wld), decode cc pc = .ok (.ireturn, 1) → ret = some ty → narrow ty (.int v) = .int v → o = .inr (some v) → wo = w → Ok (pc, lv, [vI v], w)) ∧
  (∀ (pc idx : Nat) (M : MI) (fr' lc' n : Nat) (as : List MV) (lv : List (Nat × MV)) (st t : List MV) (w : Wld) (o' : Oc) (w' : Wld), decode cc pc = .ok (.invokevirtual idx, 3) → (oc, idx, M, false) ∈ MLT → M.1.cls = "java/lang/String" → n < 19 → parB M as.length = true → st = as.reverse ++ vS n :: t → Nat.ble (catS t) 8 = true → Nat.ble (fr' + 1) fr = true → Nat.ble (8 + (M.2.2.1 + 11) + lc') lc = true → Con Z l M fr' lc' (vS n :: as) w o' w' → (∀ v, o' = .inr v → Ok (pc + 3, lv, retV v ++ t, w')) → (∀ k, o' = .inl k → o = .inl k ∧ wo = w') → Ok (pc, lv, st, w))
section Spec
variable {Z : ZT} {p : Program} {l : Launch} {e : Env} {s : State} {m : MethodId} {args : Array Value} {below : List Frame} {meth : Method} {c : Code}
variable {oc nL : Nat} {cc : ByteArray} {fr lc : Nat} {o : Oc} {wo : Wld}
theorem strB_spec {n : Nat} {q : Nat × Nat} (h : strB n = some q) : cds[n]? = some (.inr (.inr q)) := by
  unfold strB at h
  split at h
  next q' hc => cases h; exact hc
  next => cases h
theorem ldcwString {T : State} {R : Room} {locs : List Loc} {cells slots : Nat} (X : Stand p l e R s m args below meth c T locs cells slots) (hexec : p.tables.exec = Jvm.exec) {own text : String} {index : Nat} {a : Addr} (hown : s.vm.findClass own = some m.cls)
    (hconst : (Cond.stringRef own index text).before args s = true) (hev : (Term.string own index).eval args s none [] s = some (.ref a)) {g : JFrame} (hg : g.method = m) (hdg : decode c.code g.pc = .ok (.ldc_w index, 3)) :
    ∀ target, Steps p.tables e below (T.setTop { g with pc := g.pc + 3, stack := .ref a :: g.stack }) target → Steps p.tables e below (T.setTop g) target := by
  obtain ⟨k, cf, i, a', hk, hcf, hcp, -, hr, hev'⟩ := Cond.stringRef_spec hown hconst
  cases hev.symm.trans hev'
  obtain ⟨k', hk', he⟩ := X.warmed.alike.2.2 _ _ hk
  have hr' : k'.resolved[index]? = some (some (.string a)) := by
    rcases X.warmed.entry hk hk' index with h | ⟨h, -⟩
    · rw [h]; exact hr
    · rw [hr] at h; cases h
  intro target hrest
  subst hg
  jvm_step X.here [hexec, hdg, ldc_w.wp_string (e := e) (s := T) (f := g) X.here.top hk' (by rw [he]; exact hcf) hcp hr']
  exact hrest
set_option maxHeartbeats 8000000 in
theorem Clo2_of (F : Fx Z p l s m args meth c oc nL cc) (hst : l.stackTraces = false) (ht : ∀ x ∈ c.exceptionTable.toList, False) {ret : Option FieldType} (hret : meth.sig.returnType = ret) : Clo2 Z l oc nL cc ret fr lc o wo (Okm Z p l e s m args below meth c nL fr lc o wo) := by
  have F9 := F
  obtain ⟨hx, hb, hml, hown, hts, hK, hD, hlk, hk⟩ := F
  obtain ⟨-, -, -, kE, kL, kW, kT, kS, kN, kR, kC, kQ⟩ := hk
  have good : ∀ {w9 : Cond}, w9 ∈ lw_tbl → goodWord w9 = true → w9.before args s = true := fun h1 h2 => hts _ (List.mem_filter.mpr ⟨h1, h2⟩)
  refine ⟨?_, ?_, ?_, ?_, ?_, ?_, ?_, ?_, ?_, ?_, ?_, ?_, ?_, ?_, ?_, ?_, ?_, ?_, ?_⟩
  · intro pc idx x lv st w h1 h2 k H locs ls hP hS hl
    obtain ⟨g1, g2⟩ := GSE_in _ h2
    exact va_gets (own := RN oc) hx hb (kE.1 _ g2).1 hS hown (good g1 rfl) (fun _ h => h) h1 (k H locs ls hP hS hl)
  · intro pc lv st w h1 h2 k H locs ls hP hS hl
    subst h1
    exact va_getsN (own := RN 8) hx hb kW hS hown (va_Nw.use rfl kN) (fun _ h => h) h2 (k H locs ls hP hS hl)
  · intro pc i lv st w h1 h2 k H locs ls hP hS hl
    exact vb_tq hx hb kT hS h2 rfl h1 (k H locs ls hP hS hl)
  · intro pc lv st w h1 k H locs ls hP hS hl
    exact va_tlen hx hb kT hS rfl h1 (k H locs ls hP hS hl)
  · intro pc idx x lv st w h1 h2 h3 k H locs ls hP hS hl
    exact vk_getf (own := RN oc) hx hb (kL _ h3) hS hown (good (EFL_in _ h2) rfl) (fun _ h => h) h1 (k H locs ls hP hS hl)
  · intro pc idx q x lv st w h1 h2 h3 h4 k H locs ls hP hS hl
    have hw := good (EFL_in _ h2) rfl
    rcases (by omega : q = 0 ∨ q = 1) with rfl | rfl
    · exact vk_getf (own := RN oc) hx hb ((kE.1 _ h4).2.2 ("DreamMatins$Word", "voice", "I", voE) (List.mem_of_getElem? (i := 0) rfl)) hS hown hw (fun _ h => h) h1 (k H locs ls hP hS hl)
    · exact vk_getf (own := RN oc) hx hb ((kE.1 _ h4).2.2 ("DreamMatins$Word", "value", "I", vaE) (List.mem_of_getElem? (i := 1) rfl)) hS hown hw (fun _ h => h) h1 (k H locs ls hP hS hl)
  · intro pc tgt off x y lv st w h1 h2 h3 h4 k1 k2 H locs ls hP hS hl
    refine lv_acmp_ne (rx := some (Z.2.2.1 x.toNatClampNeg)) (ry := some (Z.2.2.1 y.toNatClampNeg)) hx hb h1 h2 (fun h => k1 (fun z => h (by rw [z])) H locs ls hP hS hl) (fun h => k2 (kE.2 _ _ h3 h4 (Option.some.inj h)) H locs ls hP hS hl)
  · intro pc idx q tx lv st w h1 h2 k H locs ls hP hS hl
    have hZ : vk_R (RN oc) idx tx (Z.2.2.2.1 q) s := kR (oc, idx, tx, q) h2
    exact va_ldcS (own := RN oc) (tx := tx) (q := Z.2.2.2.1 q) hx hb hown hZ h1 (k H locs ls hP hS hl)
  · intro pc idx q tx lv st w h1 h2 k H locs ls hP hS hl
    have hZ : vk_R (RN oc) idx tx (Z.2.2.2.1 q) s := kR (oc, idx, tx, q) h2
    intro T hT X
    obtain ⟨t, a1, b1⟩ := k H locs ls hP hS hl T hT X
    have hs1 : (Cond.stringRef (RN oc) idx tx).before args s = true := hZ.1
    have hs2 : (Term.string (RN oc) idx).eval args s none [] s = some (.ref (Z.2.2.2.1 q)) := hZ.2
    exact ⟨t, ldcwString X hx hown (text := tx) hs1 hs2 (g := F0 m pc ls (st.map (cv Z))) rfl (by rw [hb]; exact h1) t a1, b1⟩
  · intro pc n q b i lv st w h1 h2 h3 k H locs ls hP hS hl
    exact va_aldq hx hb hK hP n 4 (cW_of (strB_spec h2)) rfl h3 h1 (k H locs ls hP hS hl)
  · intro pc n q b v lv st w h1 h2 h3 k H locs ls hP hS hl
    exact va_alen hx hb hK hP n 4 (cW_of (strB_spec h2)) rfl h3 h1 (k H locs ls hP hS hl)
  · intro pc n lv st w h1 h2 h3 k H locs ls hP hS hl
    subst h1
    exact vk_getf (own := RN 15) hx hb (kS.1 n h3).2.2.1 hS hown (good sw_value rfl) (fun _ h => h) h2 (k H locs ls hP hS hl)
  · intro pc n lv st w h1 h2 h3 k H locs ls hP hS hl
    subst h1
    exact vk_getf (own := RN 15) hx hb (kS.1 n h3).2.1 hS hown (good sw_coder rfl) (fun _ h => h) h2 (k H locs ls hP hS hl)
  · intro pc n lv st w h1 h2 k H locs ls hP hS hl
    exact va_tlen hx hb (kS.1 n h2).2.2.2 hS rfl h1 (k H locs ls hP hS hl)
  · intro pc n i lv st w h1 h2 h3 k H locs ls hP hS hl
    exact va_tb hx hb (kS.1 n h2).2.2.2 hS h3 rfl h1 (k H locs ls hP hS hl)
  · intro pc lv st w h1 h2 k H locs ls hP hS hl
    subst h1
    exact va_gets (own := RN 15) hx hb kC hS hown (good sw_compact rfl) (fun _ h => h) h2 (k H locs ls hP hS hl)
  · intro pc x lv st w h1 k H locs ls hP hS hl
    exact lv_i2c hx hb h1 rfl (k H locs ls hP hS hl)
  · intro pc ty lv v w h1 h2 h3 h4 h5 H locs ls hP hS hl
    subst h4; subst h5
    apply vx_ret
    have hq : ∀ t : State, t.heap = H → s.WarmedH t.vm → QcO Z (.inr (some v)) wo args s (.returned (some (.int v))) t := fun t h9 _ => ⟨⟨some v, rfl, rfl, by rw [h9]; exact hP⟩, hS.F h9⟩
    exact W.zret hx hb (hret.trans h2) h3 hq hS.2.2 h1 hlk
  · intro pc idx M fr' lc' n as lv st t w o' w' hd hm hC1 hn hpar hstk hcat hfr hlc hC kr kt H locs ls hP hS hl
    have hcat : catS t ≤ 8 := Nat.le_of_ble_eq_true hcat
    have hfr : fr' + 1 ≤ fr := Nat.le_of_ble_eq_true hfr
    have hlc : 8 + (M.2.2.1 + 11) + lc' ≤ lc := Nat.le_of_ble_eq_true hlc
    simp only [parB, Bool.and_eq_true, decide_eq_true_eq] at hpar
    have hroom : 0 + mcO o' ≤ mcO o ∧ 0 + msO o' ≤ msO o := by
      cases o' with
      | inl k => obtain ⟨h1, -⟩ := kt k rfl; subst h1; exact ⟨Nat.le_refl _, Nat.le_refl _⟩
      | inr v => exact ⟨Nat.zero_le _, Nat.zero_le _⟩
    have cw : CallW (RmO fr lc o) s args (RN oc) M.1.cls idx M.1 M.2.1 M.2.2.1 M.2.2.2 (wsM M) { frames := fr', cells := mcO o', slots := msO o', locals := lc' } (mcO o') (msO o') as.length :=
      cwV as.length hts (wsV_good hm) rfl rfl rfl ⟨rfl, hpar.1.2, hpar.2, hpar.1.1⟩ ⟨hfr, hlc⟩
    have hr := vx_runV (g := F0 m pc ls (st.map (cv Z))) (H := H) (locs := locs) (cells := 0) (slots := 0) (e := e) (below := below) (meth := meth) (b := Z.2.2.2.1 n) (As := as.map (cv Z)) (rest := t.map (cv Z)) ⟨hx, hb, hml, hown, hts⟩ (hC hst) cw ⟨PcO_blind _ _, by rw [hC1]; exact vk_recv kS hn hS, PcO_of (as := vS n :: as) F9 hP hS⟩ rfl (by simp) hl.1 (by rw [hstk]; simp [cv]) (lv_room (by rw [catS_ok]; exact hcat)) hd hroom
    exact run_ok ht hlk hr hS hl kr kt
end Spec
