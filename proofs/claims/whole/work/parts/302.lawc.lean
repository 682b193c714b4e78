/-! ===== the law's own body ===== -/
/-- the script: its cell is String 998's -/
def CloS (xs : Nat → Int32) (L : Nat) (cc : ByteArray) (Ok : Cfg → Prop) : Prop :=
  (∀ (pc : Nat) (i : Int32) (lv : List (Nat × MV)) (st : List MV) (w : Wld), decode cc pc = .ok (.iaload, 1) → vp_in i L → Ok (pc + 1, lv, vI (xs i.toNatClampNeg) :: st, w) → Ok (pc, lv, vI i :: vS 998 :: st, w)) ∧
  (∀ (pc : Nat) (lv : List (Nat × MV)) (st : List MV) (w : Wld), decode cc pc = .ok (.arraylength, 1) → Ok (pc + 1, lv, vI (Int32.ofNat L) :: st, w) → Ok (pc, lv, vS 998 :: st, w))
/-- links of the helpers -/
def CloH (Z : ZT) (l : Launch) (cc : ByteArray) (Ok OkN : Cfg → Prop) : Prop :=
  ∀ (pc idx : Nat) (M : HI) (fr' lc' : Nat) (as : List MV) (lv : List (Nat × MV)) (st t : List MV) (w : Wld) (r : Int32) (w' : Wld), decode cc pc = .ok (.invokestatic idx, 3) → (∀ x ∈ va_wsS (RN 14) idx M.1 (wsH M), x ∈ TBL) → M.1.cls = RN 14 → (parseMethodDescriptor M.1.desc).map (fun d => d.parameters.length) = some as.length → st = as.reverse ++ t → Nat.ble (catS t) 8 = true → Nat.ble (fr' + 1) 2048 = true → Nat.ble (8 + (M.2.2.1 + 11) + lc') 84000 = true → ConH Z l M fr' lc' as w r w' → OkN (pc + 3, lv, vI r :: t, w') → Ok (pc, lv, st, w)
section Law
variable {Z : ZT} {p : Program} {l : Launch} {e : Env} {s : State} {m : MethodId} {below : List Frame} {meth : Method} {c : Code} {b L : Nat} {xs : Nat → Int32} {cells slots : Nat}
def OkL (Z : ZT) (p : Program) (l : Launch) (e : Env) (s : State) (m : MethodId) (below : List Frame) (meth : Method) (c : Code) (b : Nat) (cells slots : Nat) : Cfg → Prop := Okc Z p l e room_1 s m #[Value.ref b] below meth c cells slots 7 (lw_Z below #[Value.ref b] s)
theorem OkL_up {cells' slots' : Nat} (h1 : cells ≤ cells') (h2 : slots ≤ slots') {g : Cfg} (h : OkL Z p l e s m below meth c b cells' slots' g) : OkL Z p l e s m below meth c b cells slots g :=
  fun H locs ls hP hS hl => W.widen h1 h2 (h H locs ls hP hS hl)
theorem CloL_of (F : Fx Z p l s m #[Value.ref b] meth c 14 7 code) (hst : l.stackTraces = false) (hret : meth.sig.returnType = ret) (hAW : ∀ q, AW Z q → s.heap.size ≤ q) (hc9 : cells ≤ 601024) (hs9 : slots ≤ 7293034) (wo : Wld) : Clo Z l 14 7 code (some .boolean) 2048 84000 (.inr (some 1)) wo (OkL Z p l e s m below meth c b cells slots) := by
  have F9 := F
  obtain ⟨hx, hb, hml, hown, hts, hK, hD, hlk, hk⟩ := F
  refine ⟨?_, ?_, ?_, ?_, ?_, ?_, ?_, ?_, ?_, ?_, ?_, ?_, ?_, ?_, ?_⟩
  · intro pc is lv st w cs lv' st' w' h1 h2 h3 k
    exact exB_ok F9 is h1 h2 h3 k
  · intro pc i tgt lv st w q t h1 h2 h3 k1 k2
    exact brn_ok F9 h1 h2 h3 k1 k2
  · intro pc off tgt lv st w h1 h2 k H locs ls hP hS hl
    exact lv_goto hx hb h1 h2 (k H locs ls hP hS hl)
  · intro pc dflt lo hi offs len off tgt x lv st w h1 h2 h3 h4 h5 k H locs ls hP hS hl
    exact lv_tableIn hx hb h1 h2 h3 h4 h5 (k H locs ls hP hS hl)
  · intro pc dflt lo hi offs len tgt x lv st w h1 h2 h3 k H locs ls hP hS hl
    exact lv_tableOut hx hb h1 h2 h3 (k H locs ls hP hS hl)
  · intro pc dflt ps len off tgt x lv st w h1 h2 h3 h4 k H locs ls hP hS hl
    exact lv_lookup hx hb h1 h2 h3 h4 (k H locs ls hP hS hl)
  · intro pc lv v w h1 h2 h3 h4 H locs ls hP hS hl
    have hv : v = 1 := by
      have h5 := Sum.inr.inj h3
      exact (Option.some.inj h5).symm
    subst hv
    refine W.widen hc9 hs9 ?_
    refine va_forget (fun q hq => hAW _ (hS.2.2 q hq)) ?_
    exact lw_ret hx hb hret hlk h1
  · intro pc lv w h1 h2 h3 h4
    cases h2
  · intro pc lv lv' st w h1 k H locs ls hP hS hl
    refine k H locs ls hP hS ⟨hl.1, hl.2.1, fun q hq => ?_⟩
    obtain ⟨r, hr, rfl⟩ := List.mem_map.mp hq
    exact hl.2.2 _ (List.mem_map.mpr ⟨r, h1 r hr, rfl⟩)
  · intro pc idx M fr' lc' n as lv st t w o' w' h1 h2 h3 h4 h5 h6 h7 h8 h9 k1 k2
    have hmc : mcO o' = 0 ∧ msO o' = 0 := by
      cases o' with
      | inl k => exact absurd (k2 k rfl).1 (fun h => nomatch h)
      | inr v => exact ⟨rfl, rfl⟩
    refine callV_try (fr' := fr') (lc' := lc') F9 hst h1 h2 h3 h4 h5 (Nat.le_of_ble_eq_true h6) (Nat.le_of_ble_eq_true h7) (Nat.le_of_ble_eq_true h8) (by rw [hmc.1]; exact hc9) (by rw [hmc.2]; exact hs9) h9 k1 (fun k hk => absurd (k2 k hk).1 (fun h => nomatch h))
  · intro pc idx M fr' lc' as lv st t w o' w' h1 h2 h3 h4 h5 h6 h7 h8 k1 k2
    have hmc : mcO o' = 0 ∧ msO o' = 0 := by
      cases o' with
      | inl k => exact absurd (k2 k rfl).1 (fun h => nomatch h)
      | inr v => exact ⟨rfl, rfl⟩
    refine callS_try (fr' := fr') (lc' := lc') F9 hst h1 h2 h3 h4 (Nat.le_of_ble_eq_true h5) (Nat.le_of_ble_eq_true h6) (Nat.le_of_ble_eq_true h7) (by rw [hmc.1]; exact hc9) (by rw [hmc.2]; exact hs9) h8 k1 (fun k hk => absurd (k2 k hk).1 (fun h => nomatch h))
  · intro pc idx a b na nb d sp dp n lv t w h1 h2
    exfalso
    have h9 : ∀ q ∈ ACT, q.1 ≠ 14 := by decide +kernel
    exact h9 _ h2 rfl
  · intro pc ik ic k lv t w h1 h2 h3 h4 h5 h6 h7 h8 h9
    cases h9
  · intro pc idx x y lv t w h1 h2 h3 h4 h5 k H locs ls hP hS hl
    have hw := MLT_tbl h2
    have h5 : catS t ≤ 8 := Nat.le_of_ble_eq_true h5
    exact va_mmax (own := RN 14) hx hb (hml.trans hl.1.symm) hown (hts _ (hw _ (List.mem_of_getElem? (i := 0) rfl))) (hts _ (hw _ (List.mem_of_getElem? (i := 3) rfl))) (hts _ (hw _ (List.mem_of_getElem? (i := 2) rfl))) (hts _ (hw _ (List.mem_of_getElem? (i := 1) rfl))) (by decide) (by show _ + 13 ≤ 84000; rw [catS_ok]; show catS t + 13 ≤ 84000; omega) hc9 hs9 h1 (k H locs ls hP hS hl)
  · intro pc idx x y lv t w h1 h2 h3 h4 h5 k H locs ls hP hS hl
    have hw := MLT_tbl h2
    have h5 : catS t ≤ 8 := Nat.le_of_ble_eq_true h5
    exact va_mmin (own := RN 14) hx hb (hml.trans hl.1.symm) hown (hts _ (hw _ (List.mem_of_getElem? (i := 0) rfl))) (hts _ (hw _ (List.mem_of_getElem? (i := 3) rfl))) (hts _ (hw _ (List.mem_of_getElem? (i := 2) rfl))) (hts _ (hw _ (List.mem_of_getElem? (i := 1) rfl))) (by decide) (by show _ + 13 ≤ 84000; rw [catS_ok]; show catS t + 13 ≤ 84000; omega) hc9 hs9 h1 (k H locs ls hP hS hl)
theorem CloS_of (F : Fx Z p l s m #[Value.ref b] meth c 14 7 code) (hX : va_X b L xs s s.heap) (hbl : b < s.heap.size) (hbA : ¬ AW Z b) (hbZ : Z.2.2.2.1 998 = b) : CloS xs L code (OkL Z p l e s m below meth c b cells slots) := by
  obtain ⟨hx, hb, hml, hown, hts, hK, hD, hlk, hk⟩ := F
  refine ⟨?_, ?_⟩
  · intro pc i lv st w h1 h2 k H locs ls hP hS hl
    have hk9 := k H locs ls hP hS hl
    show W p l e room_1 s m #[Value.ref b] below meth c H locs cells slots _ (F0 m pc ls (.int i :: .ref (Z.2.2.2.1 998) :: st.map (cv Z)))
    rw [hbZ]
    exact va_sld hx hb hX hbl hbA hS h2 h1 hk9
  · intro pc lv st w h1 k H locs ls hP hS hl
    have hk9 := k H locs ls hP hS hl
    show W p l e room_1 s m #[Value.ref b] below meth c H locs cells slots _ (F0 m pc ls (.ref (Z.2.2.2.1 998) :: st.map (cv Z)))
    rw [hbZ]
    exact va_slen hx hb hX hbl hbA hS h1 hk9
theorem CloH_of (F : Fx Z p l s m #[Value.ref b] meth c 14 7 code) (hst : l.stackTraces = false) (hNc : va_Nc "java/lang/IllegalArgumentException" "java/util/NoSuchElementException" s) (hc9 : cells + 1 ≤ 601024) (hs9 : slots + 6 ≤ 7293034) : CloH Z l code (OkL Z p l e s m below meth c b cells slots) (OkL Z p l e s m below meth c b (cells + 1) (slots + 6)) := by
  intro pc idx M fr' lc' as lv st t w r w' hd hws hcl hpar hstk hcat hfr hlc hC k H locs ls hP hS hl
  have F9 := F
  obtain ⟨hx, hb, hml, hown, hts, hK, hD, hlk, hk⟩ := F
  have hcat : catS t ≤ 8 := Nat.le_of_ble_eq_true hcat
  have hG : GoodIn TBL (va_wsS (RN 14) idx M.1 (wsH M)) := fun x hx => ⟨hws x hx, good_of_word (List.mem_filter.mp (hws x hx)).2⟩
  have cw : vx_CSW room_1 s #[Value.ref b] (RN 14) idx M.1 M.2.1 M.2.2.1 (some .int) M.2.2.2 (wsH M) { frames := fr', cells := 1, slots := 6, locals := lc' } 1 6 as.length :=
    vx_cwSW as.length hts hG rfl rfl rfl ⟨by rw [hcl]; decide, by rw [hcl]; decide, hpar⟩ ⟨Nat.le_of_ble_eq_true hfr, Nat.le_of_ble_eq_true hlc⟩
  have hpb : FrameBlind (PcH Z as w) := fun a U g mk q => ⟨PcO_blind as w a U g mk q.1, va_Nc.moved (u := U) (U := U.calling g mk a) (Vm.Alike.refl U.vm) q.2⟩
  have hpo : ∀ U : State, U.heap = H → s.WarmedH U.vm → PcH Z as w (as.map (cv Z)).toArray U := fun U hU hW => ⟨PcO_of F9 hP hS U hU hW, va_Nc.moved hW.alike hNc⟩
  have hr := vx_runSX (g := F0 m pc ls (st.map (cv Z))) (H := H) (locs := locs) (cells := cells) (slots := slots) (e := e) (below := below) (meth := meth) (As := as.map (cv Z)) (rest := t.map (cv Z)) ⟨hx, hb, hml, hown, hts⟩ (hC hst) cw ⟨hpb, hpo⟩ rfl (by simp) hl.1 (by rw [hstk]; simp) (lv_room (by rw [catS_ok]; exact hcat)) hd ⟨hc9, hs9⟩
  intro T hT X
  rcases hr T hT X with ⟨v, st₀, t', T', L', h0, X', hL, e1, e2, ⟨⟨v0, ho, hv, hb1⟩, hF⟩, st9⟩ | ⟨q, st₀, t', T', L', E, ce, h0, X', hL, e1, e2, hf, -⟩
  · obtain ⟨k1, k2, k3⟩ := vx_keep h0 e1 hS (fun q _ h => h) (fun q h => h) hL hF
    cases ho
    have hv : v = some (.int r) := by cases hv; rfl
    subst hv
    obtain ⟨t2, a1, b1⟩ := k T'.heap (locs ++ L') ls (by rw [e1]; exact hb1) k3 hl T' rfl X'
    exact ⟨t2, st9 t2 a1, b1⟩
  · exact absurd hf id
end Law
section SimL
variable {Z : ZT} {l : Launch} {cc : ByteArray} {Ok OkN : Cfg → Prop} {xs : Nat → Int32} {L : Nat}
variable {α : Type} {G : α → Prop} {pc : Nat} {lv : List (Nat × MV)} {st : List MV} {w : Wld} {c : Option α}
theorem sim_sld (hS : CloS xs L cc Ok) {i : Int32} (hd : decode cc pc = .ok (.iaload, 1)) (k : SimK Ok (pc + 1, lv, vI (xs i.toNatClampNeg) :: st, w) c G) : SimK Ok (pc, lv, vI i :: vS 998 :: st, w) (gd (vp_in i L) c) G := by
  intro a ha hg
  obtain ⟨h1, ha⟩ := gd_some ha
  exact hS.1 pc i lv st w hd h1 (k a ha hg)
theorem sim_sll (hS : CloS xs L cc Ok) (hd : decode cc pc = .ok (.arraylength, 1)) (k : SimK Ok (pc + 1, lv, vI (Int32.ofNat L) :: st, w) c G) : SimK Ok (pc, lv, vS 998 :: st, w) c G :=
  fun a ha hg => hS.2 pc lv st w hd (k a ha hg)
theorem sim_help (hH : CloH Z l cc Ok OkN) (idx : Nat) (M : HI) (fr1 lc1 : Nat) (as t : List MV) {x : Option (Int32 × Wld)} {f : Int32 → Wld → Option α} (hd : decode cc pc = .ok (.invokestatic idx, 3)) (hm : ∀ x ∈ va_wsS (RN 14) idx M.1 (wsH M), x ∈ TBL) (hcl : M.1.cls = RN 14) (hpar : (parseMethodDescriptor M.1.desc).map (fun d => d.parameters.length) = some as.length) (hst : st = as.reverse ++ t) (hcat : Nat.ble (catS t) 8 = true) (hfr : Nat.ble (fr1 + 1) 2048 = true) (hlc : Nat.ble (8 + (M.2.2.1 + 11) + lc1) 84000 = true)
    (hcon : ∀ r w1, x = some (r, w1) → ConH Z l M fr1 lc1 as w r w1) (k : ∀ r w1, SimK OkN (pc + 3, lv, vI r :: t, w1) (f r w1) G) : SimK Ok (pc, lv, st, w) (bd x f) G := by
  intro a ha hg
  obtain ⟨⟨r, w1⟩, hr, hf⟩ := Option.bind_eq_some_iff.mp ha
  exact hH pc idx M fr1 lc1 as lv st t w r w1 hd hm hcl hpar hst hcat hfr hlc (hcon r w1 hr) (k r w1 a hf hg)
theorem sim_backN {σ ρ : Type} {V : σ → Cfg} {Gr : ρ → Prop} (hN : ∀ g, OkN g → Ok g) (s : σ) : SimK Ok (V s) (some (.inl s : σ ⊕ ρ)) (GLp OkN V Gr) := by
  intro a ha hg
  cases ha
  exact hN _ hg
theorem sim_exitN {σ ρ : Type} {V : σ → Cfg} {E : ρ → Cfg} (hN : ∀ g, OkN g → Ok g) (r : ρ) : SimK Ok (E r) (some (.inr r : σ ⊕ ρ)) (GLp OkN V (GEp OkN E)) := by
  intro a ha hg
  cases ha
  exact hN _ hg
end SimL
