def Clo3 (Z : ZT) (l : Launch) (oc nL : Nat) (cc : ByteArray) (ret : Option FieldType) (fr lc : Nat) (o : Oc) (wo : Wld) (Ok : Cfg → Prop) : Prop := Clo Z l oc nL cc ret fr lc o wo Ok ∧ Clo2 Z l oc nL cc ret fr lc o wo Ok
theorem Con_of3 {Z : ZT} {l : Launch} {M : MI} {oc fr lc : Nat} {as : List MV} {w : Wld} {o : Oc} {wo : Wld} (hpl : plainName M.1.cls = true) (hoc : M.1.cls = RN oc) (hsz : Nat.ble (catS as) M.2.2.1 = true)
    (h : ∀ Ok : Cfg → Prop, Clo3 Z l oc M.2.2.1 M.2.1 M.2.2.2 fr lc o wo Ok → Ok (0, mlA 0 as, [], w)) : Con Z l M fr lc as w o wo := by
  intro hst
  refine vx_ofW (cc := M.2.1) (maxL := M.2.2.1) (ret := M.2.2.2) hpl rfl ?_
  intro p e s m args below meth c s₁ B hml ht hv
  obtain ⟨rfl, hP, hK, hD, hS9⟩ := hv
  have hts0 := atoms_spec (ws := wsM M) B.pre
  have F : Fx Z p l s m (as.map (cv Z)).toArray meth c oc M.2.2.1 M.2.1 := ⟨B.exec, B.bytes, hml, by rw [← hoc]; exact findClass_of_methodNamed B.named, fun w hw => hts0 w (List.mem_cons_of_mem _ hw), hK, hD, B.notSynchronized, hS9⟩
  have hk := h _ ⟨Clo_of (e := e) (below := below) (fr := fr) (lc := lc) (o := o) (wo := wo) F hst ht B.returns, Clo2_of (e := e) (below := below) (fr := fr) (lc := lc) (o := o) (wo := wo) F hst ht B.returns⟩
  have hcs : (lg_sl (as.map (cv Z))).length ≤ M.2.2.1 := by
    rw [lgsl_len]
    exact Nat.le_of_ble_eq_true hsz
  rw [lg_entry_eq]
  have hl := lv_entry (as.map (cv Z)) hcs
  rw [mlA_ok] at hl
  exact hk s.heap [] _ hP va_S.rf hl
def bc {α : Type} (x : Option Unit) (f : Option α) : Option α := x.bind (fun _ => f)
theorem sim_none {Ok : Cfg → Prop} {g : Cfg} {α : Type} {G : α → Prop} : SimK Ok g (none : Option α) G := fun a ha _ => nomatch ha
section Sim2
variable {Z : ZT} {l : Launch} {oc nL : Nat} {cc : ByteArray} {ret : Option FieldType} {fr lc : Nat} {o : Oc} {wo : Wld} {Ok : Cfg → Prop}
variable {α : Type} {G : α → Prop} {pc : Nat} {lv : List (Nat × MV)} {st t : List MV} {w : Wld} {c c1 c2 : Option α}
theorem sim_gse (h2 : Clo2 Z l oc nL cc ret fr lc o wo Ok) (idx : Nat) (x : Int32) (hd : decode cc pc = .ok (.getstatic idx, 3)) (hm : (oc, idx, x.toNatClampNeg) ∈ GSE) (k : SimK Ok (pc + 3, lv, vE x :: st, w) c G) : SimK Ok (pc, lv, st, w) c G :=
  fun a ha hg => h2.1 pc idx x lv st w hd hm (k a ha hg)
theorem sim_wa (h2 : Clo2 Z l 8 nL cc ret fr lc o wo Ok) (hd : decode cc pc = .ok (.getstatic 74, 3)) (k : SimK Ok (pc + 3, lv, vS 999 :: st, w) c G) : SimK Ok (pc, lv, st, w) c G :=
  fun a ha hg => h2.2.1 pc lv st w rfl hd (k a ha hg)
theorem sim_waald (h2 : Clo2 Z l oc nL cc ret fr lc o wo Ok) {i : Int32} (hd : decode cc pc = .ok (.aaload, 1)) (k : SimK Ok (pc + 1, lv, vE i :: st, w) c G) : SimK Ok (pc, lv, vI i :: vS 999 :: st, w) (gd (vp_in i 19) c) G := by
  intro a ha hg
  obtain ⟨h1, ha⟩ := gd_some ha
  exact h2.2.2.1 pc i lv st w hd h1 (k a ha hg)
theorem sim_walen (h2 : Clo2 Z l oc nL cc ret fr lc o wo Ok) (hd : decode cc pc = .ok (.arraylength, 1)) (k : SimK Ok (pc + 1, lv, vI 19 :: st, w) c G) : SimK Ok (pc, lv, vS 999 :: st, w) c G :=
  fun a ha hg => h2.2.2.2.1 pc lv st w hd (k a ha hg)
theorem sim_elet (h2 : Clo2 Z l oc nL cc ret fr lc o wo Ok) (idx : Nat) {x : Int32} (hd : decode cc pc = .ok (.getfield idx, 3)) (hm : (oc, idx, 2) ∈ EFL) (k : SimK Ok (pc + 3, lv, vS (ltrs.getD x.toNatClampNeg 0) :: st, w) c G) : SimK Ok (pc, lv, vE x :: st, w) (gd (x.toNatClampNeg < 19) c) G := by
  intro a ha hg
  obtain ⟨h1, ha⟩ := gd_some ha
  exact h2.2.2.2.2.1 pc idx x lv st w hd hm h1 (k a ha hg)
theorem sim_efld (h2 : Clo2 Z l oc nL cc ret fr lc o wo Ok) (idx q : Nat) {x : Int32} (hd : decode cc pc = .ok (.getfield idx, 3)) (hm : (oc, idx, q) ∈ EFL) (hq : q < 2) (k : SimK Ok (pc + 3, lv, vI (enV q x) :: st, w) c G) : SimK Ok (pc, lv, vE x :: st, w) (gd (x.toNatClampNeg < 19) c) G := by
  intro a ha hg
  obtain ⟨h1, ha⟩ := gd_some ha
  exact h2.2.2.2.2.2.1 pc idx q x lv st w hd hm hq h1 (k a ha hg)
theorem sim_acmp (h2 : Clo2 Z l oc nL cc ret fr lc o wo Ok) (off : Int) (tgt : Nat) {x y : Int32} (hd : decode cc pc = .ok (.if_acmp .ne off, 3)) (ht : (pc : Int) + off = (tgt : Int)) (k1 : SimK Ok (tgt, lv, st, w) c1 G) (k2 : SimK Ok (pc + 3, lv, st, w) c2 G) : SimK Ok (pc, lv, vE y :: vE x :: st, w) (gd (x.toNatClampNeg < 19) (gd (y.toNatClampNeg < 19) (br (¬ x.toNatClampNeg = y.toNatClampNeg) c1 c2))) G := by
  intro a ha hg
  obtain ⟨hx, ha⟩ := gd_some ha
  obtain ⟨hy, ha⟩ := gd_some ha
  refine h2.2.2.2.2.2.2.1 pc tgt off x y lv st w hd ht hx hy (fun h => ?_) (fun h => ?_)
  · rw [br_pos h] at ha; exact k1 a ha hg
  · rw [br_neg (fun z => z h)] at ha; exact k2 a ha hg
theorem sim_lds (h2 : Clo2 Z l oc nL cc ret fr lc o wo Ok) (idx q : Nat) (tx : String) (hd : decode cc pc = .ok (.ldc idx, 2)) (hm : (oc, idx, tx, q) ∈ LDS) (k : SimK Ok (pc + 2, lv, vS q :: st, w) c G) : SimK Ok (pc, lv, st, w) c G :=
  fun a ha hg => h2.2.2.2.2.2.2.2.1 pc idx q tx lv st w hd hm (k a ha hg)
theorem sim_ldsw (h2 : Clo2 Z l oc nL cc ret fr lc o wo Ok) (idx q : Nat) (tx : String) (hd : decode cc pc = .ok (.ldc_w idx, 3)) (hm : (oc, idx, tx, q) ∈ LDS) (k : SimK Ok (pc + 3, lv, vS q :: st, w) c G) : SimK Ok (pc, lv, st, w) c G :=
  fun a ha hg => h2.2.2.2.2.2.2.2.2.1 pc idx q tx lv st w hd hm (k a ha hg)
theorem sim_sald (h2 : Clo2 Z l oc nL cc ret fr lc o wo Ok) (n q b : Nat) {i : Int32} (hd : decode cc pc = .ok (.aaload, 1)) (hb : strB n = some (q, b)) (k : SimK Ok (pc + 1, lv, vS (b + i.toNatClampNeg) :: st, w) c G) : SimK Ok (pc, lv, vI i :: vR n :: st, w) (gd (vp_in i q) c) G := by
  intro a ha hg
  obtain ⟨h1, ha⟩ := gd_some ha
  exact h2.2.2.2.2.2.2.2.2.2.1 pc n q b i lv st w hd hb h1 (k a ha hg)
theorem sim_slen (h2 : Clo2 Z l oc nL cc ret fr lc o wo Ok) (n q b : Nat) (v : Int32) (hd : decode cc pc = .ok (.arraylength, 1)) (hb : strB n = some (q, b)) (hv : Int32.ofNat q = v) (k : SimK Ok (pc + 1, lv, vI v :: st, w) c G) : SimK Ok (pc, lv, vR n :: st, w) c G :=
  fun a ha hg => h2.2.2.2.2.2.2.2.2.2.2.1 pc n q b v lv st w hd hb hv (k a ha hg)
theorem sim_sval (h2 : Clo2 Z l 15 nL cc ret fr lc o wo Ok) {n : Nat} (hd : decode cc pc = .ok (.getfield 9, 3)) (k : SimK Ok (pc + 3, lv, vS (1000 + n) :: st, w) c G) : SimK Ok (pc, lv, vS n :: st, w) (gd (n < 19) c) G := by
  intro a ha hg
  obtain ⟨h1, ha⟩ := gd_some ha
  exact h2.2.2.2.2.2.2.2.2.2.2.2.1 pc n lv st w rfl hd h1 (k a ha hg)
theorem sim_scod (h2 : Clo2 Z l 15 nL cc ret fr lc o wo Ok) {n : Nat} (hd : decode cc pc = .ok (.getfield 15, 3)) (k : SimK Ok (pc + 3, lv, vI 0 :: st, w) c G) : SimK Ok (pc, lv, vS n :: st, w) (gd (n < 19) c) G := by
  intro a ha hg
  obtain ⟨h1, ha⟩ := gd_some ha
  exact h2.2.2.2.2.2.2.2.2.2.2.2.2.1 pc n lv st w rfl hd h1 (k a ha hg)
theorem sim_sblen (h2 : Clo2 Z l oc nL cc ret fr lc o wo Ok) {n : Nat} (hd : decode cc pc = .ok (.arraylength, 1)) (k : SimK Ok (pc + 1, lv, vI (Int32.ofNat (lenJS.getD n 0)) :: st, w) c G) : SimK Ok (pc, lv, vS (1000 + n) :: st, w) (gd (n < 19) c) G := by
  intro a ha hg
  obtain ⟨h1, ha⟩ := gd_some ha
  exact h2.2.2.2.2.2.2.2.2.2.2.2.2.2.1 pc n lv st w hd h1 (k a ha hg)
theorem sim_sbald (h2 : Clo2 Z l oc nL cc ret fr lc o wo Ok) {n : Nat} {i : Int32} (hd : decode cc pc = .ok (.baload, 1)) (k : SimK Ok (pc + 1, lv, vI ((bytJS.getD n []).getD i.toNatClampNeg 0) :: st, w) c G) : SimK Ok (pc, lv, vI i :: vS (1000 + n) :: st, w) (gd (n < 19) (gd (vp_in i (lenJS.getD n 0)) c)) G := by
  intro a ha hg
  obtain ⟨h1, ha⟩ := gd_some ha
  obtain ⟨h3, ha⟩ := gd_some ha
  exact h2.2.2.2.2.2.2.2.2.2.2.2.2.2.2.1 pc n i lv st w hd h1 h3 (k a ha hg)
theorem sim_cmps (h2 : Clo2 Z l 15 nL cc ret fr lc o wo Ok) (hd : decode cc pc = .ok (.getstatic 38, 3)) (k : SimK Ok (pc + 3, lv, vI 1 :: st, w) c G) : SimK Ok (pc, lv, st, w) c G :=
  fun a ha hg => h2.2.2.2.2.2.2.2.2.2.2.2.2.2.2.2.1 pc lv st w rfl hd (k a ha hg)
theorem sim_i2c (h2 : Clo2 Z l oc nL cc ret fr lc o wo Ok) {x : Int32} (hd : decode cc pc = .ok (.i2c, 1)) (k : SimK Ok (pc + 1, lv, vI (x.toUInt32 % 65536).toInt32 :: st, w) c G) : SimK Ok (pc, lv, vI x :: st, w) c G :=
  fun a ha hg => h2.2.2.2.2.2.2.2.2.2.2.2.2.2.2.2.2.1 pc x lv st w hd (k a ha hg)
theorem sim_retpn (h2 : Clo2 Z l oc nL cc ret fr lc o wo Ok) (ty : FieldType) {v : Int32} (hd : decode cc pc = .ok (.ireturn, 1)) (hr : ret = some ty) : SimK Ok (pc, lv, [vI v], w) (gd (narrow ty (.int v) = .int v) (some v)) (Gp o wo w) := by
  intro a ha hg
  obtain ⟨hz, ha⟩ := gd_some ha
  cases ha
  exact h2.2.2.2.2.2.2.2.2.2.2.2.2.2.2.2.2.2.1 pc ty lv v w hd hr hz hg.1 hg.2
theorem sim_zp (h2 : Clo2 Z l oc nL cc ret fr lc o wo Ok) (idx : Nat) (M : MI) (fr1 lc1 : Nat) {n : Nat} (as t : List MV) {x : Option Int32} {f : Int32 → Option α} (hd : decode cc pc = .ok (.invokevirtual idx, 3)) (hm : (oc, idx, M, false) ∈ MLT) (hcl : M.1.cls = "java/lang/String") (hpar : parB M as.length = true) (hst : st = as.reverse ++ vS n :: t) (hcat : Nat.ble (catS t) 8 = true) (hfr : Nat.ble (fr1 + 1) fr = true) (hlc : Nat.ble (8 + (M.2.2.1 + 11) + lc1) lc = true)
    (hcon : ∀ r, x = some r → Con Z l M fr1 lc1 (vS n :: as) w (.inr (some r)) w) (k : ∀ r, SimK Ok (pc + 3, lv, vI r :: t, w) (f r) G) : SimK Ok (pc, lv, st, w) (gd (n < 19) (bp x f)) G := by
  intro a ha hg
  obtain ⟨h1, ha⟩ := gd_some ha
  obtain ⟨r, hr, hf⟩ := Option.bind_eq_some_iff.mp ha
  exact h2.2.2.2.2.2.2.2.2.2.2.2.2.2.2.2.2.2.2 pc idx M fr1 lc1 n as lv st t w _ w hd hm hcl h1 hpar hst hcat hfr hlc (hcon r hr) (fun v hv => by cases hv; exact k r a hf hg) (fun k hk => nomatch hk)
theorem sim_sc (hC : Clo Z l oc nL cc ret fr lc o wo Ok) (idx : Nat) (M : MI) (fr1 lc1 : Nat) (as t : List MV) {x : Option Unit} {f : Option α} (hd : decode cc pc = .ok (.invokestatic idx, 3)) (hm : (oc, idx, M, true) ∈ MLT) (hpar : parB M as.length = true) (hst : st = as.reverse ++ t) (hcat : Nat.ble (catS t) 8 = true) (hfr : Nat.ble (fr1 + 1) fr = true) (hlc : Nat.ble (8 + (M.2.2.1 + 11) + lc1) lc = true)
    (hcon : x = some () → Con Z l M fr1 lc1 as w (.inr none) w) (k : SimK Ok (pc + 3, lv, t, w) f G) : SimK Ok (pc, lv, st, w) (bc x f) G := by
  intro a ha hg
  obtain ⟨r, hr, hf⟩ := Option.bind_eq_some_iff.mp ha
  exact hC.2.2.2.2.2.2.2.2.2.2.1 pc idx M fr1 lc1 as lv st t w _ w hd hm hpar hst hcat hfr hlc (hcon hr) (fun v hv => by cases hv; exact k a hf hg) (fun k hk => nomatch hk)
end Sim2
theorem ble_of {a b : Nat} (h : a ≤ b) : Nat.ble a b = true := Nat.ble_eq.mpr h
/-! String.checkIndex, by hand: its third argument is any reference, or null -/
def PcV (Z : ZT) (vs : List Value) (w : Wld) : Array Value → State → Prop := va_Pc vs (fun U => va_P Z.1 vwCl (cW Z w) U.heap ∧ va_K Z.1 vwCl (tysO Z) U ∧ (∀ w : Wld, va_D (AW Z) (cW Z w)) ∧ Kst Z U U.heap)
theorem pre_ck {Z : ZT} {l : Launch} {w : Wld} {i n : Int32} (r : Option Nat) (h0 : ¬ i < 0) (h1 : i < n) : vx_Met l yJ3_checkIndex_8e157 (wsM mJ3_checkIndex_8e157) { frames := 1, cells := 0, slots := 0, locals := 0 } (PcV Z [.int i, .int n, va_rf r] w) (QcO Z (.inr (some i)) w) (XcO Z (.inr (some i)) w) 0 0 (AW Z) := by
  refine vx_ofW (cc := prog_32_method_11_code) (maxL := 3) (ret := some .int) (by decide +kernel) rfl ?_
  intro p e s m args below meth c s₁ B hml ht hv
  obtain ⟨rfl, hP, hK, hD, hS9⟩ := hv
  have hx := B.exec
  have hb := B.bytes
  have hl := lv_entry ([.int i, .int n, va_rf r]) (n := 3) (by cases r <;> exact Nat.le_refl 3)
  rw [lg_entry_eq]
  generalize (lg_sl ([Value.int i, .int n, va_rf r]) ++ List.replicate (3 - (lg_sl ([Value.int i, .int n, va_rf r])).length) Slot.unset).toArray = ls at hl ⊢
  have hl : lv_has ls 3 [(0, .int i), (1, .int n)] := ⟨hl.1, hl.2.1, fun q hq => hl.2.2 q (by
    simp only [List.mem_cons, List.not_mem_nil, or_false] at hq
    rcases hq with rfl | rfl <;> simp [lv_args, Value.category])⟩
  refine lv_iload_n hx hb (show decode prog_32_method_11_code 0 = .ok (.iload_n 0, 1) by decide +kernel) rfl (lv_at hl 0 rfl) ?_
  refine lv_if_lt (tgt := 9) (off := 8) hx hb (by decide +kernel) (by decide) (fun h => absurd h h0) (fun _ => ?_)
  refine lv_iload_n hx hb (show decode prog_32_method_11_code 4 = .ok (.iload_n 0, 1) by decide +kernel) rfl (lv_at hl 0 rfl) ?_
  refine lv_iload_n hx hb (show decode prog_32_method_11_code 5 = .ok (.iload_n 1, 1) by decide +kernel) rfl (lv_at hl 1 rfl) ?_
  refine lv_icmp_lt (tgt := 16) (off := 10) hx hb (by decide +kernel) (by decide) (fun _ => ?_) (fun h => absurd h1 h)
  refine lv_iload_n hx hb (show decode prog_32_method_11_code 16 = .ok (.iload_n 0, 1) by decide +kernel) rfl (lv_at hl 0 rfl) ?_
  apply vx_ret
  have hq : ∀ t : State, t.heap = s.heap → s.WarmedH t.vm → QcO Z (.inr (some i)) w ([Value.int i, .int n, va_rf r].toArray) s (.returned (some (.int i))) t := fun t h9 _ => ⟨⟨some i, rfl, rfl, by rw [h9]; exact hP⟩, (va_S.rf (A := AW Z)).F h9⟩
  exact W.iret hx hb B.returns hq (fun q hq => nomatch hq) (by decide +kernel) B.notSynchronized
noncomputable def F_String_checkIndex (w : Wld) (a0 a1 : Int32) : Option Unit := gd (¬ a0 < 0 ∧ a0 < a1) (some ())
set_option maxHeartbeats 4000000 in
theorem c_String_checkIndex {Z : ZT} {l : Launch} (w : Wld) (i n : Int32) (h : F_String_checkIndex w i n = some ()) : Con Z l mJ0_checkIndex_df160 2 40 [vI i, vI n] w (.inr none) w := by
  obtain ⟨⟨h0, h1⟩, he⟩ := gd_some h
  intro hst
  refine vx_ofW (cc := prog_23_method_155_code) (maxL := 2) (ret := none) (by decide +kernel) rfl ?_
  intro p e s m args below meth c s₁ B hml ht hv
  obtain ⟨rfl, hP, hK, hD, hS9⟩ := hv
  have hts0 := atoms_spec (ws := wsM mJ0_checkIndex_df160) B.pre
  have hts : ∀ w ∈ TBL, w.before ([vI i, vI n].map (cv Z)).toArray s = true := fun w hw => hts0 w (List.mem_cons_of_mem _ hw)
  have hx := B.exec
  have hb := B.bytes
  have hown : s.vm.findClass (RN 15) = some m.cls := findClass_of_methodNamed B.named
  have hl := lv_entry ([vI i, vI n].map (cv Z)) (n := 2) (Nat.le_refl 2)
  rw [lg_entry_eq]
  generalize (lg_sl ([vI i, vI n].map (cv Z)) ++ List.replicate (2 - (lg_sl ([vI i, vI n].map (cv Z))).length) Slot.unset).toArray = ls at hl ⊢
  have hl : lv_has ls 2 [(0, .int i), (1, .int n)] := hl
  refine lv_iload_n hx hb (show decode prog_23_method_155_code 0 = .ok (.iload_n 0, 1) by decide +kernel) rfl (lv_at hl 0 rfl) ?_
  refine lv_iload_n hx hb (show decode prog_23_method_155_code 1 = .ok (.iload_n 1, 1) by decide +kernel) rfl (lv_at hl 1 rfl) ?_
  obtain ⟨r, hZ⟩ : ∃ r : Option Nat, va_Z "jdk/internal/util/Preconditions" "SIOOBE_FORMATTER" "Ljava/util/function/BiFunction;" (va_rf r) (AW Z) s s.heap := by
    rcases hS9.2.2.2.2.2.2.2.2.2.2.2 with h | ⟨t, h⟩
    · exact ⟨none, h⟩
    · exact ⟨some t, h⟩
  refine va_gets (own := RN 15) (index := 1053) hx hb hZ (va_S.rf) hown (hts _ (List.mem_filter.mpr ⟨sw_sio, rfl⟩)) (fun _ h => h) (by decide +kernel) ?_
  have hpb : FrameBlind (PcV Z [.int i, .int n, va_rf r] w) := by
    intro a U g mk q
    obtain ⟨q0, qP, qK, qD, qS⟩ := q
    exact ⟨q0, qP, va_K.moved (u := U) (U := U.calling g mk a) (Vm.Alike.refl U.vm) qK, qD, Kst.same (u := U) (U := U.calling g mk a) rfl qS⟩
  have hpo : ∀ U : State, U.heap = s.heap → s.WarmedH U.vm → PcV Z [.int i, .int n, va_rf r] w ([Value.int i, .int n, va_rf r]).toArray U := fun U hU hW => ⟨rfl, by rw [hU]; exact hP, va_K.moved hW.alike hK, hD, by rw [hU]; exact Kst.warm hW hS9⟩
  have cw : CallB ({ frames := 2, cells := 0, slots := 0, locals := 40 } : Room) s ([vI i, vI n].map (cv Z)).toArray (RN 15) 1059 yJ3_checkIndex_8e157 prog_32_method_11_code 3 (some .int) (wsM mJ3_checkIndex_8e157) { frames := 1, cells := 0, slots := 0, locals := 0 } 0 0 3 ∧ (Cond.static yJ3_checkIndex_8e157).before ([vI i, vI n].map (cv Z)).toArray s = true :=
    va_cwS9 3 hts (wsS_good (M := mJ3_checkIndex_8e157) ml_15_1059) rfl rfl rfl ⟨by decide, by decide, by decide +kernel⟩ ⟨by decide, by decide⟩
  have hr := vx_runS (g := F0 m 5 ls ([va_rf r, .int n, .int i])) (H := s.heap) (locs := []) (cells := 0) (slots := 0) (e := e) (below := below) (meth := meth) (As := [.int i, .int n, va_rf r]) (rest := []) ⟨hx, hb, hml, hown, hts⟩ (pre_ck (Z := Z) (l := l) (w := w) r h0 h1) cw ⟨hpb, hpo⟩ rfl rfl hl.1 rfl (lv_room (Nat.zero_le _)) (show decode prog_23_method_155_code 5 = .ok (.invokestatic 1059, 3) by decide +kernel) ⟨Nat.le_refl _, Nat.le_refl _⟩
  intro T hT X
  rcases hr T hT X with ⟨v, st₀, t', T', L, g0, X', hL, e1, e2, ⟨⟨v0, ho, hv, hb1⟩, hF⟩, st⟩ | ⟨q, st₀, t', T', L, E, ce, g0, X', hL, e1, e2, ⟨⟨k, ho, hE, hb1⟩, hF⟩, hce, hcv, hcl, st⟩
  · obtain ⟨k1, k2, k3⟩ := vx_keep (A0 := AW Z) (H0 := s.heap) g0 e1 va_S.rf (fun q _ h => h) (fun q h => h) hL hF
    cases ho
    have hv : v = some (.int i) := by cases hv; rfl
    subst hv
    have hk : W p l e ({ frames := 2, cells := 0, slots := 0, locals := 40 } : Room) s m ([vI i, vI n].map (cv Z)).toArray below meth c T'.heap ([] ++ L) 0 0 (vx_MQ below (QcO Z (.inr none) w) (XcO Z (.inr none) w) ([vI i, vI n].map (cv Z)).toArray s 0 0 (AW Z)) (F0 m 8 ls [.int i]) := by
      refine lv_pop (va := .int i) hx hb (show decode prog_23_method_155_code 8 = .ok (.pop, 1) by decide +kernel) rfl ?_
      apply vx_ret
      have hq : ∀ t : State, t.heap = T'.heap → s.WarmedH t.vm → QcO Z (.inr none) w ([vI i, vI n].map (cv Z)).toArray s (.returned none) t := fun t h9 _ => ⟨⟨none, rfl, rfl, by rw [h9, e1]; exact hb1⟩, k3.F h9⟩
      exact W.vret hx hb B.returns hq k3.2.2 (by decide +kernel) B.notSynchronized
    obtain ⟨t2, a1, b1⟩ := hk T' rfl X'
    exact ⟨t2, st t2 a1, b1⟩
  · cases ho
