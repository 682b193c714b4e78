abbrev mX8_init : MI := (yX8_init, prog_10_method_1_code, 1, none)
abbrev w_X8 (cT : FieldType → ClassId) (adE adS : Nat → Nat) (h0 : Nat) (S : Nat → Nat) : va_W := [(h0, .inr (8, [.ref (S 1), .int 0, .int 0, .int 0, .int 0, .ref (adE 0), .int (-1), .int 0])), (S 1, .inl (cT .byte, 700, .inl (fun _ => 0)))]
set_option maxHeartbeats 40000000 in
set_option maxRecDepth 100000 in
theorem i_X8 (l : Launch) (D : va_G) (cT : FieldType → ClassId) (adE adS : Nat → Nat) (sz0 h0 sz : Nat) (h00 : sz0 ≤ h0) (h01 : sz0 ≤ sz) : Met l yX8_init (wsM mX8_init) { frames := 1, cells := 1, slots := 700, locals := 20 } (va_Pc [.ref h0] (fun U => U.heap.size = sz ∧ va_P D vwCl [(h0, .inr (8, [.null, .int 0, .int 0, .int 0, .int 0, .null, .int 0, .int 0]))] U.heap ∧ va_K D vwCl (tyS cT) U ∧ va_D (fun _ => True) [(h0, .inr (8, [.null, .int 0, .int 0, .int 0, .int 0, .null, .int 0, .int 0]))] ∧ NI adE adS sz0 U U.heap)) (va_Qv (fun _ : Unit => True) (fun _ t => ∃ S : Nat → Nat, va_P D vwCl (w_X8 cT adE adS h0 S) t.heap ∧ va_D (va_A [(h0, .inr (8, [.null, .int 0, .int 0, .int 0, .int 0, .null, .int 0, .int 0]))] sz) (w_X8 cT adE adS h0 S)) (va_A [(h0, .inr (8, [.null, .int 0, .int 0, .int 0, .int 0, .null, .int 0, .int 0]))] sz)) 1 700 (va_A [(h0, .inr (8, [.null, .int 0, .int 0, .int 0, .int 0, .null, .int 0, .int 0]))] sz) := by
  refine Met.ofW (cc := prog_10_method_1_code) (maxL := 1) (ret := none) (by decide +kernel) rfl ?_
  intro p e s m args below meth c s₁ B hml hv
  obtain ⟨rfl, hsz, hP, hK, hD0, hN⟩ := hv
  have hx := B.exec
  have hb := B.bytes
  have hr := B.returns
  have hts0 := atoms_spec (ws := wsM mX8_init) B.pre
  have hts : ∀ w ∈ TBL, w.before ([Value.ref h0] : List Value).toArray s = true := fun w hw => hts0 w (List.mem_cons_of_mem _ hw)
  have hown : s.vm.findClass (RN 8) = some m.cls := findClass_of_methodNamed B.named
  have hlocks := B.notSynchronized
  have hin : meth.name = "<init>" := (name_of_methodNamed B.named B.method).1
  subst hsz
  have hD := hD0.self (sz := s.heap.size)
  generalize hAe : va_A [(h0, .inr (8, [.null, .int 0, .int 0, .int 0, .int 0, .null, .int 0, .int 0]))] s.heap.size = A at hD ⊢
  have hA : ∀ q : Nat, s.heap.size ≤ q → A q := fun q h => by rw [← hAe]; exact Or.inr h
  have hA0 : ∀ q : Nat, A q → sz0 ≤ q := fun q h => a0_of h00 h01 q (by rw [hAe]; exact h)
  have hS : va_S A s.heap s.heap [] := va_S.rf
  have hl := lv_entry ([.ref h0]) (n := 1) (Nat.le_of_ble_eq_true rfl)
  rw [lg_entry_eq]
  generalize (lg_sl ([.ref h0]) ++ List.replicate (1 - (lg_sl ([.ref h0])).length) Slot.unset).toArray = ls at hl ⊢
  have hl : lv_has ls 1 [(0, .ref h0)] := hl
  refine lv_aload_n hx hb (by decide +kernel : decode prog_10_method_1_code 0 = .ok (.aload_n 0, 1)) rfl (lv_at hl 0 rfl) ?_
  refine W.objInit hx hb hown (hts _ (tb (in_t1 46 rfl) rfl)) (hts _ (tb (in_t1 33 rfl) rfl)) (hts _ (tb (in_t1 34 rfl) rfl)) rfl (by rw [hml]; exact hl.1) rfl (by decide +kernel : decode prog_10_method_1_code 1 = .ok (.invokespecial 3, 3)) (Nat.le_of_ble_eq_true rfl) (Nat.le_of_ble_eq_true rfl) ?_
  refine W.eq (g2 := F0 m 4 ls []) rfl ?_
  refine lv_aload_n hx hb (by decide +kernel : decode prog_10_method_1_code 4 = .ok (.aload_n 0, 1)) rfl (lv_at hl 0 rfl) ?_
  refine lv_sipush (v := 700) hx hb (by decide +kernel : decode prog_10_method_1_code 5 = .ok (.sipush 700, 3)) (by decide) ?_
  refine nw_a (ty := .byte) (a0 := (700, .inl (fun _ => 0))) (cA0 := cT .byte) hx hb (hts _ (tb (in_t1 79 rfl) rfl)) rfl hK 1 rfl hP hD hS hA (fun _ => rfl) (by decide) (by decide) (by decide) (Nat.le_of_ble_eq_true rfl) (Nat.le_of_ble_eq_true rfl) (by decide +kernel : decode prog_10_method_1_code 8 = .ok (.newarray .byte, 2)) (fun q8 H hP hD hS => ?_)
  have hP : va_P D vwCl [(h0, .inr (8, [.null, .int 0, .int 0, .int 0, .int 0, .null, .int 0, .int 0])), (q8, .inl (cT .byte, 700, .inl (fun _ => 0)))] H := hP
  have hD : va_D A [(h0, .inr (8, [.null, .int 0, .int 0, .int 0, .int 0, .null, .int 0, .int 0])), (q8, .inl (cT .byte, 700, .inl (fun _ => 0)))] := hD
  refine W.widen (k := 1) (n := 700) (Nat.le_of_ble_eq_true rfl) (Nat.le_of_ble_eq_true rfl) ?_
  refine va_putF (D := D) (ci := 8) (v := .ref q8) (ty := .array .byte) (C := RX8) (T := TX8) (N := 8) hx hb hts (lay_tbl 8 _ rfl) tyX8 tyX8_ok nmX8 hown hK hP hD hS 0 rfl rfl 0 (by decide) (hts _ (tb (in_t1 49 rfl) rfl)) (fun _ h9 => h9) rfl hin rfl (by decide +kernel) rfl rfl (Nat.le_of_ble_eq_true rfl) (by decide +kernel : decode prog_10_method_1_code 10 = .ok (.putfield 9, 3)) (fun H locs hP hD hS => ?_)
  have hP : va_P D vwCl [(h0, .inr (8, [.ref q8, .int 0, .int 0, .int 0, .int 0, .null, .int 0, .int 0])), (q8, .inl (cT .byte, 700, .inl (fun _ => 0)))] H := hP
  have hD : va_D A [(h0, .inr (8, [.ref q8, .int 0, .int 0, .int 0, .int 0, .null, .int 0, .int 0])), (q8, .inl (cT .byte, 700, .inl (fun _ => 0)))] := hD
  refine lv_aload_n hx hb (by decide +kernel : decode prog_10_method_1_code 13 = .ok (.aload_n 0, 1)) rfl (lv_at hl 0 rfl) ?_
  refine lv_iconst (v := 0) hx hb (by decide +kernel : decode prog_10_method_1_code 14 = .ok (.iconst 0, 1)) (by decide) ?_
  refine va_put (D := D) (ci := 8) (v := .int 0) (ty := .int) (C := RX8) (T := TX8) (N := 8) hx hb hts (lay_tbl 8 _ rfl) tyX8 tyX8_ok nmX8 hown hK hP hD hS 0 rfl rfl 1 (by decide) (hts _ (tb (in_t1 50 rfl) rfl)) (fun _ h9 => h9) rfl (by decide +kernel) rfl rfl (Nat.le_of_ble_eq_true rfl) (by decide +kernel : decode prog_10_method_1_code 15 = .ok (.putfield 15, 3)) (fun H locs hP hD hS => ?_)
  have hP : va_P D vwCl [(h0, .inr (8, [.ref q8, .int 0, .int 0, .int 0, .int 0, .null, .int 0, .int 0])), (q8, .inl (cT .byte, 700, .inl (fun _ => 0)))] H := hP
  have hD : va_D A [(h0, .inr (8, [.ref q8, .int 0, .int 0, .int 0, .int 0, .null, .int 0, .int 0])), (q8, .inl (cT .byte, 700, .inl (fun _ => 0)))] := hD
  refine lv_aload_n hx hb (by decide +kernel : decode prog_10_method_1_code 18 = .ok (.aload_n 0, 1)) rfl (lv_at hl 0 rfl) ?_
  refine lv_iconst (v := 0) hx hb (by decide +kernel : decode prog_10_method_1_code 19 = .ok (.iconst 0, 1)) (by decide) ?_
  refine va_put (D := D) (ci := 8) (v := .int 0) (ty := .int) (C := RX8) (T := TX8) (N := 8) hx hb hts (lay_tbl 8 _ rfl) tyX8 tyX8_ok nmX8 hown hK hP hD hS 0 rfl rfl 2 (by decide) (hts _ (tb (in_t1 51 rfl) rfl)) (fun _ h9 => h9) rfl (by decide +kernel) rfl rfl (Nat.le_of_ble_eq_true rfl) (by decide +kernel : decode prog_10_method_1_code 20 = .ok (.putfield 19, 3)) (fun H locs hP hD hS => ?_)
  have hP : va_P D vwCl [(h0, .inr (8, [.ref q8, .int 0, .int 0, .int 0, .int 0, .null, .int 0, .int 0])), (q8, .inl (cT .byte, 700, .inl (fun _ => 0)))] H := hP
  have hD : va_D A [(h0, .inr (8, [.ref q8, .int 0, .int 0, .int 0, .int 0, .null, .int 0, .int 0])), (q8, .inl (cT .byte, 700, .inl (fun _ => 0)))] := hD
  refine lv_aload_n hx hb (by decide +kernel : decode prog_10_method_1_code 23 = .ok (.aload_n 0, 1)) rfl (lv_at hl 0 rfl) ?_
  refine lv_iconst (v := 0) hx hb (by decide +kernel : decode prog_10_method_1_code 24 = .ok (.iconst 0, 1)) (by decide) ?_
  refine va_put (D := D) (ci := 8) (v := .int 0) (ty := .int) (C := RX8) (T := TX8) (N := 8) hx hb hts (lay_tbl 8 _ rfl) tyX8 tyX8_ok nmX8 hown hK hP hD hS 0 rfl rfl 3 (by decide) (hts _ (tb (in_t1 52 rfl) rfl)) (fun _ h9 => h9) rfl (by decide +kernel) rfl rfl (Nat.le_of_ble_eq_true rfl) (by decide +kernel : decode prog_10_method_1_code 25 = .ok (.putfield 22, 3)) (fun H locs hP hD hS => ?_)
  have hP : va_P D vwCl [(h0, .inr (8, [.ref q8, .int 0, .int 0, .int 0, .int 0, .null, .int 0, .int 0])), (q8, .inl (cT .byte, 700, .inl (fun _ => 0)))] H := hP
  have hD : va_D A [(h0, .inr (8, [.ref q8, .int 0, .int 0, .int 0, .int 0, .null, .int 0, .int 0])), (q8, .inl (cT .byte, 700, .inl (fun _ => 0)))] := hD
  refine lv_aload_n hx hb (by decide +kernel : decode prog_10_method_1_code 28 = .ok (.aload_n 0, 1)) rfl (lv_at hl 0 rfl) ?_
  refine lv_iconst (v := 0) hx hb (by decide +kernel : decode prog_10_method_1_code 29 = .ok (.iconst 0, 1)) (by decide) ?_
  refine va_put (D := D) (ci := 8) (v := .int 0) (ty := .int) (C := RX8) (T := TX8) (N := 8) hx hb hts (lay_tbl 8 _ rfl) tyX8 tyX8_ok nmX8 hown hK hP hD hS 0 rfl rfl 4 (by decide) (hts _ (tb (in_t1 54 rfl) rfl)) (fun _ h9 => h9) rfl (by decide +kernel) rfl rfl (Nat.le_of_ble_eq_true rfl) (by decide +kernel : decode prog_10_method_1_code 30 = .ok (.putfield 25, 3)) (fun H locs hP hD hS => ?_)
  have hP : va_P D vwCl [(h0, .inr (8, [.ref q8, .int 0, .int 0, .int 0, .int 0, .null, .int 0, .int 0])), (q8, .inl (cT .byte, 700, .inl (fun _ => 0)))] H := hP
  have hD : va_D A [(h0, .inr (8, [.ref q8, .int 0, .int 0, .int 0, .int 0, .null, .int 0, .int 0])), (q8, .inl (cT .byte, 700, .inl (fun _ => 0)))] := hD
  refine lv_aload_n hx hb (by decide +kernel : decode prog_10_method_1_code 33 = .ok (.aload_n 0, 1)) rfl (lv_at hl 0 rfl) ?_
  refine va_gets (own := RN 8) (ref := "DreamMatins$Word") hx hb (hN.2.1.narrow (fun q hq => hA0 q hq)) hS hown (hts _ (tb (in_t1 47 rfl) rfl)) (fun _ h => h) (by decide +kernel : decode prog_10_method_1_code 34 = .ok (.getstatic 28, 3)) ?_
  refine va_put (D := D) (ci := 8) (v := .ref (adE 0)) (ty := .object "DreamMatins$Word") (C := RX8) (T := TX8) (N := 8) hx hb hts (lay_tbl 8 _ rfl) tyX8 tyX8_ok nmX8 hown hK hP hD hS 0 rfl rfl 5 (by decide) (hts _ (tb (in_t1 56 rfl) rfl)) (fun _ h9 => h9) rfl (by decide +kernel) rfl rfl (Nat.le_of_ble_eq_true rfl) (by decide +kernel : decode prog_10_method_1_code 37 = .ok (.putfield 34, 3)) (fun H locs hP hD hS => ?_)
  have hP : va_P D vwCl [(h0, .inr (8, [.ref q8, .int 0, .int 0, .int 0, .int 0, .ref (adE 0), .int 0, .int 0])), (q8, .inl (cT .byte, 700, .inl (fun _ => 0)))] H := hP
  have hD : va_D A [(h0, .inr (8, [.ref q8, .int 0, .int 0, .int 0, .int 0, .ref (adE 0), .int 0, .int 0])), (q8, .inl (cT .byte, 700, .inl (fun _ => 0)))] := hD
  refine lv_aload_n hx hb (by decide +kernel : decode prog_10_method_1_code 40 = .ok (.aload_n 0, 1)) rfl (lv_at hl 0 rfl) ?_
  refine lv_iconst (v := (-1)) hx hb (by decide +kernel : decode prog_10_method_1_code 41 = .ok (.iconst (-1), 1)) (by decide) ?_
  refine va_put (D := D) (ci := 8) (v := .int (-1)) (ty := .int) (C := RX8) (T := TX8) (N := 8) hx hb hts (lay_tbl 8 _ rfl) tyX8 tyX8_ok nmX8 hown hK hP hD hS 0 rfl rfl 6 (by decide) (hts _ (tb (in_t1 58 rfl) rfl)) (fun _ h9 => h9) rfl (by decide +kernel) rfl rfl (Nat.le_of_ble_eq_true rfl) (by decide +kernel : decode prog_10_method_1_code 42 = .ok (.putfield 37, 3)) (fun H locs hP hD hS => ?_)
  have hP : va_P D vwCl [(h0, .inr (8, [.ref q8, .int 0, .int 0, .int 0, .int 0, .ref (adE 0), .int (-1), .int 0])), (q8, .inl (cT .byte, 700, .inl (fun _ => 0)))] H := hP
  have hD : va_D A [(h0, .inr (8, [.ref q8, .int 0, .int 0, .int 0, .int 0, .ref (adE 0), .int (-1), .int 0])), (q8, .inl (cT .byte, 700, .inl (fun _ => 0)))] := hD
  refine lv_aload_n hx hb (by decide +kernel : decode prog_10_method_1_code 45 = .ok (.aload_n 0, 1)) rfl (lv_at hl 0 rfl) ?_
  refine lv_iconst (v := 0) hx hb (by decide +kernel : decode prog_10_method_1_code 46 = .ok (.iconst 0, 1)) (by decide) ?_
  refine va_put (D := D) (ci := 8) (v := .int 0) (ty := .int) (C := RX8) (T := TX8) (N := 8) hx hb hts (lay_tbl 8 _ rfl) tyX8 tyX8_ok nmX8 hown hK hP hD hS 0 rfl rfl 7 (by decide) (hts _ (tb (in_t1 60 rfl) rfl)) (fun _ h9 => h9) rfl (by decide +kernel) rfl rfl (Nat.le_of_ble_eq_true rfl) (by decide +kernel : decode prog_10_method_1_code 47 = .ok (.putfield 40, 3)) (fun H locs hP hD hS => ?_)
  have hP : va_P D vwCl [(h0, .inr (8, [.ref q8, .int 0, .int 0, .int 0, .int 0, .ref (adE 0), .int (-1), .int 0])), (q8, .inl (cT .byte, 700, .inl (fun _ => 0)))] H := hP
  have hD : va_D A [(h0, .inr (8, [.ref q8, .int 0, .int 0, .int 0, .int 0, .ref (adE 0), .int (-1), .int 0])), (q8, .inl (cT .byte, 700, .inl (fun _ => 0)))] := hD
  exact W.vret hx hb hr (fun t ht hW => ⟨⟨(), rfl, trivial, nthA [0, q8], by rw [ht]; exact hP, hD⟩, hS.F ht⟩) hS.2.2 (by decide +kernel : decode prog_10_method_1_code 50 = .ok (.return_, 1))

abbrev mX6_init : MI := (yX6_init, prog_8_method_1_code, 1, none)
abbrev w_X6 (cT : FieldType → ClassId) (adE adS : Nat → Nat) (h0 : Nat) (S : Nat → Nat) : va_W := [(h0, .inr (6, [.ref (S 1), .ref (S 2), .int 0])), (S 1, .inl (cT .int, 700, .inl (fun _ => 0))), (S 2, .inl (cT .int, 40, .inl (fun _ => 0)))]
set_option maxHeartbeats 40000000 in
set_option maxRecDepth 100000 in
theorem i_X6 (l : Launch) (D : va_G) (cT : FieldType → ClassId) (adE adS : Nat → Nat) (sz0 h0 sz : Nat) (h00 : sz0 ≤ h0) (h01 : sz0 ≤ sz) : Met l yX6_init (wsM mX6_init) { frames := 1, cells := 2, slots := 740, locals := 20 } (va_Pc [.ref h0] (fun U => U.heap.size = sz ∧ va_P D vwCl [(h0, .inr (6, [.null, .null, .int 0]))] U.heap ∧ va_K D vwCl (tyS cT) U ∧ va_D (fun _ => True) [(h0, .inr (6, [.null, .null, .int 0]))] ∧ NI adE adS sz0 U U.heap)) (va_Qv (fun _ : Unit => True) (fun _ t => ∃ S : Nat → Nat, va_P D vwCl (w_X6 cT adE adS h0 S) t.heap ∧ va_D (va_A [(h0, .inr (6, [.null, .null, .int 0]))] sz) (w_X6 cT adE adS h0 S)) (va_A [(h0, .inr (6, [.null, .null, .int 0]))] sz)) 2 740 (va_A [(h0, .inr (6, [.null, .null, .int 0]))] sz) := by
  refine Met.ofW (cc := prog_8_method_1_code) (maxL := 1) (ret := none) (by decide +kernel) rfl ?_
  intro p e s m args below meth c s₁ B hml hv
  obtain ⟨rfl, hsz, hP, hK, hD0, hN⟩ := hv
  have hx := B.exec
  have hb := B.bytes
  have hr := B.returns
  have hts0 := atoms_spec (ws := wsM mX6_init) B.pre
  have hts : ∀ w ∈ TBL, w.before ([Value.ref h0] : List Value).toArray s = true := fun w hw => hts0 w (List.mem_cons_of_mem _ hw)
  have hown : s.vm.findClass (RN 6) = some m.cls := findClass_of_methodNamed B.named
  have hlocks := B.notSynchronized
  have hin : meth.name = "<init>" := (name_of_methodNamed B.named B.method).1
  subst hsz
  have hD := hD0.self (sz := s.heap.size)
  generalize hAe : va_A [(h0, .inr (6, [.null, .null, .int 0]))] s.heap.size = A at hD ⊢
  have hA : ∀ q : Nat, s.heap.size ≤ q → A q := fun q h => by rw [← hAe]; exact Or.inr h
  have hA0 : ∀ q : Nat, A q → sz0 ≤ q := fun q h => a0_of h00 h01 q (by rw [hAe]; exact h)
  have hS : va_S A s.heap s.heap [] := va_S.rf
  have hl := lv_entry ([.ref h0]) (n := 1) (Nat.le_of_ble_eq_true rfl)
  rw [lg_entry_eq]
  generalize (lg_sl ([.ref h0]) ++ List.replicate (1 - (lg_sl ([.ref h0])).length) Slot.unset).toArray = ls at hl ⊢
  have hl : lv_has ls 1 [(0, .ref h0)] := hl
  refine lv_aload_n hx hb (by decide +kernel : decode prog_8_method_1_code 0 = .ok (.aload_n 0, 1)) rfl (lv_at hl 0 rfl) ?_
  refine W.objInit hx hb hown (hts _ (tb (in_t1 91 rfl) rfl)) (hts _ (tb (in_t1 33 rfl) rfl)) (hts _ (tb (in_t1 34 rfl) rfl)) rfl (by rw [hml]; exact hl.1) rfl (by decide +kernel : decode prog_8_method_1_code 1 = .ok (.invokespecial 3, 3)) (Nat.le_of_ble_eq_true rfl) (Nat.le_of_ble_eq_true rfl) ?_
  refine W.eq (g2 := F0 m 4 ls []) rfl ?_
  refine lv_aload_n hx hb (by decide +kernel : decode prog_8_method_1_code 4 = .ok (.aload_n 0, 1)) rfl (lv_at hl 0 rfl) ?_
  refine lv_sipush (v := 700) hx hb (by decide +kernel : decode prog_8_method_1_code 5 = .ok (.sipush 700, 3)) (by decide) ?_
  refine nw_a (ty := .int) (a0 := (700, .inl (fun _ => 0))) (cA0 := cT .int) hx hb (hts _ (tb (in_t1 104 rfl) rfl)) rfl hK 0 rfl hP hD hS hA (fun _ => rfl) (by decide) (by decide) (by decide) (Nat.le_of_ble_eq_true rfl) (Nat.le_of_ble_eq_true rfl) (by decide +kernel : decode prog_8_method_1_code 8 = .ok (.newarray .int, 2)) (fun q8 H hP hD hS => ?_)
  have hP : va_P D vwCl [(h0, .inr (6, [.null, .null, .int 0])), (q8, .inl (cT .int, 700, .inl (fun _ => 0)))] H := hP
  have hD : va_D A [(h0, .inr (6, [.null, .null, .int 0])), (q8, .inl (cT .int, 700, .inl (fun _ => 0)))] := hD
  refine W.widen (k := 1) (n := 700) (Nat.le_of_ble_eq_true rfl) (Nat.le_of_ble_eq_true rfl) ?_
  refine va_putF (D := D) (ci := 6) (v := .ref q8) (ty := .array .int) (C := RX6) (T := TX6) (N := 3) hx hb hts (lay_tbl 6 _ rfl) tyX6 tyX6_ok nmX6 hown hK hP hD hS 0 rfl rfl 0 (by decide) (hts _ (tb (in_t1 92 rfl) rfl)) (fun _ h9 => h9) rfl hin rfl (by decide +kernel) rfl rfl (Nat.le_of_ble_eq_true rfl) (by decide +kernel : decode prog_8_method_1_code 10 = .ok (.putfield 9, 3)) (fun H locs hP hD hS => ?_)
  have hP : va_P D vwCl [(h0, .inr (6, [.ref q8, .null, .int 0])), (q8, .inl (cT .int, 700, .inl (fun _ => 0)))] H := hP
  have hD : va_D A [(h0, .inr (6, [.ref q8, .null, .int 0])), (q8, .inl (cT .int, 700, .inl (fun _ => 0)))] := hD
  refine lv_aload_n hx hb (by decide +kernel : decode prog_8_method_1_code 13 = .ok (.aload_n 0, 1)) rfl (lv_at hl 0 rfl) ?_
  refine lv_bipush (v := 40) hx hb (by decide +kernel : decode prog_8_method_1_code 14 = .ok (.bipush 40, 2)) (by decide) ?_
  refine nw_a (ty := .int) (a0 := (40, .inl (fun _ => 0))) (cA0 := cT .int) hx hb (hts _ (tb (in_t1 104 rfl) rfl)) rfl hK 0 rfl hP hD hS hA (fun _ => rfl) (by decide) (by decide) (by decide) (Nat.le_of_ble_eq_true rfl) (Nat.le_of_ble_eq_true rfl) (by decide +kernel : decode prog_8_method_1_code 16 = .ok (.newarray .int, 2)) (fun q16 H hP hD hS => ?_)
  have hP : va_P D vwCl [(h0, .inr (6, [.ref q8, .null, .int 0])), (q8, .inl (cT .int, 700, .inl (fun _ => 0))), (q16, .inl (cT .int, 40, .inl (fun _ => 0)))] H := hP
  have hD : va_D A [(h0, .inr (6, [.ref q8, .null, .int 0])), (q8, .inl (cT .int, 700, .inl (fun _ => 0))), (q16, .inl (cT .int, 40, .inl (fun _ => 0)))] := hD
  refine W.widen (k := 2) (n := 740) (Nat.le_of_ble_eq_true rfl) (Nat.le_of_ble_eq_true rfl) ?_
  refine va_putF (D := D) (ci := 6) (v := .ref q16) (ty := .array .int) (C := RX6) (T := TX6) (N := 3) hx hb hts (lay_tbl 6 _ rfl) tyX6 tyX6_ok nmX6 hown hK hP hD hS 0 rfl rfl 1 (by decide) (hts _ (tb (in_t1 93 rfl) rfl)) (fun _ h9 => h9) rfl hin rfl (by decide +kernel) rfl rfl (Nat.le_of_ble_eq_true rfl) (by decide +kernel : decode prog_8_method_1_code 18 = .ok (.putfield 15, 3)) (fun H locs hP hD hS => ?_)
  have hP : va_P D vwCl [(h0, .inr (6, [.ref q8, .ref q16, .int 0])), (q8, .inl (cT .int, 700, .inl (fun _ => 0))), (q16, .inl (cT .int, 40, .inl (fun _ => 0)))] H := hP
  have hD : va_D A [(h0, .inr (6, [.ref q8, .ref q16, .int 0])), (q8, .inl (cT .int, 700, .inl (fun _ => 0))), (q16, .inl (cT .int, 40, .inl (fun _ => 0)))] := hD
  refine lv_aload_n hx hb (by decide +kernel : decode prog_8_method_1_code 21 = .ok (.aload_n 0, 1)) rfl (lv_at hl 0 rfl) ?_
  refine lv_iconst (v := 0) hx hb (by decide +kernel : decode prog_8_method_1_code 22 = .ok (.iconst 0, 1)) (by decide) ?_
  refine va_put (D := D) (ci := 6) (v := .int 0) (ty := .int) (C := RX6) (T := TX6) (N := 3) hx hb hts (lay_tbl 6 _ rfl) tyX6 tyX6_ok nmX6 hown hK hP hD hS 0 rfl rfl 2 (by decide) (hts _ (tb (in_t1 94 rfl) rfl)) (fun _ h9 => h9) rfl (by decide +kernel) rfl rfl (Nat.le_of_ble_eq_true rfl) (by decide +kernel : decode prog_8_method_1_code 23 = .ok (.putfield 18, 3)) (fun H locs hP hD hS => ?_)
  have hP : va_P D vwCl [(h0, .inr (6, [.ref q8, .ref q16, .int 0])), (q8, .inl (cT .int, 700, .inl (fun _ => 0))), (q16, .inl (cT .int, 40, .inl (fun _ => 0)))] H := hP
  have hD : va_D A [(h0, .inr (6, [.ref q8, .ref q16, .int 0])), (q8, .inl (cT .int, 700, .inl (fun _ => 0))), (q16, .inl (cT .int, 40, .inl (fun _ => 0)))] := hD
  exact W.vret hx hb hr (fun t ht hW => ⟨⟨(), rfl, trivial, nthA [0, q8, q16], by rw [ht]; exact hP, hD⟩, hS.F ht⟩) hS.2.2 (by decide +kernel : decode prog_8_method_1_code 26 = .ok (.return_, 1))

abbrev mX3_init : MI := (yX3_init, prog_5_method_1_code, 1, none)
abbrev w_X3 (cT : FieldType → ClassId) (adE adS : Nat → Nat) (h0 : Nat) (S : Nat → Nat) : va_W := [(h0, .inr (3, [.int 0, .int 0, .int 20, .int 10, .ref (S 1), .ref (S 2), .ref (S 3)])), (S 1, .inl (cT .int, 9, .inl (fun _ => 0))), (S 2, .inl (cT .int, 8, .inl (fun _ => 0))), (S 3, .inr (6, [.ref (S 4), .ref (S 5), .int 0])), (S 4, .inl (cT .int, 700, .inl (fun _ => 0))), (S 5, .inl (cT .int, 40, .inl (fun _ => 0)))]
set_option maxHeartbeats 40000000 in
set_option maxRecDepth 100000 in
theorem i_X3 (l : Launch) (D : va_G) (cT : FieldType → ClassId) (adE adS : Nat → Nat) (sz0 h0 sz : Nat) (h00 : sz0 ≤ h0) (h01 : sz0 ≤ sz) : Met l yX3_init (wsM mX3_init) { frames := 2, cells := 5, slots := 760, locals := 40 } (va_Pc [.ref h0] (fun U => U.heap.size = sz ∧ va_P D vwCl [(h0, .inr (3, [.int 0, .int 0, .int 0, .int 0, .null, .null, .null]))] U.heap ∧ va_K D vwCl (tyS cT) U ∧ va_D (fun _ => True) [(h0, .inr (3, [.int 0, .int 0, .int 0, .int 0, .null, .null, .null]))] ∧ NI adE adS sz0 U U.heap)) (va_Qv (fun _ : Unit => True) (fun _ t => ∃ S : Nat → Nat, va_P D vwCl (w_X3 cT adE adS h0 S) t.heap ∧ va_D (va_A [(h0, .inr (3, [.int 0, .int 0, .int 0, .int 0, .null, .null, .null]))] sz) (w_X3 cT adE adS h0 S)) (va_A [(h0, .inr (3, [.int 0, .int 0, .int 0, .int 0, .null, .null, .null]))] sz)) 5 760 (va_A [(h0, .inr (3, [.int 0, .int 0, .int 0, .int 0, .null, .null, .null]))] sz) := by
  refine Met.ofW (cc := prog_5_method_1_code) (maxL := 1) (ret := none) (by decide +kernel) rfl ?_
  intro p e s m args below meth c s₁ B hml hv
  obtain ⟨rfl, hsz, hP, hK, hD0, hN⟩ := hv
  have hx := B.exec
  have hb := B.bytes
  have hr := B.returns
  have hts0 := atoms_spec (ws := wsM mX3_init) B.pre
  have hts : ∀ w ∈ TBL, w.before ([Value.ref h0] : List Value).toArray s = true := fun w hw => hts0 w (List.mem_cons_of_mem _ hw)
  have hown : s.vm.findClass (RN 3) = some m.cls := findClass_of_methodNamed B.named
  have hlocks := B.notSynchronized
  have hin : meth.name = "<init>" := (name_of_methodNamed B.named B.method).1
  subst hsz
  have hD := hD0.self (sz := s.heap.size)
  generalize hAe : va_A [(h0, .inr (3, [.int 0, .int 0, .int 0, .int 0, .null, .null, .null]))] s.heap.size = A at hD ⊢
  have hA : ∀ q : Nat, s.heap.size ≤ q → A q := fun q h => by rw [← hAe]; exact Or.inr h
  have hA0 : ∀ q : Nat, A q → sz0 ≤ q := fun q h => a0_of h00 h01 q (by rw [hAe]; exact h)
  have hS : va_S A s.heap s.heap [] := va_S.rf
  have hl := lv_entry ([.ref h0]) (n := 1) (Nat.le_of_ble_eq_true rfl)
  rw [lg_entry_eq]
  generalize (lg_sl ([.ref h0]) ++ List.replicate (1 - (lg_sl ([.ref h0])).length) Slot.unset).toArray = ls at hl ⊢
  have hl : lv_has ls 1 [(0, .ref h0)] := hl
  refine lv_aload_n hx hb (by decide +kernel : decode prog_5_method_1_code 0 = .ok (.aload_n 0, 1)) rfl (lv_at hl 0 rfl) ?_
  refine W.objInit hx hb hown (hts _ (tb (in_t1 85 rfl) rfl)) (hts _ (tb (in_t1 33 rfl) rfl)) (hts _ (tb (in_t1 34 rfl) rfl)) rfl (by rw [hml]; exact hl.1) rfl (by decide +kernel : decode prog_5_method_1_code 1 = .ok (.invokespecial 3, 3)) (Nat.le_of_ble_eq_true rfl) (Nat.le_of_ble_eq_true rfl) ?_
  refine W.eq (g2 := F0 m 4 ls []) rfl ?_
  refine lv_aload_n hx hb (by decide +kernel : decode prog_5_method_1_code 4 = .ok (.aload_n 0, 1)) rfl (lv_at hl 0 rfl) ?_
  refine lv_iconst (v := 0) hx hb (by decide +kernel : decode prog_5_method_1_code 5 = .ok (.iconst 0, 1)) (by decide) ?_
  refine va_put (D := D) (ci := 3) (v := .int 0) (ty := .int) (C := RX3) (T := TX3) (N := 7) hx hb hts (lay_tbl 3 _ rfl) tyX3 tyX3_ok nmX3 hown hK hP hD hS 0 rfl rfl 0 (by decide) (hts _ (tb (in_t1 105 rfl) rfl)) (fun _ h9 => h9) rfl (by decide +kernel) rfl rfl (Nat.le_of_ble_eq_true rfl) (by decide +kernel : decode prog_5_method_1_code 6 = .ok (.putfield 9, 3)) (fun H locs hP hD hS => ?_)
  have hP : va_P D vwCl [(h0, .inr (3, [.int 0, .int 0, .int 0, .int 0, .null, .null, .null]))] H := hP
  have hD : va_D A [(h0, .inr (3, [.int 0, .int 0, .int 0, .int 0, .null, .null, .null]))] := hD
  refine lv_aload_n hx hb (by decide +kernel : decode prog_5_method_1_code 9 = .ok (.aload_n 0, 1)) rfl (lv_at hl 0 rfl) ?_
  refine lv_iconst (v := 0) hx hb (by decide +kernel : decode prog_5_method_1_code 10 = .ok (.iconst 0, 1)) (by decide) ?_
  refine va_put (D := D) (ci := 3) (v := .int 0) (ty := .int) (C := RX3) (T := TX3) (N := 7) hx hb hts (lay_tbl 3 _ rfl) tyX3 tyX3_ok nmX3 hown hK hP hD hS 0 rfl rfl 1 (by decide) (hts _ (tb (in_t1 108 rfl) rfl)) (fun _ h9 => h9) rfl (by decide +kernel) rfl rfl (Nat.le_of_ble_eq_true rfl) (by decide +kernel : decode prog_5_method_1_code 11 = .ok (.putfield 15, 3)) (fun H locs hP hD hS => ?_)
  have hP : va_P D vwCl [(h0, .inr (3, [.int 0, .int 0, .int 0, .int 0, .null, .null, .null]))] H := hP
  have hD : va_D A [(h0, .inr (3, [.int 0, .int 0, .int 0, .int 0, .null, .null, .null]))] := hD
  refine lv_aload_n hx hb (by decide +kernel : decode prog_5_method_1_code 14 = .ok (.aload_n 0, 1)) rfl (lv_at hl 0 rfl) ?_
  refine lv_bipush (v := 20) hx hb (by decide +kernel : decode prog_5_method_1_code 15 = .ok (.bipush 20, 2)) (by decide) ?_
  refine va_put (D := D) (ci := 3) (v := .int 20) (ty := .int) (C := RX3) (T := TX3) (N := 7) hx hb hts (lay_tbl 3 _ rfl) tyX3 tyX3_ok nmX3 hown hK hP hD hS 0 rfl rfl 2 (by decide) (hts _ (tb (in_t1 112 rfl) rfl)) (fun _ h9 => h9) rfl (by decide +kernel) rfl rfl (Nat.le_of_ble_eq_true rfl) (by decide +kernel : decode prog_5_method_1_code 17 = .ok (.putfield 18, 3)) (fun H locs hP hD hS => ?_)
  have hP : va_P D vwCl [(h0, .inr (3, [.int 0, .int 0, .int 20, .int 0, .null, .null, .null]))] H := hP
  have hD : va_D A [(h0, .inr (3, [.int 0, .int 0, .int 20, .int 0, .null, .null, .null]))] := hD
  refine lv_aload_n hx hb (by decide +kernel : decode prog_5_method_1_code 20 = .ok (.aload_n 0, 1)) rfl (lv_at hl 0 rfl) ?_
  refine lv_bipush (v := 10) hx hb (by decide +kernel : decode prog_5_method_1_code 21 = .ok (.bipush 10, 2)) (by decide) ?_
  refine va_put (D := D) (ci := 3) (v := .int 10) (ty := .int) (C := RX3) (T := TX3) (N := 7) hx hb hts (lay_tbl 3 _ rfl) tyX3 tyX3_ok nmX3 hown hK hP hD hS 0 rfl rfl 3 (by decide) (hts _ (tb (in_t1 116 rfl) rfl)) (fun _ h9 => h9) rfl (by decide +kernel) rfl rfl (Nat.le_of_ble_eq_true rfl) (by decide +kernel : decode prog_5_method_1_code 23 = .ok (.putfield 21, 3)) (fun H locs hP hD hS => ?_)
  have hP : va_P D vwCl [(h0, .inr (3, [.int 0, .int 0, .int 20, .int 10, .null, .null, .null]))] H := hP
  have hD : va_D A [(h0, .inr (3, [.int 0, .int 0, .int 20, .int 10, .null, .null, .null]))] := hD
  refine lv_aload_n hx hb (by decide +kernel : decode prog_5_method_1_code 26 = .ok (.aload_n 0, 1)) rfl (lv_at hl 0 rfl) ?_
  refine lv_bipush (v := 9) hx hb (by decide +kernel : decode prog_5_method_1_code 27 = .ok (.bipush 9, 2)) (by decide) ?_
  refine nw_a (ty := .int) (a0 := (9, .inl (fun _ => 0))) (cA0 := cT .int) hx hb (hts _ (tb (in_t1 104 rfl) rfl)) rfl hK 0 rfl hP hD hS hA (fun _ => rfl) (by decide) (by decide) (by decide) (Nat.le_of_ble_eq_true rfl) (Nat.le_of_ble_eq_true rfl) (by decide +kernel : decode prog_5_method_1_code 29 = .ok (.newarray .int, 2)) (fun q29 H hP hD hS => ?_)
  have hP : va_P D vwCl [(h0, .inr (3, [.int 0, .int 0, .int 20, .int 10, .null, .null, .null])), (q29, .inl (cT .int, 9, .inl (fun _ => 0)))] H := hP
  have hD : va_D A [(h0, .inr (3, [.int 0, .int 0, .int 20, .int 10, .null, .null, .null])), (q29, .inl (cT .int, 9, .inl (fun _ => 0)))] := hD
  refine W.widen (k := 1) (n := 9) (Nat.le_of_ble_eq_true rfl) (Nat.le_of_ble_eq_true rfl) ?_
  refine va_putF (D := D) (ci := 3) (v := .ref q29) (ty := .array .int) (C := RX3) (T := TX3) (N := 7) hx hb hts (lay_tbl 3 _ rfl) tyX3 tyX3_ok nmX3 hown hK hP hD hS 0 rfl rfl 4 (by decide) (hts _ (tb (in_t1 120 rfl) rfl)) (fun _ h9 => h9) rfl hin rfl (by decide +kernel) rfl rfl (Nat.le_of_ble_eq_true rfl) (by decide +kernel : decode prog_5_method_1_code 31 = .ok (.putfield 24, 3)) (fun H locs hP hD hS => ?_)
  have hP : va_P D vwCl [(h0, .inr (3, [.int 0, .int 0, .int 20, .int 10, .ref q29, .null, .null])), (q29, .inl (cT .int, 9, .inl (fun _ => 0)))] H := hP
  have hD : va_D A [(h0, .inr (3, [.int 0, .int 0, .int 20, .int 10, .ref q29, .null, .null])), (q29, .inl (cT .int, 9, .inl (fun _ => 0)))] := hD
  refine lv_aload_n hx hb (by decide +kernel : decode prog_5_method_1_code 34 = .ok (.aload_n 0, 1)) rfl (lv_at hl 0 rfl) ?_
  refine lv_bipush (v := 8) hx hb (by decide +kernel : decode prog_5_method_1_code 35 = .ok (.bipush 8, 2)) (by decide) ?_
  refine nw_a (ty := .int) (a0 := (8, .inl (fun _ => 0))) (cA0 := cT .int) hx hb (hts _ (tb (in_t1 104 rfl) rfl)) rfl hK 0 rfl hP hD hS hA (fun _ => rfl) (by decide) (by decide) (by decide) (Nat.le_of_ble_eq_true rfl) (Nat.le_of_ble_eq_true rfl) (by decide +kernel : decode prog_5_method_1_code 37 = .ok (.newarray .int, 2)) (fun q37 H hP hD hS => ?_)
  have hP : va_P D vwCl [(h0, .inr (3, [.int 0, .int 0, .int 20, .int 10, .ref q29, .null, .null])), (q29, .inl (cT .int, 9, .inl (fun _ => 0))), (q37, .inl (cT .int, 8, .inl (fun _ => 0)))] H := hP
  have hD : va_D A [(h0, .inr (3, [.int 0, .int 0, .int 20, .int 10, .ref q29, .null, .null])), (q29, .inl (cT .int, 9, .inl (fun _ => 0))), (q37, .inl (cT .int, 8, .inl (fun _ => 0)))] := hD
  refine W.widen (k := 2) (n := 17) (Nat.le_of_ble_eq_true rfl) (Nat.le_of_ble_eq_true rfl) ?_
  refine va_putF (D := D) (ci := 3) (v := .ref q37) (ty := .array .int) (C := RX3) (T := TX3) (N := 7) hx hb hts (lay_tbl 3 _ rfl) tyX3 tyX3_ok nmX3 hown hK hP hD hS 0 rfl rfl 5 (by decide) (hts _ (tb (in_t1 124 rfl) rfl)) (fun _ h9 => h9) rfl hin rfl (by decide +kernel) rfl rfl (Nat.le_of_ble_eq_true rfl) (by decide +kernel : decode prog_5_method_1_code 39 = .ok (.putfield 28, 3)) (fun H locs hP hD hS => ?_)
  have hP : va_P D vwCl [(h0, .inr (3, [.int 0, .int 0, .int 20, .int 10, .ref q29, .ref q37, .null])), (q29, .inl (cT .int, 9, .inl (fun _ => 0))), (q37, .inl (cT .int, 8, .inl (fun _ => 0)))] H := hP
  have hD : va_D A [(h0, .inr (3, [.int 0, .int 0, .int 20, .int 10, .ref q29, .ref q37, .null])), (q29, .inl (cT .int, 9, .inl (fun _ => 0))), (q37, .inl (cT .int, 8, .inl (fun _ => 0)))] := hD
  refine lv_aload_n hx hb (by decide +kernel : decode prog_5_method_1_code 42 = .ok (.aload_n 0, 1)) rfl (lv_at hl 0 rfl) ?_
  refine va_new (ci := 6) (fs := [.null, .null, .int 0]) (C := RX6) (T := TX6) (N := 3) hx hb hts (lay_tbl 6 _ rfl) tyX6 tyX6_ok hown (hts _ (tb (in_t1 86 rfl) rfl)) (hts _ (tb (in_t1 87 rfl) rfl)) (hts _ (tb (in_t1 7 rfl) rfl)) hK hP hD hS hA rfl (by decide +kernel) (Nat.le_of_ble_eq_true rfl) (Nat.le_of_ble_eq_true rfl) (by decide +kernel : decode prog_5_method_1_code 43 = .ok (.new 31, 3)) (fun q43 H hP hD hS => ?_)
  have hP : va_P D vwCl [(h0, .inr (3, [.int 0, .int 0, .int 20, .int 10, .ref q29, .ref q37, .null])), (q29, .inl (cT .int, 9, .inl (fun _ => 0))), (q37, .inl (cT .int, 8, .inl (fun _ => 0))), (q43, .inr (6, [.null, .null, .int 0]))] H := hP
  have hD : va_D A [(h0, .inr (3, [.int 0, .int 0, .int 20, .int 10, .ref q29, .ref q37, .null])), (q29, .inl (cT .int, 9, .inl (fun _ => 0))), (q37, .inl (cT .int, 8, .inl (fun _ => 0))), (q43, .inr (6, [.null, .null, .int 0]))] := hD
  refine W.widen (k := 3) (n := 20) (Nat.le_of_ble_eq_true rfl) (Nat.le_of_ble_eq_true rfl) ?_
  refine lv_dup hx hb (by decide +kernel : decode prog_5_method_1_code 46 = .ok (.dup, 1)) rfl ?_
  have hPc := hP.sub (ws' := [(q43, .inr (6, [.null, .null, .int 0]))]) [3] rfl
  have hDc := hD.sub (ws' := [(q43, .inr (6, [.null, .null, .int 0]))]) [3] (by decide) rfl
  have hFc := va_free (wc := [(q43, .inr (6, [.null, .null, .int 0]))]) hD hS hA [3] rfl
  have hN1 := hN.kept (H1 := H) (fun a ha hna => hS.2.1 a ha (fun z => hna (hA0 a z)))
  refine va_callv (va_runIN (As := []) (rest := [.ref q43, .ref h0]) ⟨hx, hb, hml, hown, hts⟩ (i_X6 l D cT adE adS sz0 q43 H.size (hA0 _ (hD.2 3 _ rfl)) (Nat.le_trans h01 hS.1)) ⟨va_cnB 0 hts (good_code (M := mX6_init) (tb (in_t1 90 rfl) rfl)) rfl rfl rfl (hN.1 _ (List.mem_of_getElem? (i := 3) rfl)) (hts _ (tb (in_t1 7 rfl) rfl)) ⟨by decide, by decide, by decide +kernel⟩ ⟨Nat.le_of_ble_eq_true rfl, Nat.le_of_ble_eq_true rfl⟩, rfl, (hts _ (tb (in_t1 89 rfl) rfl))⟩ ⟨fun a U g mk q => by obtain ⟨q0, q1, qP, qK, qD, qN⟩ := q; exact ⟨q0, q1, qP, va_K.moved (u := U) (U := U.calling g mk a) (Vm.Alike.refl U.vm) qK, qD, NI.same (u := U) (U := U.calling g mk a) rfl qN⟩, fun U hU hW => ⟨rfl, by rw [hU], by rw [hU]; exact hPc, va_K.moved hW.alike hK, hDc.weaken (fun _ _ _ _ => trivial), by rw [hU]; exact hN1.warm hW⟩⟩ rfl rfl hl.1 rfl (lv_room (Nat.le_of_ble_eq_true rfl)) (by decide +kernel : decode prog_5_method_1_code 47 = .ok (.invokespecial 33, 3)) ⟨Nat.le_of_ble_eq_true rfl, Nat.le_of_ble_eq_true rfl⟩) hS (fun q _ h => hFc q h) hFc (fun u t H1 locs ht hvm _ hB hz1 hk1 hS => ?_)
  obtain ⟨S47, hP1, hD1⟩ := hB
  rw [ht] at hP1
  obtain ⟨hP, hD⟩ := va_join (wr := [(h0, .inr (3, [.int 0, .int 0, .int 20, .int 10, .ref q29, .ref q37, .null])), (q29, .inl (cT .int, 9, .inl (fun _ => 0))), (q37, .inl (cT .int, 8, .inl (fun _ => 0)))]) (w1 := [(q43, .inr (6, [.ref (S47 1), .ref (S47 2), .int 0])), (S47 1, .inl (cT .int, 700, .inl (fun _ => 0))), (S47 2, .inl (cT .int, 40, .inl (fun _ => 0)))]) hP hD [3] [0, 1, 2] rfl rfl (by decide) (by decide) hk1 hFc hP1 hD1
  generalize H1 = H at hP hS ⊢
  have hP : va_P D vwCl [(h0, .inr (3, [.int 0, .int 0, .int 20, .int 10, .ref q29, .ref q37, .null])), (q29, .inl (cT .int, 9, .inl (fun _ => 0))), (q37, .inl (cT .int, 8, .inl (fun _ => 0))), (q43, .inr (6, [.ref (S47 1), .ref (S47 2), .int 0])), (S47 1, .inl (cT .int, 700, .inl (fun _ => 0))), (S47 2, .inl (cT .int, 40, .inl (fun _ => 0)))] H := hP
  have hD : va_D A [(h0, .inr (3, [.int 0, .int 0, .int 20, .int 10, .ref q29, .ref q37, .null])), (q29, .inl (cT .int, 9, .inl (fun _ => 0))), (q37, .inl (cT .int, 8, .inl (fun _ => 0))), (q43, .inr (6, [.ref (S47 1), .ref (S47 2), .int 0])), (S47 1, .inl (cT .int, 700, .inl (fun _ => 0))), (S47 2, .inl (cT .int, 40, .inl (fun _ => 0)))] := hD
  refine W.widen (k := 5) (n := 760) (Nat.le_of_ble_eq_true rfl) (Nat.le_of_ble_eq_true rfl) ?_
  refine va_putF (D := D) (ci := 3) (v := .ref q43) (ty := .object "DreamMatins$Rule") (C := RX3) (T := TX3) (N := 7) hx hb hts (lay_tbl 3 _ rfl) tyX3 tyX3_ok nmX3 hown hK hP hD hS 0 rfl rfl 6 (by decide) (hts _ (tb (in_t1 128 rfl) rfl)) (fun _ h9 => h9) rfl hin rfl (by decide +kernel) rfl rfl (Nat.le_of_ble_eq_true rfl) (by decide +kernel : decode prog_5_method_1_code 50 = .ok (.putfield 34, 3)) (fun H locs hP hD hS => ?_)
  have hP : va_P D vwCl [(h0, .inr (3, [.int 0, .int 0, .int 20, .int 10, .ref q29, .ref q37, .ref q43])), (q29, .inl (cT .int, 9, .inl (fun _ => 0))), (q37, .inl (cT .int, 8, .inl (fun _ => 0))), (q43, .inr (6, [.ref (S47 1), .ref (S47 2), .int 0])), (S47 1, .inl (cT .int, 700, .inl (fun _ => 0))), (S47 2, .inl (cT .int, 40, .inl (fun _ => 0)))] H := hP
  have hD : va_D A [(h0, .inr (3, [.int 0, .int 0, .int 20, .int 10, .ref q29, .ref q37, .ref q43])), (q29, .inl (cT .int, 9, .inl (fun _ => 0))), (q37, .inl (cT .int, 8, .inl (fun _ => 0))), (q43, .inr (6, [.ref (S47 1), .ref (S47 2), .int 0])), (S47 1, .inl (cT .int, 700, .inl (fun _ => 0))), (S47 2, .inl (cT .int, 40, .inl (fun _ => 0)))] := hD
  exact W.vret hx hb hr (fun t ht hW => ⟨⟨(), rfl, trivial, nthA [0, q29, q37, q43, S47 1, S47 2], by rw [ht]; exact hP, hD⟩, hS.F ht⟩) hS.2.2 (by decide +kernel : decode prog_5_method_1_code 53 = .ok (.return_, 1))

abbrev mX7_init : MI := (yX7_init, prog_9_method_1_code, 1, none)
abbrev w_X7 (cT : FieldType → ClassId) (adE adS : Nat → Nat) (h0 : Nat) (S : Nat → Nat) : va_W := [(h0, .inr (7, [.ref (S 1)])), (S 1, .inl (cT .int, 53, .inl (fun _ => 0)))]
set_option maxHeartbeats 40000000 in
set_option maxRecDepth 100000 in
theorem i_X7 (l : Launch) (D : va_G) (cT : FieldType → ClassId) (adE adS : Nat → Nat) (sz0 h0 sz : Nat) (h00 : sz0 ≤ h0) (h01 : sz0 ≤ sz) : Met l yX7_init (wsM mX7_init) { frames := 1, cells := 1, slots := 53, locals := 20 } (va_Pc [.ref h0] (fun U => U.heap.size = sz ∧ va_P D vwCl [(h0, .inr (7, [.null]))] U.heap ∧ va_K D vwCl (tyS cT) U ∧ va_D (fun _ => True) [(h0, .inr (7, [.null]))] ∧ NI adE adS sz0 U U.heap)) (va_Qv (fun _ : Unit => True) (fun _ t => ∃ S : Nat → Nat, va_P D vwCl (w_X7 cT adE adS h0 S) t.heap ∧ va_D (va_A [(h0, .inr (7, [.null]))] sz) (w_X7 cT adE adS h0 S)) (va_A [(h0, .inr (7, [.null]))] sz)) 1 53 (va_A [(h0, .inr (7, [.null]))] sz) := by
  refine Met.ofW (cc := prog_9_method_1_code) (maxL := 1) (ret := none) (by decide +kernel) rfl ?_
  intro p e s m args below meth c s₁ B hml hv
  obtain ⟨rfl, hsz, hP, hK, hD0, hN⟩ := hv
  have hx := B.exec
  have hb := B.bytes
  have hr := B.returns
  have hts0 := atoms_spec (ws := wsM mX7_init) B.pre
  have hts : ∀ w ∈ TBL, w.before ([Value.ref h0] : List Value).toArray s = true := fun w hw => hts0 w (List.mem_cons_of_mem _ hw)
  have hown : s.vm.findClass (RN 7) = some m.cls := findClass_of_methodNamed B.named
  have hlocks := B.notSynchronized
  have hin : meth.name = "<init>" := (name_of_methodNamed B.named B.method).1
  subst hsz
  have hD := hD0.self (sz := s.heap.size)
  generalize hAe : va_A [(h0, .inr (7, [.null]))] s.heap.size = A at hD ⊢
  have hA : ∀ q : Nat, s.heap.size ≤ q → A q := fun q h => by rw [← hAe]; exact Or.inr h
  have hA0 : ∀ q : Nat, A q → sz0 ≤ q := fun q h => a0_of h00 h01 q (by rw [hAe]; exact h)
  have hS : va_S A s.heap s.heap [] := va_S.rf
  have hl := lv_entry ([.ref h0]) (n := 1) (Nat.le_of_ble_eq_true rfl)
  rw [lg_entry_eq]
  generalize (lg_sl ([.ref h0]) ++ List.replicate (1 - (lg_sl ([.ref h0])).length) Slot.unset).toArray = ls at hl ⊢
  have hl : lv_has ls 1 [(0, .ref h0)] := hl
  refine lv_aload_n hx hb (by decide +kernel : decode prog_9_method_1_code 0 = .ok (.aload_n 0, 1)) rfl (lv_at hl 0 rfl) ?_
  refine W.objInit hx hb hown (hts _ (tb (in_t1 151 rfl) rfl)) (hts _ (tb (in_t1 33 rfl) rfl)) (hts _ (tb (in_t1 34 rfl) rfl)) rfl (by rw [hml]; exact hl.1) rfl (by decide +kernel : decode prog_9_method_1_code 1 = .ok (.invokespecial 5, 3)) (Nat.le_of_ble_eq_true rfl) (Nat.le_of_ble_eq_true rfl) ?_
  refine W.eq (g2 := F0 m 4 ls []) rfl ?_
  refine lv_aload_n hx hb (by decide +kernel : decode prog_9_method_1_code 4 = .ok (.aload_n 0, 1)) rfl (lv_at hl 0 rfl) ?_
  refine lv_bipush (v := 53) hx hb (by decide +kernel : decode prog_9_method_1_code 5 = .ok (.bipush 53, 2)) (by decide) ?_
  refine nw_a (ty := .int) (a0 := (53, .inl (fun _ => 0))) (cA0 := cT .int) hx hb (hts _ (tb (in_t1 104 rfl) rfl)) rfl hK 0 rfl hP hD hS hA (fun _ => rfl) (by decide) (by decide) (by decide) (Nat.le_of_ble_eq_true rfl) (Nat.le_of_ble_eq_true rfl) (by decide +kernel : decode prog_9_method_1_code 7 = .ok (.newarray .int, 2)) (fun q7 H hP hD hS => ?_)
  have hP : va_P D vwCl [(h0, .inr (7, [.null])), (q7, .inl (cT .int, 53, .inl (fun _ => 0)))] H := hP
  have hD : va_D A [(h0, .inr (7, [.null])), (q7, .inl (cT .int, 53, .inl (fun _ => 0)))] := hD
  refine W.widen (k := 1) (n := 53) (Nat.le_of_ble_eq_true rfl) (Nat.le_of_ble_eq_true rfl) ?_
  refine va_putF (D := D) (ci := 7) (v := .ref q7) (ty := .array .int) (C := RX7) (T := TX7) (N := 1) hx hb hts (lay_tbl 7 _ rfl) tyX7 tyX7_ok nmX7 hown hK hP hD hS 0 rfl rfl 0 (by decide) (hts _ (tb (in_t1 152 rfl) rfl)) (fun _ h9 => h9) rfl hin rfl (by decide +kernel) rfl rfl (Nat.le_of_ble_eq_true rfl) (by decide +kernel : decode prog_9_method_1_code 9 = .ok (.putfield 11, 3)) (fun H locs hP hD hS => ?_)
  have hP : va_P D vwCl [(h0, .inr (7, [.ref q7])), (q7, .inl (cT .int, 53, .inl (fun _ => 0)))] H := hP
  have hD : va_D A [(h0, .inr (7, [.ref q7])), (q7, .inl (cT .int, 53, .inl (fun _ => 0)))] := hD
  exact W.vret hx hb hr (fun t ht hW => ⟨⟨(), rfl, trivial, nthA [0, q7], by rw [ht]; exact hP, hD⟩, hS.F ht⟩) hS.2.2 (by decide +kernel : decode prog_9_method_1_code 12 = .ok (.return_, 1))

abbrev mX5_init : MI := (yX5_init, prog_7_method_1_code, 1, none)
abbrev w_X5 (cT : FieldType → ClassId) (adE adS : Nat → Nat) (h0 : Nat) (S : Nat → Nat) : va_W := [(h0, .inr (5, [.ref (S 1), .int 0, .int 0, .int 0, .int 0, .int 0, .int (-1), .ref (S 3), .ref (S 9)])), (S 1, .inr (8, [.ref (S 2), .int 0, .int 0, .int 0, .int 0, .ref (adE 0), .int (-1), .int 0])), (S 2, .inl (cT .byte, 700, .inl (fun _ => 0))), (S 3, .inr (3, [.int 0, .int 0, .int 20, .int 10, .ref (S 4), .ref (S 5), .ref (S 6)])), (S 4, .inl (cT .int, 9, .inl (fun _ => 0))), (S 5, .inl (cT .int, 8, .inl (fun _ => 0))), (S 6, .inr (6, [.ref (S 7), .ref (S 8), .int 0])), (S 7, .inl (cT .int, 700, .inl (fun _ => 0))), (S 8, .inl (cT .int, 40, .inl (fun _ => 0))), (S 9, .inr (7, [.ref (S 10)])), (S 10, .inl (cT .int, 53, .inl (fun _ => 0)))]
set_option maxHeartbeats 40000000 in
set_option maxRecDepth 100000 in
theorem i_X5 (l : Launch) (D : va_G) (cT : FieldType → ClassId) (adE adS : Nat → Nat) (sz0 h0 sz : Nat) (h00 : sz0 ≤ h0) (h01 : sz0 ≤ sz) : Met l yX5_init (wsM mX5_init) { frames := 3, cells := 10, slots := 1529, locals := 60 } (va_Pc [.ref h0] (fun U => U.heap.size = sz ∧ va_P D vwCl [(h0, .inr (5, [.null, .int 0, .int 0, .int 0, .int 0, .int 0, .int 0, .null, .null]))] U.heap ∧ va_K D vwCl (tyS cT) U ∧ va_D (fun _ => True) [(h0, .inr (5, [.null, .int 0, .int 0, .int 0, .int 0, .int 0, .int 0, .null, .null]))] ∧ NI adE adS sz0 U U.heap)) (va_Qv (fun _ : Unit => True) (fun _ t => ∃ S : Nat → Nat, va_P D vwCl (w_X5 cT adE adS h0 S) t.heap ∧ va_D (va_A [(h0, .inr (5, [.null, .int 0, .int 0, .int 0, .int 0, .int 0, .int 0, .null, .null]))] sz) (w_X5 cT adE adS h0 S)) (va_A [(h0, .inr (5, [.null, .int 0, .int 0, .int 0, .int 0, .int 0, .int 0, .null, .null]))] sz)) 10 1529 (va_A [(h0, .inr (5, [.null, .int 0, .int 0, .int 0, .int 0, .int 0, .int 0, .null, .null]))] sz) := by
  refine Met.ofW (cc := prog_7_method_1_code) (maxL := 1) (ret := none) (by decide +kernel) rfl ?_
  intro p e s m args below meth c s₁ B hml hv
  obtain ⟨rfl, hsz, hP, hK, hD0, hN⟩ := hv
  have hx := B.exec
  have hb := B.bytes
  have hr := B.returns
  have hts0 := atoms_spec (ws := wsM mX5_init) B.pre
  have hts : ∀ w ∈ TBL, w.before ([Value.ref h0] : List Value).toArray s = true := fun w hw => hts0 w (List.mem_cons_of_mem _ hw)
  have hown : s.vm.findClass (RN 5) = some m.cls := findClass_of_methodNamed B.named
  have hlocks := B.notSynchronized
  have hin : meth.name = "<init>" := (name_of_methodNamed B.named B.method).1
  subst hsz
  have hD := hD0.self (sz := s.heap.size)
  generalize hAe : va_A [(h0, .inr (5, [.null, .int 0, .int 0, .int 0, .int 0, .int 0, .int 0, .null, .null]))] s.heap.size = A at hD ⊢
  have hA : ∀ q : Nat, s.heap.size ≤ q → A q := fun q h => by rw [← hAe]; exact Or.inr h
  have hA0 : ∀ q : Nat, A q → sz0 ≤ q := fun q h => a0_of h00 h01 q (by rw [hAe]; exact h)
  have hS : va_S A s.heap s.heap [] := va_S.rf
  have hl := lv_entry ([.ref h0]) (n := 1) (Nat.le_of_ble_eq_true rfl)
  rw [lg_entry_eq]
  generalize (lg_sl ([.ref h0]) ++ List.replicate (1 - (lg_sl ([.ref h0])).length) Slot.unset).toArray = ls at hl ⊢
  have hl : lv_has ls 1 [(0, .ref h0)] := hl
  refine lv_aload_n hx hb (by decide +kernel : decode prog_7_method_1_code 0 = .ok (.aload_n 0, 1)) rfl (lv_at hl 0 rfl) ?_
  refine W.objInit hx hb hown (hts _ (tb (in_t1 40 rfl) rfl)) (hts _ (tb (in_t1 33 rfl) rfl)) (hts _ (tb (in_t1 34 rfl) rfl)) rfl (by rw [hml]; exact hl.1) rfl (by decide +kernel : decode prog_7_method_1_code 1 = .ok (.invokespecial 3, 3)) (Nat.le_of_ble_eq_true rfl) (Nat.le_of_ble_eq_true rfl) ?_
  refine W.eq (g2 := F0 m 4 ls []) rfl ?_
  refine lv_aload_n hx hb (by decide +kernel : decode prog_7_method_1_code 4 = .ok (.aload_n 0, 1)) rfl (lv_at hl 0 rfl) ?_
  refine va_new (ci := 8) (fs := [.null, .int 0, .int 0, .int 0, .int 0, .null, .int 0, .int 0]) (C := RX8) (T := TX8) (N := 8) hx hb hts (lay_tbl 8 _ rfl) tyX8 tyX8_ok hown (hts _ (tb (in_t1 41 rfl) rfl)) (hts _ (tb (in_t1 42 rfl) rfl)) (hts _ (tb (in_t1 3 rfl) rfl)) hK hP hD hS hA rfl (by decide +kernel) (Nat.le_of_ble_eq_true rfl) (Nat.le_of_ble_eq_true rfl) (by decide +kernel : decode prog_7_method_1_code 5 = .ok (.new 9, 3)) (fun q5 H hP hD hS => ?_)
  have hP : va_P D vwCl [(h0, .inr (5, [.null, .int 0, .int 0, .int 0, .int 0, .int 0, .int 0, .null, .null])), (q5, .inr (8, [.null, .int 0, .int 0, .int 0, .int 0, .null, .int 0, .int 0]))] H := hP
  have hD : va_D A [(h0, .inr (5, [.null, .int 0, .int 0, .int 0, .int 0, .int 0, .int 0, .null, .null])), (q5, .inr (8, [.null, .int 0, .int 0, .int 0, .int 0, .null, .int 0, .int 0]))] := hD
  refine W.widen (k := 1) (n := 8) (Nat.le_of_ble_eq_true rfl) (Nat.le_of_ble_eq_true rfl) ?_
  refine lv_dup hx hb (by decide +kernel : decode prog_7_method_1_code 8 = .ok (.dup, 1)) rfl ?_
  have hPc := hP.sub (ws' := [(q5, .inr (8, [.null, .int 0, .int 0, .int 0, .int 0, .null, .int 0, .int 0]))]) [1] rfl
  have hDc := hD.sub (ws' := [(q5, .inr (8, [.null, .int 0, .int 0, .int 0, .int 0, .null, .int 0, .int 0]))]) [1] (by decide) rfl
  have hFc := va_free (wc := [(q5, .inr (8, [.null, .int 0, .int 0, .int 0, .int 0, .null, .int 0, .int 0]))]) hD hS hA [1] rfl
  have hN1 := hN.kept (H1 := H) (fun a ha hna => hS.2.1 a ha (fun z => hna (hA0 a z)))
  refine va_callv (va_runIN (As := []) (rest := [.ref q5, .ref h0]) ⟨hx, hb, hml, hown, hts⟩ (i_X8 l D cT adE adS sz0 q5 H.size (hA0 _ (hD.2 1 _ rfl)) (Nat.le_trans h01 hS.1)) ⟨va_cnB 0 hts (good_code (M := mX8_init) (tb (in_t1 45 rfl) rfl)) rfl rfl rfl (hN.1 _ (List.mem_of_getElem? (i := 1) rfl)) (hts _ (tb (in_t1 3 rfl) rfl)) ⟨by decide, by decide, by decide +kernel⟩ ⟨Nat.le_of_ble_eq_true rfl, Nat.le_of_ble_eq_true rfl⟩, rfl, (hts _ (tb (in_t1 44 rfl) rfl))⟩ ⟨fun a U g mk q => by obtain ⟨q0, q1, qP, qK, qD, qN⟩ := q; exact ⟨q0, q1, qP, va_K.moved (u := U) (U := U.calling g mk a) (Vm.Alike.refl U.vm) qK, qD, NI.same (u := U) (U := U.calling g mk a) rfl qN⟩, fun U hU hW => ⟨rfl, by rw [hU], by rw [hU]; exact hPc, va_K.moved hW.alike hK, hDc.weaken (fun _ _ _ _ => trivial), by rw [hU]; exact hN1.warm hW⟩⟩ rfl rfl hl.1 rfl (lv_room (Nat.le_of_ble_eq_true rfl)) (by decide +kernel : decode prog_7_method_1_code 9 = .ok (.invokespecial 11, 3)) ⟨Nat.le_of_ble_eq_true rfl, Nat.le_of_ble_eq_true rfl⟩) hS (fun q _ h => hFc q h) hFc (fun u t H1 locs ht hvm _ hB hz1 hk1 hS => ?_)
  obtain ⟨S9, hP1, hD1⟩ := hB
  rw [ht] at hP1
  obtain ⟨hP, hD⟩ := va_join (wr := [(h0, .inr (5, [.null, .int 0, .int 0, .int 0, .int 0, .int 0, .int 0, .null, .null]))]) (w1 := [(q5, .inr (8, [.ref (S9 1), .int 0, .int 0, .int 0, .int 0, .ref (adE 0), .int (-1), .int 0])), (S9 1, .inl (cT .byte, 700, .inl (fun _ => 0)))]) hP hD [1] [0] rfl rfl (by decide) (by decide) hk1 hFc hP1 hD1
  generalize H1 = H at hP hS ⊢
  have hP : va_P D vwCl [(h0, .inr (5, [.null, .int 0, .int 0, .int 0, .int 0, .int 0, .int 0, .null, .null])), (q5, .inr (8, [.ref (S9 1), .int 0, .int 0, .int 0, .int 0, .ref (adE 0), .int (-1), .int 0])), (S9 1, .inl (cT .byte, 700, .inl (fun _ => 0)))] H := hP
  have hD : va_D A [(h0, .inr (5, [.null, .int 0, .int 0, .int 0, .int 0, .int 0, .int 0, .null, .null])), (q5, .inr (8, [.ref (S9 1), .int 0, .int 0, .int 0, .int 0, .ref (adE 0), .int (-1), .int 0])), (S9 1, .inl (cT .byte, 700, .inl (fun _ => 0)))] := hD
  refine W.widen (k := 2) (n := 708) (Nat.le_of_ble_eq_true rfl) (Nat.le_of_ble_eq_true rfl) ?_
  refine va_putF (D := D) (ci := 5) (v := .ref q5) (ty := .object "DreamMatins$Tokens") (C := RX5) (T := TX5) (N := 9) hx hb hts (lay_tbl 5 _ rfl) tyX5 tyX5_ok nmX5 hown hK hP hD hS 0 rfl rfl 0 (by decide) (hts _ (tb (in_t1 160 rfl) rfl)) (fun _ h9 => h9) rfl hin rfl (by decide +kernel) rfl rfl (Nat.le_of_ble_eq_true rfl) (by decide +kernel : decode prog_7_method_1_code 12 = .ok (.putfield 12, 3)) (fun H locs hP hD hS => ?_)
  have hP : va_P D vwCl [(h0, .inr (5, [.ref q5, .int 0, .int 0, .int 0, .int 0, .int 0, .int 0, .null, .null])), (q5, .inr (8, [.ref (S9 1), .int 0, .int 0, .int 0, .int 0, .ref (adE 0), .int (-1), .int 0])), (S9 1, .inl (cT .byte, 700, .inl (fun _ => 0)))] H := hP
  have hD : va_D A [(h0, .inr (5, [.ref q5, .int 0, .int 0, .int 0, .int 0, .int 0, .int 0, .null, .null])), (q5, .inr (8, [.ref (S9 1), .int 0, .int 0, .int 0, .int 0, .ref (adE 0), .int (-1), .int 0])), (S9 1, .inl (cT .byte, 700, .inl (fun _ => 0)))] := hD
  refine lv_aload_n hx hb (by decide +kernel : decode prog_7_method_1_code 15 = .ok (.aload_n 0, 1)) rfl (lv_at hl 0 rfl) ?_
  refine lv_iconst (v := 0) hx hb (by decide +kernel : decode prog_7_method_1_code 16 = .ok (.iconst 0, 1)) (by decide) ?_
  refine va_put (D := D) (ci := 5) (v := .int 0) (ty := .boolean) (C := RX5) (T := TX5) (N := 9) hx hb hts (lay_tbl 5 _ rfl) tyX5 tyX5_ok nmX5 hown hK hP hD hS 0 rfl rfl 1 (by decide) (hts _ (tb (in_t1 161 rfl) rfl)) (fun _ h9 => h9) rfl (by decide +kernel) rfl rfl (Nat.le_of_ble_eq_true rfl) (by decide +kernel : decode prog_7_method_1_code 17 = .ok (.putfield 18, 3)) (fun H locs hP hD hS => ?_)
  have hP : va_P D vwCl [(h0, .inr (5, [.ref q5, .int 0, .int 0, .int 0, .int 0, .int 0, .int 0, .null, .null])), (q5, .inr (8, [.ref (S9 1), .int 0, .int 0, .int 0, .int 0, .ref (adE 0), .int (-1), .int 0])), (S9 1, .inl (cT .byte, 700, .inl (fun _ => 0)))] H := hP
  have hD : va_D A [(h0, .inr (5, [.ref q5, .int 0, .int 0, .int 0, .int 0, .int 0, .int 0, .null, .null])), (q5, .inr (8, [.ref (S9 1), .int 0, .int 0, .int 0, .int 0, .ref (adE 0), .int (-1), .int 0])), (S9 1, .inl (cT .byte, 700, .inl (fun _ => 0)))] := hD
  refine lv_aload_n hx hb (by decide +kernel : decode prog_7_method_1_code 20 = .ok (.aload_n 0, 1)) rfl (lv_at hl 0 rfl) ?_
  refine lv_iconst (v := 0) hx hb (by decide +kernel : decode prog_7_method_1_code 21 = .ok (.iconst 0, 1)) (by decide) ?_
  refine va_put (D := D) (ci := 5) (v := .int 0) (ty := .boolean) (C := RX5) (T := TX5) (N := 9) hx hb hts (lay_tbl 5 _ rfl) tyX5 tyX5_ok nmX5 hown hK hP hD hS 0 rfl rfl 2 (by decide) (hts _ (tb (in_t1 162 rfl) rfl)) (fun _ h9 => h9) rfl (by decide +kernel) rfl rfl (Nat.le_of_ble_eq_true rfl) (by decide +kernel : decode prog_7_method_1_code 22 = .ok (.putfield 22, 3)) (fun H locs hP hD hS => ?_)
  have hP : va_P D vwCl [(h0, .inr (5, [.ref q5, .int 0, .int 0, .int 0, .int 0, .int 0, .int 0, .null, .null])), (q5, .inr (8, [.ref (S9 1), .int 0, .int 0, .int 0, .int 0, .ref (adE 0), .int (-1), .int 0])), (S9 1, .inl (cT .byte, 700, .inl (fun _ => 0)))] H := hP
  have hD : va_D A [(h0, .inr (5, [.ref q5, .int 0, .int 0, .int 0, .int 0, .int 0, .int 0, .null, .null])), (q5, .inr (8, [.ref (S9 1), .int 0, .int 0, .int 0, .int 0, .ref (adE 0), .int (-1), .int 0])), (S9 1, .inl (cT .byte, 700, .inl (fun _ => 0)))] := hD
  refine lv_aload_n hx hb (by decide +kernel : decode prog_7_method_1_code 25 = .ok (.aload_n 0, 1)) rfl (lv_at hl 0 rfl) ?_
  refine lv_iconst (v := 0) hx hb (by decide +kernel : decode prog_7_method_1_code 26 = .ok (.iconst 0, 1)) (by decide) ?_
  refine va_put (D := D) (ci := 5) (v := .int 0) (ty := .boolean) (C := RX5) (T := TX5) (N := 9) hx hb hts (lay_tbl 5 _ rfl) tyX5 tyX5_ok nmX5 hown hK hP hD hS 0 rfl rfl 3 (by decide) (hts _ (tb (in_t1 163 rfl) rfl)) (fun _ h9 => h9) rfl (by decide +kernel) rfl rfl (Nat.le_of_ble_eq_true rfl) (by decide +kernel : decode prog_7_method_1_code 27 = .ok (.putfield 25, 3)) (fun H locs hP hD hS => ?_)
  have hP : va_P D vwCl [(h0, .inr (5, [.ref q5, .int 0, .int 0, .int 0, .int 0, .int 0, .int 0, .null, .null])), (q5, .inr (8, [.ref (S9 1), .int 0, .int 0, .int 0, .int 0, .ref (adE 0), .int (-1), .int 0])), (S9 1, .inl (cT .byte, 700, .inl (fun _ => 0)))] H := hP
  have hD : va_D A [(h0, .inr (5, [.ref q5, .int 0, .int 0, .int 0, .int 0, .int 0, .int 0, .null, .null])), (q5, .inr (8, [.ref (S9 1), .int 0, .int 0, .int 0, .int 0, .ref (adE 0), .int (-1), .int 0])), (S9 1, .inl (cT .byte, 700, .inl (fun _ => 0)))] := hD
  refine lv_aload_n hx hb (by decide +kernel : decode prog_7_method_1_code 30 = .ok (.aload_n 0, 1)) rfl (lv_at hl 0 rfl) ?_
  refine lv_iconst (v := 0) hx hb (by decide +kernel : decode prog_7_method_1_code 31 = .ok (.iconst 0, 1)) (by decide) ?_
  refine va_put (D := D) (ci := 5) (v := .int 0) (ty := .int) (C := RX5) (T := TX5) (N := 9) hx hb hts (lay_tbl 5 _ rfl) tyX5 tyX5_ok nmX5 hown hK hP hD hS 0 rfl rfl 4 (by decide) (hts _ (tb (in_t1 164 rfl) rfl)) (fun _ h9 => h9) rfl (by decide +kernel) rfl rfl (Nat.le_of_ble_eq_true rfl) (by decide +kernel : decode prog_7_method_1_code 32 = .ok (.putfield 28, 3)) (fun H locs hP hD hS => ?_)
  have hP : va_P D vwCl [(h0, .inr (5, [.ref q5, .int 0, .int 0, .int 0, .int 0, .int 0, .int 0, .null, .null])), (q5, .inr (8, [.ref (S9 1), .int 0, .int 0, .int 0, .int 0, .ref (adE 0), .int (-1), .int 0])), (S9 1, .inl (cT .byte, 700, .inl (fun _ => 0)))] H := hP
  have hD : va_D A [(h0, .inr (5, [.ref q5, .int 0, .int 0, .int 0, .int 0, .int 0, .int 0, .null, .null])), (q5, .inr (8, [.ref (S9 1), .int 0, .int 0, .int 0, .int 0, .ref (adE 0), .int (-1), .int 0])), (S9 1, .inl (cT .byte, 700, .inl (fun _ => 0)))] := hD
  refine lv_aload_n hx hb (by decide +kernel : decode prog_7_method_1_code 35 = .ok (.aload_n 0, 1)) rfl (lv_at hl 0 rfl) ?_
  refine lv_iconst (v := 0) hx hb (by decide +kernel : decode prog_7_method_1_code 36 = .ok (.iconst 0, 1)) (by decide) ?_
  refine va_put (D := D) (ci := 5) (v := .int 0) (ty := .int) (C := RX5) (T := TX5) (N := 9) hx hb hts (lay_tbl 5 _ rfl) tyX5 tyX5_ok nmX5 hown hK hP hD hS 0 rfl rfl 5 (by decide) (hts _ (tb (in_t1 165 rfl) rfl)) (fun _ h9 => h9) rfl (by decide +kernel) rfl rfl (Nat.le_of_ble_eq_true rfl) (by decide +kernel : decode prog_7_method_1_code 37 = .ok (.putfield 32, 3)) (fun H locs hP hD hS => ?_)
  have hP : va_P D vwCl [(h0, .inr (5, [.ref q5, .int 0, .int 0, .int 0, .int 0, .int 0, .int 0, .null, .null])), (q5, .inr (8, [.ref (S9 1), .int 0, .int 0, .int 0, .int 0, .ref (adE 0), .int (-1), .int 0])), (S9 1, .inl (cT .byte, 700, .inl (fun _ => 0)))] H := hP
  have hD : va_D A [(h0, .inr (5, [.ref q5, .int 0, .int 0, .int 0, .int 0, .int 0, .int 0, .null, .null])), (q5, .inr (8, [.ref (S9 1), .int 0, .int 0, .int 0, .int 0, .ref (adE 0), .int (-1), .int 0])), (S9 1, .inl (cT .byte, 700, .inl (fun _ => 0)))] := hD
  refine lv_aload_n hx hb (by decide +kernel : decode prog_7_method_1_code 40 = .ok (.aload_n 0, 1)) rfl (lv_at hl 0 rfl) ?_
  refine lv_iconst (v := (-1)) hx hb (by decide +kernel : decode prog_7_method_1_code 41 = .ok (.iconst (-1), 1)) (by decide) ?_
  refine va_put (D := D) (ci := 5) (v := .int (-1)) (ty := .int) (C := RX5) (T := TX5) (N := 9) hx hb hts (lay_tbl 5 _ rfl) tyX5 tyX5_ok nmX5 hown hK hP hD hS 0 rfl rfl 6 (by decide) (hts _ (tb (in_t1 166 rfl) rfl)) (fun _ h9 => h9) rfl (by decide +kernel) rfl rfl (Nat.le_of_ble_eq_true rfl) (by decide +kernel : decode prog_7_method_1_code 42 = .ok (.putfield 35, 3)) (fun H locs hP hD hS => ?_)
  have hP : va_P D vwCl [(h0, .inr (5, [.ref q5, .int 0, .int 0, .int 0, .int 0, .int 0, .int (-1), .null, .null])), (q5, .inr (8, [.ref (S9 1), .int 0, .int 0, .int 0, .int 0, .ref (adE 0), .int (-1), .int 0])), (S9 1, .inl (cT .byte, 700, .inl (fun _ => 0)))] H := hP
  have hD : va_D A [(h0, .inr (5, [.ref q5, .int 0, .int 0, .int 0, .int 0, .int 0, .int (-1), .null, .null])), (q5, .inr (8, [.ref (S9 1), .int 0, .int 0, .int 0, .int 0, .ref (adE 0), .int (-1), .int 0])), (S9 1, .inl (cT .byte, 700, .inl (fun _ => 0)))] := hD
  refine lv_aload_n hx hb (by decide +kernel : decode prog_7_method_1_code 45 = .ok (.aload_n 0, 1)) rfl (lv_at hl 0 rfl) ?_
  refine va_new (ci := 3) (fs := [.int 0, .int 0, .int 0, .int 0, .null, .null, .null]) (C := RX3) (T := TX3) (N := 7) hx hb hts (lay_tbl 3 _ rfl) tyX3 tyX3_ok hown (hts _ (tb (in_t1 80 rfl) rfl)) (hts _ (tb (in_t1 81 rfl) rfl)) (hts _ (tb (in_t1 6 rfl) rfl)) hK hP hD hS hA rfl (by decide +kernel) (Nat.le_of_ble_eq_true rfl) (Nat.le_of_ble_eq_true rfl) (by decide +kernel : decode prog_7_method_1_code 46 = .ok (.new 38, 3)) (fun q46 H hP hD hS => ?_)
  have hP : va_P D vwCl [(h0, .inr (5, [.ref q5, .int 0, .int 0, .int 0, .int 0, .int 0, .int (-1), .null, .null])), (q5, .inr (8, [.ref (S9 1), .int 0, .int 0, .int 0, .int 0, .ref (adE 0), .int (-1), .int 0])), (S9 1, .inl (cT .byte, 700, .inl (fun _ => 0))), (q46, .inr (3, [.int 0, .int 0, .int 0, .int 0, .null, .null, .null]))] H := hP
  have hD : va_D A [(h0, .inr (5, [.ref q5, .int 0, .int 0, .int 0, .int 0, .int 0, .int (-1), .null, .null])), (q5, .inr (8, [.ref (S9 1), .int 0, .int 0, .int 0, .int 0, .ref (adE 0), .int (-1), .int 0])), (S9 1, .inl (cT .byte, 700, .inl (fun _ => 0))), (q46, .inr (3, [.int 0, .int 0, .int 0, .int 0, .null, .null, .null]))] := hD
  refine W.widen (k := 3) (n := 715) (Nat.le_of_ble_eq_true rfl) (Nat.le_of_ble_eq_true rfl) ?_
  refine lv_dup hx hb (by decide +kernel : decode prog_7_method_1_code 49 = .ok (.dup, 1)) rfl ?_
  have hPc := hP.sub (ws' := [(q46, .inr (3, [.int 0, .int 0, .int 0, .int 0, .null, .null, .null]))]) [3] rfl
  have hDc := hD.sub (ws' := [(q46, .inr (3, [.int 0, .int 0, .int 0, .int 0, .null, .null, .null]))]) [3] (by decide) rfl
  have hFc := va_free (wc := [(q46, .inr (3, [.int 0, .int 0, .int 0, .int 0, .null, .null, .null]))]) hD hS hA [3] rfl
  have hN1 := hN.kept (H1 := H) (fun a ha hna => hS.2.1 a ha (fun z => hna (hA0 a z)))
  refine va_callv (va_runIN (As := []) (rest := [.ref q46, .ref h0]) ⟨hx, hb, hml, hown, hts⟩ (i_X3 l D cT adE adS sz0 q46 H.size (hA0 _ (hD.2 3 _ rfl)) (Nat.le_trans h01 hS.1)) ⟨va_cnB 0 hts (good_code (M := mX3_init) (tb (in_t1 84 rfl) rfl)) rfl rfl rfl (hN.1 _ (List.mem_of_getElem? (i := 2) rfl)) (hts _ (tb (in_t1 6 rfl) rfl)) ⟨by decide, by decide, by decide +kernel⟩ ⟨Nat.le_of_ble_eq_true rfl, Nat.le_of_ble_eq_true rfl⟩, rfl, (hts _ (tb (in_t1 83 rfl) rfl))⟩ ⟨fun a U g mk q => by obtain ⟨q0, q1, qP, qK, qD, qN⟩ := q; exact ⟨q0, q1, qP, va_K.moved (u := U) (U := U.calling g mk a) (Vm.Alike.refl U.vm) qK, qD, NI.same (u := U) (U := U.calling g mk a) rfl qN⟩, fun U hU hW => ⟨rfl, by rw [hU], by rw [hU]; exact hPc, va_K.moved hW.alike hK, hDc.weaken (fun _ _ _ _ => trivial), by rw [hU]; exact hN1.warm hW⟩⟩ rfl rfl hl.1 rfl (lv_room (Nat.le_of_ble_eq_true rfl)) (by decide +kernel : decode prog_7_method_1_code 50 = .ok (.invokespecial 40, 3)) ⟨Nat.le_of_ble_eq_true rfl, Nat.le_of_ble_eq_true rfl⟩) hS (fun q _ h => hFc q h) hFc (fun u t H1 locs ht hvm _ hB hz1 hk1 hS => ?_)
  obtain ⟨S50, hP1, hD1⟩ := hB
  rw [ht] at hP1
  obtain ⟨hP, hD⟩ := va_join (wr := [(h0, .inr (5, [.ref q5, .int 0, .int 0, .int 0, .int 0, .int 0, .int (-1), .null, .null])), (q5, .inr (8, [.ref (S9 1), .int 0, .int 0, .int 0, .int 0, .ref (adE 0), .int (-1), .int 0])), (S9 1, .inl (cT .byte, 700, .inl (fun _ => 0)))]) (w1 := [(q46, .inr (3, [.int 0, .int 0, .int 20, .int 10, .ref (S50 1), .ref (S50 2), .ref (S50 3)])), (S50 1, .inl (cT .int, 9, .inl (fun _ => 0))), (S50 2, .inl (cT .int, 8, .inl (fun _ => 0))), (S50 3, .inr (6, [.ref (S50 4), .ref (S50 5), .int 0])), (S50 4, .inl (cT .int, 700, .inl (fun _ => 0))), (S50 5, .inl (cT .int, 40, .inl (fun _ => 0)))]) hP hD [3] [0, 1, 2] rfl rfl (by decide) (by decide) hk1 hFc hP1 hD1
  generalize H1 = H at hP hS ⊢
  have hP : va_P D vwCl [(h0, .inr (5, [.ref q5, .int 0, .int 0, .int 0, .int 0, .int 0, .int (-1), .null, .null])), (q5, .inr (8, [.ref (S9 1), .int 0, .int 0, .int 0, .int 0, .ref (adE 0), .int (-1), .int 0])), (S9 1, .inl (cT .byte, 700, .inl (fun _ => 0))), (q46, .inr (3, [.int 0, .int 0, .int 20, .int 10, .ref (S50 1), .ref (S50 2), .ref (S50 3)])), (S50 1, .inl (cT .int, 9, .inl (fun _ => 0))), (S50 2, .inl (cT .int, 8, .inl (fun _ => 0))), (S50 3, .inr (6, [.ref (S50 4), .ref (S50 5), .int 0])), (S50 4, .inl (cT .int, 700, .inl (fun _ => 0))), (S50 5, .inl (cT .int, 40, .inl (fun _ => 0)))] H := hP
  have hD : va_D A [(h0, .inr (5, [.ref q5, .int 0, .int 0, .int 0, .int 0, .int 0, .int (-1), .null, .null])), (q5, .inr (8, [.ref (S9 1), .int 0, .int 0, .int 0, .int 0, .ref (adE 0), .int (-1), .int 0])), (S9 1, .inl (cT .byte, 700, .inl (fun _ => 0))), (q46, .inr (3, [.int 0, .int 0, .int 20, .int 10, .ref (S50 1), .ref (S50 2), .ref (S50 3)])), (S50 1, .inl (cT .int, 9, .inl (fun _ => 0))), (S50 2, .inl (cT .int, 8, .inl (fun _ => 0))), (S50 3, .inr (6, [.ref (S50 4), .ref (S50 5), .int 0])), (S50 4, .inl (cT .int, 700, .inl (fun _ => 0))), (S50 5, .inl (cT .int, 40, .inl (fun _ => 0)))] := hD
  refine W.widen (k := 8) (n := 1475) (Nat.le_of_ble_eq_true rfl) (Nat.le_of_ble_eq_true rfl) ?_
  refine va_putF (D := D) (ci := 5) (v := .ref q46) (ty := .object "DreamMatins$House") (C := RX5) (T := TX5) (N := 9) hx hb hts (lay_tbl 5 _ rfl) tyX5 tyX5_ok nmX5 hown hK hP hD hS 0 rfl rfl 7 (by decide) (hts _ (tb (in_t1 168 rfl) rfl)) (fun _ h9 => h9) rfl hin rfl (by decide +kernel) rfl rfl (Nat.le_of_ble_eq_true rfl) (by decide +kernel : decode prog_7_method_1_code 53 = .ok (.putfield 41, 3)) (fun H locs hP hD hS => ?_)
  have hP : va_P D vwCl [(h0, .inr (5, [.ref q5, .int 0, .int 0, .int 0, .int 0, .int 0, .int (-1), .ref q46, .null])), (q5, .inr (8, [.ref (S9 1), .int 0, .int 0, .int 0, .int 0, .ref (adE 0), .int (-1), .int 0])), (S9 1, .inl (cT .byte, 700, .inl (fun _ => 0))), (q46, .inr (3, [.int 0, .int 0, .int 20, .int 10, .ref (S50 1), .ref (S50 2), .ref (S50 3)])), (S50 1, .inl (cT .int, 9, .inl (fun _ => 0))), (S50 2, .inl (cT .int, 8, .inl (fun _ => 0))), (S50 3, .inr (6, [.ref (S50 4), .ref (S50 5), .int 0])), (S50 4, .inl (cT .int, 700, .inl (fun _ => 0))), (S50 5, .inl (cT .int, 40, .inl (fun _ => 0)))] H := hP
  have hD : va_D A [(h0, .inr (5, [.ref q5, .int 0, .int 0, .int 0, .int 0, .int 0, .int (-1), .ref q46, .null])), (q5, .inr (8, [.ref (S9 1), .int 0, .int 0, .int 0, .int 0, .ref (adE 0), .int (-1), .int 0])), (S9 1, .inl (cT .byte, 700, .inl (fun _ => 0))), (q46, .inr (3, [.int 0, .int 0, .int 20, .int 10, .ref (S50 1), .ref (S50 2), .ref (S50 3)])), (S50 1, .inl (cT .int, 9, .inl (fun _ => 0))), (S50 2, .inl (cT .int, 8, .inl (fun _ => 0))), (S50 3, .inr (6, [.ref (S50 4), .ref (S50 5), .int 0])), (S50 4, .inl (cT .int, 700, .inl (fun _ => 0))), (S50 5, .inl (cT .int, 40, .inl (fun _ => 0)))] := hD
  refine lv_aload_n hx hb (by decide +kernel : decode prog_7_method_1_code 56 = .ok (.aload_n 0, 1)) rfl (lv_at hl 0 rfl) ?_
  refine va_new (ci := 7) (fs := [.null]) (C := RX7) (T := TX7) (N := 1) hx hb hts (lay_tbl 7 _ rfl) tyX7 tyX7_ok hown (hts _ (tb (in_t1 146 rfl) rfl)) (hts _ (tb (in_t1 147 rfl) rfl)) (hts _ (tb (in_t1 8 rfl) rfl)) hK hP hD hS hA rfl (by decide +kernel) (Nat.le_of_ble_eq_true rfl) (Nat.le_of_ble_eq_true rfl) (by decide +kernel : decode prog_7_method_1_code 57 = .ok (.new 45, 3)) (fun q57 H hP hD hS => ?_)
  have hP : va_P D vwCl [(h0, .inr (5, [.ref q5, .int 0, .int 0, .int 0, .int 0, .int 0, .int (-1), .ref q46, .null])), (q5, .inr (8, [.ref (S9 1), .int 0, .int 0, .int 0, .int 0, .ref (adE 0), .int (-1), .int 0])), (S9 1, .inl (cT .byte, 700, .inl (fun _ => 0))), (q46, .inr (3, [.int 0, .int 0, .int 20, .int 10, .ref (S50 1), .ref (S50 2), .ref (S50 3)])), (S50 1, .inl (cT .int, 9, .inl (fun _ => 0))), (S50 2, .inl (cT .int, 8, .inl (fun _ => 0))), (S50 3, .inr (6, [.ref (S50 4), .ref (S50 5), .int 0])), (S50 4, .inl (cT .int, 700, .inl (fun _ => 0))), (S50 5, .inl (cT .int, 40, .inl (fun _ => 0))), (q57, .inr (7, [.null]))] H := hP
  have hD : va_D A [(h0, .inr (5, [.ref q5, .int 0, .int 0, .int 0, .int 0, .int 0, .int (-1), .ref q46, .null])), (q5, .inr (8, [.ref (S9 1), .int 0, .int 0, .int 0, .int 0, .ref (adE 0), .int (-1), .int 0])), (S9 1, .inl (cT .byte, 700, .inl (fun _ => 0))), (q46, .inr (3, [.int 0, .int 0, .int 20, .int 10, .ref (S50 1), .ref (S50 2), .ref (S50 3)])), (S50 1, .inl (cT .int, 9, .inl (fun _ => 0))), (S50 2, .inl (cT .int, 8, .inl (fun _ => 0))), (S50 3, .inr (6, [.ref (S50 4), .ref (S50 5), .int 0])), (S50 4, .inl (cT .int, 700, .inl (fun _ => 0))), (S50 5, .inl (cT .int, 40, .inl (fun _ => 0))), (q57, .inr (7, [.null]))] := hD
  refine W.widen (k := 9) (n := 1476) (Nat.le_of_ble_eq_true rfl) (Nat.le_of_ble_eq_true rfl) ?_
  refine lv_dup hx hb (by decide +kernel : decode prog_7_method_1_code 60 = .ok (.dup, 1)) rfl ?_
  have hPc := hP.sub (ws' := [(q57, .inr (7, [.null]))]) [9] rfl
  have hDc := hD.sub (ws' := [(q57, .inr (7, [.null]))]) [9] (by decide) rfl
  have hFc := va_free (wc := [(q57, .inr (7, [.null]))]) hD hS hA [9] rfl
  have hN1 := hN.kept (H1 := H) (fun a ha hna => hS.2.1 a ha (fun z => hna (hA0 a z)))
  refine va_callv (va_runIN (As := []) (rest := [.ref q57, .ref h0]) ⟨hx, hb, hml, hown, hts⟩ (i_X7 l D cT adE adS sz0 q57 H.size (hA0 _ (hD.2 9 _ rfl)) (Nat.le_trans h01 hS.1)) ⟨va_cnB 0 hts (good_code (M := mX7_init) (tb (in_t1 150 rfl) rfl)) rfl rfl rfl (hN.1 _ (List.mem_of_getElem? (i := 4) rfl)) (hts _ (tb (in_t1 8 rfl) rfl)) ⟨by decide, by decide, by decide +kernel⟩ ⟨Nat.le_of_ble_eq_true rfl, Nat.le_of_ble_eq_true rfl⟩, rfl, (hts _ (tb (in_t1 149 rfl) rfl))⟩ ⟨fun a U g mk q => by obtain ⟨q0, q1, qP, qK, qD, qN⟩ := q; exact ⟨q0, q1, qP, va_K.moved (u := U) (U := U.calling g mk a) (Vm.Alike.refl U.vm) qK, qD, NI.same (u := U) (U := U.calling g mk a) rfl qN⟩, fun U hU hW => ⟨rfl, by rw [hU], by rw [hU]; exact hPc, va_K.moved hW.alike hK, hDc.weaken (fun _ _ _ _ => trivial), by rw [hU]; exact hN1.warm hW⟩⟩ rfl rfl hl.1 rfl (lv_room (Nat.le_of_ble_eq_true rfl)) (by decide +kernel : decode prog_7_method_1_code 61 = .ok (.invokespecial 47, 3)) ⟨Nat.le_of_ble_eq_true rfl, Nat.le_of_ble_eq_true rfl⟩) hS (fun q _ h => hFc q h) hFc (fun u t H1 locs ht hvm _ hB hz1 hk1 hS => ?_)
  obtain ⟨S61, hP1, hD1⟩ := hB
  rw [ht] at hP1
  obtain ⟨hP, hD⟩ := va_join (wr := [(h0, .inr (5, [.ref q5, .int 0, .int 0, .int 0, .int 0, .int 0, .int (-1), .ref q46, .null])), (q5, .inr (8, [.ref (S9 1), .int 0, .int 0, .int 0, .int 0, .ref (adE 0), .int (-1), .int 0])), (S9 1, .inl (cT .byte, 700, .inl (fun _ => 0))), (q46, .inr (3, [.int 0, .int 0, .int 20, .int 10, .ref (S50 1), .ref (S50 2), .ref (S50 3)])), (S50 1, .inl (cT .int, 9, .inl (fun _ => 0))), (S50 2, .inl (cT .int, 8, .inl (fun _ => 0))), (S50 3, .inr (6, [.ref (S50 4), .ref (S50 5), .int 0])), (S50 4, .inl (cT .int, 700, .inl (fun _ => 0))), (S50 5, .inl (cT .int, 40, .inl (fun _ => 0)))]) (w1 := [(q57, .inr (7, [.ref (S61 1)])), (S61 1, .inl (cT .int, 53, .inl (fun _ => 0)))]) hP hD [9] [0, 1, 2, 3, 4, 5, 6, 7, 8] rfl rfl (by decide) (by decide) hk1 hFc hP1 hD1
  generalize H1 = H at hP hS ⊢
  have hP : va_P D vwCl [(h0, .inr (5, [.ref q5, .int 0, .int 0, .int 0, .int 0, .int 0, .int (-1), .ref q46, .null])), (q5, .inr (8, [.ref (S9 1), .int 0, .int 0, .int 0, .int 0, .ref (adE 0), .int (-1), .int 0])), (S9 1, .inl (cT .byte, 700, .inl (fun _ => 0))), (q46, .inr (3, [.int 0, .int 0, .int 20, .int 10, .ref (S50 1), .ref (S50 2), .ref (S50 3)])), (S50 1, .inl (cT .int, 9, .inl (fun _ => 0))), (S50 2, .inl (cT .int, 8, .inl (fun _ => 0))), (S50 3, .inr (6, [.ref (S50 4), .ref (S50 5), .int 0])), (S50 4, .inl (cT .int, 700, .inl (fun _ => 0))), (S50 5, .inl (cT .int, 40, .inl (fun _ => 0))), (q57, .inr (7, [.ref (S61 1)])), (S61 1, .inl (cT .int, 53, .inl (fun _ => 0)))] H := hP
  have hD : va_D A [(h0, .inr (5, [.ref q5, .int 0, .int 0, .int 0, .int 0, .int 0, .int (-1), .ref q46, .null])), (q5, .inr (8, [.ref (S9 1), .int 0, .int 0, .int 0, .int 0, .ref (adE 0), .int (-1), .int 0])), (S9 1, .inl (cT .byte, 700, .inl (fun _ => 0))), (q46, .inr (3, [.int 0, .int 0, .int 20, .int 10, .ref (S50 1), .ref (S50 2), .ref (S50 3)])), (S50 1, .inl (cT .int, 9, .inl (fun _ => 0))), (S50 2, .inl (cT .int, 8, .inl (fun _ => 0))), (S50 3, .inr (6, [.ref (S50 4), .ref (S50 5), .int 0])), (S50 4, .inl (cT .int, 700, .inl (fun _ => 0))), (S50 5, .inl (cT .int, 40, .inl (fun _ => 0))), (q57, .inr (7, [.ref (S61 1)])), (S61 1, .inl (cT .int, 53, .inl (fun _ => 0)))] := hD
  refine W.widen (k := 10) (n := 1529) (Nat.le_of_ble_eq_true rfl) (Nat.le_of_ble_eq_true rfl) ?_
  refine va_putF (D := D) (ci := 5) (v := .ref q57) (ty := .object "DreamMatins$State") (C := RX5) (T := TX5) (N := 9) hx hb hts (lay_tbl 5 _ rfl) tyX5 tyX5_ok nmX5 hown hK hP hD hS 0 rfl rfl 8 (by decide) (hts _ (tb (in_t1 170 rfl) rfl)) (fun _ h9 => h9) rfl hin rfl (by decide +kernel) rfl rfl (Nat.le_of_ble_eq_true rfl) (by decide +kernel : decode prog_7_method_1_code 64 = .ok (.putfield 48, 3)) (fun H locs hP hD hS => ?_)
  have hP : va_P D vwCl [(h0, .inr (5, [.ref q5, .int 0, .int 0, .int 0, .int 0, .int 0, .int (-1), .ref q46, .ref q57])), (q5, .inr (8, [.ref (S9 1), .int 0, .int 0, .int 0, .int 0, .ref (adE 0), .int (-1), .int 0])), (S9 1, .inl (cT .byte, 700, .inl (fun _ => 0))), (q46, .inr (3, [.int 0, .int 0, .int 20, .int 10, .ref (S50 1), .ref (S50 2), .ref (S50 3)])), (S50 1, .inl (cT .int, 9, .inl (fun _ => 0))), (S50 2, .inl (cT .int, 8, .inl (fun _ => 0))), (S50 3, .inr (6, [.ref (S50 4), .ref (S50 5), .int 0])), (S50 4, .inl (cT .int, 700, .inl (fun _ => 0))), (S50 5, .inl (cT .int, 40, .inl (fun _ => 0))), (q57, .inr (7, [.ref (S61 1)])), (S61 1, .inl (cT .int, 53, .inl (fun _ => 0)))] H := hP
  have hD : va_D A [(h0, .inr (5, [.ref q5, .int 0, .int 0, .int 0, .int 0, .int 0, .int (-1), .ref q46, .ref q57])), (q5, .inr (8, [.ref (S9 1), .int 0, .int 0, .int 0, .int 0, .ref (adE 0), .int (-1), .int 0])), (S9 1, .inl (cT .byte, 700, .inl (fun _ => 0))), (q46, .inr (3, [.int 0, .int 0, .int 20, .int 10, .ref (S50 1), .ref (S50 2), .ref (S50 3)])), (S50 1, .inl (cT .int, 9, .inl (fun _ => 0))), (S50 2, .inl (cT .int, 8, .inl (fun _ => 0))), (S50 3, .inr (6, [.ref (S50 4), .ref (S50 5), .int 0])), (S50 4, .inl (cT .int, 700, .inl (fun _ => 0))), (S50 5, .inl (cT .int, 40, .inl (fun _ => 0))), (q57, .inr (7, [.ref (S61 1)])), (S61 1, .inl (cT .int, 53, .inl (fun _ => 0)))] := hD
  exact W.vret hx hb hr (fun t ht hW => ⟨⟨(), rfl, trivial, nthA [0, q5, S9 1, q46, S50 1, S50 2, S50 3, S50 4, S50 5, q57, S61 1], by rw [ht]; exact hP, hD⟩, hS.F ht⟩) hS.2.2 (by decide +kernel : decode prog_7_method_1_code 67 = .ok (.return_, 1))

abbrev mX4_init : MI := (yX4_init, prog_6_method_1_code, 1, none)
abbrev w_X4 (cT : FieldType → ClassId) (adE adS : Nat → Nat) (h0 : Nat) (S : Nat → Nat) : va_W := [(h0, .inr (4, [.ref (S 1), .ref (S 7), .ref (S 8), .int 0])), (S 1, .inr (3, [.int 0, .int 0, .int 20, .int 10, .ref (S 2), .ref (S 3), .ref (S 4)])), (S 2, .inl (cT .int, 9, .inl (fun _ => 0))), (S 3, .inl (cT .int, 8, .inl (fun _ => 0))), (S 4, .inr (6, [.ref (S 5), .ref (S 6), .int 0])), (S 5, .inl (cT .int, 700, .inl (fun _ => 0))), (S 6, .inl (cT .int, 40, .inl (fun _ => 0))), (S 7, .inl (cT .int, 8, .inl (fun _ => 0))), (S 8, .inl (cT .int, 8, .inl (fun _ => 0)))]
set_option maxHeartbeats 40000000 in
set_option maxRecDepth 100000 in
theorem i_X4 (l : Launch) (D : va_G) (cT : FieldType → ClassId) (adE adS : Nat → Nat) (sz0 h0 sz : Nat) (h00 : sz0 ≤ h0) (h01 : sz0 ≤ sz) : Met l yX4_init (wsM mX4_init) { frames := 3, cells := 8, slots := 783, locals := 60 } (va_Pc [.ref h0] (fun U => U.heap.size = sz ∧ va_P D vwCl [(h0, .inr (4, [.null, .null, .null, .int 0]))] U.heap ∧ va_K D vwCl (tyS cT) U ∧ va_D (fun _ => True) [(h0, .inr (4, [.null, .null, .null, .int 0]))] ∧ NI adE adS sz0 U U.heap)) (va_Qv (fun _ : Unit => True) (fun _ t => ∃ S : Nat → Nat, va_P D vwCl (w_X4 cT adE adS h0 S) t.heap ∧ va_D (va_A [(h0, .inr (4, [.null, .null, .null, .int 0]))] sz) (w_X4 cT adE adS h0 S)) (va_A [(h0, .inr (4, [.null, .null, .null, .int 0]))] sz)) 8 783 (va_A [(h0, .inr (4, [.null, .null, .null, .int 0]))] sz) := by
  refine Met.ofW (cc := prog_6_method_1_code) (maxL := 1) (ret := none) (by decide +kernel) rfl ?_
  intro p e s m args below meth c s₁ B hml hv
  obtain ⟨rfl, hsz, hP, hK, hD0, hN⟩ := hv
  have hx := B.exec
  have hb := B.bytes
  have hr := B.returns
  have hts0 := atoms_spec (ws := wsM mX4_init) B.pre
  have hts : ∀ w ∈ TBL, w.before ([Value.ref h0] : List Value).toArray s = true := fun w hw => hts0 w (List.mem_cons_of_mem _ hw)
  have hown : s.vm.findClass (RN 4) = some m.cls := findClass_of_methodNamed B.named
  have hlocks := B.notSynchronized
  have hin : meth.name = "<init>" := (name_of_methodNamed B.named B.method).1
  subst hsz
  have hD := hD0.self (sz := s.heap.size)
  generalize hAe : va_A [(h0, .inr (4, [.null, .null, .null, .int 0]))] s.heap.size = A at hD ⊢
  have hA : ∀ q : Nat, s.heap.size ≤ q → A q := fun q h => by rw [← hAe]; exact Or.inr h
  have hA0 : ∀ q : Nat, A q → sz0 ≤ q := fun q h => a0_of h00 h01 q (by rw [hAe]; exact h)
  have hS : va_S A s.heap s.heap [] := va_S.rf
  have hl := lv_entry ([.ref h0]) (n := 1) (Nat.le_of_ble_eq_true rfl)
  rw [lg_entry_eq]
  generalize (lg_sl ([.ref h0]) ++ List.replicate (1 - (lg_sl ([.ref h0])).length) Slot.unset).toArray = ls at hl ⊢
  have hl : lv_has ls 1 [(0, .ref h0)] := hl
  refine lv_aload_n hx hb (by decide +kernel : decode prog_6_method_1_code 0 = .ok (.aload_n 0, 1)) rfl (lv_at hl 0 rfl) ?_
  refine W.objInit hx hb hown (hts _ (tb (in_t1 196 rfl) rfl)) (hts _ (tb (in_t1 33 rfl) rfl)) (hts _ (tb (in_t1 34 rfl) rfl)) rfl (by rw [hml]; exact hl.1) rfl (by decide +kernel : decode prog_6_method_1_code 1 = .ok (.invokespecial 3, 3)) (Nat.le_of_ble_eq_true rfl) (Nat.le_of_ble_eq_true rfl) ?_
  refine W.eq (g2 := F0 m 4 ls []) rfl ?_
  refine lv_aload_n hx hb (by decide +kernel : decode prog_6_method_1_code 4 = .ok (.aload_n 0, 1)) rfl (lv_at hl 0 rfl) ?_
  refine va_new (ci := 3) (fs := [.int 0, .int 0, .int 0, .int 0, .null, .null, .null]) (C := RX3) (T := TX3) (N := 7) hx hb hts (lay_tbl 3 _ rfl) tyX3 tyX3_ok hown (hts _ (tb (in_t1 197 rfl) rfl)) (hts _ (tb (in_t1 81 rfl) rfl)) (hts _ (tb (in_t1 6 rfl) rfl)) hK hP hD hS hA rfl (by decide +kernel) (Nat.le_of_ble_eq_true rfl) (Nat.le_of_ble_eq_true rfl) (by decide +kernel : decode prog_6_method_1_code 5 = .ok (.new 9, 3)) (fun q5 H hP hD hS => ?_)
  have hP : va_P D vwCl [(h0, .inr (4, [.null, .null, .null, .int 0])), (q5, .inr (3, [.int 0, .int 0, .int 0, .int 0, .null, .null, .null]))] H := hP
  have hD : va_D A [(h0, .inr (4, [.null, .null, .null, .int 0])), (q5, .inr (3, [.int 0, .int 0, .int 0, .int 0, .null, .null, .null]))] := hD
  refine W.widen (k := 1) (n := 7) (Nat.le_of_ble_eq_true rfl) (Nat.le_of_ble_eq_true rfl) ?_
  refine lv_dup hx hb (by decide +kernel : decode prog_6_method_1_code 8 = .ok (.dup, 1)) rfl ?_
  have hPc := hP.sub (ws' := [(q5, .inr (3, [.int 0, .int 0, .int 0, .int 0, .null, .null, .null]))]) [1] rfl
  have hDc := hD.sub (ws' := [(q5, .inr (3, [.int 0, .int 0, .int 0, .int 0, .null, .null, .null]))]) [1] (by decide) rfl
  have hFc := va_free (wc := [(q5, .inr (3, [.int 0, .int 0, .int 0, .int 0, .null, .null, .null]))]) hD hS hA [1] rfl
  have hN1 := hN.kept (H1 := H) (fun a ha hna => hS.2.1 a ha (fun z => hna (hA0 a z)))
  refine va_callv (va_runIN (As := []) (rest := [.ref q5, .ref h0]) ⟨hx, hb, hml, hown, hts⟩ (i_X3 l D cT adE adS sz0 q5 H.size (hA0 _ (hD.2 1 _ rfl)) (Nat.le_trans h01 hS.1)) ⟨va_cnB 0 hts (good_code (M := mX3_init) (tb (in_t1 84 rfl) rfl)) rfl rfl rfl (hN.1 _ (List.mem_of_getElem? (i := 6) rfl)) (hts _ (tb (in_t1 6 rfl) rfl)) ⟨by decide, by decide, by decide +kernel⟩ ⟨Nat.le_of_ble_eq_true rfl, Nat.le_of_ble_eq_true rfl⟩, rfl, (hts _ (tb (in_t1 83 rfl) rfl))⟩ ⟨fun a U g mk q => by obtain ⟨q0, q1, qP, qK, qD, qN⟩ := q; exact ⟨q0, q1, qP, va_K.moved (u := U) (U := U.calling g mk a) (Vm.Alike.refl U.vm) qK, qD, NI.same (u := U) (U := U.calling g mk a) rfl qN⟩, fun U hU hW => ⟨rfl, by rw [hU], by rw [hU]; exact hPc, va_K.moved hW.alike hK, hDc.weaken (fun _ _ _ _ => trivial), by rw [hU]; exact hN1.warm hW⟩⟩ rfl rfl hl.1 rfl (lv_room (Nat.le_of_ble_eq_true rfl)) (by decide +kernel : decode prog_6_method_1_code 9 = .ok (.invokespecial 11, 3)) ⟨Nat.le_of_ble_eq_true rfl, Nat.le_of_ble_eq_true rfl⟩) hS (fun q _ h => hFc q h) hFc (fun u t H1 locs ht hvm _ hB hz1 hk1 hS => ?_)
  obtain ⟨S9, hP1, hD1⟩ := hB
  rw [ht] at hP1
  obtain ⟨hP, hD⟩ := va_join (wr := [(h0, .inr (4, [.null, .null, .null, .int 0]))]) (w1 := [(q5, .inr (3, [.int 0, .int 0, .int 20, .int 10, .ref (S9 1), .ref (S9 2), .ref (S9 3)])), (S9 1, .inl (cT .int, 9, .inl (fun _ => 0))), (S9 2, .inl (cT .int, 8, .inl (fun _ => 0))), (S9 3, .inr (6, [.ref (S9 4), .ref (S9 5), .int 0])), (S9 4, .inl (cT .int, 700, .inl (fun _ => 0))), (S9 5, .inl (cT .int, 40, .inl (fun _ => 0)))]) hP hD [1] [0] rfl rfl (by decide) (by decide) hk1 hFc hP1 hD1
  generalize H1 = H at hP hS ⊢
  have hP : va_P D vwCl [(h0, .inr (4, [.null, .null, .null, .int 0])), (q5, .inr (3, [.int 0, .int 0, .int 20, .int 10, .ref (S9 1), .ref (S9 2), .ref (S9 3)])), (S9 1, .inl (cT .int, 9, .inl (fun _ => 0))), (S9 2, .inl (cT .int, 8, .inl (fun _ => 0))), (S9 3, .inr (6, [.ref (S9 4), .ref (S9 5), .int 0])), (S9 4, .inl (cT .int, 700, .inl (fun _ => 0))), (S9 5, .inl (cT .int, 40, .inl (fun _ => 0)))] H := hP
  have hD : va_D A [(h0, .inr (4, [.null, .null, .null, .int 0])), (q5, .inr (3, [.int 0, .int 0, .int 20, .int 10, .ref (S9 1), .ref (S9 2), .ref (S9 3)])), (S9 1, .inl (cT .int, 9, .inl (fun _ => 0))), (S9 2, .inl (cT .int, 8, .inl (fun _ => 0))), (S9 3, .inr (6, [.ref (S9 4), .ref (S9 5), .int 0])), (S9 4, .inl (cT .int, 700, .inl (fun _ => 0))), (S9 5, .inl (cT .int, 40, .inl (fun _ => 0)))] := hD
  refine W.widen (k := 6) (n := 767) (Nat.le_of_ble_eq_true rfl) (Nat.le_of_ble_eq_true rfl) ?_
  refine va_putF (D := D) (ci := 4) (v := .ref q5) (ty := .object "DreamMatins$House") (C := RX4) (T := TX4) (N := 4) hx hb hts (lay_tbl 4 _ rfl) tyX4 tyX4_ok nmX4 hown hK hP hD hS 0 rfl rfl 0 (by decide) (hts _ (tb (in_t1 199 rfl) rfl)) (fun _ h9 => h9) rfl hin rfl (by decide +kernel) rfl rfl (Nat.le_of_ble_eq_true rfl) (by decide +kernel : decode prog_6_method_1_code 12 = .ok (.putfield 12, 3)) (fun H locs hP hD hS => ?_)
  have hP : va_P D vwCl [(h0, .inr (4, [.ref q5, .null, .null, .int 0])), (q5, .inr (3, [.int 0, .int 0, .int 20, .int 10, .ref (S9 1), .ref (S9 2), .ref (S9 3)])), (S9 1, .inl (cT .int, 9, .inl (fun _ => 0))), (S9 2, .inl (cT .int, 8, .inl (fun _ => 0))), (S9 3, .inr (6, [.ref (S9 4), .ref (S9 5), .int 0])), (S9 4, .inl (cT .int, 700, .inl (fun _ => 0))), (S9 5, .inl (cT .int, 40, .inl (fun _ => 0)))] H := hP
  have hD : va_D A [(h0, .inr (4, [.ref q5, .null, .null, .int 0])), (q5, .inr (3, [.int 0, .int 0, .int 20, .int 10, .ref (S9 1), .ref (S9 2), .ref (S9 3)])), (S9 1, .inl (cT .int, 9, .inl (fun _ => 0))), (S9 2, .inl (cT .int, 8, .inl (fun _ => 0))), (S9 3, .inr (6, [.ref (S9 4), .ref (S9 5), .int 0])), (S9 4, .inl (cT .int, 700, .inl (fun _ => 0))), (S9 5, .inl (cT .int, 40, .inl (fun _ => 0)))] := hD
  refine lv_aload_n hx hb (by decide +kernel : decode prog_6_method_1_code 15 = .ok (.aload_n 0, 1)) rfl (lv_at hl 0 rfl) ?_
  refine lv_bipush (v := 8) hx hb (by decide +kernel : decode prog_6_method_1_code 16 = .ok (.bipush 8, 2)) (by decide) ?_
  refine nw_a (ty := .int) (a0 := (8, .inl (fun _ => 0))) (cA0 := cT .int) hx hb (hts _ (tb (in_t1 104 rfl) rfl)) rfl hK 0 rfl hP hD hS hA (fun _ => rfl) (by decide) (by decide) (by decide) (Nat.le_of_ble_eq_true rfl) (Nat.le_of_ble_eq_true rfl) (by decide +kernel : decode prog_6_method_1_code 18 = .ok (.newarray .int, 2)) (fun q18 H hP hD hS => ?_)
  have hP : va_P D vwCl [(h0, .inr (4, [.ref q5, .null, .null, .int 0])), (q5, .inr (3, [.int 0, .int 0, .int 20, .int 10, .ref (S9 1), .ref (S9 2), .ref (S9 3)])), (S9 1, .inl (cT .int, 9, .inl (fun _ => 0))), (S9 2, .inl (cT .int, 8, .inl (fun _ => 0))), (S9 3, .inr (6, [.ref (S9 4), .ref (S9 5), .int 0])), (S9 4, .inl (cT .int, 700, .inl (fun _ => 0))), (S9 5, .inl (cT .int, 40, .inl (fun _ => 0))), (q18, .inl (cT .int, 8, .inl (fun _ => 0)))] H := hP
  have hD : va_D A [(h0, .inr (4, [.ref q5, .null, .null, .int 0])), (q5, .inr (3, [.int 0, .int 0, .int 20, .int 10, .ref (S9 1), .ref (S9 2), .ref (S9 3)])), (S9 1, .inl (cT .int, 9, .inl (fun _ => 0))), (S9 2, .inl (cT .int, 8, .inl (fun _ => 0))), (S9 3, .inr (6, [.ref (S9 4), .ref (S9 5), .int 0])), (S9 4, .inl (cT .int, 700, .inl (fun _ => 0))), (S9 5, .inl (cT .int, 40, .inl (fun _ => 0))), (q18, .inl (cT .int, 8, .inl (fun _ => 0)))] := hD
  refine W.widen (k := 7) (n := 775) (Nat.le_of_ble_eq_true rfl) (Nat.le_of_ble_eq_true rfl) ?_
  refine va_putF (D := D) (ci := 4) (v := .ref q18) (ty := .array .int) (C := RX4) (T := TX4) (N := 4) hx hb hts (lay_tbl 4 _ rfl) tyX4 tyX4_ok nmX4 hown hK hP hD hS 0 rfl rfl 1 (by decide) (hts _ (tb (in_t1 201 rfl) rfl)) (fun _ h9 => h9) rfl hin rfl (by decide +kernel) rfl rfl (Nat.le_of_ble_eq_true rfl) (by decide +kernel : decode prog_6_method_1_code 20 = .ok (.putfield 20, 3)) (fun H locs hP hD hS => ?_)
  have hP : va_P D vwCl [(h0, .inr (4, [.ref q5, .ref q18, .null, .int 0])), (q5, .inr (3, [.int 0, .int 0, .int 20, .int 10, .ref (S9 1), .ref (S9 2), .ref (S9 3)])), (S9 1, .inl (cT .int, 9, .inl (fun _ => 0))), (S9 2, .inl (cT .int, 8, .inl (fun _ => 0))), (S9 3, .inr (6, [.ref (S9 4), .ref (S9 5), .int 0])), (S9 4, .inl (cT .int, 700, .inl (fun _ => 0))), (S9 5, .inl (cT .int, 40, .inl (fun _ => 0))), (q18, .inl (cT .int, 8, .inl (fun _ => 0)))] H := hP
  have hD : va_D A [(h0, .inr (4, [.ref q5, .ref q18, .null, .int 0])), (q5, .inr (3, [.int 0, .int 0, .int 20, .int 10, .ref (S9 1), .ref (S9 2), .ref (S9 3)])), (S9 1, .inl (cT .int, 9, .inl (fun _ => 0))), (S9 2, .inl (cT .int, 8, .inl (fun _ => 0))), (S9 3, .inr (6, [.ref (S9 4), .ref (S9 5), .int 0])), (S9 4, .inl (cT .int, 700, .inl (fun _ => 0))), (S9 5, .inl (cT .int, 40, .inl (fun _ => 0))), (q18, .inl (cT .int, 8, .inl (fun _ => 0)))] := hD
  refine lv_aload_n hx hb (by decide +kernel : decode prog_6_method_1_code 23 = .ok (.aload_n 0, 1)) rfl (lv_at hl 0 rfl) ?_
  refine lv_bipush (v := 8) hx hb (by decide +kernel : decode prog_6_method_1_code 24 = .ok (.bipush 8, 2)) (by decide) ?_
  refine nw_a (ty := .int) (a0 := (8, .inl (fun _ => 0))) (cA0 := cT .int) hx hb (hts _ (tb (in_t1 104 rfl) rfl)) rfl hK 0 rfl hP hD hS hA (fun _ => rfl) (by decide) (by decide) (by decide) (Nat.le_of_ble_eq_true rfl) (Nat.le_of_ble_eq_true rfl) (by decide +kernel : decode prog_6_method_1_code 26 = .ok (.newarray .int, 2)) (fun q26 H hP hD hS => ?_)
  have hP : va_P D vwCl [(h0, .inr (4, [.ref q5, .ref q18, .null, .int 0])), (q5, .inr (3, [.int 0, .int 0, .int 20, .int 10, .ref (S9 1), .ref (S9 2), .ref (S9 3)])), (S9 1, .inl (cT .int, 9, .inl (fun _ => 0))), (S9 2, .inl (cT .int, 8, .inl (fun _ => 0))), (S9 3, .inr (6, [.ref (S9 4), .ref (S9 5), .int 0])), (S9 4, .inl (cT .int, 700, .inl (fun _ => 0))), (S9 5, .inl (cT .int, 40, .inl (fun _ => 0))), (q18, .inl (cT .int, 8, .inl (fun _ => 0))), (q26, .inl (cT .int, 8, .inl (fun _ => 0)))] H := hP
  have hD : va_D A [(h0, .inr (4, [.ref q5, .ref q18, .null, .int 0])), (q5, .inr (3, [.int 0, .int 0, .int 20, .int 10, .ref (S9 1), .ref (S9 2), .ref (S9 3)])), (S9 1, .inl (cT .int, 9, .inl (fun _ => 0))), (S9 2, .inl (cT .int, 8, .inl (fun _ => 0))), (S9 3, .inr (6, [.ref (S9 4), .ref (S9 5), .int 0])), (S9 4, .inl (cT .int, 700, .inl (fun _ => 0))), (S9 5, .inl (cT .int, 40, .inl (fun _ => 0))), (q18, .inl (cT .int, 8, .inl (fun _ => 0))), (q26, .inl (cT .int, 8, .inl (fun _ => 0)))] := hD
  refine W.widen (k := 8) (n := 783) (Nat.le_of_ble_eq_true rfl) (Nat.le_of_ble_eq_true rfl) ?_
  refine va_putF (D := D) (ci := 4) (v := .ref q26) (ty := .array .int) (C := RX4) (T := TX4) (N := 4) hx hb hts (lay_tbl 4 _ rfl) tyX4 tyX4_ok nmX4 hown hK hP hD hS 0 rfl rfl 2 (by decide) (hts _ (tb (in_t1 202 rfl) rfl)) (fun _ h9 => h9) rfl hin rfl (by decide +kernel) rfl rfl (Nat.le_of_ble_eq_true rfl) (by decide +kernel : decode prog_6_method_1_code 28 = .ok (.putfield 24, 3)) (fun H locs hP hD hS => ?_)
  have hP : va_P D vwCl [(h0, .inr (4, [.ref q5, .ref q18, .ref q26, .int 0])), (q5, .inr (3, [.int 0, .int 0, .int 20, .int 10, .ref (S9 1), .ref (S9 2), .ref (S9 3)])), (S9 1, .inl (cT .int, 9, .inl (fun _ => 0))), (S9 2, .inl (cT .int, 8, .inl (fun _ => 0))), (S9 3, .inr (6, [.ref (S9 4), .ref (S9 5), .int 0])), (S9 4, .inl (cT .int, 700, .inl (fun _ => 0))), (S9 5, .inl (cT .int, 40, .inl (fun _ => 0))), (q18, .inl (cT .int, 8, .inl (fun _ => 0))), (q26, .inl (cT .int, 8, .inl (fun _ => 0)))] H := hP
  have hD : va_D A [(h0, .inr (4, [.ref q5, .ref q18, .ref q26, .int 0])), (q5, .inr (3, [.int 0, .int 0, .int 20, .int 10, .ref (S9 1), .ref (S9 2), .ref (S9 3)])), (S9 1, .inl (cT .int, 9, .inl (fun _ => 0))), (S9 2, .inl (cT .int, 8, .inl (fun _ => 0))), (S9 3, .inr (6, [.ref (S9 4), .ref (S9 5), .int 0])), (S9 4, .inl (cT .int, 700, .inl (fun _ => 0))), (S9 5, .inl (cT .int, 40, .inl (fun _ => 0))), (q18, .inl (cT .int, 8, .inl (fun _ => 0))), (q26, .inl (cT .int, 8, .inl (fun _ => 0)))] := hD
  refine lv_aload_n hx hb (by decide +kernel : decode prog_6_method_1_code 31 = .ok (.aload_n 0, 1)) rfl (lv_at hl 0 rfl) ?_
  refine lv_iconst (v := 0) hx hb (by decide +kernel : decode prog_6_method_1_code 32 = .ok (.iconst 0, 1)) (by decide) ?_
  refine va_put (D := D) (ci := 4) (v := .int 0) (ty := .int) (C := RX4) (T := TX4) (N := 4) hx hb hts (lay_tbl 4 _ rfl) tyX4 tyX4_ok nmX4 hown hK hP hD hS 0 rfl rfl 3 (by decide) (hts _ (tb (in_t1 203 rfl) rfl)) (fun _ h9 => h9) rfl (by decide +kernel) rfl rfl (Nat.le_of_ble_eq_true rfl) (by decide +kernel : decode prog_6_method_1_code 33 = .ok (.putfield 27, 3)) (fun H locs hP hD hS => ?_)
  have hP : va_P D vwCl [(h0, .inr (4, [.ref q5, .ref q18, .ref q26, .int 0])), (q5, .inr (3, [.int 0, .int 0, .int 20, .int 10, .ref (S9 1), .ref (S9 2), .ref (S9 3)])), (S9 1, .inl (cT .int, 9, .inl (fun _ => 0))), (S9 2, .inl (cT .int, 8, .inl (fun _ => 0))), (S9 3, .inr (6, [.ref (S9 4), .ref (S9 5), .int 0])), (S9 4, .inl (cT .int, 700, .inl (fun _ => 0))), (S9 5, .inl (cT .int, 40, .inl (fun _ => 0))), (q18, .inl (cT .int, 8, .inl (fun _ => 0))), (q26, .inl (cT .int, 8, .inl (fun _ => 0)))] H := hP
  have hD : va_D A [(h0, .inr (4, [.ref q5, .ref q18, .ref q26, .int 0])), (q5, .inr (3, [.int 0, .int 0, .int 20, .int 10, .ref (S9 1), .ref (S9 2), .ref (S9 3)])), (S9 1, .inl (cT .int, 9, .inl (fun _ => 0))), (S9 2, .inl (cT .int, 8, .inl (fun _ => 0))), (S9 3, .inr (6, [.ref (S9 4), .ref (S9 5), .int 0])), (S9 4, .inl (cT .int, 700, .inl (fun _ => 0))), (S9 5, .inl (cT .int, 40, .inl (fun _ => 0))), (q18, .inl (cT .int, 8, .inl (fun _ => 0))), (q26, .inl (cT .int, 8, .inl (fun _ => 0)))] := hD
  exact W.vret hx hb hr (fun t ht hW => ⟨⟨(), rfl, trivial, nthA [0, q5, S9 1, S9 2, S9 3, S9 4, S9 5, q18, q26], by rw [ht]; exact hP, hD⟩, hS.F ht⟩) hS.2.2 (by decide +kernel : decode prog_6_method_1_code 36 = .ok (.return_, 1))

abbrev mX0_init : MI := (yX0_init, prog_2_method_1_code, 1, none)
abbrev w_X0 (cT : FieldType → ClassId) (adE adS : Nat → Nat) (h0 : Nat) (S : Nat → Nat) : va_W := [(h0, .inr (0, [.ref (S 1), .int 0, .int 0])), (S 1, .inl (cT .int, 2120, .inl (fun _ => 0)))]
set_option maxHeartbeats 40000000 in
set_option maxRecDepth 100000 in
theorem i_X0 (l : Launch) (D : va_G) (cT : FieldType → ClassId) (adE adS : Nat → Nat) (sz0 h0 sz : Nat) (h00 : sz0 ≤ h0) (h01 : sz0 ≤ sz) : Met l yX0_init (wsM mX0_init) { frames := 1, cells := 1, slots := 2120, locals := 20 } (va_Pc [.ref h0] (fun U => U.heap.size = sz ∧ va_P D vwCl [(h0, .inr (0, [.null, .int 0, .int 0]))] U.heap ∧ va_K D vwCl (tyS cT) U ∧ va_D (fun _ => True) [(h0, .inr (0, [.null, .int 0, .int 0]))] ∧ NI adE adS sz0 U U.heap)) (va_Qv (fun _ : Unit => True) (fun _ t => ∃ S : Nat → Nat, va_P D vwCl (w_X0 cT adE adS h0 S) t.heap ∧ va_D (va_A [(h0, .inr (0, [.null, .int 0, .int 0]))] sz) (w_X0 cT adE adS h0 S)) (va_A [(h0, .inr (0, [.null, .int 0, .int 0]))] sz)) 1 2120 (va_A [(h0, .inr (0, [.null, .int 0, .int 0]))] sz) := by
  refine Met.ofW (cc := prog_2_method_1_code) (maxL := 1) (ret := none) (by decide +kernel) rfl ?_
  intro p e s m args below meth c s₁ B hml hv
  obtain ⟨rfl, hsz, hP, hK, hD0, hN⟩ := hv
  have hx := B.exec
  have hb := B.bytes
  have hr := B.returns
  have hts0 := atoms_spec (ws := wsM mX0_init) B.pre
  have hts : ∀ w ∈ TBL, w.before ([Value.ref h0] : List Value).toArray s = true := fun w hw => hts0 w (List.mem_cons_of_mem _ hw)
  have hown : s.vm.findClass (RN 0) = some m.cls := findClass_of_methodNamed B.named
  have hlocks := B.notSynchronized
  have hin : meth.name = "<init>" := (name_of_methodNamed B.named B.method).1
  subst hsz
  have hD := hD0.self (sz := s.heap.size)
  generalize hAe : va_A [(h0, .inr (0, [.null, .int 0, .int 0]))] s.heap.size = A at hD ⊢
  have hA : ∀ q : Nat, s.heap.size ≤ q → A q := fun q h => by rw [← hAe]; exact Or.inr h
  have hA0 : ∀ q : Nat, A q → sz0 ≤ q := fun q h => a0_of h00 h01 q (by rw [hAe]; exact h)
  have hS : va_S A s.heap s.heap [] := va_S.rf
  have hl := lv_entry ([.ref h0]) (n := 1) (Nat.le_of_ble_eq_true rfl)
  rw [lg_entry_eq]
  generalize (lg_sl ([.ref h0]) ++ List.replicate (1 - (lg_sl ([.ref h0])).length) Slot.unset).toArray = ls at hl ⊢
  have hl : lv_has ls 1 [(0, .ref h0)] := hl
  refine lv_aload_n hx hb (by decide +kernel : decode prog_2_method_1_code 0 = .ok (.aload_n 0, 1)) rfl (lv_at hl 0 rfl) ?_
  refine W.objInit hx hb hown (hts _ (tb (in_t1 227 rfl) rfl)) (hts _ (tb (in_t1 33 rfl) rfl)) (hts _ (tb (in_t1 34 rfl) rfl)) rfl (by rw [hml]; exact hl.1) rfl (by decide +kernel : decode prog_2_method_1_code 1 = .ok (.invokespecial 3, 3)) (Nat.le_of_ble_eq_true rfl) (Nat.le_of_ble_eq_true rfl) ?_
  refine W.eq (g2 := F0 m 4 ls []) rfl ?_
  refine lv_aload_n hx hb (by decide +kernel : decode prog_2_method_1_code 4 = .ok (.aload_n 0, 1)) rfl (lv_at hl 0 rfl) ?_
  refine lv_sipush (v := 2120) hx hb (by decide +kernel : decode prog_2_method_1_code 5 = .ok (.sipush 2120, 3)) (by decide) ?_
  refine nw_a (ty := .int) (a0 := (2120, .inl (fun _ => 0))) (cA0 := cT .int) hx hb (hts _ (tb (in_t1 104 rfl) rfl)) rfl hK 0 rfl hP hD hS hA (fun _ => rfl) (by decide) (by decide) (by decide) (Nat.le_of_ble_eq_true rfl) (Nat.le_of_ble_eq_true rfl) (by decide +kernel : decode prog_2_method_1_code 8 = .ok (.newarray .int, 2)) (fun q8 H hP hD hS => ?_)
  have hP : va_P D vwCl [(h0, .inr (0, [.null, .int 0, .int 0])), (q8, .inl (cT .int, 2120, .inl (fun _ => 0)))] H := hP
  have hD : va_D A [(h0, .inr (0, [.null, .int 0, .int 0])), (q8, .inl (cT .int, 2120, .inl (fun _ => 0)))] := hD
  refine W.widen (k := 1) (n := 2120) (Nat.le_of_ble_eq_true rfl) (Nat.le_of_ble_eq_true rfl) ?_
  refine va_putF (D := D) (ci := 0) (v := .ref q8) (ty := .array .int) (C := RX0) (T := TX0) (N := 3) hx hb hts (lay_tbl 0 _ rfl) tyX0 tyX0_ok nmX0 hown hK hP hD hS 0 rfl rfl 0 (by decide) (hts _ (tb (in_t1 228 rfl) rfl)) (fun _ h9 => h9) rfl hin rfl (by decide +kernel) rfl rfl (Nat.le_of_ble_eq_true rfl) (by decide +kernel : decode prog_2_method_1_code 10 = .ok (.putfield 11, 3)) (fun H locs hP hD hS => ?_)
  have hP : va_P D vwCl [(h0, .inr (0, [.ref q8, .int 0, .int 0])), (q8, .inl (cT .int, 2120, .inl (fun _ => 0)))] H := hP
  have hD : va_D A [(h0, .inr (0, [.ref q8, .int 0, .int 0])), (q8, .inl (cT .int, 2120, .inl (fun _ => 0)))] := hD
  refine lv_aload_n hx hb (by decide +kernel : decode prog_2_method_1_code 13 = .ok (.aload_n 0, 1)) rfl (lv_at hl 0 rfl) ?_
  refine lv_iconst (v := 0) hx hb (by decide +kernel : decode prog_2_method_1_code 14 = .ok (.iconst 0, 1)) (by decide) ?_
  refine va_put (D := D) (ci := 0) (v := .int 0) (ty := .int) (C := RX0) (T := TX0) (N := 3) hx hb hts (lay_tbl 0 _ rfl) tyX0 tyX0_ok nmX0 hown hK hP hD hS 0 rfl rfl 1 (by decide) (hts _ (tb (in_t1 229 rfl) rfl)) (fun _ h9 => h9) rfl (by decide +kernel) rfl rfl (Nat.le_of_ble_eq_true rfl) (by decide +kernel : decode prog_2_method_1_code 15 = .ok (.putfield 17, 3)) (fun H locs hP hD hS => ?_)
  have hP : va_P D vwCl [(h0, .inr (0, [.ref q8, .int 0, .int 0])), (q8, .inl (cT .int, 2120, .inl (fun _ => 0)))] H := hP
  have hD : va_D A [(h0, .inr (0, [.ref q8, .int 0, .int 0])), (q8, .inl (cT .int, 2120, .inl (fun _ => 0)))] := hD
  refine lv_aload_n hx hb (by decide +kernel : decode prog_2_method_1_code 18 = .ok (.aload_n 0, 1)) rfl (lv_at hl 0 rfl) ?_
  refine lv_iconst (v := 0) hx hb (by decide +kernel : decode prog_2_method_1_code 19 = .ok (.iconst 0, 1)) (by decide) ?_
  refine va_put (D := D) (ci := 0) (v := .int 0) (ty := .int) (C := RX0) (T := TX0) (N := 3) hx hb hts (lay_tbl 0 _ rfl) tyX0 tyX0_ok nmX0 hown hK hP hD hS 0 rfl rfl 2 (by decide) (hts _ (tb (in_t1 230 rfl) rfl)) (fun _ h9 => h9) rfl (by decide +kernel) rfl rfl (Nat.le_of_ble_eq_true rfl) (by decide +kernel : decode prog_2_method_1_code 20 = .ok (.putfield 21, 3)) (fun H locs hP hD hS => ?_)
  have hP : va_P D vwCl [(h0, .inr (0, [.ref q8, .int 0, .int 0])), (q8, .inl (cT .int, 2120, .inl (fun _ => 0)))] H := hP
  have hD : va_D A [(h0, .inr (0, [.ref q8, .int 0, .int 0])), (q8, .inl (cT .int, 2120, .inl (fun _ => 0)))] := hD
  exact W.vret hx hb hr (fun t ht hW => ⟨⟨(), rfl, trivial, nthA [0, q8], by rw [ht]; exact hP, hD⟩, hS.F ht⟩) hS.2.2 (by decide +kernel : decode prog_2_method_1_code 23 = .ok (.return_, 1))

abbrev mX2_init : MI := (yX2_init, prog_4_method_1_code, 1, none)
abbrev w_X2 (cT : FieldType → ClassId) (adE adS : Nat → Nat) (h0 : Nat) (S : Nat → Nat) : va_W := [(h0, .inr (2, [.ref (S 1), .ref (S 2), .ref (S 3), .int 0])), (S 1, .inl (cT .int, 8, .inl (fun _ => 0))), (S 2, .inl (cT .int, 8, .inl (fun _ => 0))), (S 3, .inl (cT .boolean, 8, .inl (fun _ => 0)))]
set_option maxHeartbeats 40000000 in
set_option maxRecDepth 100000 in
theorem i_X2 (l : Launch) (D : va_G) (cT : FieldType → ClassId) (adE adS : Nat → Nat) (sz0 h0 sz : Nat) (h00 : sz0 ≤ h0) (h01 : sz0 ≤ sz) : Met l yX2_init (wsM mX2_init) { frames := 1, cells := 3, slots := 24, locals := 20 } (va_Pc [.ref h0] (fun U => U.heap.size = sz ∧ va_P D vwCl [(h0, .inr (2, [.null, .null, .null, .int 0]))] U.heap ∧ va_K D vwCl (tyS cT) U ∧ va_D (fun _ => True) [(h0, .inr (2, [.null, .null, .null, .int 0]))] ∧ NI adE adS sz0 U U.heap)) (va_Qv (fun _ : Unit => True) (fun _ t => ∃ S : Nat → Nat, va_P D vwCl (w_X2 cT adE adS h0 S) t.heap ∧ va_D (va_A [(h0, .inr (2, [.null, .null, .null, .int 0]))] sz) (w_X2 cT adE adS h0 S)) (va_A [(h0, .inr (2, [.null, .null, .null, .int 0]))] sz)) 3 24 (va_A [(h0, .inr (2, [.null, .null, .null, .int 0]))] sz) := by
  refine Met.ofW (cc := prog_4_method_1_code) (maxL := 1) (ret := none) (by decide +kernel) rfl ?_
  intro p e s m args below meth c s₁ B hml hv
  obtain ⟨rfl, hsz, hP, hK, hD0, hN⟩ := hv
  have hx := B.exec
  have hb := B.bytes
  have hr := B.returns
  have hts0 := atoms_spec (ws := wsM mX2_init) B.pre
  have hts : ∀ w ∈ TBL, w.before ([Value.ref h0] : List Value).toArray s = true := fun w hw => hts0 w (List.mem_cons_of_mem _ hw)
  have hown : s.vm.findClass (RN 2) = some m.cls := findClass_of_methodNamed B.named
  have hlocks := B.notSynchronized
  have hin : meth.name = "<init>" := (name_of_methodNamed B.named B.method).1
  subst hsz
  have hD := hD0.self (sz := s.heap.size)
  generalize hAe : va_A [(h0, .inr (2, [.null, .null, .null, .int 0]))] s.heap.size = A at hD ⊢
  have hA : ∀ q : Nat, s.heap.size ≤ q → A q := fun q h => by rw [← hAe]; exact Or.inr h
  have hA0 : ∀ q : Nat, A q → sz0 ≤ q := fun q h => a0_of h00 h01 q (by rw [hAe]; exact h)
  have hS : va_S A s.heap s.heap [] := va_S.rf
  have hl := lv_entry ([.ref h0]) (n := 1) (Nat.le_of_ble_eq_true rfl)
  rw [lg_entry_eq]
  generalize (lg_sl ([.ref h0]) ++ List.replicate (1 - (lg_sl ([.ref h0])).length) Slot.unset).toArray = ls at hl ⊢
  have hl : lv_has ls 1 [(0, .ref h0)] := hl
  refine lv_aload_n hx hb (by decide +kernel : decode prog_4_method_1_code 0 = .ok (.aload_n 0, 1)) rfl (lv_at hl 0 rfl) ?_
  refine W.objInit hx hb hown (hts _ (tb (in_t2 4 rfl) rfl)) (hts _ (tb (in_t1 33 rfl) rfl)) (hts _ (tb (in_t1 34 rfl) rfl)) rfl (by rw [hml]; exact hl.1) rfl (by decide +kernel : decode prog_4_method_1_code 1 = .ok (.invokespecial 3, 3)) (Nat.le_of_ble_eq_true rfl) (Nat.le_of_ble_eq_true rfl) ?_
  refine W.eq (g2 := F0 m 4 ls []) rfl ?_
  refine lv_aload_n hx hb (by decide +kernel : decode prog_4_method_1_code 4 = .ok (.aload_n 0, 1)) rfl (lv_at hl 0 rfl) ?_
  refine lv_bipush (v := 8) hx hb (by decide +kernel : decode prog_4_method_1_code 5 = .ok (.bipush 8, 2)) (by decide) ?_
  refine nw_a (ty := .int) (a0 := (8, .inl (fun _ => 0))) (cA0 := cT .int) hx hb (hts _ (tb (in_t1 104 rfl) rfl)) rfl hK 0 rfl hP hD hS hA (fun _ => rfl) (by decide) (by decide) (by decide) (Nat.le_of_ble_eq_true rfl) (Nat.le_of_ble_eq_true rfl) (by decide +kernel : decode prog_4_method_1_code 7 = .ok (.newarray .int, 2)) (fun q7 H hP hD hS => ?_)
  have hP : va_P D vwCl [(h0, .inr (2, [.null, .null, .null, .int 0])), (q7, .inl (cT .int, 8, .inl (fun _ => 0)))] H := hP
  have hD : va_D A [(h0, .inr (2, [.null, .null, .null, .int 0])), (q7, .inl (cT .int, 8, .inl (fun _ => 0)))] := hD
  refine W.widen (k := 1) (n := 8) (Nat.le_of_ble_eq_true rfl) (Nat.le_of_ble_eq_true rfl) ?_
  refine va_putF (D := D) (ci := 2) (v := .ref q7) (ty := .array .int) (C := RX2) (T := TX2) (N := 4) hx hb hts (lay_tbl 2 _ rfl) tyX2 tyX2_ok nmX2 hown hK hP hD hS 0 rfl rfl 0 (by decide) (hts _ (tb (in_t2 5 rfl) rfl)) (fun _ h9 => h9) rfl hin rfl (by decide +kernel) rfl rfl (Nat.le_of_ble_eq_true rfl) (by decide +kernel : decode prog_4_method_1_code 9 = .ok (.putfield 9, 3)) (fun H locs hP hD hS => ?_)
  have hP : va_P D vwCl [(h0, .inr (2, [.ref q7, .null, .null, .int 0])), (q7, .inl (cT .int, 8, .inl (fun _ => 0)))] H := hP
  have hD : va_D A [(h0, .inr (2, [.ref q7, .null, .null, .int 0])), (q7, .inl (cT .int, 8, .inl (fun _ => 0)))] := hD
  refine lv_aload_n hx hb (by decide +kernel : decode prog_4_method_1_code 12 = .ok (.aload_n 0, 1)) rfl (lv_at hl 0 rfl) ?_
  refine lv_bipush (v := 8) hx hb (by decide +kernel : decode prog_4_method_1_code 13 = .ok (.bipush 8, 2)) (by decide) ?_
  refine nw_a (ty := .int) (a0 := (8, .inl (fun _ => 0))) (cA0 := cT .int) hx hb (hts _ (tb (in_t1 104 rfl) rfl)) rfl hK 0 rfl hP hD hS hA (fun _ => rfl) (by decide) (by decide) (by decide) (Nat.le_of_ble_eq_true rfl) (Nat.le_of_ble_eq_true rfl) (by decide +kernel : decode prog_4_method_1_code 15 = .ok (.newarray .int, 2)) (fun q15 H hP hD hS => ?_)
  have hP : va_P D vwCl [(h0, .inr (2, [.ref q7, .null, .null, .int 0])), (q7, .inl (cT .int, 8, .inl (fun _ => 0))), (q15, .inl (cT .int, 8, .inl (fun _ => 0)))] H := hP
  have hD : va_D A [(h0, .inr (2, [.ref q7, .null, .null, .int 0])), (q7, .inl (cT .int, 8, .inl (fun _ => 0))), (q15, .inl (cT .int, 8, .inl (fun _ => 0)))] := hD
  refine W.widen (k := 2) (n := 16) (Nat.le_of_ble_eq_true rfl) (Nat.le_of_ble_eq_true rfl) ?_
  refine va_putF (D := D) (ci := 2) (v := .ref q15) (ty := .array .int) (C := RX2) (T := TX2) (N := 4) hx hb hts (lay_tbl 2 _ rfl) tyX2 tyX2_ok nmX2 hown hK hP hD hS 0 rfl rfl 1 (by decide) (hts _ (tb (in_t2 6 rfl) rfl)) (fun _ h9 => h9) rfl hin rfl (by decide +kernel) rfl rfl (Nat.le_of_ble_eq_true rfl) (by decide +kernel : decode prog_4_method_1_code 17 = .ok (.putfield 15, 3)) (fun H locs hP hD hS => ?_)
  have hP : va_P D vwCl [(h0, .inr (2, [.ref q7, .ref q15, .null, .int 0])), (q7, .inl (cT .int, 8, .inl (fun _ => 0))), (q15, .inl (cT .int, 8, .inl (fun _ => 0)))] H := hP
  have hD : va_D A [(h0, .inr (2, [.ref q7, .ref q15, .null, .int 0])), (q7, .inl (cT .int, 8, .inl (fun _ => 0))), (q15, .inl (cT .int, 8, .inl (fun _ => 0)))] := hD
  refine lv_aload_n hx hb (by decide +kernel : decode prog_4_method_1_code 20 = .ok (.aload_n 0, 1)) rfl (lv_at hl 0 rfl) ?_
  refine lv_bipush (v := 8) hx hb (by decide +kernel : decode prog_4_method_1_code 21 = .ok (.bipush 8, 2)) (by decide) ?_
  refine nw_a (ty := .boolean) (a0 := (8, .inl (fun _ => 0))) (cA0 := cT .boolean) hx hb (hts _ (tb (in_t2 19 rfl) rfl)) rfl hK 2 rfl hP hD hS hA (fun _ => rfl) (by decide) (by decide) (by decide) (Nat.le_of_ble_eq_true rfl) (Nat.le_of_ble_eq_true rfl) (by decide +kernel : decode prog_4_method_1_code 23 = .ok (.newarray .boolean, 2)) (fun q23 H hP hD hS => ?_)
  have hP : va_P D vwCl [(h0, .inr (2, [.ref q7, .ref q15, .null, .int 0])), (q7, .inl (cT .int, 8, .inl (fun _ => 0))), (q15, .inl (cT .int, 8, .inl (fun _ => 0))), (q23, .inl (cT .boolean, 8, .inl (fun _ => 0)))] H := hP
  have hD : va_D A [(h0, .inr (2, [.ref q7, .ref q15, .null, .int 0])), (q7, .inl (cT .int, 8, .inl (fun _ => 0))), (q15, .inl (cT .int, 8, .inl (fun _ => 0))), (q23, .inl (cT .boolean, 8, .inl (fun _ => 0)))] := hD
  refine W.widen (k := 3) (n := 24) (Nat.le_of_ble_eq_true rfl) (Nat.le_of_ble_eq_true rfl) ?_
  refine va_putF (D := D) (ci := 2) (v := .ref q23) (ty := .array .boolean) (C := RX2) (T := TX2) (N := 4) hx hb hts (lay_tbl 2 _ rfl) tyX2 tyX2_ok nmX2 hown hK hP hD hS 0 rfl rfl 2 (by decide) (hts _ (tb (in_t2 7 rfl) rfl)) (fun _ h9 => h9) rfl hin rfl (by decide +kernel) rfl rfl (Nat.le_of_ble_eq_true rfl) (by decide +kernel : decode prog_4_method_1_code 25 = .ok (.putfield 18, 3)) (fun H locs hP hD hS => ?_)
  have hP : va_P D vwCl [(h0, .inr (2, [.ref q7, .ref q15, .ref q23, .int 0])), (q7, .inl (cT .int, 8, .inl (fun _ => 0))), (q15, .inl (cT .int, 8, .inl (fun _ => 0))), (q23, .inl (cT .boolean, 8, .inl (fun _ => 0)))] H := hP
  have hD : va_D A [(h0, .inr (2, [.ref q7, .ref q15, .ref q23, .int 0])), (q7, .inl (cT .int, 8, .inl (fun _ => 0))), (q15, .inl (cT .int, 8, .inl (fun _ => 0))), (q23, .inl (cT .boolean, 8, .inl (fun _ => 0)))] := hD
  refine lv_aload_n hx hb (by decide +kernel : decode prog_4_method_1_code 28 = .ok (.aload_n 0, 1)) rfl (lv_at hl 0 rfl) ?_
  refine lv_iconst (v := 0) hx hb (by decide +kernel : decode prog_4_method_1_code 29 = .ok (.iconst 0, 1)) (by decide) ?_
  refine va_put (D := D) (ci := 2) (v := .int 0) (ty := .int) (C := RX2) (T := TX2) (N := 4) hx hb hts (lay_tbl 2 _ rfl) tyX2 tyX2_ok nmX2 hown hK hP hD hS 0 rfl rfl 3 (by decide) (hts _ (tb (in_t2 8 rfl) rfl)) (fun _ h9 => h9) rfl (by decide +kernel) rfl rfl (Nat.le_of_ble_eq_true rfl) (by decide +kernel : decode prog_4_method_1_code 30 = .ok (.putfield 22, 3)) (fun H locs hP hD hS => ?_)
  have hP : va_P D vwCl [(h0, .inr (2, [.ref q7, .ref q15, .ref q23, .int 0])), (q7, .inl (cT .int, 8, .inl (fun _ => 0))), (q15, .inl (cT .int, 8, .inl (fun _ => 0))), (q23, .inl (cT .boolean, 8, .inl (fun _ => 0)))] H := hP
  have hD : va_D A [(h0, .inr (2, [.ref q7, .ref q15, .ref q23, .int 0])), (q7, .inl (cT .int, 8, .inl (fun _ => 0))), (q15, .inl (cT .int, 8, .inl (fun _ => 0))), (q23, .inl (cT .boolean, 8, .inl (fun _ => 0)))] := hD
  exact W.vret hx hb hr (fun t ht hW => ⟨⟨(), rfl, trivial, nthA [0, q7, q15, q23], by rw [ht]; exact hP, hD⟩, hS.F ht⟩) hS.2.2 (by decide +kernel : decode prog_4_method_1_code 33 = .ok (.return_, 1))

abbrev mX1_init : MI := (yX1_init, prog_3_method_1_code, 1, none)
abbrev w_X1 (cT : FieldType → ClassId) (adE adS : Nat → Nat) (h0 : Nat) (S : Nat → Nat) : va_W := [(h0, .inr (1, [.ref (S 1), .ref (S 3), .ref (S 5), .ref (S 9)])), (S 1, .inr (7, [.ref (S 2)])), (S 2, .inl (cT .int, 53, .inl (fun _ => 0))), (S 3, .inr (0, [.ref (S 4), .int 0, .int 0])), (S 4, .inl (cT .int, 2120, .inl (fun _ => 0))), (S 5, .inr (2, [.ref (S 6), .ref (S 7), .ref (S 8), .int 0])), (S 6, .inl (cT .int, 8, .inl (fun _ => 0))), (S 7, .inl (cT .int, 8, .inl (fun _ => 0))), (S 8, .inl (cT .boolean, 8, .inl (fun _ => 0))), (S 9, .inl (cT .int, 3, .inl (fun _ => 0)))]
set_option maxHeartbeats 40000000 in
set_option maxRecDepth 100000 in
theorem i_X1 (l : Launch) (D : va_G) (cT : FieldType → ClassId) (adE adS : Nat → Nat) (sz0 h0 sz : Nat) (h00 : sz0 ≤ h0) (h01 : sz0 ≤ sz) : Met l yX1_init (wsM mX1_init) { frames := 2, cells := 9, slots := 2208, locals := 40 } (va_Pc [.ref h0] (fun U => U.heap.size = sz ∧ va_P D vwCl [(h0, .inr (1, [.null, .null, .null, .null]))] U.heap ∧ va_K D vwCl (tyS cT) U ∧ va_D (fun _ => True) [(h0, .inr (1, [.null, .null, .null, .null]))] ∧ NI adE adS sz0 U U.heap)) (va_Qv (fun _ : Unit => True) (fun _ t => ∃ S : Nat → Nat, va_P D vwCl (w_X1 cT adE adS h0 S) t.heap ∧ va_D (va_A [(h0, .inr (1, [.null, .null, .null, .null]))] sz) (w_X1 cT adE adS h0 S)) (va_A [(h0, .inr (1, [.null, .null, .null, .null]))] sz)) 9 2208 (va_A [(h0, .inr (1, [.null, .null, .null, .null]))] sz) := by
  refine Met.ofW (cc := prog_3_method_1_code) (maxL := 1) (ret := none) (by decide +kernel) rfl ?_
  intro p e s m args below meth c s₁ B hml hv
  obtain ⟨rfl, hsz, hP, hK, hD0, hN⟩ := hv
  have hx := B.exec
  have hb := B.bytes
  have hr := B.returns
  have hts0 := atoms_spec (ws := wsM mX1_init) B.pre
  have hts : ∀ w ∈ TBL, w.before ([Value.ref h0] : List Value).toArray s = true := fun w hw => hts0 w (List.mem_cons_of_mem _ hw)
  have hown : s.vm.findClass (RN 1) = some m.cls := findClass_of_methodNamed B.named
  have hlocks := B.notSynchronized
  have hin : meth.name = "<init>" := (name_of_methodNamed B.named B.method).1
  subst hsz
  have hD := hD0.self (sz := s.heap.size)
  generalize hAe : va_A [(h0, .inr (1, [.null, .null, .null, .null]))] s.heap.size = A at hD ⊢
  have hA : ∀ q : Nat, s.heap.size ≤ q → A q := fun q h => by rw [← hAe]; exact Or.inr h
  have hA0 : ∀ q : Nat, A q → sz0 ≤ q := fun q h => a0_of h00 h01 q (by rw [hAe]; exact h)
  have hS : va_S A s.heap s.heap [] := va_S.rf
  have hl := lv_entry ([.ref h0]) (n := 1) (Nat.le_of_ble_eq_true rfl)
  rw [lg_entry_eq]
  generalize (lg_sl ([.ref h0]) ++ List.replicate (1 - (lg_sl ([.ref h0])).length) Slot.unset).toArray = ls at hl ⊢
  have hl : lv_has ls 1 [(0, .ref h0)] := hl
  refine lv_aload_n hx hb (by decide +kernel : decode prog_3_method_1_code 0 = .ok (.aload_n 0, 1)) rfl (lv_at hl 0 rfl) ?_
  refine W.objInit hx hb hown (hts _ (tb (in_t1 219 rfl) rfl)) (hts _ (tb (in_t1 33 rfl) rfl)) (hts _ (tb (in_t1 34 rfl) rfl)) rfl (by rw [hml]; exact hl.1) rfl (by decide +kernel : decode prog_3_method_1_code 1 = .ok (.invokespecial 3, 3)) (Nat.le_of_ble_eq_true rfl) (Nat.le_of_ble_eq_true rfl) ?_
  refine W.eq (g2 := F0 m 4 ls []) rfl ?_
  refine lv_aload_n hx hb (by decide +kernel : decode prog_3_method_1_code 4 = .ok (.aload_n 0, 1)) rfl (lv_at hl 0 rfl) ?_
  refine va_new (ci := 7) (fs := [.null]) (C := RX7) (T := TX7) (N := 1) hx hb hts (lay_tbl 7 _ rfl) tyX7 tyX7_ok hown (hts _ (tb (in_t1 220 rfl) rfl)) (hts _ (tb (in_t1 147 rfl) rfl)) (hts _ (tb (in_t1 8 rfl) rfl)) hK hP hD hS hA rfl (by decide +kernel) (Nat.le_of_ble_eq_true rfl) (Nat.le_of_ble_eq_true rfl) (by decide +kernel : decode prog_3_method_1_code 5 = .ok (.new 9, 3)) (fun q5 H hP hD hS => ?_)
  have hP : va_P D vwCl [(h0, .inr (1, [.null, .null, .null, .null])), (q5, .inr (7, [.null]))] H := hP
  have hD : va_D A [(h0, .inr (1, [.null, .null, .null, .null])), (q5, .inr (7, [.null]))] := hD
  refine W.widen (k := 1) (n := 1) (Nat.le_of_ble_eq_true rfl) (Nat.le_of_ble_eq_true rfl) ?_
  refine lv_dup hx hb (by decide +kernel : decode prog_3_method_1_code 8 = .ok (.dup, 1)) rfl ?_
  have hPc := hP.sub (ws' := [(q5, .inr (7, [.null]))]) [1] rfl
  have hDc := hD.sub (ws' := [(q5, .inr (7, [.null]))]) [1] (by decide) rfl
  have hFc := va_free (wc := [(q5, .inr (7, [.null]))]) hD hS hA [1] rfl
  have hN1 := hN.kept (H1 := H) (fun a ha hna => hS.2.1 a ha (fun z => hna (hA0 a z)))
  refine va_callv (va_runIN (As := []) (rest := [.ref q5, .ref h0]) ⟨hx, hb, hml, hown, hts⟩ (i_X7 l D cT adE adS sz0 q5 H.size (hA0 _ (hD.2 1 _ rfl)) (Nat.le_trans h01 hS.1)) ⟨va_cnB 0 hts (good_code (M := mX7_init) (tb (in_t1 150 rfl) rfl)) rfl rfl rfl (hN.1 _ (List.mem_of_getElem? (i := 8) rfl)) (hts _ (tb (in_t1 8 rfl) rfl)) ⟨by decide, by decide, by decide +kernel⟩ ⟨Nat.le_of_ble_eq_true rfl, Nat.le_of_ble_eq_true rfl⟩, rfl, (hts _ (tb (in_t1 149 rfl) rfl))⟩ ⟨fun a U g mk q => by obtain ⟨q0, q1, qP, qK, qD, qN⟩ := q; exact ⟨q0, q1, qP, va_K.moved (u := U) (U := U.calling g mk a) (Vm.Alike.refl U.vm) qK, qD, NI.same (u := U) (U := U.calling g mk a) rfl qN⟩, fun U hU hW => ⟨rfl, by rw [hU], by rw [hU]; exact hPc, va_K.moved hW.alike hK, hDc.weaken (fun _ _ _ _ => trivial), by rw [hU]; exact hN1.warm hW⟩⟩ rfl rfl hl.1 rfl (lv_room (Nat.le_of_ble_eq_true rfl)) (by decide +kernel : decode prog_3_method_1_code 9 = .ok (.invokespecial 11, 3)) ⟨Nat.le_of_ble_eq_true rfl, Nat.le_of_ble_eq_true rfl⟩) hS (fun q _ h => hFc q h) hFc (fun u t H1 locs ht hvm _ hB hz1 hk1 hS => ?_)
  obtain ⟨S9, hP1, hD1⟩ := hB
  rw [ht] at hP1
  obtain ⟨hP, hD⟩ := va_join (wr := [(h0, .inr (1, [.null, .null, .null, .null]))]) (w1 := [(q5, .inr (7, [.ref (S9 1)])), (S9 1, .inl (cT .int, 53, .inl (fun _ => 0)))]) hP hD [1] [0] rfl rfl (by decide) (by decide) hk1 hFc hP1 hD1
  generalize H1 = H at hP hS ⊢
  have hP : va_P D vwCl [(h0, .inr (1, [.null, .null, .null, .null])), (q5, .inr (7, [.ref (S9 1)])), (S9 1, .inl (cT .int, 53, .inl (fun _ => 0)))] H := hP
  have hD : va_D A [(h0, .inr (1, [.null, .null, .null, .null])), (q5, .inr (7, [.ref (S9 1)])), (S9 1, .inl (cT .int, 53, .inl (fun _ => 0)))] := hD
  refine W.widen (k := 2) (n := 54) (Nat.le_of_ble_eq_true rfl) (Nat.le_of_ble_eq_true rfl) ?_
  refine va_putF (D := D) (ci := 1) (v := .ref q5) (ty := .object "DreamMatins$State") (C := RX1) (T := TX1) (N := 4) hx hb hts (lay_tbl 1 _ rfl) tyX1 tyX1_ok nmX1 hown hK hP hD hS 0 rfl rfl 0 (by decide) (hts _ (tb (in_t2 20 rfl) rfl)) (fun _ h9 => h9) rfl hin rfl (by decide +kernel) rfl rfl (Nat.le_of_ble_eq_true rfl) (by decide +kernel : decode prog_3_method_1_code 12 = .ok (.putfield 12, 3)) (fun H locs hP hD hS => ?_)
  have hP : va_P D vwCl [(h0, .inr (1, [.ref q5, .null, .null, .null])), (q5, .inr (7, [.ref (S9 1)])), (S9 1, .inl (cT .int, 53, .inl (fun _ => 0)))] H := hP
  have hD : va_D A [(h0, .inr (1, [.ref q5, .null, .null, .null])), (q5, .inr (7, [.ref (S9 1)])), (S9 1, .inl (cT .int, 53, .inl (fun _ => 0)))] := hD
  refine lv_aload_n hx hb (by decide +kernel : decode prog_3_method_1_code 15 = .ok (.aload_n 0, 1)) rfl (lv_at hl 0 rfl) ?_
  refine va_new (ci := 0) (fs := [.null, .int 0, .int 0]) (C := RX0) (T := TX0) (N := 3) hx hb hts (lay_tbl 0 _ rfl) tyX0 tyX0_ok hown (hts _ (tb (in_t1 222 rfl) rfl)) (hts _ (tb (in_t1 223 rfl) rfl)) (hts _ (tb (in_t1 11 rfl) rfl)) hK hP hD hS hA rfl (by decide +kernel) (Nat.le_of_ble_eq_true rfl) (Nat.le_of_ble_eq_true rfl) (by decide +kernel : decode prog_3_method_1_code 16 = .ok (.new 18, 3)) (fun q16 H hP hD hS => ?_)
  have hP : va_P D vwCl [(h0, .inr (1, [.ref q5, .null, .null, .null])), (q5, .inr (7, [.ref (S9 1)])), (S9 1, .inl (cT .int, 53, .inl (fun _ => 0))), (q16, .inr (0, [.null, .int 0, .int 0]))] H := hP
  have hD : va_D A [(h0, .inr (1, [.ref q5, .null, .null, .null])), (q5, .inr (7, [.ref (S9 1)])), (S9 1, .inl (cT .int, 53, .inl (fun _ => 0))), (q16, .inr (0, [.null, .int 0, .int 0]))] := hD
  refine W.widen (k := 3) (n := 57) (Nat.le_of_ble_eq_true rfl) (Nat.le_of_ble_eq_true rfl) ?_
  refine lv_dup hx hb (by decide +kernel : decode prog_3_method_1_code 19 = .ok (.dup, 1)) rfl ?_
  have hPc := hP.sub (ws' := [(q16, .inr (0, [.null, .int 0, .int 0]))]) [3] rfl
  have hDc := hD.sub (ws' := [(q16, .inr (0, [.null, .int 0, .int 0]))]) [3] (by decide) rfl
  have hFc := va_free (wc := [(q16, .inr (0, [.null, .int 0, .int 0]))]) hD hS hA [3] rfl
  have hN1 := hN.kept (H1 := H) (fun a ha hna => hS.2.1 a ha (fun z => hna (hA0 a z)))
  refine va_callv (va_runIN (As := []) (rest := [.ref q16, .ref h0]) ⟨hx, hb, hml, hown, hts⟩ (i_X0 l D cT adE adS sz0 q16 H.size (hA0 _ (hD.2 3 _ rfl)) (Nat.le_trans h01 hS.1)) ⟨va_cnB 0 hts (good_code (M := mX0_init) (tb (in_t1 226 rfl) rfl)) rfl rfl rfl (hN.1 _ (List.mem_of_getElem? (i := 9) rfl)) (hts _ (tb (in_t1 11 rfl) rfl)) ⟨by decide, by decide, by decide +kernel⟩ ⟨Nat.le_of_ble_eq_true rfl, Nat.le_of_ble_eq_true rfl⟩, rfl, (hts _ (tb (in_t1 225 rfl) rfl))⟩ ⟨fun a U g mk q => by obtain ⟨q0, q1, qP, qK, qD, qN⟩ := q; exact ⟨q0, q1, qP, va_K.moved (u := U) (U := U.calling g mk a) (Vm.Alike.refl U.vm) qK, qD, NI.same (u := U) (U := U.calling g mk a) rfl qN⟩, fun U hU hW => ⟨rfl, by rw [hU], by rw [hU]; exact hPc, va_K.moved hW.alike hK, hDc.weaken (fun _ _ _ _ => trivial), by rw [hU]; exact hN1.warm hW⟩⟩ rfl rfl hl.1 rfl (lv_room (Nat.le_of_ble_eq_true rfl)) (by decide +kernel : decode prog_3_method_1_code 20 = .ok (.invokespecial 20, 3)) ⟨Nat.le_of_ble_eq_true rfl, Nat.le_of_ble_eq_true rfl⟩) hS (fun q _ h => hFc q h) hFc (fun u t H1 locs ht hvm _ hB hz1 hk1 hS => ?_)
  obtain ⟨S20, hP1, hD1⟩ := hB
  rw [ht] at hP1
  obtain ⟨hP, hD⟩ := va_join (wr := [(h0, .inr (1, [.ref q5, .null, .null, .null])), (q5, .inr (7, [.ref (S9 1)])), (S9 1, .inl (cT .int, 53, .inl (fun _ => 0)))]) (w1 := [(q16, .inr (0, [.ref (S20 1), .int 0, .int 0])), (S20 1, .inl (cT .int, 2120, .inl (fun _ => 0)))]) hP hD [3] [0, 1, 2] rfl rfl (by decide) (by decide) hk1 hFc hP1 hD1
  generalize H1 = H at hP hS ⊢
  have hP : va_P D vwCl [(h0, .inr (1, [.ref q5, .null, .null, .null])), (q5, .inr (7, [.ref (S9 1)])), (S9 1, .inl (cT .int, 53, .inl (fun _ => 0))), (q16, .inr (0, [.ref (S20 1), .int 0, .int 0])), (S20 1, .inl (cT .int, 2120, .inl (fun _ => 0)))] H := hP
  have hD : va_D A [(h0, .inr (1, [.ref q5, .null, .null, .null])), (q5, .inr (7, [.ref (S9 1)])), (S9 1, .inl (cT .int, 53, .inl (fun _ => 0))), (q16, .inr (0, [.ref (S20 1), .int 0, .int 0])), (S20 1, .inl (cT .int, 2120, .inl (fun _ => 0)))] := hD
  refine W.widen (k := 4) (n := 2177) (Nat.le_of_ble_eq_true rfl) (Nat.le_of_ble_eq_true rfl) ?_
  refine va_putF (D := D) (ci := 1) (v := .ref q16) (ty := .object "DreamMatins$Acts") (C := RX1) (T := TX1) (N := 4) hx hb hts (lay_tbl 1 _ rfl) tyX1 tyX1_ok nmX1 hown hK hP hD hS 0 rfl rfl 1 (by decide) (hts _ (tb (in_t2 22 rfl) rfl)) (fun _ h9 => h9) rfl hin rfl (by decide +kernel) rfl rfl (Nat.le_of_ble_eq_true rfl) (by decide +kernel : decode prog_3_method_1_code 23 = .ok (.putfield 21, 3)) (fun H locs hP hD hS => ?_)
  have hP : va_P D vwCl [(h0, .inr (1, [.ref q5, .ref q16, .null, .null])), (q5, .inr (7, [.ref (S9 1)])), (S9 1, .inl (cT .int, 53, .inl (fun _ => 0))), (q16, .inr (0, [.ref (S20 1), .int 0, .int 0])), (S20 1, .inl (cT .int, 2120, .inl (fun _ => 0)))] H := hP
  have hD : va_D A [(h0, .inr (1, [.ref q5, .ref q16, .null, .null])), (q5, .inr (7, [.ref (S9 1)])), (S9 1, .inl (cT .int, 53, .inl (fun _ => 0))), (q16, .inr (0, [.ref (S20 1), .int 0, .int 0])), (S20 1, .inl (cT .int, 2120, .inl (fun _ => 0)))] := hD
  refine lv_aload_n hx hb (by decide +kernel : decode prog_3_method_1_code 26 = .ok (.aload_n 0, 1)) rfl (lv_at hl 0 rfl) ?_
  refine va_new (ci := 2) (fs := [.null, .null, .null, .int 0]) (C := RX2) (T := TX2) (N := 4) hx hb hts (lay_tbl 2 _ rfl) tyX2 tyX2_ok hown (hts _ (tb (in_t1 239 rfl) rfl)) (hts _ (tb (in_t2 0 rfl) rfl)) (hts _ (tb (in_t1 12 rfl) rfl)) hK hP hD hS hA rfl (by decide +kernel) (Nat.le_of_ble_eq_true rfl) (Nat.le_of_ble_eq_true rfl) (by decide +kernel : decode prog_3_method_1_code 27 = .ok (.new 25, 3)) (fun q27 H hP hD hS => ?_)
  have hP : va_P D vwCl [(h0, .inr (1, [.ref q5, .ref q16, .null, .null])), (q5, .inr (7, [.ref (S9 1)])), (S9 1, .inl (cT .int, 53, .inl (fun _ => 0))), (q16, .inr (0, [.ref (S20 1), .int 0, .int 0])), (S20 1, .inl (cT .int, 2120, .inl (fun _ => 0))), (q27, .inr (2, [.null, .null, .null, .int 0]))] H := hP
  have hD : va_D A [(h0, .inr (1, [.ref q5, .ref q16, .null, .null])), (q5, .inr (7, [.ref (S9 1)])), (S9 1, .inl (cT .int, 53, .inl (fun _ => 0))), (q16, .inr (0, [.ref (S20 1), .int 0, .int 0])), (S20 1, .inl (cT .int, 2120, .inl (fun _ => 0))), (q27, .inr (2, [.null, .null, .null, .int 0]))] := hD
  refine W.widen (k := 5) (n := 2181) (Nat.le_of_ble_eq_true rfl) (Nat.le_of_ble_eq_true rfl) ?_
  refine lv_dup hx hb (by decide +kernel : decode prog_3_method_1_code 30 = .ok (.dup, 1)) rfl ?_
  have hPc := hP.sub (ws' := [(q27, .inr (2, [.null, .null, .null, .int 0]))]) [5] rfl
  have hDc := hD.sub (ws' := [(q27, .inr (2, [.null, .null, .null, .int 0]))]) [5] (by decide) rfl
  have hFc := va_free (wc := [(q27, .inr (2, [.null, .null, .null, .int 0]))]) hD hS hA [5] rfl
  have hN1 := hN.kept (H1 := H) (fun a ha hna => hS.2.1 a ha (fun z => hna (hA0 a z)))
  refine va_callv (va_runIN (As := []) (rest := [.ref q27, .ref h0]) ⟨hx, hb, hml, hown, hts⟩ (i_X2 l D cT adE adS sz0 q27 H.size (hA0 _ (hD.2 5 _ rfl)) (Nat.le_trans h01 hS.1)) ⟨va_cnB 0 hts (good_code (M := mX2_init) (tb (in_t2 3 rfl) rfl)) rfl rfl rfl (hN.1 _ (List.mem_of_getElem? (i := 10) rfl)) (hts _ (tb (in_t1 12 rfl) rfl)) ⟨by decide, by decide, by decide +kernel⟩ ⟨Nat.le_of_ble_eq_true rfl, Nat.le_of_ble_eq_true rfl⟩, rfl, (hts _ (tb (in_t2 2 rfl) rfl))⟩ ⟨fun a U g mk q => by obtain ⟨q0, q1, qP, qK, qD, qN⟩ := q; exact ⟨q0, q1, qP, va_K.moved (u := U) (U := U.calling g mk a) (Vm.Alike.refl U.vm) qK, qD, NI.same (u := U) (U := U.calling g mk a) rfl qN⟩, fun U hU hW => ⟨rfl, by rw [hU], by rw [hU]; exact hPc, va_K.moved hW.alike hK, hDc.weaken (fun _ _ _ _ => trivial), by rw [hU]; exact hN1.warm hW⟩⟩ rfl rfl hl.1 rfl (lv_room (Nat.le_of_ble_eq_true rfl)) (by decide +kernel : decode prog_3_method_1_code 31 = .ok (.invokespecial 27, 3)) ⟨Nat.le_of_ble_eq_true rfl, Nat.le_of_ble_eq_true rfl⟩) hS (fun q _ h => hFc q h) hFc (fun u t H1 locs ht hvm _ hB hz1 hk1 hS => ?_)
  obtain ⟨S31, hP1, hD1⟩ := hB
  rw [ht] at hP1
  obtain ⟨hP, hD⟩ := va_join (wr := [(h0, .inr (1, [.ref q5, .ref q16, .null, .null])), (q5, .inr (7, [.ref (S9 1)])), (S9 1, .inl (cT .int, 53, .inl (fun _ => 0))), (q16, .inr (0, [.ref (S20 1), .int 0, .int 0])), (S20 1, .inl (cT .int, 2120, .inl (fun _ => 0)))]) (w1 := [(q27, .inr (2, [.ref (S31 1), .ref (S31 2), .ref (S31 3), .int 0])), (S31 1, .inl (cT .int, 8, .inl (fun _ => 0))), (S31 2, .inl (cT .int, 8, .inl (fun _ => 0))), (S31 3, .inl (cT .boolean, 8, .inl (fun _ => 0)))]) hP hD [5] [0, 1, 2, 3, 4] rfl rfl (by decide) (by decide) hk1 hFc hP1 hD1
  generalize H1 = H at hP hS ⊢
  have hP : va_P D vwCl [(h0, .inr (1, [.ref q5, .ref q16, .null, .null])), (q5, .inr (7, [.ref (S9 1)])), (S9 1, .inl (cT .int, 53, .inl (fun _ => 0))), (q16, .inr (0, [.ref (S20 1), .int 0, .int 0])), (S20 1, .inl (cT .int, 2120, .inl (fun _ => 0))), (q27, .inr (2, [.ref (S31 1), .ref (S31 2), .ref (S31 3), .int 0])), (S31 1, .inl (cT .int, 8, .inl (fun _ => 0))), (S31 2, .inl (cT .int, 8, .inl (fun _ => 0))), (S31 3, .inl (cT .boolean, 8, .inl (fun _ => 0)))] H := hP
  have hD : va_D A [(h0, .inr (1, [.ref q5, .ref q16, .null, .null])), (q5, .inr (7, [.ref (S9 1)])), (S9 1, .inl (cT .int, 53, .inl (fun _ => 0))), (q16, .inr (0, [.ref (S20 1), .int 0, .int 0])), (S20 1, .inl (cT .int, 2120, .inl (fun _ => 0))), (q27, .inr (2, [.ref (S31 1), .ref (S31 2), .ref (S31 3), .int 0])), (S31 1, .inl (cT .int, 8, .inl (fun _ => 0))), (S31 2, .inl (cT .int, 8, .inl (fun _ => 0))), (S31 3, .inl (cT .boolean, 8, .inl (fun _ => 0)))] := hD
  refine W.widen (k := 8) (n := 2205) (Nat.le_of_ble_eq_true rfl) (Nat.le_of_ble_eq_true rfl) ?_
  refine va_putF (D := D) (ci := 1) (v := .ref q27) (ty := .object "DreamMatins$Heard") (C := RX1) (T := TX1) (N := 4) hx hb hts (lay_tbl 1 _ rfl) tyX1 tyX1_ok nmX1 hown hK hP hD hS 0 rfl rfl 2 (by decide) (hts _ (tb (in_t2 24 rfl) rfl)) (fun _ h9 => h9) rfl hin rfl (by decide +kernel) rfl rfl (Nat.le_of_ble_eq_true rfl) (by decide +kernel : decode prog_3_method_1_code 34 = .ok (.putfield 28, 3)) (fun H locs hP hD hS => ?_)
  have hP : va_P D vwCl [(h0, .inr (1, [.ref q5, .ref q16, .ref q27, .null])), (q5, .inr (7, [.ref (S9 1)])), (S9 1, .inl (cT .int, 53, .inl (fun _ => 0))), (q16, .inr (0, [.ref (S20 1), .int 0, .int 0])), (S20 1, .inl (cT .int, 2120, .inl (fun _ => 0))), (q27, .inr (2, [.ref (S31 1), .ref (S31 2), .ref (S31 3), .int 0])), (S31 1, .inl (cT .int, 8, .inl (fun _ => 0))), (S31 2, .inl (cT .int, 8, .inl (fun _ => 0))), (S31 3, .inl (cT .boolean, 8, .inl (fun _ => 0)))] H := hP
  have hD : va_D A [(h0, .inr (1, [.ref q5, .ref q16, .ref q27, .null])), (q5, .inr (7, [.ref (S9 1)])), (S9 1, .inl (cT .int, 53, .inl (fun _ => 0))), (q16, .inr (0, [.ref (S20 1), .int 0, .int 0])), (S20 1, .inl (cT .int, 2120, .inl (fun _ => 0))), (q27, .inr (2, [.ref (S31 1), .ref (S31 2), .ref (S31 3), .int 0])), (S31 1, .inl (cT .int, 8, .inl (fun _ => 0))), (S31 2, .inl (cT .int, 8, .inl (fun _ => 0))), (S31 3, .inl (cT .boolean, 8, .inl (fun _ => 0)))] := hD
  refine lv_aload_n hx hb (by decide +kernel : decode prog_3_method_1_code 37 = .ok (.aload_n 0, 1)) rfl (lv_at hl 0 rfl) ?_
  refine lv_iconst (v := 3) hx hb (by decide +kernel : decode prog_3_method_1_code 38 = .ok (.iconst 3, 1)) (by decide) ?_
  refine nw_a (ty := .int) (a0 := (3, .inl (fun _ => 0))) (cA0 := cT .int) hx hb (hts _ (tb (in_t1 104 rfl) rfl)) rfl hK 0 rfl hP hD hS hA (fun _ => rfl) (by decide) (by decide) (by decide) (Nat.le_of_ble_eq_true rfl) (Nat.le_of_ble_eq_true rfl) (by decide +kernel : decode prog_3_method_1_code 39 = .ok (.newarray .int, 2)) (fun q39 H hP hD hS => ?_)
  have hP : va_P D vwCl [(h0, .inr (1, [.ref q5, .ref q16, .ref q27, .null])), (q5, .inr (7, [.ref (S9 1)])), (S9 1, .inl (cT .int, 53, .inl (fun _ => 0))), (q16, .inr (0, [.ref (S20 1), .int 0, .int 0])), (S20 1, .inl (cT .int, 2120, .inl (fun _ => 0))), (q27, .inr (2, [.ref (S31 1), .ref (S31 2), .ref (S31 3), .int 0])), (S31 1, .inl (cT .int, 8, .inl (fun _ => 0))), (S31 2, .inl (cT .int, 8, .inl (fun _ => 0))), (S31 3, .inl (cT .boolean, 8, .inl (fun _ => 0))), (q39, .inl (cT .int, 3, .inl (fun _ => 0)))] H := hP
  have hD : va_D A [(h0, .inr (1, [.ref q5, .ref q16, .ref q27, .null])), (q5, .inr (7, [.ref (S9 1)])), (S9 1, .inl (cT .int, 53, .inl (fun _ => 0))), (q16, .inr (0, [.ref (S20 1), .int 0, .int 0])), (S20 1, .inl (cT .int, 2120, .inl (fun _ => 0))), (q27, .inr (2, [.ref (S31 1), .ref (S31 2), .ref (S31 3), .int 0])), (S31 1, .inl (cT .int, 8, .inl (fun _ => 0))), (S31 2, .inl (cT .int, 8, .inl (fun _ => 0))), (S31 3, .inl (cT .boolean, 8, .inl (fun _ => 0))), (q39, .inl (cT .int, 3, .inl (fun _ => 0)))] := hD
  refine W.widen (k := 9) (n := 2208) (Nat.le_of_ble_eq_true rfl) (Nat.le_of_ble_eq_true rfl) ?_
  refine va_putF (D := D) (ci := 1) (v := .ref q39) (ty := .array .int) (C := RX1) (T := TX1) (N := 4) hx hb hts (lay_tbl 1 _ rfl) tyX1 tyX1_ok nmX1 hown hK hP hD hS 0 rfl rfl 3 (by decide) (hts _ (tb (in_t2 26 rfl) rfl)) (fun _ h9 => h9) rfl hin rfl (by decide +kernel) rfl rfl (Nat.le_of_ble_eq_true rfl) (by decide +kernel : decode prog_3_method_1_code 41 = .ok (.putfield 32, 3)) (fun H locs hP hD hS => ?_)
  have hP : va_P D vwCl [(h0, .inr (1, [.ref q5, .ref q16, .ref q27, .ref q39])), (q5, .inr (7, [.ref (S9 1)])), (S9 1, .inl (cT .int, 53, .inl (fun _ => 0))), (q16, .inr (0, [.ref (S20 1), .int 0, .int 0])), (S20 1, .inl (cT .int, 2120, .inl (fun _ => 0))), (q27, .inr (2, [.ref (S31 1), .ref (S31 2), .ref (S31 3), .int 0])), (S31 1, .inl (cT .int, 8, .inl (fun _ => 0))), (S31 2, .inl (cT .int, 8, .inl (fun _ => 0))), (S31 3, .inl (cT .boolean, 8, .inl (fun _ => 0))), (q39, .inl (cT .int, 3, .inl (fun _ => 0)))] H := hP
  have hD : va_D A [(h0, .inr (1, [.ref q5, .ref q16, .ref q27, .ref q39])), (q5, .inr (7, [.ref (S9 1)])), (S9 1, .inl (cT .int, 53, .inl (fun _ => 0))), (q16, .inr (0, [.ref (S20 1), .int 0, .int 0])), (S20 1, .inl (cT .int, 2120, .inl (fun _ => 0))), (q27, .inr (2, [.ref (S31 1), .ref (S31 2), .ref (S31 3), .int 0])), (S31 1, .inl (cT .int, 8, .inl (fun _ => 0))), (S31 2, .inl (cT .int, 8, .inl (fun _ => 0))), (S31 3, .inl (cT .boolean, 8, .inl (fun _ => 0))), (q39, .inl (cT .int, 3, .inl (fun _ => 0)))] := hD
  exact W.vret hx hb hr (fun t ht hW => ⟨⟨(), rfl, trivial, nthA [0, q5, S9 1, q16, S20 1, q27, S31 1, S31 2, S31 3, q39], by rw [ht]; exact hP, hD⟩, hS.F ht⟩) hS.2.2 (by decide +kernel : decode prog_3_method_1_code 44 = .ok (.return_, 1))
