theorem mc1 (o : Oc) : 0 + mcO o ≤ 1 := by cases o <;> simp [mcO]
theorem ms6 (o : Oc) : 0 + msO o ≤ 6 := by cases o <;> simp [msO]
theorem lk_i : Cond.classLink (RN 14) 13 "java/lang/IllegalArgumentException" ∈ TBL := tb (in_t3 7 rfl) rfl
theorem lk_n : Cond.classLink (RN 14) 18 "java/util/NoSuchElementException" ∈ TBL := tb (in_t4 39 rfl) rfl
abbrev hL_house : HI := (yL_house, method_3_code, 4, [(0, 9, 12, 13)])
noncomputable def H_house (w : Wld) (a1 : Int32) : Option (Int32 × Wld) := (F_C_house w a1).bind (fun q => match q.1 with
  | .inl k => bif Nat.beq k 1 then some (1, q.2) else none
  | .inr (some r) => some (0, wup q.2 41 0 r)
  | .inr none => none)
set_option maxHeartbeats 4000000 in
theorem h_house {Z : ZT} {l : Launch} (w : Wld) (a1 : Int32) (r : Int32) (w1 : Wld) (h : H_house w a1 = some (r, w1)) : ConH Z l hL_house 115 2320 [vR 42, vI a1, vR 41] w r w1 := by
  intro hst
  refine vx_ofWH (cc := method_3_code) (maxL := 4) (ret := some .int) (hh := [(0, 9, 12, 13)]) (by decide +kernel) rfl ?_
  intro p e s m args below meth c s₁ B hml hv
  obtain ⟨⟨rfl, hP, hK, hD, hS9⟩, hNc⟩ := hv
  have hts0 := atoms_spec (ws := wsH hL_house) B.pre
  have htab : c.exceptionTable.toList = tableOf [(0, 9, 12, 13)] := vx_table (x := yL_house) B (hts0 _ List.mem_cons_self)
  have hts : ∀ w ∈ TBL, w.before ([vR 42, vI a1, vR 41].map (cv Z)).toArray s = true := fun w hw => hts0 w (List.mem_cons_of_mem _ hw)
  have F : Fx Z p l s m ([vR 42, vI a1, vR 41].map (cv Z)).toArray meth c 14 4 method_3_code := ⟨B.exec, B.bytes, hml, findClass_of_methodNamed B.named, hts, hK, hD, B.notSynchronized, hS9⟩
  obtain ⟨⟨o9, w9⟩, hq9, hf9⟩ := Option.bind_eq_some_iff.mp h
  have hcon := c_C_house (Z := Z) (l := l) w a1 o9 w9 hq9
  have hk : Okc Z p l e { frames := 115, cells := 1, slots := 6, locals := 2320 } s m ([vR 42, vI a1, vR 41].map (cv Z)).toArray below meth c 0 0 4 (vx_MQ below (QcO Z (.inr (some r)) w1) (fun _ _ _ => False) ([vR 42, vI a1, vR 41].map (cv Z)).toArray s 1 6 (AW Z)) (0, [(0, vR 42), (1, vI a1), (2, vR 41)], [], w) := by
    refine exB_ok F [(.aload_n 2, 0, 0, 0, 0), (.iconst 0, 0, 0, 0, 0), (.aload_n 0, 0, 0, 0, 0), (.iload_n 1, 0, 0, 0, 0)] (lv' := [(0, vR 42), (1, vI a1), (2, vR 41)]) (st' := [vI a1, vR 42, vI 0, vR 41]) (w' := w) (cs := []) (by decide +kernel) rfl (fun _ h => nomatch h) ?_
    refine callV_try (as := [vI a1]) (t := [vI 0, vR 41]) (n := 42) (M := mX10_house) (fr' := 114) (lc' := 2298) F hst (by decide +kernel) ml_14_7 rfl rfl rfl (by decide) (by decide) (by decide) (mc1 o9) (ms6 o9) hcon (fun v hv => ?_) (fun k hk H locs ls q ce g1 g2 g3 g4 g5 g6 => ?_)
    · subst hv
      cases v with
      | none => exact nomatch hf9
      | some x =>
        have hf9 : some ((0 : Int32), wup w9 41 0 x) = some (r, w1) := hf9
        cases hf9
        refine exB_ok F [(.i2l, 0, 0, 0, 0), (.lastore, 41, 1, 3, 0)] (lv' := [(0, vR 42), (1, vI a1), (2, vR 41)]) (st' := []) (w' := wup w9 41 0 x) (cs := [vp_in 0 1, ((Int32.toInt64 x).toInt32).toInt64 = Int32.toInt64 x]) (by decide +kernel) (by show some _ = some _; rw [long32]; rfl) (fun q hq => by
          rcases List.mem_cons.mp hq with rfl | hq
          · exact vp_in_nI (n := 0) (by decide) (by decide)
          rcases List.mem_cons.mp hq with rfl | hq
          · rw [long32]
          cases hq) ?_
        refine okc_goto (tgt := 15) (off := 6) F (by decide +kernel) (by decide) ?_
        refine exB_ok F [(.iconst 0, 0, 0, 0, 0)] (lv' := [(0, vR 42), (1, vI a1), (2, vR 41)]) (st' := [vI 0]) (w' := wup w9 41 0 x) (cs := []) (by decide +kernel) rfl (fun _ h => nomatch h) ?_
        exact okc_ret F B.returns (Nat.zero_le _) (Nat.zero_le _) (by decide +kernel)
    · subst hk
      have hf9 : (bif Nat.beq k 1 then some (1, w9) else none) = some (r, w1) := hf9
      match k, hf9, g6 with
      | 0, hf9, g6 =>
        exact nomatch hf9
      | 1, hf9, g6 =>
        cases hf9
        refine vx_catch (own := RN 14) (name := "java/lang/IllegalArgumentException") (E := "java/lang/IllegalArgumentException") (ce := ce) F.2.2.2.1 [] ⟨0, 9, 12, 13⟩ [] htab (fun z hz => nomatch hz) (by decide) (by decide) (hts _ lk_i) (va_Nw.use rfl (hS9.2.2.1 _ (List.mem_of_getElem? (i := 1) rfl))) g4 g5 g6 ?_
        exact hnd_n (k := 3) (n := 1) (v := 1) F B.returns g3 (by decide) (by decide +kernel) (by decide +kernel) rfl (by decide +kernel) (fun t h9 _ => ⟨⟨some 1, rfl, rfl, by rw [h9]; exact g1⟩, g2.F h9⟩) g2.2.2
      | k + 2, hf9, g6 => exact nomatch hf9
  have hcs : (lg_sl ([vR 42, vI a1, vR 41].map (cv Z))).length ≤ 4 := by rw [lgsl_len]; exact Nat.le_of_ble_eq_true rfl
  rw [lg_entry_eq]
  have hl := lv_entry ([vR 42, vI a1, vR 41].map (cv Z)) hcs
  rw [mlA_ok] at hl
  exact hk s.heap [] _ hP va_S.rf hl
abbrev hL_count : HI := (yL_count, method_4_code, 4, [(0, 9, 12, 18)])
noncomputable def H_count (w : Wld) (a1 : Int32) : Option (Int32 × Wld) := (F_C_count w a1).bind (fun q => match q.1 with
  | .inl k => bif Nat.beq k 0 then some (1, q.2) else none
  | .inr (some r) => some (0, wup q.2 41 0 r)
  | .inr none => none)
set_option maxHeartbeats 4000000 in
theorem h_count {Z : ZT} {l : Launch} (w : Wld) (a1 : Int32) (r : Int32) (w1 : Wld) (h : H_count w a1 = some (r, w1)) : ConH Z l hL_count 8 120 [vR 42, vI a1, vR 41] w r w1 := by
  intro hst
  refine vx_ofWH (cc := method_4_code) (maxL := 4) (ret := some .int) (hh := [(0, 9, 12, 18)]) (by decide +kernel) rfl ?_
  intro p e s m args below meth c s₁ B hml hv
  obtain ⟨⟨rfl, hP, hK, hD, hS9⟩, hNc⟩ := hv
  have hts0 := atoms_spec (ws := wsH hL_count) B.pre
  have htab : c.exceptionTable.toList = tableOf [(0, 9, 12, 18)] := vx_table (x := yL_count) B (hts0 _ List.mem_cons_self)
  have hts : ∀ w ∈ TBL, w.before ([vR 42, vI a1, vR 41].map (cv Z)).toArray s = true := fun w hw => hts0 w (List.mem_cons_of_mem _ hw)
  have F : Fx Z p l s m ([vR 42, vI a1, vR 41].map (cv Z)).toArray meth c 14 4 method_4_code := ⟨B.exec, B.bytes, hml, findClass_of_methodNamed B.named, hts, hK, hD, B.notSynchronized, hS9⟩
  obtain ⟨⟨o9, w9⟩, hq9, hf9⟩ := Option.bind_eq_some_iff.mp h
  have hcon := c_C_count (Z := Z) (l := l) w a1 o9 w9 hq9
  have hk : Okc Z p l e { frames := 8, cells := 1, slots := 6, locals := 120 } s m ([vR 42, vI a1, vR 41].map (cv Z)).toArray below meth c 0 0 4 (vx_MQ below (QcO Z (.inr (some r)) w1) (fun _ _ _ => False) ([vR 42, vI a1, vR 41].map (cv Z)).toArray s 1 6 (AW Z)) (0, [(0, vR 42), (1, vI a1), (2, vR 41)], [], w) := by
    refine exB_ok F [(.aload_n 2, 0, 0, 0, 0), (.iconst 0, 0, 0, 0, 0), (.aload_n 0, 0, 0, 0, 0), (.iload_n 1, 0, 0, 0, 0)] (lv' := [(0, vR 42), (1, vI a1), (2, vR 41)]) (st' := [vI a1, vR 42, vI 0, vR 41]) (w' := w) (cs := []) (by decide +kernel) rfl (fun _ h => nomatch h) ?_
    refine callV_try (as := [vI a1]) (t := [vI 0, vR 41]) (n := 42) (M := mX10_count) (fr' := 6) (lc' := 89) F hst (by decide +kernel) ml_14_15 rfl rfl rfl (by decide) (by decide) (by decide) (mc1 o9) (ms6 o9) hcon (fun v hv => ?_) (fun k hk H locs ls q ce g1 g2 g3 g4 g5 g6 => ?_)
    · subst hv
      cases v with
      | none => exact nomatch hf9
      | some x =>
        have hf9 : some ((0 : Int32), wup w9 41 0 x) = some (r, w1) := hf9
        cases hf9
        refine exB_ok F [(.i2l, 0, 0, 0, 0), (.lastore, 41, 1, 3, 0)] (lv' := [(0, vR 42), (1, vI a1), (2, vR 41)]) (st' := []) (w' := wup w9 41 0 x) (cs := [vp_in 0 1, ((Int32.toInt64 x).toInt32).toInt64 = Int32.toInt64 x]) (by decide +kernel) (by show some _ = some _; rw [long32]; rfl) (fun q hq => by
          rcases List.mem_cons.mp hq with rfl | hq
          · exact vp_in_nI (n := 0) (by decide) (by decide)
          rcases List.mem_cons.mp hq with rfl | hq
          · rw [long32]
          cases hq) ?_
        refine okc_goto (tgt := 15) (off := 6) F (by decide +kernel) (by decide) ?_
        refine exB_ok F [(.iconst 0, 0, 0, 0, 0)] (lv' := [(0, vR 42), (1, vI a1), (2, vR 41)]) (st' := [vI 0]) (w' := wup w9 41 0 x) (cs := []) (by decide +kernel) rfl (fun _ h => nomatch h) ?_
        exact okc_ret F B.returns (Nat.zero_le _) (Nat.zero_le _) (by decide +kernel)
    · subst hk
      have hf9 : (bif Nat.beq k 0 then some (1, w9) else none) = some (r, w1) := hf9
      match k, hf9, g6 with
      | 0, hf9, g6 =>
        cases hf9
        refine vx_catch (own := RN 14) (name := "java/util/NoSuchElementException") (E := "java/util/NoSuchElementException") (ce := ce) F.2.2.2.1 [] ⟨0, 9, 12, 18⟩ [] htab (fun z hz => nomatch hz) (by decide) (by decide) (hts _ lk_n) (va_Nw.use rfl (hS9.2.2.1 _ (List.mem_of_getElem? (i := 0) rfl))) g4 g5 g6 ?_
        exact hnd_n (k := 3) (n := 1) (v := 1) F B.returns g3 (by decide) (by decide +kernel) (by decide +kernel) rfl (by decide +kernel) (fun t h9 _ => ⟨⟨some 1, rfl, rfl, by rw [h9]; exact g1⟩, g2.F h9⟩) g2.2.2
      | 1, hf9, g6 =>
        exact nomatch hf9
      | k + 2, hf9, g6 => exact nomatch hf9
  have hcs : (lg_sl ([vR 42, vI a1, vR 41].map (cv Z))).length ≤ 4 := by rw [lgsl_len]; exact Nat.le_of_ble_eq_true rfl
  rw [lg_entry_eq]
  have hl := lv_entry ([vR 42, vI a1, vR 41].map (cv Z)) hcs
  rw [mlA_ok] at hl
  exact hk s.heap [] _ hP va_S.rf hl
abbrev hL_room : HI := (yL_room, method_5_code, 5, [(0, 10, 13, 18)])
noncomputable def H_room (w : Wld) (a1 : Int32) (a2 : Int32) : Option (Int32 × Wld) := (F_C_room w a1 a2).bind (fun q => match q.1 with
  | .inl k => bif Nat.beq k 0 then some (1, q.2) else none
  | .inr (some r) => some (0, wup q.2 41 0 r)
  | .inr none => none)
set_option maxHeartbeats 4000000 in
theorem h_room {Z : ZT} {l : Launch} (w : Wld) (a1 : Int32) (a2 : Int32) (r : Int32) (w1 : Wld) (h : H_room w a1 a2 = some (r, w1)) : ConH Z l hL_room 8 132 [vR 42, vI a1, vI a2, vR 41] w r w1 := by
  intro hst
  refine vx_ofWH (cc := method_5_code) (maxL := 5) (ret := some .int) (hh := [(0, 10, 13, 18)]) (by decide +kernel) rfl ?_
  intro p e s m args below meth c s₁ B hml hv
  obtain ⟨⟨rfl, hP, hK, hD, hS9⟩, hNc⟩ := hv
  have hts0 := atoms_spec (ws := wsH hL_room) B.pre
  have htab : c.exceptionTable.toList = tableOf [(0, 10, 13, 18)] := vx_table (x := yL_room) B (hts0 _ List.mem_cons_self)
  have hts : ∀ w ∈ TBL, w.before ([vR 42, vI a1, vI a2, vR 41].map (cv Z)).toArray s = true := fun w hw => hts0 w (List.mem_cons_of_mem _ hw)
  have F : Fx Z p l s m ([vR 42, vI a1, vI a2, vR 41].map (cv Z)).toArray meth c 14 5 method_5_code := ⟨B.exec, B.bytes, hml, findClass_of_methodNamed B.named, hts, hK, hD, B.notSynchronized, hS9⟩
  obtain ⟨⟨o9, w9⟩, hq9, hf9⟩ := Option.bind_eq_some_iff.mp h
  have hcon := c_C_room (Z := Z) (l := l) w a1 a2 o9 w9 hq9
  have hk : Okc Z p l e { frames := 8, cells := 1, slots := 6, locals := 132 } s m ([vR 42, vI a1, vI a2, vR 41].map (cv Z)).toArray below meth c 0 0 5 (vx_MQ below (QcO Z (.inr (some r)) w1) (fun _ _ _ => False) ([vR 42, vI a1, vI a2, vR 41].map (cv Z)).toArray s 1 6 (AW Z)) (0, [(0, vR 42), (1, vI a1), (2, vI a2), (3, vR 41)], [], w) := by
    refine exB_ok F [(.aload_n 3, 0, 0, 0, 0), (.iconst 0, 0, 0, 0, 0), (.aload_n 0, 0, 0, 0, 0), (.iload_n 1, 0, 0, 0, 0), (.iload_n 2, 0, 0, 0, 0)] (lv' := [(0, vR 42), (1, vI a1), (2, vI a2), (3, vR 41)]) (st' := [vI a2, vI a1, vR 42, vI 0, vR 41]) (w' := w) (cs := []) (by decide +kernel) rfl (fun _ h => nomatch h) ?_
    refine callV_try (as := [vI a1, vI a2]) (t := [vI 0, vR 41]) (n := 42) (M := mX10_room) (fr' := 7) (lc' := 110) F hst (by decide +kernel) ml_14_20 rfl rfl rfl (by decide) (by decide) (by decide) (mc1 o9) (ms6 o9) hcon (fun v hv => ?_) (fun k hk H locs ls q ce g1 g2 g3 g4 g5 g6 => ?_)
    · subst hv
      cases v with
      | none => exact nomatch hf9
      | some x =>
        have hf9 : some ((0 : Int32), wup w9 41 0 x) = some (r, w1) := hf9
        cases hf9
        refine exB_ok F [(.i2l, 0, 0, 0, 0), (.lastore, 41, 1, 3, 0)] (lv' := [(0, vR 42), (1, vI a1), (2, vI a2), (3, vR 41)]) (st' := []) (w' := wup w9 41 0 x) (cs := [vp_in 0 1, ((Int32.toInt64 x).toInt32).toInt64 = Int32.toInt64 x]) (by decide +kernel) (by show some _ = some _; rw [long32]; rfl) (fun q hq => by
          rcases List.mem_cons.mp hq with rfl | hq
          · exact vp_in_nI (n := 0) (by decide) (by decide)
          rcases List.mem_cons.mp hq with rfl | hq
          · rw [long32]
          cases hq) ?_
        refine okc_goto (tgt := 17) (off := 7) F (by decide +kernel) (by decide) ?_
        refine exB_ok F [(.iconst 0, 0, 0, 0, 0)] (lv' := [(0, vR 42), (1, vI a1), (2, vI a2), (3, vR 41)]) (st' := [vI 0]) (w' := wup w9 41 0 x) (cs := []) (by decide +kernel) rfl (fun _ h => nomatch h) ?_
        exact okc_ret F B.returns (Nat.zero_le _) (Nat.zero_le _) (by decide +kernel)
    · subst hk
      have hf9 : (bif Nat.beq k 0 then some (1, w9) else none) = some (r, w1) := hf9
      match k, hf9, g6 with
      | 0, hf9, g6 =>
        cases hf9
        refine vx_catch (own := RN 14) (name := "java/util/NoSuchElementException") (E := "java/util/NoSuchElementException") (ce := ce) F.2.2.2.1 [] ⟨0, 10, 13, 18⟩ [] htab (fun z hz => nomatch hz) (by decide) (by decide) (hts _ lk_n) (va_Nw.use rfl (hS9.2.2.1 _ (List.mem_of_getElem? (i := 0) rfl))) g4 g5 g6 ?_
        exact hnd_w (k := 4) (n := 1) (v := 1) F B.returns g3 (by decide) (by decide +kernel) (by decide +kernel) rfl (by decide +kernel) (fun t h9 _ => ⟨⟨some 1, rfl, rfl, by rw [h9]; exact g1⟩, g2.F h9⟩) g2.2.2
      | 1, hf9, g6 =>
        exact nomatch hf9
      | k + 2, hf9, g6 => exact nomatch hf9
  have hcs : (lg_sl ([vR 42, vI a1, vI a2, vR 41].map (cv Z))).length ≤ 5 := by rw [lgsl_len]; exact Nat.le_of_ble_eq_true rfl
  rw [lg_entry_eq]
  have hl := lv_entry ([vR 42, vI a1, vI a2, vR 41].map (cv Z)) hcs
  rw [mlA_ok] at hl
  exact hk s.heap [] _ hP va_S.rf hl
abbrev hL_monk : HI := (yL_monk, method_6_code, 5, [(0, 10, 13, 18)])
noncomputable def H_monk (w : Wld) (a1 : Int32) (a2 : Int32) : Option (Int32 × Wld) := (F_C_monk w a1 a2).bind (fun q => match q.1 with
  | .inl k => bif Nat.beq k 0 then some (1, q.2) else none
  | .inr (some r) => some (0, wup q.2 41 0 r)
  | .inr none => none)
set_option maxHeartbeats 4000000 in
theorem h_monk {Z : ZT} {l : Launch} (w : Wld) (a1 : Int32) (a2 : Int32) (r : Int32) (w1 : Wld) (h : H_monk w a1 a2 = some (r, w1)) : ConH Z l hL_monk 8 133 [vR 42, vI a1, vI a2, vR 41] w r w1 := by
  intro hst
  refine vx_ofWH (cc := method_6_code) (maxL := 5) (ret := some .int) (hh := [(0, 10, 13, 18)]) (by decide +kernel) rfl ?_
  intro p e s m args below meth c s₁ B hml hv
  obtain ⟨⟨rfl, hP, hK, hD, hS9⟩, hNc⟩ := hv
  have hts0 := atoms_spec (ws := wsH hL_monk) B.pre
  have htab : c.exceptionTable.toList = tableOf [(0, 10, 13, 18)] := vx_table (x := yL_monk) B (hts0 _ List.mem_cons_self)
  have hts : ∀ w ∈ TBL, w.before ([vR 42, vI a1, vI a2, vR 41].map (cv Z)).toArray s = true := fun w hw => hts0 w (List.mem_cons_of_mem _ hw)
  have F : Fx Z p l s m ([vR 42, vI a1, vI a2, vR 41].map (cv Z)).toArray meth c 14 5 method_6_code := ⟨B.exec, B.bytes, hml, findClass_of_methodNamed B.named, hts, hK, hD, B.notSynchronized, hS9⟩
  obtain ⟨⟨o9, w9⟩, hq9, hf9⟩ := Option.bind_eq_some_iff.mp h
  have hcon := c_C_monk (Z := Z) (l := l) w a1 a2 o9 w9 hq9
  have hk : Okc Z p l e { frames := 8, cells := 1, slots := 6, locals := 133 } s m ([vR 42, vI a1, vI a2, vR 41].map (cv Z)).toArray below meth c 0 0 5 (vx_MQ below (QcO Z (.inr (some r)) w1) (fun _ _ _ => False) ([vR 42, vI a1, vI a2, vR 41].map (cv Z)).toArray s 1 6 (AW Z)) (0, [(0, vR 42), (1, vI a1), (2, vI a2), (3, vR 41)], [], w) := by
    refine exB_ok F [(.aload_n 3, 0, 0, 0, 0), (.iconst 0, 0, 0, 0, 0), (.aload_n 0, 0, 0, 0, 0), (.iload_n 1, 0, 0, 0, 0), (.iload_n 2, 0, 0, 0, 0)] (lv' := [(0, vR 42), (1, vI a1), (2, vI a2), (3, vR 41)]) (st' := [vI a2, vI a1, vR 42, vI 0, vR 41]) (w' := w) (cs := []) (by decide +kernel) rfl (fun _ h => nomatch h) ?_
    refine callV_try (as := [vI a1, vI a2]) (t := [vI 0, vR 41]) (n := 42) (M := mX10_monk) (fr' := 7) (lc' := 110) F hst (by decide +kernel) ml_14_24 rfl rfl rfl (by decide) (by decide) (by decide) (mc1 o9) (ms6 o9) hcon (fun v hv => ?_) (fun k hk H locs ls q ce g1 g2 g3 g4 g5 g6 => ?_)
    · subst hv
      cases v with
      | none => exact nomatch hf9
      | some x =>
        have hf9 : some ((0 : Int32), wup w9 41 0 x) = some (r, w1) := hf9
        cases hf9
        refine exB_ok F [(.i2l, 0, 0, 0, 0), (.lastore, 41, 1, 3, 0)] (lv' := [(0, vR 42), (1, vI a1), (2, vI a2), (3, vR 41)]) (st' := []) (w' := wup w9 41 0 x) (cs := [vp_in 0 1, ((Int32.toInt64 x).toInt32).toInt64 = Int32.toInt64 x]) (by decide +kernel) (by show some _ = some _; rw [long32]; rfl) (fun q hq => by
          rcases List.mem_cons.mp hq with rfl | hq
          · exact vp_in_nI (n := 0) (by decide) (by decide)
          rcases List.mem_cons.mp hq with rfl | hq
          · rw [long32]
          cases hq) ?_
        refine okc_goto (tgt := 17) (off := 7) F (by decide +kernel) (by decide) ?_
        refine exB_ok F [(.iconst 0, 0, 0, 0, 0)] (lv' := [(0, vR 42), (1, vI a1), (2, vI a2), (3, vR 41)]) (st' := [vI 0]) (w' := wup w9 41 0 x) (cs := []) (by decide +kernel) rfl (fun _ h => nomatch h) ?_
        exact okc_ret F B.returns (Nat.zero_le _) (Nat.zero_le _) (by decide +kernel)
    · subst hk
      have hf9 : (bif Nat.beq k 0 then some (1, w9) else none) = some (r, w1) := hf9
      match k, hf9, g6 with
      | 0, hf9, g6 =>
        cases hf9
        refine vx_catch (own := RN 14) (name := "java/util/NoSuchElementException") (E := "java/util/NoSuchElementException") (ce := ce) F.2.2.2.1 [] ⟨0, 10, 13, 18⟩ [] htab (fun z hz => nomatch hz) (by decide) (by decide) (hts _ lk_n) (va_Nw.use rfl (hS9.2.2.1 _ (List.mem_of_getElem? (i := 0) rfl))) g4 g5 g6 ?_
        exact hnd_w (k := 4) (n := 1) (v := 1) F B.returns g3 (by decide) (by decide +kernel) (by decide +kernel) rfl (by decide +kernel) (fun t h9 _ => ⟨⟨some 1, rfl, rfl, by rw [h9]; exact g1⟩, g2.F h9⟩) g2.2.2
      | 1, hf9, g6 =>
        exact nomatch hf9
      | k + 2, hf9, g6 => exact nomatch hf9
  have hcs : (lg_sl ([vR 42, vI a1, vI a2, vR 41].map (cv Z))).length ≤ 5 := by rw [lgsl_len]; exact Nat.le_of_ble_eq_true rfl
  rw [lg_entry_eq]
  have hl := lv_entry ([vR 42, vI a1, vI a2, vR 41].map (cv Z)) hcs
  rw [mlA_ok] at hl
  exact hk s.heap [] _ hP va_S.rf hl
abbrev hL_fish : HI := (yL_fish, method_7_code, 5, [(0, 10, 13, 18)])
noncomputable def H_fish (w : Wld) (a1 : Int32) (a2 : Int32) : Option (Int32 × Wld) := (F_C_fish w a1 a2).bind (fun q => match q.1 with
  | .inl k => bif Nat.beq k 0 then some (1, q.2) else none
  | .inr (some r) => some (0, wup q.2 41 0 r)
  | .inr none => none)
set_option maxHeartbeats 4000000 in
theorem h_fish {Z : ZT} {l : Launch} (w : Wld) (a1 : Int32) (a2 : Int32) (r : Int32) (w1 : Wld) (h : H_fish w a1 a2 = some (r, w1)) : ConH Z l hL_fish 8 132 [vR 42, vI a1, vI a2, vR 41] w r w1 := by
  intro hst
  refine vx_ofWH (cc := method_7_code) (maxL := 5) (ret := some .int) (hh := [(0, 10, 13, 18)]) (by decide +kernel) rfl ?_
  intro p e s m args below meth c s₁ B hml hv
  obtain ⟨⟨rfl, hP, hK, hD, hS9⟩, hNc⟩ := hv
  have hts0 := atoms_spec (ws := wsH hL_fish) B.pre
  have htab : c.exceptionTable.toList = tableOf [(0, 10, 13, 18)] := vx_table (x := yL_fish) B (hts0 _ List.mem_cons_self)
  have hts : ∀ w ∈ TBL, w.before ([vR 42, vI a1, vI a2, vR 41].map (cv Z)).toArray s = true := fun w hw => hts0 w (List.mem_cons_of_mem _ hw)
  have F : Fx Z p l s m ([vR 42, vI a1, vI a2, vR 41].map (cv Z)).toArray meth c 14 5 method_7_code := ⟨B.exec, B.bytes, hml, findClass_of_methodNamed B.named, hts, hK, hD, B.notSynchronized, hS9⟩
  obtain ⟨⟨o9, w9⟩, hq9, hf9⟩ := Option.bind_eq_some_iff.mp h
  have hcon := c_C_fish (Z := Z) (l := l) w a1 a2 o9 w9 hq9
  have hk : Okc Z p l e { frames := 8, cells := 1, slots := 6, locals := 132 } s m ([vR 42, vI a1, vI a2, vR 41].map (cv Z)).toArray below meth c 0 0 5 (vx_MQ below (QcO Z (.inr (some r)) w1) (fun _ _ _ => False) ([vR 42, vI a1, vI a2, vR 41].map (cv Z)).toArray s 1 6 (AW Z)) (0, [(0, vR 42), (1, vI a1), (2, vI a2), (3, vR 41)], [], w) := by
    refine exB_ok F [(.aload_n 3, 0, 0, 0, 0), (.iconst 0, 0, 0, 0, 0), (.aload_n 0, 0, 0, 0, 0), (.iload_n 1, 0, 0, 0, 0), (.iload_n 2, 0, 0, 0, 0)] (lv' := [(0, vR 42), (1, vI a1), (2, vI a2), (3, vR 41)]) (st' := [vI a2, vI a1, vR 42, vI 0, vR 41]) (w' := w) (cs := []) (by decide +kernel) rfl (fun _ h => nomatch h) ?_
    refine callV_try (as := [vI a1, vI a2]) (t := [vI 0, vR 41]) (n := 42) (M := mX10_fish) (fr' := 7) (lc' := 110) F hst (by decide +kernel) ml_14_27 rfl rfl rfl (by decide) (by decide) (by decide) (mc1 o9) (ms6 o9) hcon (fun v hv => ?_) (fun k hk H locs ls q ce g1 g2 g3 g4 g5 g6 => ?_)
    · subst hv
      cases v with
      | none => exact nomatch hf9
      | some x =>
        have hf9 : some ((0 : Int32), wup w9 41 0 x) = some (r, w1) := hf9
        cases hf9
        refine exB_ok F [(.i2l, 0, 0, 0, 0), (.lastore, 41, 1, 3, 0)] (lv' := [(0, vR 42), (1, vI a1), (2, vI a2), (3, vR 41)]) (st' := []) (w' := wup w9 41 0 x) (cs := [vp_in 0 1, ((Int32.toInt64 x).toInt32).toInt64 = Int32.toInt64 x]) (by decide +kernel) (by show some _ = some _; rw [long32]; rfl) (fun q hq => by
          rcases List.mem_cons.mp hq with rfl | hq
          · exact vp_in_nI (n := 0) (by decide) (by decide)
          rcases List.mem_cons.mp hq with rfl | hq
          · rw [long32]
          cases hq) ?_
        refine okc_goto (tgt := 17) (off := 7) F (by decide +kernel) (by decide) ?_
        refine exB_ok F [(.iconst 0, 0, 0, 0, 0)] (lv' := [(0, vR 42), (1, vI a1), (2, vI a2), (3, vR 41)]) (st' := [vI 0]) (w' := wup w9 41 0 x) (cs := []) (by decide +kernel) rfl (fun _ h => nomatch h) ?_
        exact okc_ret F B.returns (Nat.zero_le _) (Nat.zero_le _) (by decide +kernel)
    · subst hk
      have hf9 : (bif Nat.beq k 0 then some (1, w9) else none) = some (r, w1) := hf9
      match k, hf9, g6 with
      | 0, hf9, g6 =>
        cases hf9
        refine vx_catch (own := RN 14) (name := "java/util/NoSuchElementException") (E := "java/util/NoSuchElementException") (ce := ce) F.2.2.2.1 [] ⟨0, 10, 13, 18⟩ [] htab (fun z hz => nomatch hz) (by decide) (by decide) (hts _ lk_n) (va_Nw.use rfl (hS9.2.2.1 _ (List.mem_of_getElem? (i := 0) rfl))) g4 g5 g6 ?_
        exact hnd_w (k := 4) (n := 1) (v := 1) F B.returns g3 (by decide) (by decide +kernel) (by decide +kernel) rfl (by decide +kernel) (fun t h9 _ => ⟨⟨some 1, rfl, rfl, by rw [h9]; exact g1⟩, g2.F h9⟩) g2.2.2
      | 1, hf9, g6 =>
        exact nomatch hf9
      | k + 2, hf9, g6 => exact nomatch hf9
  have hcs : (lg_sl ([vR 42, vI a1, vI a2, vR 41].map (cv Z))).length ≤ 5 := by rw [lgsl_len]; exact Nat.le_of_ble_eq_true rfl
  rw [lg_entry_eq]
  have hl := lv_entry ([vR 42, vI a1, vI a2, vR 41].map (cv Z)) hcs
  rw [mlA_ok] at hl
  exact hk s.heap [] _ hP va_S.rf hl
abbrev hL_pray : HI := (yL_pray, method_8_code, 5, [(0, 10, 13, 18)])
noncomputable def H_pray (w : Wld) (a1 : Int32) (a2 : Int32) : Option (Int32 × Wld) := (F_C_pray w a1 a2).bind (fun q => match q.1 with
  | .inl k => bif Nat.beq k 0 then some (1, q.2) else none
  | .inr (some r) => some (0, wup q.2 41 0 r)
  | .inr none => none)
set_option maxHeartbeats 4000000 in
theorem h_pray {Z : ZT} {l : Launch} (w : Wld) (a1 : Int32) (a2 : Int32) (r : Int32) (w1 : Wld) (h : H_pray w a1 a2 = some (r, w1)) : ConH Z l hL_pray 8 132 [vR 42, vI a1, vI a2, vR 41] w r w1 := by
  intro hst
  refine vx_ofWH (cc := method_8_code) (maxL := 5) (ret := some .int) (hh := [(0, 10, 13, 18)]) (by decide +kernel) rfl ?_
  intro p e s m args below meth c s₁ B hml hv
  obtain ⟨⟨rfl, hP, hK, hD, hS9⟩, hNc⟩ := hv
  have hts0 := atoms_spec (ws := wsH hL_pray) B.pre
  have htab : c.exceptionTable.toList = tableOf [(0, 10, 13, 18)] := vx_table (x := yL_pray) B (hts0 _ List.mem_cons_self)
  have hts : ∀ w ∈ TBL, w.before ([vR 42, vI a1, vI a2, vR 41].map (cv Z)).toArray s = true := fun w hw => hts0 w (List.mem_cons_of_mem _ hw)
  have F : Fx Z p l s m ([vR 42, vI a1, vI a2, vR 41].map (cv Z)).toArray meth c 14 5 method_8_code := ⟨B.exec, B.bytes, hml, findClass_of_methodNamed B.named, hts, hK, hD, B.notSynchronized, hS9⟩
  obtain ⟨⟨o9, w9⟩, hq9, hf9⟩ := Option.bind_eq_some_iff.mp h
  have hcon := c_C_pray (Z := Z) (l := l) w a1 a2 o9 w9 hq9
  have hk : Okc Z p l e { frames := 8, cells := 1, slots := 6, locals := 132 } s m ([vR 42, vI a1, vI a2, vR 41].map (cv Z)).toArray below meth c 0 0 5 (vx_MQ below (QcO Z (.inr (some r)) w1) (fun _ _ _ => False) ([vR 42, vI a1, vI a2, vR 41].map (cv Z)).toArray s 1 6 (AW Z)) (0, [(0, vR 42), (1, vI a1), (2, vI a2), (3, vR 41)], [], w) := by
    refine exB_ok F [(.aload_n 3, 0, 0, 0, 0), (.iconst 0, 0, 0, 0, 0), (.aload_n 0, 0, 0, 0, 0), (.iload_n 1, 0, 0, 0, 0), (.iload_n 2, 0, 0, 0, 0)] (lv' := [(0, vR 42), (1, vI a1), (2, vI a2), (3, vR 41)]) (st' := [vI a2, vI a1, vR 42, vI 0, vR 41]) (w' := w) (cs := []) (by decide +kernel) rfl (fun _ h => nomatch h) ?_
    refine callV_try (as := [vI a1, vI a2]) (t := [vI 0, vR 41]) (n := 42) (M := mX10_pray) (fr' := 7) (lc' := 110) F hst (by decide +kernel) ml_14_30 rfl rfl rfl (by decide) (by decide) (by decide) (mc1 o9) (ms6 o9) hcon (fun v hv => ?_) (fun k hk H locs ls q ce g1 g2 g3 g4 g5 g6 => ?_)
    · subst hv
      cases v with
      | none => exact nomatch hf9
      | some x =>
        have hf9 : some ((0 : Int32), wup w9 41 0 x) = some (r, w1) := hf9
        cases hf9
        refine exB_ok F [(.i2l, 0, 0, 0, 0), (.lastore, 41, 1, 3, 0)] (lv' := [(0, vR 42), (1, vI a1), (2, vI a2), (3, vR 41)]) (st' := []) (w' := wup w9 41 0 x) (cs := [vp_in 0 1, ((Int32.toInt64 x).toInt32).toInt64 = Int32.toInt64 x]) (by decide +kernel) (by show some _ = some _; rw [long32]; rfl) (fun q hq => by
          rcases List.mem_cons.mp hq with rfl | hq
          · exact vp_in_nI (n := 0) (by decide) (by decide)
          rcases List.mem_cons.mp hq with rfl | hq
          · rw [long32]
          cases hq) ?_
        refine okc_goto (tgt := 17) (off := 7) F (by decide +kernel) (by decide) ?_
        refine exB_ok F [(.iconst 0, 0, 0, 0, 0)] (lv' := [(0, vR 42), (1, vI a1), (2, vI a2), (3, vR 41)]) (st' := [vI 0]) (w' := wup w9 41 0 x) (cs := []) (by decide +kernel) rfl (fun _ h => nomatch h) ?_
        exact okc_ret F B.returns (Nat.zero_le _) (Nat.zero_le _) (by decide +kernel)
    · subst hk
      have hf9 : (bif Nat.beq k 0 then some (1, w9) else none) = some (r, w1) := hf9
      match k, hf9, g6 with
      | 0, hf9, g6 =>
        cases hf9
        refine vx_catch (own := RN 14) (name := "java/util/NoSuchElementException") (E := "java/util/NoSuchElementException") (ce := ce) F.2.2.2.1 [] ⟨0, 10, 13, 18⟩ [] htab (fun z hz => nomatch hz) (by decide) (by decide) (hts _ lk_n) (va_Nw.use rfl (hS9.2.2.1 _ (List.mem_of_getElem? (i := 0) rfl))) g4 g5 g6 ?_
        exact hnd_w (k := 4) (n := 1) (v := 1) F B.returns g3 (by decide) (by decide +kernel) (by decide +kernel) rfl (by decide +kernel) (fun t h9 _ => ⟨⟨some 1, rfl, rfl, by rw [h9]; exact g1⟩, g2.F h9⟩) g2.2.2
      | 1, hf9, g6 =>
        exact nomatch hf9
      | k + 2, hf9, g6 => exact nomatch hf9
  have hcs : (lg_sl ([vR 42, vI a1, vI a2, vR 41].map (cv Z))).length ≤ 5 := by rw [lgsl_len]; exact Nat.le_of_ble_eq_true rfl
  rw [lg_entry_eq]
  have hl := lv_entry ([vR 42, vI a1, vI a2, vR 41].map (cv Z)) hcs
  rw [mlA_ok] at hl
  exact hk s.heap [] _ hP va_S.rf hl
abbrev hL_tie : HI := (yL_tie, method_9_code, 5, [(0, 17, 20, 18)])
noncomputable def H_tie (w : Wld) (a1 : Int32) (a2 : Int32) : Option (Int32 × Wld) := (F_C_tie w a1 a2).bind (fun q => match q.1 with
  | .inl k => bif Nat.beq k 0 then some (1, q.2) else none
  | .inr (some r) => br (r = 0) (some (0, wup q.2 41 0 0)) (some (0, wup q.2 41 0 1))
  | .inr none => none)
set_option maxHeartbeats 4000000 in
theorem h_tie {Z : ZT} {l : Launch} (w : Wld) (a1 : Int32) (a2 : Int32) (r : Int32) (w1 : Wld) (h : H_tie w a1 a2 = some (r, w1)) : ConH Z l hL_tie 8 134 [vR 42, vI a1, vI a2, vR 41] w r w1 := by
  intro hst
  refine vx_ofWH (cc := method_9_code) (maxL := 5) (ret := some .int) (hh := [(0, 17, 20, 18)]) (by decide +kernel) rfl ?_
  intro p e s m args below meth c s₁ B hml hv
  obtain ⟨⟨rfl, hP, hK, hD, hS9⟩, hNc⟩ := hv
  have hts0 := atoms_spec (ws := wsH hL_tie) B.pre
  have htab : c.exceptionTable.toList = tableOf [(0, 17, 20, 18)] := vx_table (x := yL_tie) B (hts0 _ List.mem_cons_self)
  have hts : ∀ w ∈ TBL, w.before ([vR 42, vI a1, vI a2, vR 41].map (cv Z)).toArray s = true := fun w hw => hts0 w (List.mem_cons_of_mem _ hw)
  have F : Fx Z p l s m ([vR 42, vI a1, vI a2, vR 41].map (cv Z)).toArray meth c 14 5 method_9_code := ⟨B.exec, B.bytes, hml, findClass_of_methodNamed B.named, hts, hK, hD, B.notSynchronized, hS9⟩
  obtain ⟨⟨o9, w9⟩, hq9, hf9⟩ := Option.bind_eq_some_iff.mp h
  have hcon := c_C_tie (Z := Z) (l := l) w a1 a2 o9 w9 hq9
  have hk : Okc Z p l e { frames := 8, cells := 1, slots := 6, locals := 134 } s m ([vR 42, vI a1, vI a2, vR 41].map (cv Z)).toArray below meth c 0 0 5 (vx_MQ below (QcO Z (.inr (some r)) w1) (fun _ _ _ => False) ([vR 42, vI a1, vI a2, vR 41].map (cv Z)).toArray s 1 6 (AW Z)) (0, [(0, vR 42), (1, vI a1), (2, vI a2), (3, vR 41)], [], w) := by
    refine exB_ok F [(.aload_n 3, 0, 0, 0, 0), (.iconst 0, 0, 0, 0, 0), (.aload_n 0, 0, 0, 0, 0), (.iload_n 1, 0, 0, 0, 0), (.iload_n 2, 0, 0, 0, 0)] (lv' := [(0, vR 42), (1, vI a1), (2, vI a2), (3, vR 41)]) (st' := [vI a2, vI a1, vR 42, vI 0, vR 41]) (w' := w) (cs := []) (by decide +kernel) rfl (fun _ h => nomatch h) ?_
    refine callV_try (as := [vI a1, vI a2]) (t := [vI 0, vR 41]) (n := 42) (M := mX10_tie) (fr' := 7) (lc' := 110) F hst (by decide +kernel) ml_14_33 rfl rfl rfl (by decide) (by decide) (by decide) (mc1 o9) (ms6 o9) hcon (fun v hv => ?_) (fun k hk H locs ls q ce g1 g2 g3 g4 g5 g6 => ?_)
    · subst hv
      cases v with
      | none => exact nomatch hf9
      | some x =>
        have hf9 : br (x = 0) (some ((0 : Int32), wup w9 41 0 0)) (some (0, wup w9 41 0 1)) = some (r, w1) := hf9
        refine brn_ok (i := .ifCond .eq 7) (tgt := 15) (q := x = 0) (t := [vI 0, vR 41]) F (by decide +kernel) rfl (by decide) (fun hz => ?_) (fun hz => ?_)
        · rw [br_pos hz] at hf9
          cases hf9
          refine exB_ok F [(.lconst 0, 0, 0, 0, 0)] (lv' := [(0, vR 42), (1, vI a1), (2, vI a2), (3, vR 41)]) (st' := [vL (Int32.toInt64 0), vI 0, vR 41]) (w' := w9) (cs := []) (by decide +kernel) rfl (fun _ h => nomatch h) ?_
          refine exB_ok F [(.lastore, 41, 1, 3, 0)] (lv' := [(0, vR 42), (1, vI a1), (2, vI a2), (3, vR 41)]) (st' := []) (w' := wup w9 41 0 0) (cs := [vp_in 0 1, ((Int32.toInt64 0).toInt32).toInt64 = Int32.toInt64 0]) (by decide +kernel) (by show some _ = some _; rw [long32]; rfl) (fun q hq => by
            rcases List.mem_cons.mp hq with rfl | hq
            · exact vp_in_nI (n := 0) (by decide) (by decide)
            rcases List.mem_cons.mp hq with rfl | hq
            · rw [long32]
            cases hq) ?_
          refine okc_goto (tgt := 24) (off := 7) F (by decide +kernel) (by decide) ?_
          refine exB_ok F [(.iconst 0, 0, 0, 0, 0)] (lv' := [(0, vR 42), (1, vI a1), (2, vI a2), (3, vR 41)]) (st' := [vI 0]) (w' := wup w9 41 0 0) (cs := []) (by decide +kernel) rfl (fun _ h => nomatch h) ?_
          exact okc_ret F B.returns (Nat.zero_le _) (Nat.zero_le _) (by decide +kernel)
        · rw [br_neg hz] at hf9
          cases hf9
          refine exB_ok F [(.lconst 1, 0, 0, 0, 1)] (lv' := [(0, vR 42), (1, vI a1), (2, vI a2), (3, vR 41)]) (st' := [vL (Int32.toInt64 1), vI 0, vR 41]) (w' := w9) (cs := []) (by decide +kernel) rfl (fun _ h => nomatch h) ?_
          refine okc_goto (tgt := 16) (off := 4) F (by decide +kernel) (by decide) ?_
          refine exB_ok F [(.lastore, 41, 1, 3, 0)] (lv' := [(0, vR 42), (1, vI a1), (2, vI a2), (3, vR 41)]) (st' := []) (w' := wup w9 41 0 1) (cs := [vp_in 0 1, ((Int32.toInt64 1).toInt32).toInt64 = Int32.toInt64 1]) (by decide +kernel) (by show some _ = some _; rw [long32]; rfl) (fun q hq => by
            rcases List.mem_cons.mp hq with rfl | hq
            · exact vp_in_nI (n := 0) (by decide) (by decide)
            rcases List.mem_cons.mp hq with rfl | hq
            · rw [long32]
            cases hq) ?_
          refine okc_goto (tgt := 24) (off := 7) F (by decide +kernel) (by decide) ?_
          refine exB_ok F [(.iconst 0, 0, 0, 0, 0)] (lv' := [(0, vR 42), (1, vI a1), (2, vI a2), (3, vR 41)]) (st' := [vI 0]) (w' := wup w9 41 0 1) (cs := []) (by decide +kernel) rfl (fun _ h => nomatch h) ?_
          exact okc_ret F B.returns (Nat.zero_le _) (Nat.zero_le _) (by decide +kernel)
    · subst hk
      have hf9 : (bif Nat.beq k 0 then some (1, w9) else none) = some (r, w1) := hf9
      match k, hf9, g6 with
      | 0, hf9, g6 =>
        cases hf9
        refine vx_catch (own := RN 14) (name := "java/util/NoSuchElementException") (E := "java/util/NoSuchElementException") (ce := ce) F.2.2.2.1 [] ⟨0, 17, 20, 18⟩ [] htab (fun z hz => nomatch hz) (by decide) (by decide) (hts _ lk_n) (va_Nw.use rfl (hS9.2.2.1 _ (List.mem_of_getElem? (i := 0) rfl))) g4 g5 g6 ?_
        exact hnd_w (k := 4) (n := 1) (v := 1) F B.returns g3 (by decide) (by decide +kernel) (by decide +kernel) rfl (by decide +kernel) (fun t h9 _ => ⟨⟨some 1, rfl, rfl, by rw [h9]; exact g1⟩, g2.F h9⟩) g2.2.2
      | 1, hf9, g6 =>
        exact nomatch hf9
      | k + 2, hf9, g6 => exact nomatch hf9
  have hcs : (lg_sl ([vR 42, vI a1, vI a2, vR 41].map (cv Z))).length ≤ 5 := by rw [lgsl_len]; exact Nat.le_of_ble_eq_true rfl
  rw [lg_entry_eq]
  have hl := lv_entry ([vR 42, vI a1, vI a2, vR 41].map (cv Z)) hcs
  rw [mlA_ok] at hl
  exact hk s.heap [] _ hP va_S.rf hl
abbrev hL_move : HI := (yL_move, method_10_code, 5, [(0, 10, 13, 18)])
noncomputable def H_move (w : Wld) (a1 : Int32) (a2 : Int32) : Option (Int32 × Wld) := (F_C_move w a1 a2).bind (fun q => match q.1 with
  | .inl k => bif Nat.beq k 0 then some (1, q.2) else none
  | .inr (some r) => some (0, wup q.2 41 0 r)
  | .inr none => none)
set_option maxHeartbeats 4000000 in
theorem h_move {Z : ZT} {l : Launch} (w : Wld) (a1 : Int32) (a2 : Int32) (r : Int32) (w1 : Wld) (h : H_move w a1 a2 = some (r, w1)) : ConH Z l hL_move 8 148 [vR 42, vI a1, vI a2, vR 41] w r w1 := by
  intro hst
  refine vx_ofWH (cc := method_10_code) (maxL := 5) (ret := some .int) (hh := [(0, 10, 13, 18)]) (by decide +kernel) rfl ?_
  intro p e s m args below meth c s₁ B hml hv
  obtain ⟨⟨rfl, hP, hK, hD, hS9⟩, hNc⟩ := hv
  have hts0 := atoms_spec (ws := wsH hL_move) B.pre
  have htab : c.exceptionTable.toList = tableOf [(0, 10, 13, 18)] := vx_table (x := yL_move) B (hts0 _ List.mem_cons_self)
  have hts : ∀ w ∈ TBL, w.before ([vR 42, vI a1, vI a2, vR 41].map (cv Z)).toArray s = true := fun w hw => hts0 w (List.mem_cons_of_mem _ hw)
  have F : Fx Z p l s m ([vR 42, vI a1, vI a2, vR 41].map (cv Z)).toArray meth c 14 5 method_10_code := ⟨B.exec, B.bytes, hml, findClass_of_methodNamed B.named, hts, hK, hD, B.notSynchronized, hS9⟩
  obtain ⟨⟨o9, w9⟩, hq9, hf9⟩ := Option.bind_eq_some_iff.mp h
  have hcon := c_C_move (Z := Z) (l := l) w a1 a2 o9 w9 hq9
  have hk : Okc Z p l e { frames := 8, cells := 1, slots := 6, locals := 148 } s m ([vR 42, vI a1, vI a2, vR 41].map (cv Z)).toArray below meth c 0 0 5 (vx_MQ below (QcO Z (.inr (some r)) w1) (fun _ _ _ => False) ([vR 42, vI a1, vI a2, vR 41].map (cv Z)).toArray s 1 6 (AW Z)) (0, [(0, vR 42), (1, vI a1), (2, vI a2), (3, vR 41)], [], w) := by
    refine exB_ok F [(.aload_n 3, 0, 0, 0, 0), (.iconst 0, 0, 0, 0, 0), (.aload_n 0, 0, 0, 0, 0), (.iload_n 1, 0, 0, 0, 0), (.iload_n 2, 0, 0, 0, 0)] (lv' := [(0, vR 42), (1, vI a1), (2, vI a2), (3, vR 41)]) (st' := [vI a2, vI a1, vR 42, vI 0, vR 41]) (w' := w) (cs := []) (by decide +kernel) rfl (fun _ h => nomatch h) ?_
    refine callV_try (as := [vI a1, vI a2]) (t := [vI 0, vR 41]) (n := 42) (M := mX10_move) (fr' := 7) (lc' := 126) F hst (by decide +kernel) ml_14_37 rfl rfl rfl (by decide) (by decide) (by decide) (mc1 o9) (ms6 o9) hcon (fun v hv => ?_) (fun k hk H locs ls q ce g1 g2 g3 g4 g5 g6 => ?_)
    · subst hv
      cases v with
      | none => exact nomatch hf9
      | some x =>
        have hf9 : some ((0 : Int32), wup w9 41 0 x) = some (r, w1) := hf9
        cases hf9
        refine exB_ok F [(.i2l, 0, 0, 0, 0), (.lastore, 41, 1, 3, 0)] (lv' := [(0, vR 42), (1, vI a1), (2, vI a2), (3, vR 41)]) (st' := []) (w' := wup w9 41 0 x) (cs := [vp_in 0 1, ((Int32.toInt64 x).toInt32).toInt64 = Int32.toInt64 x]) (by decide +kernel) (by show some _ = some _; rw [long32]; rfl) (fun q hq => by
          rcases List.mem_cons.mp hq with rfl | hq
          · exact vp_in_nI (n := 0) (by decide) (by decide)
          rcases List.mem_cons.mp hq with rfl | hq
          · rw [long32]
          cases hq) ?_
        refine okc_goto (tgt := 17) (off := 7) F (by decide +kernel) (by decide) ?_
        refine exB_ok F [(.iconst 0, 0, 0, 0, 0)] (lv' := [(0, vR 42), (1, vI a1), (2, vI a2), (3, vR 41)]) (st' := [vI 0]) (w' := wup w9 41 0 x) (cs := []) (by decide +kernel) rfl (fun _ h => nomatch h) ?_
        exact okc_ret F B.returns (Nat.zero_le _) (Nat.zero_le _) (by decide +kernel)
    · subst hk
      have hf9 : (bif Nat.beq k 0 then some (1, w9) else none) = some (r, w1) := hf9
      match k, hf9, g6 with
      | 0, hf9, g6 =>
        cases hf9
        refine vx_catch (own := RN 14) (name := "java/util/NoSuchElementException") (E := "java/util/NoSuchElementException") (ce := ce) F.2.2.2.1 [] ⟨0, 10, 13, 18⟩ [] htab (fun z hz => nomatch hz) (by decide) (by decide) (hts _ lk_n) (va_Nw.use rfl (hS9.2.2.1 _ (List.mem_of_getElem? (i := 0) rfl))) g4 g5 g6 ?_
        exact hnd_w (k := 4) (n := 1) (v := 1) F B.returns g3 (by decide) (by decide +kernel) (by decide +kernel) rfl (by decide +kernel) (fun t h9 _ => ⟨⟨some 1, rfl, rfl, by rw [h9]; exact g1⟩, g2.F h9⟩) g2.2.2
      | 1, hf9, g6 =>
        exact nomatch hf9
      | k + 2, hf9, g6 => exact nomatch hf9
  have hcs : (lg_sl ([vR 42, vI a1, vI a2, vR 41].map (cv Z))).length ≤ 5 := by rw [lgsl_len]; exact Nat.le_of_ble_eq_true rfl
  rw [lg_entry_eq]
  have hl := lv_entry ([vR 42, vI a1, vI a2, vR 41].map (cv Z)) hcs
  rw [mlA_ok] at hl
  exact hk s.heap [] _ hP va_S.rf hl
abbrev hL_door : HI := (yL_door, method_11_code, 6, [(0, 12, 15, 18)])
noncomputable def H_door (w : Wld) (a1 : Int32) (a2 : Int32) (a3 : Int32) : Option (Int32 × Wld) := (F_C_door w a1 a2 a3).bind (fun q => match q.1 with
  | .inl k => bif Nat.beq k 0 then some (1, q.2) else none
  | .inr (some r) => some (0, wup q.2 41 0 r)
  | .inr none => none)
set_option maxHeartbeats 4000000 in
theorem h_door {Z : ZT} {l : Launch} (w : Wld) (a1 : Int32) (a2 : Int32) (a3 : Int32) (r : Int32) (w1 : Wld) (h : H_door w a1 a2 a3 = some (r, w1)) : ConH Z l hL_door 8 149 [vR 42, vI a1, vI a2, vI a3, vR 41] w r w1 := by
  intro hst
  refine vx_ofWH (cc := method_11_code) (maxL := 6) (ret := some .int) (hh := [(0, 12, 15, 18)]) (by decide +kernel) rfl ?_
  intro p e s m args below meth c s₁ B hml hv
  obtain ⟨⟨rfl, hP, hK, hD, hS9⟩, hNc⟩ := hv
  have hts0 := atoms_spec (ws := wsH hL_door) B.pre
  have htab : c.exceptionTable.toList = tableOf [(0, 12, 15, 18)] := vx_table (x := yL_door) B (hts0 _ List.mem_cons_self)
  have hts : ∀ w ∈ TBL, w.before ([vR 42, vI a1, vI a2, vI a3, vR 41].map (cv Z)).toArray s = true := fun w hw => hts0 w (List.mem_cons_of_mem _ hw)
  have F : Fx Z p l s m ([vR 42, vI a1, vI a2, vI a3, vR 41].map (cv Z)).toArray meth c 14 6 method_11_code := ⟨B.exec, B.bytes, hml, findClass_of_methodNamed B.named, hts, hK, hD, B.notSynchronized, hS9⟩
  obtain ⟨⟨o9, w9⟩, hq9, hf9⟩ := Option.bind_eq_some_iff.mp h
  have hcon := c_C_door (Z := Z) (l := l) w a1 a2 a3 o9 w9 hq9
  have hk : Okc Z p l e { frames := 8, cells := 1, slots := 6, locals := 149 } s m ([vR 42, vI a1, vI a2, vI a3, vR 41].map (cv Z)).toArray below meth c 0 0 6 (vx_MQ below (QcO Z (.inr (some r)) w1) (fun _ _ _ => False) ([vR 42, vI a1, vI a2, vI a3, vR 41].map (cv Z)).toArray s 1 6 (AW Z)) (0, [(0, vR 42), (1, vI a1), (2, vI a2), (3, vI a3), (4, vR 41)], [], w) := by
    refine exB_ok F [(.aload 4, 0, 0, 0, 0), (.iconst 0, 0, 0, 0, 0), (.aload_n 0, 0, 0, 0, 0), (.iload_n 1, 0, 0, 0, 0), (.iload_n 2, 0, 0, 0, 0), (.iload_n 3, 0, 0, 0, 0)] (lv' := [(0, vR 42), (1, vI a1), (2, vI a2), (3, vI a3), (4, vR 41)]) (st' := [vI a3, vI a2, vI a1, vR 42, vI 0, vR 41]) (w' := w) (cs := []) (by decide +kernel) rfl (fun _ h => nomatch h) ?_
    refine callV_try (as := [vI a1, vI a2, vI a3]) (t := [vI 0, vR 41]) (n := 42) (M := mX10_door) (fr' := 7) (lc' := 126) F hst (by decide +kernel) ml_14_40 rfl rfl rfl (by decide) (by decide) (by decide) (mc1 o9) (ms6 o9) hcon (fun v hv => ?_) (fun k hk H locs ls q ce g1 g2 g3 g4 g5 g6 => ?_)
    · subst hv
      cases v with
      | none => exact nomatch hf9
      | some x =>
        have hf9 : some ((0 : Int32), wup w9 41 0 x) = some (r, w1) := hf9
        cases hf9
        refine exB_ok F [(.i2l, 0, 0, 0, 0), (.lastore, 41, 1, 3, 0)] (lv' := [(0, vR 42), (1, vI a1), (2, vI a2), (3, vI a3), (4, vR 41)]) (st' := []) (w' := wup w9 41 0 x) (cs := [vp_in 0 1, ((Int32.toInt64 x).toInt32).toInt64 = Int32.toInt64 x]) (by decide +kernel) (by show some _ = some _; rw [long32]; rfl) (fun q hq => by
          rcases List.mem_cons.mp hq with rfl | hq
          · exact vp_in_nI (n := 0) (by decide) (by decide)
          rcases List.mem_cons.mp hq with rfl | hq
          · rw [long32]
          cases hq) ?_
        refine okc_goto (tgt := 19) (off := 7) F (by decide +kernel) (by decide) ?_
        refine exB_ok F [(.iconst 0, 0, 0, 0, 0)] (lv' := [(0, vR 42), (1, vI a1), (2, vI a2), (3, vI a3), (4, vR 41)]) (st' := [vI 0]) (w' := wup w9 41 0 x) (cs := []) (by decide +kernel) rfl (fun _ h => nomatch h) ?_
        exact okc_ret F B.returns (Nat.zero_le _) (Nat.zero_le _) (by decide +kernel)
    · subst hk
      have hf9 : (bif Nat.beq k 0 then some (1, w9) else none) = some (r, w1) := hf9
      match k, hf9, g6 with
      | 0, hf9, g6 =>
        cases hf9
        refine vx_catch (own := RN 14) (name := "java/util/NoSuchElementException") (E := "java/util/NoSuchElementException") (ce := ce) F.2.2.2.1 [] ⟨0, 12, 15, 18⟩ [] htab (fun z hz => nomatch hz) (by decide) (by decide) (hts _ lk_n) (va_Nw.use rfl (hS9.2.2.1 _ (List.mem_of_getElem? (i := 0) rfl))) g4 g5 g6 ?_
        exact hnd_w (k := 5) (n := 1) (v := 1) F B.returns g3 (by decide) (by decide +kernel) (by decide +kernel) rfl (by decide +kernel) (fun t h9 _ => ⟨⟨some 1, rfl, rfl, by rw [h9]; exact g1⟩, g2.F h9⟩) g2.2.2
      | 1, hf9, g6 =>
        exact nomatch hf9
      | k + 2, hf9, g6 => exact nomatch hf9
  have hcs : (lg_sl ([vR 42, vI a1, vI a2, vI a3, vR 41].map (cv Z))).length ≤ 6 := by rw [lgsl_len]; exact Nat.le_of_ble_eq_true rfl
  rw [lg_entry_eq]
  have hl := lv_entry ([vR 42, vI a1, vI a2, vI a3, vR 41].map (cv Z)) hcs
  rw [mlA_ok] at hl
  exact hk s.heap [] _ hP va_S.rf hl
abbrev hL_up : HI := (yL_up, method_12_code, 5, [(0, 10, 13, 18), (0, 10, 17, 13)])
noncomputable def H_up (w : Wld) (a1 : Int32) (a2 : Int32) : Option (Int32 × Wld) := (F_C_up w a1 a2).bind (fun q => match q.1 with
  | .inl k => bif Nat.beq k 0 then some (1, q.2) else bif Nat.beq k 1 then some (2, q.2) else none
  | .inr (some r) => some (0, wup q.2 41 0 r)
  | .inr none => none)
set_option maxHeartbeats 4000000 in
theorem h_up {Z : ZT} {l : Launch} (w : Wld) (a1 : Int32) (a2 : Int32) (r : Int32) (w1 : Wld) (h : H_up w a1 a2 = some (r, w1)) : ConH Z l hL_up 8 158 [vR 42, vI a1, vI a2, vR 41] w r w1 := by
  intro hst
  refine vx_ofWH (cc := method_12_code) (maxL := 5) (ret := some .int) (hh := [(0, 10, 13, 18), (0, 10, 17, 13)]) (by decide +kernel) rfl ?_
  intro p e s m args below meth c s₁ B hml hv
  obtain ⟨⟨rfl, hP, hK, hD, hS9⟩, hNc⟩ := hv
  have hts0 := atoms_spec (ws := wsH hL_up) B.pre
  have htab : c.exceptionTable.toList = tableOf [(0, 10, 13, 18), (0, 10, 17, 13)] := vx_table (x := yL_up) B (hts0 _ List.mem_cons_self)
  have hts : ∀ w ∈ TBL, w.before ([vR 42, vI a1, vI a2, vR 41].map (cv Z)).toArray s = true := fun w hw => hts0 w (List.mem_cons_of_mem _ hw)
  have F : Fx Z p l s m ([vR 42, vI a1, vI a2, vR 41].map (cv Z)).toArray meth c 14 5 method_12_code := ⟨B.exec, B.bytes, hml, findClass_of_methodNamed B.named, hts, hK, hD, B.notSynchronized, hS9⟩
  obtain ⟨⟨o9, w9⟩, hq9, hf9⟩ := Option.bind_eq_some_iff.mp h
  have hcon := c_C_up (Z := Z) (l := l) w a1 a2 o9 w9 hq9
  have hk : Okc Z p l e { frames := 8, cells := 1, slots := 6, locals := 158 } s m ([vR 42, vI a1, vI a2, vR 41].map (cv Z)).toArray below meth c 0 0 5 (vx_MQ below (QcO Z (.inr (some r)) w1) (fun _ _ _ => False) ([vR 42, vI a1, vI a2, vR 41].map (cv Z)).toArray s 1 6 (AW Z)) (0, [(0, vR 42), (1, vI a1), (2, vI a2), (3, vR 41)], [], w) := by
    refine exB_ok F [(.aload_n 3, 0, 0, 0, 0), (.iconst 0, 0, 0, 0, 0), (.aload_n 0, 0, 0, 0, 0), (.iload_n 1, 0, 0, 0, 0), (.iload_n 2, 0, 0, 0, 0)] (lv' := [(0, vR 42), (1, vI a1), (2, vI a2), (3, vR 41)]) (st' := [vI a2, vI a1, vR 42, vI 0, vR 41]) (w' := w) (cs := []) (by decide +kernel) rfl (fun _ h => nomatch h) ?_
    refine callV_try (as := [vI a1, vI a2]) (t := [vI 0, vR 41]) (n := 42) (M := mX10_up) (fr' := 7) (lc' := 136) F hst (by decide +kernel) ml_14_44 rfl rfl rfl (by decide) (by decide) (by decide) (mc1 o9) (ms6 o9) hcon (fun v hv => ?_) (fun k hk H locs ls q ce g1 g2 g3 g4 g5 g6 => ?_)
    · subst hv
      cases v with
      | none => exact nomatch hf9
      | some x =>
        have hf9 : some ((0 : Int32), wup w9 41 0 x) = some (r, w1) := hf9
        cases hf9
        refine exB_ok F [(.i2l, 0, 0, 0, 0), (.lastore, 41, 1, 3, 0)] (lv' := [(0, vR 42), (1, vI a1), (2, vI a2), (3, vR 41)]) (st' := []) (w' := wup w9 41 0 x) (cs := [vp_in 0 1, ((Int32.toInt64 x).toInt32).toInt64 = Int32.toInt64 x]) (by decide +kernel) (by show some _ = some _; rw [long32]; rfl) (fun q hq => by
          rcases List.mem_cons.mp hq with rfl | hq
          · exact vp_in_nI (n := 0) (by decide) (by decide)
          rcases List.mem_cons.mp hq with rfl | hq
          · rw [long32]
          cases hq) ?_
        refine okc_goto (tgt := 21) (off := 11) F (by decide +kernel) (by decide) ?_
        refine exB_ok F [(.iconst 0, 0, 0, 0, 0)] (lv' := [(0, vR 42), (1, vI a1), (2, vI a2), (3, vR 41)]) (st' := [vI 0]) (w' := wup w9 41 0 x) (cs := []) (by decide +kernel) rfl (fun _ h => nomatch h) ?_
        exact okc_ret F B.returns (Nat.zero_le _) (Nat.zero_le _) (by decide +kernel)
    · subst hk
      have hf9 : (bif Nat.beq k 0 then some (1, w9) else bif Nat.beq k 1 then some (2, w9) else none) = some (r, w1) := hf9
      match k, hf9, g6 with
      | 0, hf9, g6 =>
        cases hf9
        refine vx_catch (own := RN 14) (name := "java/util/NoSuchElementException") (E := "java/util/NoSuchElementException") (ce := ce) F.2.2.2.1 [] ⟨0, 10, 13, 18⟩ [⟨0, 10, 17, 13⟩] htab (fun z hz => nomatch hz) (by decide) (by decide) (hts _ lk_n) (va_Nw.use rfl (hS9.2.2.1 _ (List.mem_of_getElem? (i := 0) rfl))) g4 g5 g6 ?_
        exact hnd_w (k := 4) (n := 1) (v := 1) F B.returns g3 (by decide) (by decide +kernel) (by decide +kernel) rfl (by decide +kernel) (fun t h9 _ => ⟨⟨some 1, rfl, rfl, by rw [h9]; exact g1⟩, g2.F h9⟩) g2.2.2
      | 1, hf9, g6 =>
        cases hf9
        refine vx_catch (own := RN 14) (name := "java/lang/IllegalArgumentException") (E := "java/lang/IllegalArgumentException") (ce := ce) F.2.2.2.1 [⟨0, 10, 13, 18⟩] ⟨0, 10, 17, 13⟩ [] htab (fun z hz => by
          rcases List.mem_cons.mp hz with rfl | hz
          · exact Or.inr ⟨by decide, "java/util/NoSuchElementException", hts _ lk_n, hNc⟩
          · cases hz) (by decide) (by decide) (hts _ lk_i) (va_Nw.use rfl (hS9.2.2.1 _ (List.mem_of_getElem? (i := 1) rfl))) g4 g5 g6 ?_
        exact hnd_w (k := 4) (n := 2) (v := 2) F B.returns g3 (by decide) (by decide +kernel) (by decide +kernel) rfl (by decide +kernel) (fun t h9 _ => ⟨⟨some 2, rfl, rfl, by rw [h9]; exact g1⟩, g2.F h9⟩) g2.2.2
      | k + 2, hf9, g6 => exact nomatch hf9
  have hcs : (lg_sl ([vR 42, vI a1, vI a2, vR 41].map (cv Z))).length ≤ 5 := by rw [lgsl_len]; exact Nat.le_of_ble_eq_true rfl
  rw [lg_entry_eq]
  have hl := lv_entry ([vR 42, vI a1, vI a2, vR 41].map (cv Z)) hcs
  rw [mlA_ok] at hl
  exact hk s.heap [] _ hP va_S.rf hl
abbrev hL_then : HI := (yL_then, method_13_code, 6, [(0, 12, 15, 18), (0, 12, 19, 13)])
noncomputable def H_then (w : Wld) (a1 : Int32) (a2 : Int32) (a3 : Int32) : Option (Int32 × Wld) := (F_C_then w a1 a2 a3).bind (fun q => match q.1 with
  | .inl k => bif Nat.beq k 0 then some (1, q.2) else bif Nat.beq k 1 then some (2, q.2) else none
  | .inr (some r) => some (0, wup q.2 41 0 r)
  | .inr none => none)
set_option maxHeartbeats 4000000 in
theorem h_then {Z : ZT} {l : Launch} (w : Wld) (a1 : Int32) (a2 : Int32) (a3 : Int32) (r : Int32) (w1 : Wld) (h : H_then w a1 a2 a3 = some (r, w1)) : ConH Z l hL_then 8 159 [vR 42, vI a1, vI a2, vI a3, vR 41] w r w1 := by
  intro hst
  refine vx_ofWH (cc := method_13_code) (maxL := 6) (ret := some .int) (hh := [(0, 12, 15, 18), (0, 12, 19, 13)]) (by decide +kernel) rfl ?_
  intro p e s m args below meth c s₁ B hml hv
  obtain ⟨⟨rfl, hP, hK, hD, hS9⟩, hNc⟩ := hv
  have hts0 := atoms_spec (ws := wsH hL_then) B.pre
  have htab : c.exceptionTable.toList = tableOf [(0, 12, 15, 18), (0, 12, 19, 13)] := vx_table (x := yL_then) B (hts0 _ List.mem_cons_self)
  have hts : ∀ w ∈ TBL, w.before ([vR 42, vI a1, vI a2, vI a3, vR 41].map (cv Z)).toArray s = true := fun w hw => hts0 w (List.mem_cons_of_mem _ hw)
  have F : Fx Z p l s m ([vR 42, vI a1, vI a2, vI a3, vR 41].map (cv Z)).toArray meth c 14 6 method_13_code := ⟨B.exec, B.bytes, hml, findClass_of_methodNamed B.named, hts, hK, hD, B.notSynchronized, hS9⟩
  obtain ⟨⟨o9, w9⟩, hq9, hf9⟩ := Option.bind_eq_some_iff.mp h
  have hcon := c_C_then (Z := Z) (l := l) w a1 a2 a3 o9 w9 hq9
  have hk : Okc Z p l e { frames := 8, cells := 1, slots := 6, locals := 159 } s m ([vR 42, vI a1, vI a2, vI a3, vR 41].map (cv Z)).toArray below meth c 0 0 6 (vx_MQ below (QcO Z (.inr (some r)) w1) (fun _ _ _ => False) ([vR 42, vI a1, vI a2, vI a3, vR 41].map (cv Z)).toArray s 1 6 (AW Z)) (0, [(0, vR 42), (1, vI a1), (2, vI a2), (3, vI a3), (4, vR 41)], [], w) := by
    refine exB_ok F [(.aload 4, 0, 0, 0, 0), (.iconst 0, 0, 0, 0, 0), (.aload_n 0, 0, 0, 0, 0), (.iload_n 1, 0, 0, 0, 0), (.iload_n 2, 0, 0, 0, 0), (.iload_n 3, 0, 0, 0, 0)] (lv' := [(0, vR 42), (1, vI a1), (2, vI a2), (3, vI a3), (4, vR 41)]) (st' := [vI a3, vI a2, vI a1, vR 42, vI 0, vR 41]) (w' := w) (cs := []) (by decide +kernel) rfl (fun _ h => nomatch h) ?_
    refine callV_try (as := [vI a1, vI a2, vI a3]) (t := [vI 0, vR 41]) (n := 42) (M := mX10_then) (fr' := 7) (lc' := 136) F hst (by decide +kernel) ml_14_47 rfl rfl rfl (by decide) (by decide) (by decide) (mc1 o9) (ms6 o9) hcon (fun v hv => ?_) (fun k hk H locs ls q ce g1 g2 g3 g4 g5 g6 => ?_)
    · subst hv
      cases v with
      | none => exact nomatch hf9
      | some x =>
        have hf9 : some ((0 : Int32), wup w9 41 0 x) = some (r, w1) := hf9
        cases hf9
        refine exB_ok F [(.i2l, 0, 0, 0, 0), (.lastore, 41, 1, 3, 0)] (lv' := [(0, vR 42), (1, vI a1), (2, vI a2), (3, vI a3), (4, vR 41)]) (st' := []) (w' := wup w9 41 0 x) (cs := [vp_in 0 1, ((Int32.toInt64 x).toInt32).toInt64 = Int32.toInt64 x]) (by decide +kernel) (by show some _ = some _; rw [long32]; rfl) (fun q hq => by
          rcases List.mem_cons.mp hq with rfl | hq
          · exact vp_in_nI (n := 0) (by decide) (by decide)
          rcases List.mem_cons.mp hq with rfl | hq
          · rw [long32]
          cases hq) ?_
        refine okc_goto (tgt := 23) (off := 11) F (by decide +kernel) (by decide) ?_
        refine exB_ok F [(.iconst 0, 0, 0, 0, 0)] (lv' := [(0, vR 42), (1, vI a1), (2, vI a2), (3, vI a3), (4, vR 41)]) (st' := [vI 0]) (w' := wup w9 41 0 x) (cs := []) (by decide +kernel) rfl (fun _ h => nomatch h) ?_
        exact okc_ret F B.returns (Nat.zero_le _) (Nat.zero_le _) (by decide +kernel)
    · subst hk
      have hf9 : (bif Nat.beq k 0 then some (1, w9) else bif Nat.beq k 1 then some (2, w9) else none) = some (r, w1) := hf9
      match k, hf9, g6 with
      | 0, hf9, g6 =>
        cases hf9
        refine vx_catch (own := RN 14) (name := "java/util/NoSuchElementException") (E := "java/util/NoSuchElementException") (ce := ce) F.2.2.2.1 [] ⟨0, 12, 15, 18⟩ [⟨0, 12, 19, 13⟩] htab (fun z hz => nomatch hz) (by decide) (by decide) (hts _ lk_n) (va_Nw.use rfl (hS9.2.2.1 _ (List.mem_of_getElem? (i := 0) rfl))) g4 g5 g6 ?_
        exact hnd_w (k := 5) (n := 1) (v := 1) F B.returns g3 (by decide) (by decide +kernel) (by decide +kernel) rfl (by decide +kernel) (fun t h9 _ => ⟨⟨some 1, rfl, rfl, by rw [h9]; exact g1⟩, g2.F h9⟩) g2.2.2
      | 1, hf9, g6 =>
        cases hf9
        refine vx_catch (own := RN 14) (name := "java/lang/IllegalArgumentException") (E := "java/lang/IllegalArgumentException") (ce := ce) F.2.2.2.1 [⟨0, 12, 15, 18⟩] ⟨0, 12, 19, 13⟩ [] htab (fun z hz => by
          rcases List.mem_cons.mp hz with rfl | hz
          · exact Or.inr ⟨by decide, "java/util/NoSuchElementException", hts _ lk_n, hNc⟩
          · cases hz) (by decide) (by decide) (hts _ lk_i) (va_Nw.use rfl (hS9.2.2.1 _ (List.mem_of_getElem? (i := 1) rfl))) g4 g5 g6 ?_
        exact hnd_w (k := 5) (n := 2) (v := 2) F B.returns g3 (by decide) (by decide +kernel) (by decide +kernel) rfl (by decide +kernel) (fun t h9 _ => ⟨⟨some 2, rfl, rfl, by rw [h9]; exact g1⟩, g2.F h9⟩) g2.2.2
      | k + 2, hf9, g6 => exact nomatch hf9
  have hcs : (lg_sl ([vR 42, vI a1, vI a2, vI a3, vR 41].map (cv Z))).length ≤ 6 := by rw [lgsl_len]; exact Nat.le_of_ble_eq_true rfl
  rw [lg_entry_eq]
  have hl := lv_entry ([vR 42, vI a1, vI a2, vI a3, vR 41].map (cv Z)) hcs
  rw [mlA_ok] at hl
  exact hk s.heap [] _ hP va_S.rf hl
abbrev hL_meets : HI := (yL_meets, method_14_code, 5, [(0, 10, 13, 18)])
noncomputable def H_meets (w : Wld) (a1 : Int32) (a2 : Int32) : Option (Int32 × Wld) := (F_C_meets w a1 a2).bind (fun q => match q.1 with
  | .inl k => bif Nat.beq k 0 then some (1, q.2) else none
  | .inr (some r) => some (0, wup q.2 41 0 r)
  | .inr none => none)
set_option maxHeartbeats 4000000 in
theorem h_meets {Z : ZT} {l : Launch} (w : Wld) (a1 : Int32) (a2 : Int32) (r : Int32) (w1 : Wld) (h : H_meets w a1 a2 = some (r, w1)) : ConH Z l hL_meets 8 133 [vR 42, vI a1, vI a2, vR 41] w r w1 := by
  intro hst
  refine vx_ofWH (cc := method_14_code) (maxL := 5) (ret := some .int) (hh := [(0, 10, 13, 18)]) (by decide +kernel) rfl ?_
  intro p e s m args below meth c s₁ B hml hv
  obtain ⟨⟨rfl, hP, hK, hD, hS9⟩, hNc⟩ := hv
  have hts0 := atoms_spec (ws := wsH hL_meets) B.pre
  have htab : c.exceptionTable.toList = tableOf [(0, 10, 13, 18)] := vx_table (x := yL_meets) B (hts0 _ List.mem_cons_self)
  have hts : ∀ w ∈ TBL, w.before ([vR 42, vI a1, vI a2, vR 41].map (cv Z)).toArray s = true := fun w hw => hts0 w (List.mem_cons_of_mem _ hw)
  have F : Fx Z p l s m ([vR 42, vI a1, vI a2, vR 41].map (cv Z)).toArray meth c 14 5 method_14_code := ⟨B.exec, B.bytes, hml, findClass_of_methodNamed B.named, hts, hK, hD, B.notSynchronized, hS9⟩
  obtain ⟨⟨o9, w9⟩, hq9, hf9⟩ := Option.bind_eq_some_iff.mp h
  have hcon := c_C_meets (Z := Z) (l := l) w a1 a2 o9 w9 hq9
  have hk : Okc Z p l e { frames := 8, cells := 1, slots := 6, locals := 133 } s m ([vR 42, vI a1, vI a2, vR 41].map (cv Z)).toArray below meth c 0 0 5 (vx_MQ below (QcO Z (.inr (some r)) w1) (fun _ _ _ => False) ([vR 42, vI a1, vI a2, vR 41].map (cv Z)).toArray s 1 6 (AW Z)) (0, [(0, vR 42), (1, vI a1), (2, vI a2), (3, vR 41)], [], w) := by
    refine exB_ok F [(.aload_n 3, 0, 0, 0, 0), (.iconst 0, 0, 0, 0, 0), (.aload_n 0, 0, 0, 0, 0), (.iload_n 1, 0, 0, 0, 0), (.iload_n 2, 0, 0, 0, 0)] (lv' := [(0, vR 42), (1, vI a1), (2, vI a2), (3, vR 41)]) (st' := [vI a2, vI a1, vR 42, vI 0, vR 41]) (w' := w) (cs := []) (by decide +kernel) rfl (fun _ h => nomatch h) ?_
    refine callV_try (as := [vI a1, vI a2]) (t := [vI 0, vR 41]) (n := 42) (M := mX10_meets) (fr' := 7) (lc' := 110) F hst (by decide +kernel) ml_14_51 rfl rfl rfl (by decide) (by decide) (by decide) (mc1 o9) (ms6 o9) hcon (fun v hv => ?_) (fun k hk H locs ls q ce g1 g2 g3 g4 g5 g6 => ?_)
    · subst hv
      cases v with
      | none => exact nomatch hf9
      | some x =>
        have hf9 : some ((0 : Int32), wup w9 41 0 x) = some (r, w1) := hf9
        cases hf9
        refine exB_ok F [(.i2l, 0, 0, 0, 0), (.lastore, 41, 1, 3, 0)] (lv' := [(0, vR 42), (1, vI a1), (2, vI a2), (3, vR 41)]) (st' := []) (w' := wup w9 41 0 x) (cs := [vp_in 0 1, ((Int32.toInt64 x).toInt32).toInt64 = Int32.toInt64 x]) (by decide +kernel) (by show some _ = some _; rw [long32]; rfl) (fun q hq => by
          rcases List.mem_cons.mp hq with rfl | hq
          · exact vp_in_nI (n := 0) (by decide) (by decide)
          rcases List.mem_cons.mp hq with rfl | hq
          · rw [long32]
          cases hq) ?_
        refine okc_goto (tgt := 17) (off := 7) F (by decide +kernel) (by decide) ?_
        refine exB_ok F [(.iconst 0, 0, 0, 0, 0)] (lv' := [(0, vR 42), (1, vI a1), (2, vI a2), (3, vR 41)]) (st' := [vI 0]) (w' := wup w9 41 0 x) (cs := []) (by decide +kernel) rfl (fun _ h => nomatch h) ?_
        exact okc_ret F B.returns (Nat.zero_le _) (Nat.zero_le _) (by decide +kernel)
    · subst hk
      have hf9 : (bif Nat.beq k 0 then some (1, w9) else none) = some (r, w1) := hf9
      match k, hf9, g6 with
      | 0, hf9, g6 =>
        cases hf9
        refine vx_catch (own := RN 14) (name := "java/util/NoSuchElementException") (E := "java/util/NoSuchElementException") (ce := ce) F.2.2.2.1 [] ⟨0, 10, 13, 18⟩ [] htab (fun z hz => nomatch hz) (by decide) (by decide) (hts _ lk_n) (va_Nw.use rfl (hS9.2.2.1 _ (List.mem_of_getElem? (i := 0) rfl))) g4 g5 g6 ?_
        exact hnd_w (k := 4) (n := 1) (v := 1) F B.returns g3 (by decide) (by decide +kernel) (by decide +kernel) rfl (by decide +kernel) (fun t h9 _ => ⟨⟨some 1, rfl, rfl, by rw [h9]; exact g1⟩, g2.F h9⟩) g2.2.2
      | 1, hf9, g6 =>
        exact nomatch hf9
      | k + 2, hf9, g6 => exact nomatch hf9
  have hcs : (lg_sl ([vR 42, vI a1, vI a2, vR 41].map (cv Z))).length ≤ 5 := by rw [lgsl_len]; exact Nat.le_of_ble_eq_true rfl
  rw [lg_entry_eq]
  have hl := lv_entry ([vR 42, vI a1, vI a2, vR 41].map (cv Z)) hcs
  rw [mlA_ok] at hl
  exact hk s.heap [] _ hP va_S.rf hl
abbrev hL_often : HI := (yL_often, method_15_code, 5, [(0, 10, 13, 18), (0, 10, 17, 13)])
noncomputable def H_often (w : Wld) (a1 : Int32) (a2 : Int32) : Option (Int32 × Wld) := (F_C_often w a1 a2).bind (fun q => match q.1 with
  | .inl k => bif Nat.beq k 0 then some (1, q.2) else bif Nat.beq k 1 then some (2, q.2) else none
  | .inr (some r) => some (0, wup q.2 41 0 r)
  | .inr none => none)
set_option maxHeartbeats 4000000 in
theorem h_often {Z : ZT} {l : Launch} (w : Wld) (a1 : Int32) (a2 : Int32) (r : Int32) (w1 : Wld) (h : H_often w a1 a2 = some (r, w1)) : ConH Z l hL_often 8 135 [vR 42, vI a1, vI a2, vR 41] w r w1 := by
  intro hst
  refine vx_ofWH (cc := method_15_code) (maxL := 5) (ret := some .int) (hh := [(0, 10, 13, 18), (0, 10, 17, 13)]) (by decide +kernel) rfl ?_
  intro p e s m args below meth c s₁ B hml hv
  obtain ⟨⟨rfl, hP, hK, hD, hS9⟩, hNc⟩ := hv
  have hts0 := atoms_spec (ws := wsH hL_often) B.pre
  have htab : c.exceptionTable.toList = tableOf [(0, 10, 13, 18), (0, 10, 17, 13)] := vx_table (x := yL_often) B (hts0 _ List.mem_cons_self)
  have hts : ∀ w ∈ TBL, w.before ([vR 42, vI a1, vI a2, vR 41].map (cv Z)).toArray s = true := fun w hw => hts0 w (List.mem_cons_of_mem _ hw)
  have F : Fx Z p l s m ([vR 42, vI a1, vI a2, vR 41].map (cv Z)).toArray meth c 14 5 method_15_code := ⟨B.exec, B.bytes, hml, findClass_of_methodNamed B.named, hts, hK, hD, B.notSynchronized, hS9⟩
  obtain ⟨⟨o9, w9⟩, hq9, hf9⟩ := Option.bind_eq_some_iff.mp h
  have hcon := c_C_often (Z := Z) (l := l) w a1 a2 o9 w9 hq9
  have hk : Okc Z p l e { frames := 8, cells := 1, slots := 6, locals := 135 } s m ([vR 42, vI a1, vI a2, vR 41].map (cv Z)).toArray below meth c 0 0 5 (vx_MQ below (QcO Z (.inr (some r)) w1) (fun _ _ _ => False) ([vR 42, vI a1, vI a2, vR 41].map (cv Z)).toArray s 1 6 (AW Z)) (0, [(0, vR 42), (1, vI a1), (2, vI a2), (3, vR 41)], [], w) := by
    refine exB_ok F [(.aload_n 3, 0, 0, 0, 0), (.iconst 0, 0, 0, 0, 0), (.aload_n 0, 0, 0, 0, 0), (.iload_n 1, 0, 0, 0, 0), (.iload_n 2, 0, 0, 0, 0)] (lv' := [(0, vR 42), (1, vI a1), (2, vI a2), (3, vR 41)]) (st' := [vI a2, vI a1, vR 42, vI 0, vR 41]) (w' := w) (cs := []) (by decide +kernel) rfl (fun _ h => nomatch h) ?_
    refine callV_try (as := [vI a1, vI a2]) (t := [vI 0, vR 41]) (n := 42) (M := mX10_often) (fr' := 7) (lc' := 111) F hst (by decide +kernel) ml_14_54 rfl rfl rfl (by decide) (by decide) (by decide) (mc1 o9) (ms6 o9) hcon (fun v hv => ?_) (fun k hk H locs ls q ce g1 g2 g3 g4 g5 g6 => ?_)
    · subst hv
      cases v with
      | none => exact nomatch hf9
      | some x =>
        have hf9 : some ((0 : Int32), wup w9 41 0 x) = some (r, w1) := hf9
        cases hf9
        refine exB_ok F [(.i2l, 0, 0, 0, 0), (.lastore, 41, 1, 3, 0)] (lv' := [(0, vR 42), (1, vI a1), (2, vI a2), (3, vR 41)]) (st' := []) (w' := wup w9 41 0 x) (cs := [vp_in 0 1, ((Int32.toInt64 x).toInt32).toInt64 = Int32.toInt64 x]) (by decide +kernel) (by show some _ = some _; rw [long32]; rfl) (fun q hq => by
          rcases List.mem_cons.mp hq with rfl | hq
          · exact vp_in_nI (n := 0) (by decide) (by decide)
          rcases List.mem_cons.mp hq with rfl | hq
          · rw [long32]
          cases hq) ?_
        refine okc_goto (tgt := 21) (off := 11) F (by decide +kernel) (by decide) ?_
        refine exB_ok F [(.iconst 0, 0, 0, 0, 0)] (lv' := [(0, vR 42), (1, vI a1), (2, vI a2), (3, vR 41)]) (st' := [vI 0]) (w' := wup w9 41 0 x) (cs := []) (by decide +kernel) rfl (fun _ h => nomatch h) ?_
        exact okc_ret F B.returns (Nat.zero_le _) (Nat.zero_le _) (by decide +kernel)
    · subst hk
      have hf9 : (bif Nat.beq k 0 then some (1, w9) else bif Nat.beq k 1 then some (2, w9) else none) = some (r, w1) := hf9
      match k, hf9, g6 with
      | 0, hf9, g6 =>
        cases hf9
        refine vx_catch (own := RN 14) (name := "java/util/NoSuchElementException") (E := "java/util/NoSuchElementException") (ce := ce) F.2.2.2.1 [] ⟨0, 10, 13, 18⟩ [⟨0, 10, 17, 13⟩] htab (fun z hz => nomatch hz) (by decide) (by decide) (hts _ lk_n) (va_Nw.use rfl (hS9.2.2.1 _ (List.mem_of_getElem? (i := 0) rfl))) g4 g5 g6 ?_
        exact hnd_w (k := 4) (n := 1) (v := 1) F B.returns g3 (by decide) (by decide +kernel) (by decide +kernel) rfl (by decide +kernel) (fun t h9 _ => ⟨⟨some 1, rfl, rfl, by rw [h9]; exact g1⟩, g2.F h9⟩) g2.2.2
      | 1, hf9, g6 =>
        cases hf9
        refine vx_catch (own := RN 14) (name := "java/lang/IllegalArgumentException") (E := "java/lang/IllegalArgumentException") (ce := ce) F.2.2.2.1 [⟨0, 10, 13, 18⟩] ⟨0, 10, 17, 13⟩ [] htab (fun z hz => by
          rcases List.mem_cons.mp hz with rfl | hz
          · exact Or.inr ⟨by decide, "java/util/NoSuchElementException", hts _ lk_n, hNc⟩
          · cases hz) (by decide) (by decide) (hts _ lk_i) (va_Nw.use rfl (hS9.2.2.1 _ (List.mem_of_getElem? (i := 1) rfl))) g4 g5 g6 ?_
        exact hnd_w (k := 4) (n := 2) (v := 2) F B.returns g3 (by decide) (by decide +kernel) (by decide +kernel) rfl (by decide +kernel) (fun t h9 _ => ⟨⟨some 2, rfl, rfl, by rw [h9]; exact g1⟩, g2.F h9⟩) g2.2.2
      | k + 2, hf9, g6 => exact nomatch hf9
  have hcs : (lg_sl ([vR 42, vI a1, vI a2, vR 41].map (cv Z))).length ≤ 5 := by rw [lgsl_len]; exact Nat.le_of_ble_eq_true rfl
  rw [lg_entry_eq]
  have hl := lv_entry ([vR 42, vI a1, vI a2, vR 41].map (cv Z)) hcs
  rw [mlA_ok] at hl
  exact hk s.heap [] _ hP va_S.rf hl
abbrev hL_ring : HI := (yL_ring, method_16_code, 6, [(0, 12, 15, 18)])
noncomputable def H_ring (w : Wld) (a1 : Int32) (a2 : Int32) (a3 : Int32) : Option (Int32 × Wld) := (F_C_ring w a1 a2 a3).bind (fun q => match q.1 with
  | .inl k => bif Nat.beq k 0 then some (1, q.2) else none
  | .inr (some r) => some (0, wup q.2 41 0 r)
  | .inr none => none)
set_option maxHeartbeats 4000000 in
theorem h_ring {Z : ZT} {l : Launch} (w : Wld) (a1 : Int32) (a2 : Int32) (a3 : Int32) (r : Int32) (w1 : Wld) (h : H_ring w a1 a2 a3 = some (r, w1)) : ConH Z l hL_ring 8 135 [vR 42, vI a1, vI a2, vI a3, vR 41] w r w1 := by
  intro hst
  refine vx_ofWH (cc := method_16_code) (maxL := 6) (ret := some .int) (hh := [(0, 12, 15, 18)]) (by decide +kernel) rfl ?_
  intro p e s m args below meth c s₁ B hml hv
  obtain ⟨⟨rfl, hP, hK, hD, hS9⟩, hNc⟩ := hv
  have hts0 := atoms_spec (ws := wsH hL_ring) B.pre
  have htab : c.exceptionTable.toList = tableOf [(0, 12, 15, 18)] := vx_table (x := yL_ring) B (hts0 _ List.mem_cons_self)
  have hts : ∀ w ∈ TBL, w.before ([vR 42, vI a1, vI a2, vI a3, vR 41].map (cv Z)).toArray s = true := fun w hw => hts0 w (List.mem_cons_of_mem _ hw)
  have F : Fx Z p l s m ([vR 42, vI a1, vI a2, vI a3, vR 41].map (cv Z)).toArray meth c 14 6 method_16_code := ⟨B.exec, B.bytes, hml, findClass_of_methodNamed B.named, hts, hK, hD, B.notSynchronized, hS9⟩
  obtain ⟨⟨o9, w9⟩, hq9, hf9⟩ := Option.bind_eq_some_iff.mp h
  have hcon := c_C_ring (Z := Z) (l := l) w a1 a2 a3 o9 w9 hq9
  have hk : Okc Z p l e { frames := 8, cells := 1, slots := 6, locals := 135 } s m ([vR 42, vI a1, vI a2, vI a3, vR 41].map (cv Z)).toArray below meth c 0 0 6 (vx_MQ below (QcO Z (.inr (some r)) w1) (fun _ _ _ => False) ([vR 42, vI a1, vI a2, vI a3, vR 41].map (cv Z)).toArray s 1 6 (AW Z)) (0, [(0, vR 42), (1, vI a1), (2, vI a2), (3, vI a3), (4, vR 41)], [], w) := by
    refine exB_ok F [(.aload 4, 0, 0, 0, 0), (.iconst 0, 0, 0, 0, 0), (.aload_n 0, 0, 0, 0, 0), (.iload_n 1, 0, 0, 0, 0), (.iload_n 2, 0, 0, 0, 0), (.iload_n 3, 0, 0, 0, 0)] (lv' := [(0, vR 42), (1, vI a1), (2, vI a2), (3, vI a3), (4, vR 41)]) (st' := [vI a3, vI a2, vI a1, vR 42, vI 0, vR 41]) (w' := w) (cs := []) (by decide +kernel) rfl (fun _ h => nomatch h) ?_
    refine callV_try (as := [vI a1, vI a2, vI a3]) (t := [vI 0, vR 41]) (n := 42) (M := mX10_ring) (fr' := 7) (lc' := 110) F hst (by decide +kernel) ml_14_57 rfl rfl rfl (by decide) (by decide) (by decide) (mc1 o9) (ms6 o9) hcon (fun v hv => ?_) (fun k hk H locs ls q ce g1 g2 g3 g4 g5 g6 => ?_)
    · subst hv
      cases v with
      | none => exact nomatch hf9
      | some x =>
        have hf9 : some ((0 : Int32), wup w9 41 0 x) = some (r, w1) := hf9
        cases hf9
        refine exB_ok F [(.i2l, 0, 0, 0, 0), (.lastore, 41, 1, 3, 0)] (lv' := [(0, vR 42), (1, vI a1), (2, vI a2), (3, vI a3), (4, vR 41)]) (st' := []) (w' := wup w9 41 0 x) (cs := [vp_in 0 1, ((Int32.toInt64 x).toInt32).toInt64 = Int32.toInt64 x]) (by decide +kernel) (by show some _ = some _; rw [long32]; rfl) (fun q hq => by
          rcases List.mem_cons.mp hq with rfl | hq
          · exact vp_in_nI (n := 0) (by decide) (by decide)
          rcases List.mem_cons.mp hq with rfl | hq
          · rw [long32]
          cases hq) ?_
        refine okc_goto (tgt := 19) (off := 7) F (by decide +kernel) (by decide) ?_
        refine exB_ok F [(.iconst 0, 0, 0, 0, 0)] (lv' := [(0, vR 42), (1, vI a1), (2, vI a2), (3, vI a3), (4, vR 41)]) (st' := [vI 0]) (w' := wup w9 41 0 x) (cs := []) (by decide +kernel) rfl (fun _ h => nomatch h) ?_
        exact okc_ret F B.returns (Nat.zero_le _) (Nat.zero_le _) (by decide +kernel)
    · subst hk
      have hf9 : (bif Nat.beq k 0 then some (1, w9) else none) = some (r, w1) := hf9
      match k, hf9, g6 with
      | 0, hf9, g6 =>
        cases hf9
        refine vx_catch (own := RN 14) (name := "java/util/NoSuchElementException") (E := "java/util/NoSuchElementException") (ce := ce) F.2.2.2.1 [] ⟨0, 12, 15, 18⟩ [] htab (fun z hz => nomatch hz) (by decide) (by decide) (hts _ lk_n) (va_Nw.use rfl (hS9.2.2.1 _ (List.mem_of_getElem? (i := 0) rfl))) g4 g5 g6 ?_
        exact hnd_w (k := 5) (n := 1) (v := 1) F B.returns g3 (by decide) (by decide +kernel) (by decide +kernel) rfl (by decide +kernel) (fun t h9 _ => ⟨⟨some 1, rfl, rfl, by rw [h9]; exact g1⟩, g2.F h9⟩) g2.2.2
      | 1, hf9, g6 =>
        exact nomatch hf9
      | k + 2, hf9, g6 => exact nomatch hf9
  have hcs : (lg_sl ([vR 42, vI a1, vI a2, vI a3, vR 41].map (cv Z))).length ≤ 6 := by rw [lgsl_len]; exact Nat.le_of_ble_eq_true rfl
  rw [lg_entry_eq]
  have hl := lv_entry ([vR 42, vI a1, vI a2, vI a3, vR 41].map (cv Z)) hcs
  rw [mlA_ok] at hl
  exact hk s.heap [] _ hP va_S.rf hl
abbrev hL_from : HI := (yL_from, method_17_code, 4, [(0, 9, 12, 18)])
noncomputable def H_from (w : Wld) (a1 : Int32) : Option (Int32 × Wld) := (F_C_from w a1).bind (fun q => match q.1 with
  | .inl k => bif Nat.beq k 0 then some (1, q.2) else none
  | .inr (some r) => some (0, wup q.2 41 0 r)
  | .inr none => none)
set_option maxHeartbeats 4000000 in
theorem h_from {Z : ZT} {l : Launch} (w : Wld) (a1 : Int32) (r : Int32) (w1 : Wld) (h : H_from w a1 = some (r, w1)) : ConH Z l hL_from 8 133 [vR 42, vI a1, vR 41] w r w1 := by
  intro hst
  refine vx_ofWH (cc := method_17_code) (maxL := 4) (ret := some .int) (hh := [(0, 9, 12, 18)]) (by decide +kernel) rfl ?_
  intro p e s m args below meth c s₁ B hml hv
  obtain ⟨⟨rfl, hP, hK, hD, hS9⟩, hNc⟩ := hv
  have hts0 := atoms_spec (ws := wsH hL_from) B.pre
  have htab : c.exceptionTable.toList = tableOf [(0, 9, 12, 18)] := vx_table (x := yL_from) B (hts0 _ List.mem_cons_self)
  have hts : ∀ w ∈ TBL, w.before ([vR 42, vI a1, vR 41].map (cv Z)).toArray s = true := fun w hw => hts0 w (List.mem_cons_of_mem _ hw)
  have F : Fx Z p l s m ([vR 42, vI a1, vR 41].map (cv Z)).toArray meth c 14 4 method_17_code := ⟨B.exec, B.bytes, hml, findClass_of_methodNamed B.named, hts, hK, hD, B.notSynchronized, hS9⟩
  obtain ⟨⟨o9, w9⟩, hq9, hf9⟩ := Option.bind_eq_some_iff.mp h
  have hcon := c_C_from (Z := Z) (l := l) w a1 o9 w9 hq9
  have hk : Okc Z p l e { frames := 8, cells := 1, slots := 6, locals := 133 } s m ([vR 42, vI a1, vR 41].map (cv Z)).toArray below meth c 0 0 4 (vx_MQ below (QcO Z (.inr (some r)) w1) (fun _ _ _ => False) ([vR 42, vI a1, vR 41].map (cv Z)).toArray s 1 6 (AW Z)) (0, [(0, vR 42), (1, vI a1), (2, vR 41)], [], w) := by
    refine exB_ok F [(.aload_n 2, 0, 0, 0, 0), (.iconst 0, 0, 0, 0, 0), (.aload_n 0, 0, 0, 0, 0), (.iload_n 1, 0, 0, 0, 0)] (lv' := [(0, vR 42), (1, vI a1), (2, vR 41)]) (st' := [vI a1, vR 42, vI 0, vR 41]) (w' := w) (cs := []) (by decide +kernel) rfl (fun _ h => nomatch h) ?_
    refine callV_try (as := [vI a1]) (t := [vI 0, vR 41]) (n := 42) (M := mX10_from) (fr' := 7) (lc' := 110) F hst (by decide +kernel) ml_14_60 rfl rfl rfl (by decide) (by decide) (by decide) (mc1 o9) (ms6 o9) hcon (fun v hv => ?_) (fun k hk H locs ls q ce g1 g2 g3 g4 g5 g6 => ?_)
    · subst hv
      cases v with
      | none => exact nomatch hf9
      | some x =>
        have hf9 : some ((0 : Int32), wup w9 41 0 x) = some (r, w1) := hf9
        cases hf9
        refine exB_ok F [(.i2l, 0, 0, 0, 0), (.lastore, 41, 1, 3, 0)] (lv' := [(0, vR 42), (1, vI a1), (2, vR 41)]) (st' := []) (w' := wup w9 41 0 x) (cs := [vp_in 0 1, ((Int32.toInt64 x).toInt32).toInt64 = Int32.toInt64 x]) (by decide +kernel) (by show some _ = some _; rw [long32]; rfl) (fun q hq => by
          rcases List.mem_cons.mp hq with rfl | hq
          · exact vp_in_nI (n := 0) (by decide) (by decide)
          rcases List.mem_cons.mp hq with rfl | hq
          · rw [long32]
          cases hq) ?_
        refine okc_goto (tgt := 15) (off := 6) F (by decide +kernel) (by decide) ?_
        refine exB_ok F [(.iconst 0, 0, 0, 0, 0)] (lv' := [(0, vR 42), (1, vI a1), (2, vR 41)]) (st' := [vI 0]) (w' := wup w9 41 0 x) (cs := []) (by decide +kernel) rfl (fun _ h => nomatch h) ?_
        exact okc_ret F B.returns (Nat.zero_le _) (Nat.zero_le _) (by decide +kernel)
    · subst hk
      have hf9 : (bif Nat.beq k 0 then some (1, w9) else none) = some (r, w1) := hf9
      match k, hf9, g6 with
      | 0, hf9, g6 =>
        cases hf9
        refine vx_catch (own := RN 14) (name := "java/util/NoSuchElementException") (E := "java/util/NoSuchElementException") (ce := ce) F.2.2.2.1 [] ⟨0, 9, 12, 18⟩ [] htab (fun z hz => nomatch hz) (by decide) (by decide) (hts _ lk_n) (va_Nw.use rfl (hS9.2.2.1 _ (List.mem_of_getElem? (i := 0) rfl))) g4 g5 g6 ?_
        exact hnd_n (k := 3) (n := 1) (v := 1) F B.returns g3 (by decide) (by decide +kernel) (by decide +kernel) rfl (by decide +kernel) (fun t h9 _ => ⟨⟨some 1, rfl, rfl, by rw [h9]; exact g1⟩, g2.F h9⟩) g2.2.2
      | 1, hf9, g6 =>
        exact nomatch hf9
      | k + 2, hf9, g6 => exact nomatch hf9
  have hcs : (lg_sl ([vR 42, vI a1, vR 41].map (cv Z))).length ≤ 4 := by rw [lgsl_len]; exact Nat.le_of_ble_eq_true rfl
  rw [lg_entry_eq]
  have hl := lv_entry ([vR 42, vI a1, vR 41].map (cv Z)) hcs
  rw [mlA_ok] at hl
  exact hk s.heap [] _ hP va_S.rf hl
abbrev hL_meeting : HI := (yL_meeting, method_18_code, 4, [(0, 9, 12, 18)])
noncomputable def H_meeting (w : Wld) (a1 : Int32) : Option (Int32 × Wld) := (F_C_meeting w a1).bind (fun q => match q.1 with
  | .inl k => bif Nat.beq k 0 then some (1, q.2) else none
  | .inr (some r) => some (0, wup q.2 41 0 r)
  | .inr none => none)
set_option maxHeartbeats 4000000 in
theorem h_meeting {Z : ZT} {l : Launch} (w : Wld) (a1 : Int32) (r : Int32) (w1 : Wld) (h : H_meeting w a1 = some (r, w1)) : ConH Z l hL_meeting 8 134 [vR 42, vI a1, vR 41] w r w1 := by
  intro hst
  refine vx_ofWH (cc := method_18_code) (maxL := 4) (ret := some .int) (hh := [(0, 9, 12, 18)]) (by decide +kernel) rfl ?_
  intro p e s m args below meth c s₁ B hml hv
  obtain ⟨⟨rfl, hP, hK, hD, hS9⟩, hNc⟩ := hv
  have hts0 := atoms_spec (ws := wsH hL_meeting) B.pre
  have htab : c.exceptionTable.toList = tableOf [(0, 9, 12, 18)] := vx_table (x := yL_meeting) B (hts0 _ List.mem_cons_self)
  have hts : ∀ w ∈ TBL, w.before ([vR 42, vI a1, vR 41].map (cv Z)).toArray s = true := fun w hw => hts0 w (List.mem_cons_of_mem _ hw)
  have F : Fx Z p l s m ([vR 42, vI a1, vR 41].map (cv Z)).toArray meth c 14 4 method_18_code := ⟨B.exec, B.bytes, hml, findClass_of_methodNamed B.named, hts, hK, hD, B.notSynchronized, hS9⟩
  obtain ⟨⟨o9, w9⟩, hq9, hf9⟩ := Option.bind_eq_some_iff.mp h
  have hcon := c_C_meeting (Z := Z) (l := l) w a1 o9 w9 hq9
  have hk : Okc Z p l e { frames := 8, cells := 1, slots := 6, locals := 134 } s m ([vR 42, vI a1, vR 41].map (cv Z)).toArray below meth c 0 0 4 (vx_MQ below (QcO Z (.inr (some r)) w1) (fun _ _ _ => False) ([vR 42, vI a1, vR 41].map (cv Z)).toArray s 1 6 (AW Z)) (0, [(0, vR 42), (1, vI a1), (2, vR 41)], [], w) := by
    refine exB_ok F [(.aload_n 2, 0, 0, 0, 0), (.iconst 0, 0, 0, 0, 0), (.aload_n 0, 0, 0, 0, 0), (.iload_n 1, 0, 0, 0, 0)] (lv' := [(0, vR 42), (1, vI a1), (2, vR 41)]) (st' := [vI a1, vR 42, vI 0, vR 41]) (w' := w) (cs := []) (by decide +kernel) rfl (fun _ h => nomatch h) ?_
    refine callV_try (as := [vI a1]) (t := [vI 0, vR 41]) (n := 42) (M := mX10_meeting) (fr' := 7) (lc' := 110) F hst (by decide +kernel) ml_14_63 rfl rfl rfl (by decide) (by decide) (by decide) (mc1 o9) (ms6 o9) hcon (fun v hv => ?_) (fun k hk H locs ls q ce g1 g2 g3 g4 g5 g6 => ?_)
    · subst hv
      cases v with
      | none => exact nomatch hf9
      | some x =>
        have hf9 : some ((0 : Int32), wup w9 41 0 x) = some (r, w1) := hf9
        cases hf9
        refine exB_ok F [(.i2l, 0, 0, 0, 0), (.lastore, 41, 1, 3, 0)] (lv' := [(0, vR 42), (1, vI a1), (2, vR 41)]) (st' := []) (w' := wup w9 41 0 x) (cs := [vp_in 0 1, ((Int32.toInt64 x).toInt32).toInt64 = Int32.toInt64 x]) (by decide +kernel) (by show some _ = some _; rw [long32]; rfl) (fun q hq => by
          rcases List.mem_cons.mp hq with rfl | hq
          · exact vp_in_nI (n := 0) (by decide) (by decide)
          rcases List.mem_cons.mp hq with rfl | hq
          · rw [long32]
          cases hq) ?_
        refine okc_goto (tgt := 15) (off := 6) F (by decide +kernel) (by decide) ?_
        refine exB_ok F [(.iconst 0, 0, 0, 0, 0)] (lv' := [(0, vR 42), (1, vI a1), (2, vR 41)]) (st' := [vI 0]) (w' := wup w9 41 0 x) (cs := []) (by decide +kernel) rfl (fun _ h => nomatch h) ?_
        exact okc_ret F B.returns (Nat.zero_le _) (Nat.zero_le _) (by decide +kernel)
    · subst hk
      have hf9 : (bif Nat.beq k 0 then some (1, w9) else none) = some (r, w1) := hf9
      match k, hf9, g6 with
      | 0, hf9, g6 =>
        cases hf9
        refine vx_catch (own := RN 14) (name := "java/util/NoSuchElementException") (E := "java/util/NoSuchElementException") (ce := ce) F.2.2.2.1 [] ⟨0, 9, 12, 18⟩ [] htab (fun z hz => nomatch hz) (by decide) (by decide) (hts _ lk_n) (va_Nw.use rfl (hS9.2.2.1 _ (List.mem_of_getElem? (i := 0) rfl))) g4 g5 g6 ?_
        exact hnd_n (k := 3) (n := 1) (v := 1) F B.returns g3 (by decide) (by decide +kernel) (by decide +kernel) rfl (by decide +kernel) (fun t h9 _ => ⟨⟨some 1, rfl, rfl, by rw [h9]; exact g1⟩, g2.F h9⟩) g2.2.2
      | 1, hf9, g6 =>
        exact nomatch hf9
      | k + 2, hf9, g6 => exact nomatch hf9
  have hcs : (lg_sl ([vR 42, vI a1, vR 41].map (cv Z))).length ≤ 4 := by rw [lgsl_len]; exact Nat.le_of_ble_eq_true rfl
  rw [lg_entry_eq]
  have hl := lv_entry ([vR 42, vI a1, vR 41].map (cv Z)) hcs
  rw [mlA_ok] at hl
  exact hk s.heap [] _ hP va_S.rf hl
abbrev hL_leastFish : HI := (yL_leastFish, method_19_code, 4, [(0, 9, 12, 18)])
noncomputable def H_leastFish (w : Wld) (a1 : Int32) : Option (Int32 × Wld) := (F_C_leastFish w a1).bind (fun q => match q.1 with
  | .inl k => bif Nat.beq k 0 then some (1, q.2) else none
  | .inr (some r) => some (0, wup q.2 41 0 r)
  | .inr none => none)
set_option maxHeartbeats 4000000 in
theorem h_leastFish {Z : ZT} {l : Launch} (w : Wld) (a1 : Int32) (r : Int32) (w1 : Wld) (h : H_leastFish w a1 = some (r, w1)) : ConH Z l hL_leastFish 8 176 [vR 42, vI a1, vR 41] w r w1 := by
  intro hst
  refine vx_ofWH (cc := method_19_code) (maxL := 4) (ret := some .int) (hh := [(0, 9, 12, 18)]) (by decide +kernel) rfl ?_
  intro p e s m args below meth c s₁ B hml hv
  obtain ⟨⟨rfl, hP, hK, hD, hS9⟩, hNc⟩ := hv
  have hts0 := atoms_spec (ws := wsH hL_leastFish) B.pre
  have htab : c.exceptionTable.toList = tableOf [(0, 9, 12, 18)] := vx_table (x := yL_leastFish) B (hts0 _ List.mem_cons_self)
  have hts : ∀ w ∈ TBL, w.before ([vR 42, vI a1, vR 41].map (cv Z)).toArray s = true := fun w hw => hts0 w (List.mem_cons_of_mem _ hw)
  have F : Fx Z p l s m ([vR 42, vI a1, vR 41].map (cv Z)).toArray meth c 14 4 method_19_code := ⟨B.exec, B.bytes, hml, findClass_of_methodNamed B.named, hts, hK, hD, B.notSynchronized, hS9⟩
  obtain ⟨⟨o9, w9⟩, hq9, hf9⟩ := Option.bind_eq_some_iff.mp h
  have hcon := c_C_leastFish (Z := Z) (l := l) w a1 o9 w9 hq9
  have hk : Okc Z p l e { frames := 8, cells := 1, slots := 6, locals := 176 } s m ([vR 42, vI a1, vR 41].map (cv Z)).toArray below meth c 0 0 4 (vx_MQ below (QcO Z (.inr (some r)) w1) (fun _ _ _ => False) ([vR 42, vI a1, vR 41].map (cv Z)).toArray s 1 6 (AW Z)) (0, [(0, vR 42), (1, vI a1), (2, vR 41)], [], w) := by
    refine exB_ok F [(.aload_n 2, 0, 0, 0, 0), (.iconst 0, 0, 0, 0, 0), (.aload_n 0, 0, 0, 0, 0), (.iload_n 1, 0, 0, 0, 0)] (lv' := [(0, vR 42), (1, vI a1), (2, vR 41)]) (st' := [vI a1, vR 42, vI 0, vR 41]) (w' := w) (cs := []) (by decide +kernel) rfl (fun _ h => nomatch h) ?_
    refine callV_try (as := [vI a1]) (t := [vI 0, vR 41]) (n := 42) (M := mX10_leastFish) (fr' := 7) (lc' := 149) F hst (by decide +kernel) ml_14_66 rfl rfl rfl (by decide) (by decide) (by decide) (mc1 o9) (ms6 o9) hcon (fun v hv => ?_) (fun k hk H locs ls q ce g1 g2 g3 g4 g5 g6 => ?_)
    · subst hv
      cases v with
      | none => exact nomatch hf9
      | some x =>
        have hf9 : some ((0 : Int32), wup w9 41 0 x) = some (r, w1) := hf9
        cases hf9
        refine exB_ok F [(.i2l, 0, 0, 0, 0), (.lastore, 41, 1, 3, 0)] (lv' := [(0, vR 42), (1, vI a1), (2, vR 41)]) (st' := []) (w' := wup w9 41 0 x) (cs := [vp_in 0 1, ((Int32.toInt64 x).toInt32).toInt64 = Int32.toInt64 x]) (by decide +kernel) (by show some _ = some _; rw [long32]; rfl) (fun q hq => by
          rcases List.mem_cons.mp hq with rfl | hq
          · exact vp_in_nI (n := 0) (by decide) (by decide)
          rcases List.mem_cons.mp hq with rfl | hq
          · rw [long32]
          cases hq) ?_
        refine okc_goto (tgt := 15) (off := 6) F (by decide +kernel) (by decide) ?_
        refine exB_ok F [(.iconst 0, 0, 0, 0, 0)] (lv' := [(0, vR 42), (1, vI a1), (2, vR 41)]) (st' := [vI 0]) (w' := wup w9 41 0 x) (cs := []) (by decide +kernel) rfl (fun _ h => nomatch h) ?_
        exact okc_ret F B.returns (Nat.zero_le _) (Nat.zero_le _) (by decide +kernel)
    · subst hk
      have hf9 : (bif Nat.beq k 0 then some (1, w9) else none) = some (r, w1) := hf9
      match k, hf9, g6 with
      | 0, hf9, g6 =>
        cases hf9
        refine vx_catch (own := RN 14) (name := "java/util/NoSuchElementException") (E := "java/util/NoSuchElementException") (ce := ce) F.2.2.2.1 [] ⟨0, 9, 12, 18⟩ [] htab (fun z hz => nomatch hz) (by decide) (by decide) (hts _ lk_n) (va_Nw.use rfl (hS9.2.2.1 _ (List.mem_of_getElem? (i := 0) rfl))) g4 g5 g6 ?_
        exact hnd_n (k := 3) (n := 1) (v := 1) F B.returns g3 (by decide) (by decide +kernel) (by decide +kernel) rfl (by decide +kernel) (fun t h9 _ => ⟨⟨some 1, rfl, rfl, by rw [h9]; exact g1⟩, g2.F h9⟩) g2.2.2
      | 1, hf9, g6 =>
        exact nomatch hf9
      | k + 2, hf9, g6 => exact nomatch hf9
  have hcs : (lg_sl ([vR 42, vI a1, vR 41].map (cv Z))).length ≤ 4 := by rw [lgsl_len]; exact Nat.le_of_ble_eq_true rfl
  rw [lg_entry_eq]
  have hl := lv_entry ([vR 42, vI a1, vR 41].map (cv Z)) hcs
  rw [mlA_ok] at hl
  exact hk s.heap [] _ hP va_S.rf hl
abbrev hL_lonely : HI := (yL_lonely, method_20_code, 4, [(0, 9, 12, 13)])
noncomputable def H_lonely (w : Wld) (a1 : Int32) : Option (Int32 × Wld) := (F_C_lonely w a1).bind (fun q => match q.1 with
  | .inl k => bif Nat.beq k 1 then some (1, q.2) else none
  | .inr (some r) => some (0, wup q.2 41 0 r)
  | .inr none => none)
set_option maxHeartbeats 4000000 in
theorem h_lonely {Z : ZT} {l : Launch} (w : Wld) (a1 : Int32) (r : Int32) (w1 : Wld) (h : H_lonely w a1 = some (r, w1)) : ConH Z l hL_lonely 8 157 [vR 42, vI a1, vR 41] w r w1 := by
  intro hst
  refine vx_ofWH (cc := method_20_code) (maxL := 4) (ret := some .int) (hh := [(0, 9, 12, 13)]) (by decide +kernel) rfl ?_
  intro p e s m args below meth c s₁ B hml hv
  obtain ⟨⟨rfl, hP, hK, hD, hS9⟩, hNc⟩ := hv
  have hts0 := atoms_spec (ws := wsH hL_lonely) B.pre
  have htab : c.exceptionTable.toList = tableOf [(0, 9, 12, 13)] := vx_table (x := yL_lonely) B (hts0 _ List.mem_cons_self)
  have hts : ∀ w ∈ TBL, w.before ([vR 42, vI a1, vR 41].map (cv Z)).toArray s = true := fun w hw => hts0 w (List.mem_cons_of_mem _ hw)
  have F : Fx Z p l s m ([vR 42, vI a1, vR 41].map (cv Z)).toArray meth c 14 4 method_20_code := ⟨B.exec, B.bytes, hml, findClass_of_methodNamed B.named, hts, hK, hD, B.notSynchronized, hS9⟩
  obtain ⟨⟨o9, w9⟩, hq9, hf9⟩ := Option.bind_eq_some_iff.mp h
  have hcon := c_C_lonely (Z := Z) (l := l) w a1 o9 w9 hq9
  have hk : Okc Z p l e { frames := 8, cells := 1, slots := 6, locals := 157 } s m ([vR 42, vI a1, vR 41].map (cv Z)).toArray below meth c 0 0 4 (vx_MQ below (QcO Z (.inr (some r)) w1) (fun _ _ _ => False) ([vR 42, vI a1, vR 41].map (cv Z)).toArray s 1 6 (AW Z)) (0, [(0, vR 42), (1, vI a1), (2, vR 41)], [], w) := by
    refine exB_ok F [(.aload_n 2, 0, 0, 0, 0), (.iconst 0, 0, 0, 0, 0), (.aload_n 0, 0, 0, 0, 0), (.iload_n 1, 0, 0, 0, 0)] (lv' := [(0, vR 42), (1, vI a1), (2, vR 41)]) (st' := [vI a1, vR 42, vI 0, vR 41]) (w' := w) (cs := []) (by decide +kernel) rfl (fun _ h => nomatch h) ?_
    refine callV_try (as := [vI a1]) (t := [vI 0, vR 41]) (n := 42) (M := mX10_lonely) (fr' := 7) (lc' := 136) F hst (by decide +kernel) ml_14_69 rfl rfl rfl (by decide) (by decide) (by decide) (mc1 o9) (ms6 o9) hcon (fun v hv => ?_) (fun k hk H locs ls q ce g1 g2 g3 g4 g5 g6 => ?_)
    · subst hv
      cases v with
      | none => exact nomatch hf9
      | some x =>
        have hf9 : some ((0 : Int32), wup w9 41 0 x) = some (r, w1) := hf9
        cases hf9
        refine exB_ok F [(.i2l, 0, 0, 0, 0), (.lastore, 41, 1, 3, 0)] (lv' := [(0, vR 42), (1, vI a1), (2, vR 41)]) (st' := []) (w' := wup w9 41 0 x) (cs := [vp_in 0 1, ((Int32.toInt64 x).toInt32).toInt64 = Int32.toInt64 x]) (by decide +kernel) (by show some _ = some _; rw [long32]; rfl) (fun q hq => by
          rcases List.mem_cons.mp hq with rfl | hq
          · exact vp_in_nI (n := 0) (by decide) (by decide)
          rcases List.mem_cons.mp hq with rfl | hq
          · rw [long32]
          cases hq) ?_
        refine okc_goto (tgt := 15) (off := 6) F (by decide +kernel) (by decide) ?_
        refine exB_ok F [(.iconst 0, 0, 0, 0, 0)] (lv' := [(0, vR 42), (1, vI a1), (2, vR 41)]) (st' := [vI 0]) (w' := wup w9 41 0 x) (cs := []) (by decide +kernel) rfl (fun _ h => nomatch h) ?_
        exact okc_ret F B.returns (Nat.zero_le _) (Nat.zero_le _) (by decide +kernel)
    · subst hk
      have hf9 : (bif Nat.beq k 1 then some (1, w9) else none) = some (r, w1) := hf9
      match k, hf9, g6 with
      | 0, hf9, g6 =>
        exact nomatch hf9
      | 1, hf9, g6 =>
        cases hf9
        refine vx_catch (own := RN 14) (name := "java/lang/IllegalArgumentException") (E := "java/lang/IllegalArgumentException") (ce := ce) F.2.2.2.1 [] ⟨0, 9, 12, 13⟩ [] htab (fun z hz => nomatch hz) (by decide) (by decide) (hts _ lk_i) (va_Nw.use rfl (hS9.2.2.1 _ (List.mem_of_getElem? (i := 1) rfl))) g4 g5 g6 ?_
        exact hnd_n (k := 3) (n := 1) (v := 1) F B.returns g3 (by decide) (by decide +kernel) (by decide +kernel) rfl (by decide +kernel) (fun t h9 _ => ⟨⟨some 1, rfl, rfl, by rw [h9]; exact g1⟩, g2.F h9⟩) g2.2.2
      | k + 2, hf9, g6 => exact nomatch hf9
  have hcs : (lg_sl ([vR 42, vI a1, vR 41].map (cv Z))).length ≤ 4 := by rw [lgsl_len]; exact Nat.le_of_ble_eq_true rfl
  rw [lg_entry_eq]
  have hl := lv_entry ([vR 42, vI a1, vR 41].map (cv Z)) hcs
  rw [mlA_ok] at hl
  exact hk s.heap [] _ hP va_S.rf hl
abbrev hL_crowd : HI := (yL_crowd, method_21_code, 4, [(0, 9, 12, 13)])
noncomputable def H_crowd (w : Wld) (a1 : Int32) : Option (Int32 × Wld) := (F_C_crowd w a1).bind (fun q => match q.1 with
  | .inl k => bif Nat.beq k 1 then some (1, q.2) else none
  | .inr (some r) => some (0, wup q.2 41 0 r)
  | .inr none => none)
set_option maxHeartbeats 4000000 in
theorem h_crowd {Z : ZT} {l : Launch} (w : Wld) (a1 : Int32) (r : Int32) (w1 : Wld) (h : H_crowd w a1 = some (r, w1)) : ConH Z l hL_crowd 8 161 [vR 42, vI a1, vR 41] w r w1 := by
  intro hst
  refine vx_ofWH (cc := method_21_code) (maxL := 4) (ret := some .int) (hh := [(0, 9, 12, 13)]) (by decide +kernel) rfl ?_
  intro p e s m args below meth c s₁ B hml hv
  obtain ⟨⟨rfl, hP, hK, hD, hS9⟩, hNc⟩ := hv
  have hts0 := atoms_spec (ws := wsH hL_crowd) B.pre
  have htab : c.exceptionTable.toList = tableOf [(0, 9, 12, 13)] := vx_table (x := yL_crowd) B (hts0 _ List.mem_cons_self)
  have hts : ∀ w ∈ TBL, w.before ([vR 42, vI a1, vR 41].map (cv Z)).toArray s = true := fun w hw => hts0 w (List.mem_cons_of_mem _ hw)
  have F : Fx Z p l s m ([vR 42, vI a1, vR 41].map (cv Z)).toArray meth c 14 4 method_21_code := ⟨B.exec, B.bytes, hml, findClass_of_methodNamed B.named, hts, hK, hD, B.notSynchronized, hS9⟩
  obtain ⟨⟨o9, w9⟩, hq9, hf9⟩ := Option.bind_eq_some_iff.mp h
  have hcon := c_C_crowd (Z := Z) (l := l) w a1 o9 w9 hq9
  have hk : Okc Z p l e { frames := 8, cells := 1, slots := 6, locals := 161 } s m ([vR 42, vI a1, vR 41].map (cv Z)).toArray below meth c 0 0 4 (vx_MQ below (QcO Z (.inr (some r)) w1) (fun _ _ _ => False) ([vR 42, vI a1, vR 41].map (cv Z)).toArray s 1 6 (AW Z)) (0, [(0, vR 42), (1, vI a1), (2, vR 41)], [], w) := by
    refine exB_ok F [(.aload_n 2, 0, 0, 0, 0), (.iconst 0, 0, 0, 0, 0), (.aload_n 0, 0, 0, 0, 0), (.iload_n 1, 0, 0, 0, 0)] (lv' := [(0, vR 42), (1, vI a1), (2, vR 41)]) (st' := [vI a1, vR 42, vI 0, vR 41]) (w' := w) (cs := []) (by decide +kernel) rfl (fun _ h => nomatch h) ?_
    refine callV_try (as := [vI a1]) (t := [vI 0, vR 41]) (n := 42) (M := mX10_crowd) (fr' := 7) (lc' := 136) F hst (by decide +kernel) ml_14_72 rfl rfl rfl (by decide) (by decide) (by decide) (mc1 o9) (ms6 o9) hcon (fun v hv => ?_) (fun k hk H locs ls q ce g1 g2 g3 g4 g5 g6 => ?_)
    · subst hv
      cases v with
      | none => exact nomatch hf9
      | some x =>
        have hf9 : some ((0 : Int32), wup w9 41 0 x) = some (r, w1) := hf9
        cases hf9
        refine exB_ok F [(.i2l, 0, 0, 0, 0), (.lastore, 41, 1, 3, 0)] (lv' := [(0, vR 42), (1, vI a1), (2, vR 41)]) (st' := []) (w' := wup w9 41 0 x) (cs := [vp_in 0 1, ((Int32.toInt64 x).toInt32).toInt64 = Int32.toInt64 x]) (by decide +kernel) (by show some _ = some _; rw [long32]; rfl) (fun q hq => by
          rcases List.mem_cons.mp hq with rfl | hq
          · exact vp_in_nI (n := 0) (by decide) (by decide)
          rcases List.mem_cons.mp hq with rfl | hq
          · rw [long32]
          cases hq) ?_
        refine okc_goto (tgt := 15) (off := 6) F (by decide +kernel) (by decide) ?_
        refine exB_ok F [(.iconst 0, 0, 0, 0, 0)] (lv' := [(0, vR 42), (1, vI a1), (2, vR 41)]) (st' := [vI 0]) (w' := wup w9 41 0 x) (cs := []) (by decide +kernel) rfl (fun _ h => nomatch h) ?_
        exact okc_ret F B.returns (Nat.zero_le _) (Nat.zero_le _) (by decide +kernel)
    · subst hk
      have hf9 : (bif Nat.beq k 1 then some (1, w9) else none) = some (r, w1) := hf9
      match k, hf9, g6 with
      | 0, hf9, g6 =>
        exact nomatch hf9
      | 1, hf9, g6 =>
        cases hf9
        refine vx_catch (own := RN 14) (name := "java/lang/IllegalArgumentException") (E := "java/lang/IllegalArgumentException") (ce := ce) F.2.2.2.1 [] ⟨0, 9, 12, 13⟩ [] htab (fun z hz => nomatch hz) (by decide) (by decide) (hts _ lk_i) (va_Nw.use rfl (hS9.2.2.1 _ (List.mem_of_getElem? (i := 1) rfl))) g4 g5 g6 ?_
        exact hnd_n (k := 3) (n := 1) (v := 1) F B.returns g3 (by decide) (by decide +kernel) (by decide +kernel) rfl (by decide +kernel) (fun t h9 _ => ⟨⟨some 1, rfl, rfl, by rw [h9]; exact g1⟩, g2.F h9⟩) g2.2.2
      | k + 2, hf9, g6 => exact nomatch hf9
  have hcs : (lg_sl ([vR 42, vI a1, vR 41].map (cv Z))).length ≤ 4 := by rw [lgsl_len]; exact Nat.le_of_ble_eq_true rfl
  rw [lg_entry_eq]
  have hl := lv_entry ([vR 42, vI a1, vR 41].map (cv Z)) hcs
  rw [mlA_ok] at hl
  exact hk s.heap [] _ hP va_S.rf hl
abbrev hL_toPray : HI := (yL_toPray, method_22_code, 5, [(0, 10, 13, 18), (0, 10, 17, 13)])
noncomputable def H_toPray (w : Wld) (a1 : Int32) (a2 : Int32) : Option (Int32 × Wld) := (F_C_toPray w a1 a2).bind (fun q => match q.1 with
  | .inl k => bif Nat.beq k 0 then some (1, q.2) else bif Nat.beq k 1 then some (2, q.2) else none
  | .inr (some r) => some (0, wup q.2 41 0 r)
  | .inr none => none)
set_option maxHeartbeats 4000000 in
theorem h_toPray {Z : ZT} {l : Launch} (w : Wld) (a1 : Int32) (a2 : Int32) (r : Int32) (w1 : Wld) (h : H_toPray w a1 a2 = some (r, w1)) : ConH Z l hL_toPray 8 138 [vR 42, vI a1, vI a2, vR 41] w r w1 := by
  intro hst
  refine vx_ofWH (cc := method_22_code) (maxL := 5) (ret := some .int) (hh := [(0, 10, 13, 18), (0, 10, 17, 13)]) (by decide +kernel) rfl ?_
  intro p e s m args below meth c s₁ B hml hv
  obtain ⟨⟨rfl, hP, hK, hD, hS9⟩, hNc⟩ := hv
  have hts0 := atoms_spec (ws := wsH hL_toPray) B.pre
  have htab : c.exceptionTable.toList = tableOf [(0, 10, 13, 18), (0, 10, 17, 13)] := vx_table (x := yL_toPray) B (hts0 _ List.mem_cons_self)
  have hts : ∀ w ∈ TBL, w.before ([vR 42, vI a1, vI a2, vR 41].map (cv Z)).toArray s = true := fun w hw => hts0 w (List.mem_cons_of_mem _ hw)
  have F : Fx Z p l s m ([vR 42, vI a1, vI a2, vR 41].map (cv Z)).toArray meth c 14 5 method_22_code := ⟨B.exec, B.bytes, hml, findClass_of_methodNamed B.named, hts, hK, hD, B.notSynchronized, hS9⟩
  obtain ⟨⟨o9, w9⟩, hq9, hf9⟩ := Option.bind_eq_some_iff.mp h
  have hcon := c_C_toPray (Z := Z) (l := l) w a1 a2 o9 w9 hq9
  have hk : Okc Z p l e { frames := 8, cells := 1, slots := 6, locals := 138 } s m ([vR 42, vI a1, vI a2, vR 41].map (cv Z)).toArray below meth c 0 0 5 (vx_MQ below (QcO Z (.inr (some r)) w1) (fun _ _ _ => False) ([vR 42, vI a1, vI a2, vR 41].map (cv Z)).toArray s 1 6 (AW Z)) (0, [(0, vR 42), (1, vI a1), (2, vI a2), (3, vR 41)], [], w) := by
    refine exB_ok F [(.aload_n 3, 0, 0, 0, 0), (.iconst 0, 0, 0, 0, 0), (.aload_n 0, 0, 0, 0, 0), (.iload_n 1, 0, 0, 0, 0), (.iload_n 2, 0, 0, 0, 0)] (lv' := [(0, vR 42), (1, vI a1), (2, vI a2), (3, vR 41)]) (st' := [vI a2, vI a1, vR 42, vI 0, vR 41]) (w' := w) (cs := []) (by decide +kernel) rfl (fun _ h => nomatch h) ?_
    refine callV_try (as := [vI a1, vI a2]) (t := [vI 0, vR 41]) (n := 42) (M := mX10_toPray) (fr' := 7) (lc' := 115) F hst (by decide +kernel) ml_14_75 rfl rfl rfl (by decide) (by decide) (by decide) (mc1 o9) (ms6 o9) hcon (fun v hv => ?_) (fun k hk H locs ls q ce g1 g2 g3 g4 g5 g6 => ?_)
    · subst hv
      cases v with
      | none => exact nomatch hf9
      | some x =>
        have hf9 : some ((0 : Int32), wup w9 41 0 x) = some (r, w1) := hf9
        cases hf9
        refine exB_ok F [(.i2l, 0, 0, 0, 0), (.lastore, 41, 1, 3, 0)] (lv' := [(0, vR 42), (1, vI a1), (2, vI a2), (3, vR 41)]) (st' := []) (w' := wup w9 41 0 x) (cs := [vp_in 0 1, ((Int32.toInt64 x).toInt32).toInt64 = Int32.toInt64 x]) (by decide +kernel) (by show some _ = some _; rw [long32]; rfl) (fun q hq => by
          rcases List.mem_cons.mp hq with rfl | hq
          · exact vp_in_nI (n := 0) (by decide) (by decide)
          rcases List.mem_cons.mp hq with rfl | hq
          · rw [long32]
          cases hq) ?_
        refine okc_goto (tgt := 21) (off := 11) F (by decide +kernel) (by decide) ?_
        refine exB_ok F [(.iconst 0, 0, 0, 0, 0)] (lv' := [(0, vR 42), (1, vI a1), (2, vI a2), (3, vR 41)]) (st' := [vI 0]) (w' := wup w9 41 0 x) (cs := []) (by decide +kernel) rfl (fun _ h => nomatch h) ?_
        exact okc_ret F B.returns (Nat.zero_le _) (Nat.zero_le _) (by decide +kernel)
    · subst hk
      have hf9 : (bif Nat.beq k 0 then some (1, w9) else bif Nat.beq k 1 then some (2, w9) else none) = some (r, w1) := hf9
      match k, hf9, g6 with
      | 0, hf9, g6 =>
        cases hf9
        refine vx_catch (own := RN 14) (name := "java/util/NoSuchElementException") (E := "java/util/NoSuchElementException") (ce := ce) F.2.2.2.1 [] ⟨0, 10, 13, 18⟩ [⟨0, 10, 17, 13⟩] htab (fun z hz => nomatch hz) (by decide) (by decide) (hts _ lk_n) (va_Nw.use rfl (hS9.2.2.1 _ (List.mem_of_getElem? (i := 0) rfl))) g4 g5 g6 ?_
        exact hnd_w (k := 4) (n := 1) (v := 1) F B.returns g3 (by decide) (by decide +kernel) (by decide +kernel) rfl (by decide +kernel) (fun t h9 _ => ⟨⟨some 1, rfl, rfl, by rw [h9]; exact g1⟩, g2.F h9⟩) g2.2.2
      | 1, hf9, g6 =>
        cases hf9
        refine vx_catch (own := RN 14) (name := "java/lang/IllegalArgumentException") (E := "java/lang/IllegalArgumentException") (ce := ce) F.2.2.2.1 [⟨0, 10, 13, 18⟩] ⟨0, 10, 17, 13⟩ [] htab (fun z hz => by
          rcases List.mem_cons.mp hz with rfl | hz
          · exact Or.inr ⟨by decide, "java/util/NoSuchElementException", hts _ lk_n, hNc⟩
          · cases hz) (by decide) (by decide) (hts _ lk_i) (va_Nw.use rfl (hS9.2.2.1 _ (List.mem_of_getElem? (i := 1) rfl))) g4 g5 g6 ?_
        exact hnd_w (k := 4) (n := 2) (v := 2) F B.returns g3 (by decide) (by decide +kernel) (by decide +kernel) rfl (by decide +kernel) (fun t h9 _ => ⟨⟨some 2, rfl, rfl, by rw [h9]; exact g1⟩, g2.F h9⟩) g2.2.2
      | k + 2, hf9, g6 => exact nomatch hf9
  have hcs : (lg_sl ([vR 42, vI a1, vI a2, vR 41].map (cv Z))).length ≤ 5 := by rw [lgsl_len]; exact Nat.le_of_ble_eq_true rfl
  rw [lg_entry_eq]
  have hl := lv_entry ([vR 42, vI a1, vI a2, vR 41].map (cv Z)) hcs
  rw [mlA_ok] at hl
  exact hk s.heap [] _ hP va_S.rf hl
abbrev hL_needless : HI := (yL_needless, method_23_code, 4, [(0, 9, 12, 13)])
noncomputable def H_needless (w : Wld) (a1 : Int32) : Option (Int32 × Wld) := (F_C_needless w a1).bind (fun q => match q.1 with
  | .inl k => bif Nat.beq k 1 then some (1, q.2) else none
  | .inr (some r) => some (0, wup q.2 41 0 r)
  | .inr none => none)
set_option maxHeartbeats 4000000 in
theorem h_needless {Z : ZT} {l : Launch} (w : Wld) (a1 : Int32) (r : Int32) (w1 : Wld) (h : H_needless w a1 = some (r, w1)) : ConH Z l hL_needless 8 150 [vR 42, vI a1, vR 41] w r w1 := by
  intro hst
  refine vx_ofWH (cc := method_23_code) (maxL := 4) (ret := some .int) (hh := [(0, 9, 12, 13)]) (by decide +kernel) rfl ?_
  intro p e s m args below meth c s₁ B hml hv
  obtain ⟨⟨rfl, hP, hK, hD, hS9⟩, hNc⟩ := hv
  have hts0 := atoms_spec (ws := wsH hL_needless) B.pre
  have htab : c.exceptionTable.toList = tableOf [(0, 9, 12, 13)] := vx_table (x := yL_needless) B (hts0 _ List.mem_cons_self)
  have hts : ∀ w ∈ TBL, w.before ([vR 42, vI a1, vR 41].map (cv Z)).toArray s = true := fun w hw => hts0 w (List.mem_cons_of_mem _ hw)
  have F : Fx Z p l s m ([vR 42, vI a1, vR 41].map (cv Z)).toArray meth c 14 4 method_23_code := ⟨B.exec, B.bytes, hml, findClass_of_methodNamed B.named, hts, hK, hD, B.notSynchronized, hS9⟩
  obtain ⟨⟨o9, w9⟩, hq9, hf9⟩ := Option.bind_eq_some_iff.mp h
  have hcon := c_C_needless (Z := Z) (l := l) w a1 o9 w9 hq9
  have hk : Okc Z p l e { frames := 8, cells := 1, slots := 6, locals := 150 } s m ([vR 42, vI a1, vR 41].map (cv Z)).toArray below meth c 0 0 4 (vx_MQ below (QcO Z (.inr (some r)) w1) (fun _ _ _ => False) ([vR 42, vI a1, vR 41].map (cv Z)).toArray s 1 6 (AW Z)) (0, [(0, vR 42), (1, vI a1), (2, vR 41)], [], w) := by
    refine exB_ok F [(.aload_n 2, 0, 0, 0, 0), (.iconst 0, 0, 0, 0, 0), (.aload_n 0, 0, 0, 0, 0), (.iload_n 1, 0, 0, 0, 0)] (lv' := [(0, vR 42), (1, vI a1), (2, vR 41)]) (st' := [vI a1, vR 42, vI 0, vR 41]) (w' := w) (cs := []) (by decide +kernel) rfl (fun _ h => nomatch h) ?_
    refine callV_try (as := [vI a1]) (t := [vI 0, vR 41]) (n := 42) (M := mX10_needless) (fr' := 7) (lc' := 125) F hst (by decide +kernel) ml_14_78 rfl rfl rfl (by decide) (by decide) (by decide) (mc1 o9) (ms6 o9) hcon (fun v hv => ?_) (fun k hk H locs ls q ce g1 g2 g3 g4 g5 g6 => ?_)
    · subst hv
      cases v with
      | none => exact nomatch hf9
      | some x =>
        have hf9 : some ((0 : Int32), wup w9 41 0 x) = some (r, w1) := hf9
        cases hf9
        refine exB_ok F [(.i2l, 0, 0, 0, 0), (.lastore, 41, 1, 3, 0)] (lv' := [(0, vR 42), (1, vI a1), (2, vR 41)]) (st' := []) (w' := wup w9 41 0 x) (cs := [vp_in 0 1, ((Int32.toInt64 x).toInt32).toInt64 = Int32.toInt64 x]) (by decide +kernel) (by show some _ = some _; rw [long32]; rfl) (fun q hq => by
          rcases List.mem_cons.mp hq with rfl | hq
          · exact vp_in_nI (n := 0) (by decide) (by decide)
          rcases List.mem_cons.mp hq with rfl | hq
          · rw [long32]
          cases hq) ?_
        refine okc_goto (tgt := 15) (off := 6) F (by decide +kernel) (by decide) ?_
        refine exB_ok F [(.iconst 0, 0, 0, 0, 0)] (lv' := [(0, vR 42), (1, vI a1), (2, vR 41)]) (st' := [vI 0]) (w' := wup w9 41 0 x) (cs := []) (by decide +kernel) rfl (fun _ h => nomatch h) ?_
        exact okc_ret F B.returns (Nat.zero_le _) (Nat.zero_le _) (by decide +kernel)
    · subst hk
      have hf9 : (bif Nat.beq k 1 then some (1, w9) else none) = some (r, w1) := hf9
      match k, hf9, g6 with
      | 0, hf9, g6 =>
        exact nomatch hf9
      | 1, hf9, g6 =>
        cases hf9
        refine vx_catch (own := RN 14) (name := "java/lang/IllegalArgumentException") (E := "java/lang/IllegalArgumentException") (ce := ce) F.2.2.2.1 [] ⟨0, 9, 12, 13⟩ [] htab (fun z hz => nomatch hz) (by decide) (by decide) (hts _ lk_i) (va_Nw.use rfl (hS9.2.2.1 _ (List.mem_of_getElem? (i := 1) rfl))) g4 g5 g6 ?_
        exact hnd_n (k := 3) (n := 1) (v := 1) F B.returns g3 (by decide) (by decide +kernel) (by decide +kernel) rfl (by decide +kernel) (fun t h9 _ => ⟨⟨some 1, rfl, rfl, by rw [h9]; exact g1⟩, g2.F h9⟩) g2.2.2
      | k + 2, hf9, g6 => exact nomatch hf9
  have hcs : (lg_sl ([vR 42, vI a1, vR 41].map (cv Z))).length ≤ 4 := by rw [lgsl_len]; exact Nat.le_of_ble_eq_true rfl
  rw [lg_entry_eq]
  have hl := lv_entry ([vR 42, vI a1, vR 41].map (cv Z)) hcs
  rw [mlA_ok] at hl
  exact hk s.heap [] _ hP va_S.rf hl
abbrev hL_psalm : HI := (yL_psalm, method_24_code, 4, [(0, 9, 12, 13)])
noncomputable def H_psalm (w : Wld) (a1 : Int32) : Option (Int32 × Wld) := (F_C_psalm w a1).bind (fun q => match q.1 with
  | .inl k => bif Nat.beq k 1 then some (1, q.2) else none
  | .inr (some r) => some (0, wup q.2 41 0 r)
  | .inr none => none)
set_option maxHeartbeats 4000000 in
theorem h_psalm {Z : ZT} {l : Launch} (w : Wld) (a1 : Int32) (r : Int32) (w1 : Wld) (h : H_psalm w a1 = some (r, w1)) : ConH Z l hL_psalm 8 135 [vR 42, vI a1, vR 41] w r w1 := by
  intro hst
  refine vx_ofWH (cc := method_24_code) (maxL := 4) (ret := some .int) (hh := [(0, 9, 12, 13)]) (by decide +kernel) rfl ?_
  intro p e s m args below meth c s₁ B hml hv
  obtain ⟨⟨rfl, hP, hK, hD, hS9⟩, hNc⟩ := hv
  have hts0 := atoms_spec (ws := wsH hL_psalm) B.pre
  have htab : c.exceptionTable.toList = tableOf [(0, 9, 12, 13)] := vx_table (x := yL_psalm) B (hts0 _ List.mem_cons_self)
  have hts : ∀ w ∈ TBL, w.before ([vR 42, vI a1, vR 41].map (cv Z)).toArray s = true := fun w hw => hts0 w (List.mem_cons_of_mem _ hw)
  have F : Fx Z p l s m ([vR 42, vI a1, vR 41].map (cv Z)).toArray meth c 14 4 method_24_code := ⟨B.exec, B.bytes, hml, findClass_of_methodNamed B.named, hts, hK, hD, B.notSynchronized, hS9⟩
  obtain ⟨⟨o9, w9⟩, hq9, hf9⟩ := Option.bind_eq_some_iff.mp h
  have hcon := c_C_psalm (Z := Z) (l := l) w a1 o9 w9 hq9
  have hk : Okc Z p l e { frames := 8, cells := 1, slots := 6, locals := 135 } s m ([vR 42, vI a1, vR 41].map (cv Z)).toArray below meth c 0 0 4 (vx_MQ below (QcO Z (.inr (some r)) w1) (fun _ _ _ => False) ([vR 42, vI a1, vR 41].map (cv Z)).toArray s 1 6 (AW Z)) (0, [(0, vR 42), (1, vI a1), (2, vR 41)], [], w) := by
    refine exB_ok F [(.aload_n 2, 0, 0, 0, 0), (.iconst 0, 0, 0, 0, 0), (.aload_n 0, 0, 0, 0, 0), (.iload_n 1, 0, 0, 0, 0)] (lv' := [(0, vR 42), (1, vI a1), (2, vR 41)]) (st' := [vI a1, vR 42, vI 0, vR 41]) (w' := w) (cs := []) (by decide +kernel) rfl (fun _ h => nomatch h) ?_
    refine callV_try (as := [vI a1]) (t := [vI 0, vR 41]) (n := 42) (M := mX10_psalm) (fr' := 7) (lc' := 111) F hst (by decide +kernel) ml_14_81 rfl rfl rfl (by decide) (by decide) (by decide) (mc1 o9) (ms6 o9) hcon (fun v hv => ?_) (fun k hk H locs ls q ce g1 g2 g3 g4 g5 g6 => ?_)
    · subst hv
      cases v with
      | none => exact nomatch hf9
      | some x =>
        have hf9 : some ((0 : Int32), wup w9 41 0 x) = some (r, w1) := hf9
        cases hf9
        refine exB_ok F [(.i2l, 0, 0, 0, 0), (.lastore, 41, 1, 3, 0)] (lv' := [(0, vR 42), (1, vI a1), (2, vR 41)]) (st' := []) (w' := wup w9 41 0 x) (cs := [vp_in 0 1, ((Int32.toInt64 x).toInt32).toInt64 = Int32.toInt64 x]) (by decide +kernel) (by show some _ = some _; rw [long32]; rfl) (fun q hq => by
          rcases List.mem_cons.mp hq with rfl | hq
          · exact vp_in_nI (n := 0) (by decide) (by decide)
          rcases List.mem_cons.mp hq with rfl | hq
          · rw [long32]
          cases hq) ?_
        refine okc_goto (tgt := 15) (off := 6) F (by decide +kernel) (by decide) ?_
        refine exB_ok F [(.iconst 0, 0, 0, 0, 0)] (lv' := [(0, vR 42), (1, vI a1), (2, vR 41)]) (st' := [vI 0]) (w' := wup w9 41 0 x) (cs := []) (by decide +kernel) rfl (fun _ h => nomatch h) ?_
        exact okc_ret F B.returns (Nat.zero_le _) (Nat.zero_le _) (by decide +kernel)
    · subst hk
      have hf9 : (bif Nat.beq k 1 then some (1, w9) else none) = some (r, w1) := hf9
      match k, hf9, g6 with
      | 0, hf9, g6 =>
        exact nomatch hf9
      | 1, hf9, g6 =>
        cases hf9
        refine vx_catch (own := RN 14) (name := "java/lang/IllegalArgumentException") (E := "java/lang/IllegalArgumentException") (ce := ce) F.2.2.2.1 [] ⟨0, 9, 12, 13⟩ [] htab (fun z hz => nomatch hz) (by decide) (by decide) (hts _ lk_i) (va_Nw.use rfl (hS9.2.2.1 _ (List.mem_of_getElem? (i := 1) rfl))) g4 g5 g6 ?_
        exact hnd_n (k := 3) (n := 1) (v := 1) F B.returns g3 (by decide) (by decide +kernel) (by decide +kernel) rfl (by decide +kernel) (fun t h9 _ => ⟨⟨some 1, rfl, rfl, by rw [h9]; exact g1⟩, g2.F h9⟩) g2.2.2
      | k + 2, hf9, g6 => exact nomatch hf9
  have hcs : (lg_sl ([vR 42, vI a1, vR 41].map (cv Z))).length ≤ 4 := by rw [lgsl_len]; exact Nat.le_of_ble_eq_true rfl
  rw [lg_entry_eq]
  have hl := lv_entry ([vR 42, vI a1, vR 41].map (cv Z)) hcs
  rw [mlA_ok] at hl
  exact hk s.heap [] _ hP va_S.rf hl
abbrev hL_spread : HI := (yL_spread, method_25_code, 4, [(0, 9, 12, 13)])
noncomputable def H_spread (w : Wld) (a1 : Int32) : Option (Int32 × Wld) := (F_C_spread w a1).bind (fun q => match q.1 with
  | .inl k => bif Nat.beq k 1 then some (1, q.2) else none
  | .inr (some r) => some (0, wup q.2 41 0 r)
  | .inr none => none)
set_option maxHeartbeats 4000000 in
theorem h_spread {Z : ZT} {l : Launch} (w : Wld) (a1 : Int32) (r : Int32) (w1 : Wld) (h : H_spread w a1 = some (r, w1)) : ConH Z l hL_spread 8 159 [vR 42, vI a1, vR 41] w r w1 := by
  intro hst
  refine vx_ofWH (cc := method_25_code) (maxL := 4) (ret := some .int) (hh := [(0, 9, 12, 13)]) (by decide +kernel) rfl ?_
  intro p e s m args below meth c s₁ B hml hv
  obtain ⟨⟨rfl, hP, hK, hD, hS9⟩, hNc⟩ := hv
  have hts0 := atoms_spec (ws := wsH hL_spread) B.pre
  have htab : c.exceptionTable.toList = tableOf [(0, 9, 12, 13)] := vx_table (x := yL_spread) B (hts0 _ List.mem_cons_self)
  have hts : ∀ w ∈ TBL, w.before ([vR 42, vI a1, vR 41].map (cv Z)).toArray s = true := fun w hw => hts0 w (List.mem_cons_of_mem _ hw)
  have F : Fx Z p l s m ([vR 42, vI a1, vR 41].map (cv Z)).toArray meth c 14 4 method_25_code := ⟨B.exec, B.bytes, hml, findClass_of_methodNamed B.named, hts, hK, hD, B.notSynchronized, hS9⟩
  obtain ⟨⟨o9, w9⟩, hq9, hf9⟩ := Option.bind_eq_some_iff.mp h
  have hcon := c_C_spread (Z := Z) (l := l) w a1 o9 w9 hq9
  have hk : Okc Z p l e { frames := 8, cells := 1, slots := 6, locals := 159 } s m ([vR 42, vI a1, vR 41].map (cv Z)).toArray below meth c 0 0 4 (vx_MQ below (QcO Z (.inr (some r)) w1) (fun _ _ _ => False) ([vR 42, vI a1, vR 41].map (cv Z)).toArray s 1 6 (AW Z)) (0, [(0, vR 42), (1, vI a1), (2, vR 41)], [], w) := by
    refine exB_ok F [(.aload_n 2, 0, 0, 0, 0), (.iconst 0, 0, 0, 0, 0), (.aload_n 0, 0, 0, 0, 0), (.iload_n 1, 0, 0, 0, 0)] (lv' := [(0, vR 42), (1, vI a1), (2, vR 41)]) (st' := [vI a1, vR 42, vI 0, vR 41]) (w' := w) (cs := []) (by decide +kernel) rfl (fun _ h => nomatch h) ?_
    refine callV_try (as := [vI a1]) (t := [vI 0, vR 41]) (n := 42) (M := mX10_spread) (fr' := 7) (lc' := 136) F hst (by decide +kernel) ml_14_84 rfl rfl rfl (by decide) (by decide) (by decide) (mc1 o9) (ms6 o9) hcon (fun v hv => ?_) (fun k hk H locs ls q ce g1 g2 g3 g4 g5 g6 => ?_)
    · subst hv
      cases v with
      | none => exact nomatch hf9
      | some x =>
        have hf9 : some ((0 : Int32), wup w9 41 0 x) = some (r, w1) := hf9
        cases hf9
        refine exB_ok F [(.i2l, 0, 0, 0, 0), (.lastore, 41, 1, 3, 0)] (lv' := [(0, vR 42), (1, vI a1), (2, vR 41)]) (st' := []) (w' := wup w9 41 0 x) (cs := [vp_in 0 1, ((Int32.toInt64 x).toInt32).toInt64 = Int32.toInt64 x]) (by decide +kernel) (by show some _ = some _; rw [long32]; rfl) (fun q hq => by
          rcases List.mem_cons.mp hq with rfl | hq
          · exact vp_in_nI (n := 0) (by decide) (by decide)
          rcases List.mem_cons.mp hq with rfl | hq
          · rw [long32]
          cases hq) ?_
        refine okc_goto (tgt := 15) (off := 6) F (by decide +kernel) (by decide) ?_
        refine exB_ok F [(.iconst 0, 0, 0, 0, 0)] (lv' := [(0, vR 42), (1, vI a1), (2, vR 41)]) (st' := [vI 0]) (w' := wup w9 41 0 x) (cs := []) (by decide +kernel) rfl (fun _ h => nomatch h) ?_
        exact okc_ret F B.returns (Nat.zero_le _) (Nat.zero_le _) (by decide +kernel)
    · subst hk
      have hf9 : (bif Nat.beq k 1 then some (1, w9) else none) = some (r, w1) := hf9
      match k, hf9, g6 with
      | 0, hf9, g6 =>
        exact nomatch hf9
      | 1, hf9, g6 =>
        cases hf9
        refine vx_catch (own := RN 14) (name := "java/lang/IllegalArgumentException") (E := "java/lang/IllegalArgumentException") (ce := ce) F.2.2.2.1 [] ⟨0, 9, 12, 13⟩ [] htab (fun z hz => nomatch hz) (by decide) (by decide) (hts _ lk_i) (va_Nw.use rfl (hS9.2.2.1 _ (List.mem_of_getElem? (i := 1) rfl))) g4 g5 g6 ?_
        exact hnd_n (k := 3) (n := 1) (v := 1) F B.returns g3 (by decide) (by decide +kernel) (by decide +kernel) rfl (by decide +kernel) (fun t h9 _ => ⟨⟨some 1, rfl, rfl, by rw [h9]; exact g1⟩, g2.F h9⟩) g2.2.2
      | k + 2, hf9, g6 => exact nomatch hf9
  have hcs : (lg_sl ([vR 42, vI a1, vR 41].map (cv Z))).length ≤ 4 := by rw [lgsl_len]; exact Nat.le_of_ble_eq_true rfl
  rw [lg_entry_eq]
  have hl := lv_entry ([vR 42, vI a1, vR 41].map (cv Z)) hcs
  rw [mlA_ok] at hl
  exact hk s.heap [] _ hP va_S.rf hl
abbrev hL_eaten : HI := (yL_eaten, method_26_code, 4, [(0, 9, 12, 18)])
noncomputable def H_eaten (w : Wld) (a1 : Int32) : Option (Int32 × Wld) := (F_C_eaten w a1).bind (fun q => match q.1 with
  | .inl k => bif Nat.beq k 0 then some (1, q.2) else none
  | .inr (some r) => some (0, wup q.2 41 0 r)
  | .inr none => none)
set_option maxHeartbeats 4000000 in
theorem h_eaten {Z : ZT} {l : Launch} (w : Wld) (a1 : Int32) (r : Int32) (w1 : Wld) (h : H_eaten w a1 = some (r, w1)) : ConH Z l hL_eaten 8 162 [vR 42, vI a1, vR 41] w r w1 := by
  intro hst
  refine vx_ofWH (cc := method_26_code) (maxL := 4) (ret := some .int) (hh := [(0, 9, 12, 18)]) (by decide +kernel) rfl ?_
  intro p e s m args below meth c s₁ B hml hv
  obtain ⟨⟨rfl, hP, hK, hD, hS9⟩, hNc⟩ := hv
  have hts0 := atoms_spec (ws := wsH hL_eaten) B.pre
  have htab : c.exceptionTable.toList = tableOf [(0, 9, 12, 18)] := vx_table (x := yL_eaten) B (hts0 _ List.mem_cons_self)
  have hts : ∀ w ∈ TBL, w.before ([vR 42, vI a1, vR 41].map (cv Z)).toArray s = true := fun w hw => hts0 w (List.mem_cons_of_mem _ hw)
  have F : Fx Z p l s m ([vR 42, vI a1, vR 41].map (cv Z)).toArray meth c 14 4 method_26_code := ⟨B.exec, B.bytes, hml, findClass_of_methodNamed B.named, hts, hK, hD, B.notSynchronized, hS9⟩
  obtain ⟨⟨o9, w9⟩, hq9, hf9⟩ := Option.bind_eq_some_iff.mp h
  have hcon := c_C_eaten (Z := Z) (l := l) w a1 o9 w9 hq9
  have hk : Okc Z p l e { frames := 8, cells := 1, slots := 6, locals := 162 } s m ([vR 42, vI a1, vR 41].map (cv Z)).toArray below meth c 0 0 4 (vx_MQ below (QcO Z (.inr (some r)) w1) (fun _ _ _ => False) ([vR 42, vI a1, vR 41].map (cv Z)).toArray s 1 6 (AW Z)) (0, [(0, vR 42), (1, vI a1), (2, vR 41)], [], w) := by
    refine exB_ok F [(.aload_n 2, 0, 0, 0, 0), (.iconst 0, 0, 0, 0, 0), (.aload_n 0, 0, 0, 0, 0), (.iload_n 1, 0, 0, 0, 0)] (lv' := [(0, vR 42), (1, vI a1), (2, vR 41)]) (st' := [vI a1, vR 42, vI 0, vR 41]) (w' := w) (cs := []) (by decide +kernel) rfl (fun _ h => nomatch h) ?_
    refine callV_try (as := [vI a1]) (t := [vI 0, vR 41]) (n := 42) (M := mX10_eaten) (fr' := 7) (lc' := 137) F hst (by decide +kernel) ml_14_87 rfl rfl rfl (by decide) (by decide) (by decide) (mc1 o9) (ms6 o9) hcon (fun v hv => ?_) (fun k hk H locs ls q ce g1 g2 g3 g4 g5 g6 => ?_)
    · subst hv
      cases v with
      | none => exact nomatch hf9
      | some x =>
        have hf9 : some ((0 : Int32), wup w9 41 0 x) = some (r, w1) := hf9
        cases hf9
        refine exB_ok F [(.i2l, 0, 0, 0, 0), (.lastore, 41, 1, 3, 0)] (lv' := [(0, vR 42), (1, vI a1), (2, vR 41)]) (st' := []) (w' := wup w9 41 0 x) (cs := [vp_in 0 1, ((Int32.toInt64 x).toInt32).toInt64 = Int32.toInt64 x]) (by decide +kernel) (by show some _ = some _; rw [long32]; rfl) (fun q hq => by
          rcases List.mem_cons.mp hq with rfl | hq
          · exact vp_in_nI (n := 0) (by decide) (by decide)
          rcases List.mem_cons.mp hq with rfl | hq
          · rw [long32]
          cases hq) ?_
        refine okc_goto (tgt := 15) (off := 6) F (by decide +kernel) (by decide) ?_
        refine exB_ok F [(.iconst 0, 0, 0, 0, 0)] (lv' := [(0, vR 42), (1, vI a1), (2, vR 41)]) (st' := [vI 0]) (w' := wup w9 41 0 x) (cs := []) (by decide +kernel) rfl (fun _ h => nomatch h) ?_
        exact okc_ret F B.returns (Nat.zero_le _) (Nat.zero_le _) (by decide +kernel)
    · subst hk
      have hf9 : (bif Nat.beq k 0 then some (1, w9) else none) = some (r, w1) := hf9
      match k, hf9, g6 with
      | 0, hf9, g6 =>
        cases hf9
        refine vx_catch (own := RN 14) (name := "java/util/NoSuchElementException") (E := "java/util/NoSuchElementException") (ce := ce) F.2.2.2.1 [] ⟨0, 9, 12, 18⟩ [] htab (fun z hz => nomatch hz) (by decide) (by decide) (hts _ lk_n) (va_Nw.use rfl (hS9.2.2.1 _ (List.mem_of_getElem? (i := 0) rfl))) g4 g5 g6 ?_
        exact hnd_n (k := 3) (n := 1) (v := 1) F B.returns g3 (by decide) (by decide +kernel) (by decide +kernel) rfl (by decide +kernel) (fun t h9 _ => ⟨⟨some 1, rfl, rfl, by rw [h9]; exact g1⟩, g2.F h9⟩) g2.2.2
      | 1, hf9, g6 =>
        exact nomatch hf9
      | k + 2, hf9, g6 => exact nomatch hf9
  have hcs : (lg_sl ([vR 42, vI a1, vR 41].map (cv Z))).length ≤ 4 := by rw [lgsl_len]; exact Nat.le_of_ble_eq_true rfl
  rw [lg_entry_eq]
  have hl := lv_entry ([vR 42, vI a1, vR 41].map (cv Z)) hcs
  rw [mlA_ok] at hl
  exact hk s.heap [] _ hP va_S.rf hl
abbrev hL_listen : HI := (yL_listen, method_27_code, 4, [(0, 9, 12, 18)])
noncomputable def H_listen (w : Wld) (a1 : Int32) : Option (Int32 × Wld) := (F_C_listen w a1).bind (fun q => match q.1 with
  | .inl k => bif Nat.beq k 0 then some (1, q.2) else none
  | .inr (some r) => some (0, wup q.2 41 0 r)
  | .inr none => none)
set_option maxHeartbeats 4000000 in
theorem h_listen {Z : ZT} {l : Launch} (w : Wld) (a1 : Int32) (r : Int32) (w1 : Wld) (h : H_listen w a1 = some (r, w1)) : ConH Z l hL_listen 8 163 [vR 42, vI a1, vR 41] w r w1 := by
  intro hst
  refine vx_ofWH (cc := method_27_code) (maxL := 4) (ret := some .int) (hh := [(0, 9, 12, 18)]) (by decide +kernel) rfl ?_
  intro p e s m args below meth c s₁ B hml hv
  obtain ⟨⟨rfl, hP, hK, hD, hS9⟩, hNc⟩ := hv
  have hts0 := atoms_spec (ws := wsH hL_listen) B.pre
  have htab : c.exceptionTable.toList = tableOf [(0, 9, 12, 18)] := vx_table (x := yL_listen) B (hts0 _ List.mem_cons_self)
  have hts : ∀ w ∈ TBL, w.before ([vR 42, vI a1, vR 41].map (cv Z)).toArray s = true := fun w hw => hts0 w (List.mem_cons_of_mem _ hw)
  have F : Fx Z p l s m ([vR 42, vI a1, vR 41].map (cv Z)).toArray meth c 14 4 method_27_code := ⟨B.exec, B.bytes, hml, findClass_of_methodNamed B.named, hts, hK, hD, B.notSynchronized, hS9⟩
  obtain ⟨⟨o9, w9⟩, hq9, hf9⟩ := Option.bind_eq_some_iff.mp h
  have hcon := c_C_listen (Z := Z) (l := l) w a1 o9 w9 hq9
  have hk : Okc Z p l e { frames := 8, cells := 1, slots := 6, locals := 163 } s m ([vR 42, vI a1, vR 41].map (cv Z)).toArray below meth c 0 0 4 (vx_MQ below (QcO Z (.inr (some r)) w1) (fun _ _ _ => False) ([vR 42, vI a1, vR 41].map (cv Z)).toArray s 1 6 (AW Z)) (0, [(0, vR 42), (1, vI a1), (2, vR 41)], [], w) := by
    refine exB_ok F [(.aload_n 2, 0, 0, 0, 0), (.iconst 0, 0, 0, 0, 0), (.aload_n 0, 0, 0, 0, 0), (.iload_n 1, 0, 0, 0, 0)] (lv' := [(0, vR 42), (1, vI a1), (2, vR 41)]) (st' := [vI a1, vR 42, vI 0, vR 41]) (w' := w) (cs := []) (by decide +kernel) rfl (fun _ h => nomatch h) ?_
    refine callV_try (as := [vI a1]) (t := [vI 0, vR 41]) (n := 42) (M := mX10_listen) (fr' := 7) (lc' := 137) F hst (by decide +kernel) ml_14_90 rfl rfl rfl (by decide) (by decide) (by decide) (mc1 o9) (ms6 o9) hcon (fun v hv => ?_) (fun k hk H locs ls q ce g1 g2 g3 g4 g5 g6 => ?_)
    · subst hv
      cases v with
      | none => exact nomatch hf9
      | some x =>
        have hf9 : some ((0 : Int32), wup w9 41 0 x) = some (r, w1) := hf9
        cases hf9
        refine exB_ok F [(.i2l, 0, 0, 0, 0), (.lastore, 41, 1, 3, 0)] (lv' := [(0, vR 42), (1, vI a1), (2, vR 41)]) (st' := []) (w' := wup w9 41 0 x) (cs := [vp_in 0 1, ((Int32.toInt64 x).toInt32).toInt64 = Int32.toInt64 x]) (by decide +kernel) (by show some _ = some _; rw [long32]; rfl) (fun q hq => by
          rcases List.mem_cons.mp hq with rfl | hq
          · exact vp_in_nI (n := 0) (by decide) (by decide)
          rcases List.mem_cons.mp hq with rfl | hq
          · rw [long32]
          cases hq) ?_
        refine okc_goto (tgt := 15) (off := 6) F (by decide +kernel) (by decide) ?_
        refine exB_ok F [(.iconst 0, 0, 0, 0, 0)] (lv' := [(0, vR 42), (1, vI a1), (2, vR 41)]) (st' := [vI 0]) (w' := wup w9 41 0 x) (cs := []) (by decide +kernel) rfl (fun _ h => nomatch h) ?_
        exact okc_ret F B.returns (Nat.zero_le _) (Nat.zero_le _) (by decide +kernel)
    · subst hk
      have hf9 : (bif Nat.beq k 0 then some (1, w9) else none) = some (r, w1) := hf9
      match k, hf9, g6 with
      | 0, hf9, g6 =>
        cases hf9
        refine vx_catch (own := RN 14) (name := "java/util/NoSuchElementException") (E := "java/util/NoSuchElementException") (ce := ce) F.2.2.2.1 [] ⟨0, 9, 12, 18⟩ [] htab (fun z hz => nomatch hz) (by decide) (by decide) (hts _ lk_n) (va_Nw.use rfl (hS9.2.2.1 _ (List.mem_of_getElem? (i := 0) rfl))) g4 g5 g6 ?_
        exact hnd_n (k := 3) (n := 1) (v := 1) F B.returns g3 (by decide) (by decide +kernel) (by decide +kernel) rfl (by decide +kernel) (fun t h9 _ => ⟨⟨some 1, rfl, rfl, by rw [h9]; exact g1⟩, g2.F h9⟩) g2.2.2
      | 1, hf9, g6 =>
        exact nomatch hf9
      | k + 2, hf9, g6 => exact nomatch hf9
  have hcs : (lg_sl ([vR 42, vI a1, vR 41].map (cv Z))).length ≤ 4 := by rw [lgsl_len]; exact Nat.le_of_ble_eq_true rfl
  rw [lg_entry_eq]
  have hl := lv_entry ([vR 42, vI a1, vR 41].map (cv Z)) hcs
  rw [mlA_ok] at hl
  exact hk s.heap [] _ hP va_S.rf hl
abbrev hL_game : HI := (yL_game, method_28_code, 6, [(0, 12, 15, 18), (0, 12, 19, 13)])
noncomputable def H_game (w : Wld) (a1 : Int32) (a2 : Int32) (a3 : Int32) : Option (Int32 × Wld) := (F_C_game w a1 a2 a3).bind (fun q => match q.1 with
  | .inl k => bif Nat.beq k 0 then some (1, q.2) else bif Nat.beq k 1 then some (2, q.2) else none
  | .inr (some r) => some (0, wup q.2 41 0 r)
  | .inr none => none)
set_option maxHeartbeats 4000000 in
theorem h_game {Z : ZT} {l : Launch} (w : Wld) (a1 : Int32) (a2 : Int32) (a3 : Int32) (r : Int32) (w1 : Wld) (h : H_game w a1 a2 a3 = some (r, w1)) : ConH Z l hL_game 8 154 [vR 42, vI a1, vI a2, vI a3, vR 41] w r w1 := by
  intro hst
  refine vx_ofWH (cc := method_28_code) (maxL := 6) (ret := some .int) (hh := [(0, 12, 15, 18), (0, 12, 19, 13)]) (by decide +kernel) rfl ?_
  intro p e s m args below meth c s₁ B hml hv
  obtain ⟨⟨rfl, hP, hK, hD, hS9⟩, hNc⟩ := hv
  have hts0 := atoms_spec (ws := wsH hL_game) B.pre
  have htab : c.exceptionTable.toList = tableOf [(0, 12, 15, 18), (0, 12, 19, 13)] := vx_table (x := yL_game) B (hts0 _ List.mem_cons_self)
  have hts : ∀ w ∈ TBL, w.before ([vR 42, vI a1, vI a2, vI a3, vR 41].map (cv Z)).toArray s = true := fun w hw => hts0 w (List.mem_cons_of_mem _ hw)
  have F : Fx Z p l s m ([vR 42, vI a1, vI a2, vI a3, vR 41].map (cv Z)).toArray meth c 14 6 method_28_code := ⟨B.exec, B.bytes, hml, findClass_of_methodNamed B.named, hts, hK, hD, B.notSynchronized, hS9⟩
  obtain ⟨⟨o9, w9⟩, hq9, hf9⟩ := Option.bind_eq_some_iff.mp h
  have hcon := c_C_game (Z := Z) (l := l) w a1 a2 a3 o9 w9 hq9
  have hk : Okc Z p l e { frames := 8, cells := 1, slots := 6, locals := 154 } s m ([vR 42, vI a1, vI a2, vI a3, vR 41].map (cv Z)).toArray below meth c 0 0 6 (vx_MQ below (QcO Z (.inr (some r)) w1) (fun _ _ _ => False) ([vR 42, vI a1, vI a2, vI a3, vR 41].map (cv Z)).toArray s 1 6 (AW Z)) (0, [(0, vR 42), (1, vI a1), (2, vI a2), (3, vI a3), (4, vR 41)], [], w) := by
    refine exB_ok F [(.aload 4, 0, 0, 0, 0), (.iconst 0, 0, 0, 0, 0), (.aload_n 0, 0, 0, 0, 0), (.iload_n 1, 0, 0, 0, 0), (.iload_n 2, 0, 0, 0, 0), (.iload_n 3, 0, 0, 0, 0)] (lv' := [(0, vR 42), (1, vI a1), (2, vI a2), (3, vI a3), (4, vR 41)]) (st' := [vI a3, vI a2, vI a1, vR 42, vI 0, vR 41]) (w' := w) (cs := []) (by decide +kernel) rfl (fun _ h => nomatch h) ?_
    refine callV_try (as := [vI a1, vI a2, vI a3]) (t := [vI 0, vR 41]) (n := 42) (M := mX10_game) (fr' := 7) (lc' := 128) F hst (by decide +kernel) ml_14_93 rfl rfl rfl (by decide) (by decide) (by decide) (mc1 o9) (ms6 o9) hcon (fun v hv => ?_) (fun k hk H locs ls q ce g1 g2 g3 g4 g5 g6 => ?_)
    · subst hv
      cases v with
      | none => exact nomatch hf9
      | some x =>
        have hf9 : some ((0 : Int32), wup w9 41 0 x) = some (r, w1) := hf9
        cases hf9
        refine exB_ok F [(.i2l, 0, 0, 0, 0), (.lastore, 41, 1, 3, 0)] (lv' := [(0, vR 42), (1, vI a1), (2, vI a2), (3, vI a3), (4, vR 41)]) (st' := []) (w' := wup w9 41 0 x) (cs := [vp_in 0 1, ((Int32.toInt64 x).toInt32).toInt64 = Int32.toInt64 x]) (by decide +kernel) (by show some _ = some _; rw [long32]; rfl) (fun q hq => by
          rcases List.mem_cons.mp hq with rfl | hq
          · exact vp_in_nI (n := 0) (by decide) (by decide)
          rcases List.mem_cons.mp hq with rfl | hq
          · rw [long32]
          cases hq) ?_
        refine okc_goto (tgt := 23) (off := 11) F (by decide +kernel) (by decide) ?_
        refine exB_ok F [(.iconst 0, 0, 0, 0, 0)] (lv' := [(0, vR 42), (1, vI a1), (2, vI a2), (3, vI a3), (4, vR 41)]) (st' := [vI 0]) (w' := wup w9 41 0 x) (cs := []) (by decide +kernel) rfl (fun _ h => nomatch h) ?_
        exact okc_ret F B.returns (Nat.zero_le _) (Nat.zero_le _) (by decide +kernel)
    · subst hk
      have hf9 : (bif Nat.beq k 0 then some (1, w9) else bif Nat.beq k 1 then some (2, w9) else none) = some (r, w1) := hf9
      match k, hf9, g6 with
      | 0, hf9, g6 =>
        cases hf9
        refine vx_catch (own := RN 14) (name := "java/util/NoSuchElementException") (E := "java/util/NoSuchElementException") (ce := ce) F.2.2.2.1 [] ⟨0, 12, 15, 18⟩ [⟨0, 12, 19, 13⟩] htab (fun z hz => nomatch hz) (by decide) (by decide) (hts _ lk_n) (va_Nw.use rfl (hS9.2.2.1 _ (List.mem_of_getElem? (i := 0) rfl))) g4 g5 g6 ?_
        exact hnd_w (k := 5) (n := 1) (v := 1) F B.returns g3 (by decide) (by decide +kernel) (by decide +kernel) rfl (by decide +kernel) (fun t h9 _ => ⟨⟨some 1, rfl, rfl, by rw [h9]; exact g1⟩, g2.F h9⟩) g2.2.2
      | 1, hf9, g6 =>
        cases hf9
        refine vx_catch (own := RN 14) (name := "java/lang/IllegalArgumentException") (E := "java/lang/IllegalArgumentException") (ce := ce) F.2.2.2.1 [⟨0, 12, 15, 18⟩] ⟨0, 12, 19, 13⟩ [] htab (fun z hz => by
          rcases List.mem_cons.mp hz with rfl | hz
          · exact Or.inr ⟨by decide, "java/util/NoSuchElementException", hts _ lk_n, hNc⟩
          · cases hz) (by decide) (by decide) (hts _ lk_i) (va_Nw.use rfl (hS9.2.2.1 _ (List.mem_of_getElem? (i := 1) rfl))) g4 g5 g6 ?_
        exact hnd_w (k := 5) (n := 2) (v := 2) F B.returns g3 (by decide) (by decide +kernel) (by decide +kernel) rfl (by decide +kernel) (fun t h9 _ => ⟨⟨some 2, rfl, rfl, by rw [h9]; exact g1⟩, g2.F h9⟩) g2.2.2
      | k + 2, hf9, g6 => exact nomatch hf9
  have hcs : (lg_sl ([vR 42, vI a1, vI a2, vI a3, vR 41].map (cv Z))).length ≤ 6 := by rw [lgsl_len]; exact Nat.le_of_ble_eq_true rfl
  rw [lg_entry_eq]
  have hl := lv_entry ([vR 42, vI a1, vI a2, vI a3, vR 41].map (cv Z)) hcs
  rw [mlA_ok] at hl
  exact hk s.heap [] _ hP va_S.rf hl
abbrev hL_years : HI := (yL_years, method_29_code, 6, [(0, 12, 15, 18), (0, 12, 19, 13)])
noncomputable def H_years (w : Wld) (a1 : Int32) (a2 : Int32) (a3 : Int32) : Option (Int32 × Wld) := (F_C_years w a1 a2 a3).bind (fun q => match q.1 with
  | .inl k => bif Nat.beq k 0 then some (1, q.2) else bif Nat.beq k 1 then some (2, q.2) else none
  | .inr (some r) => some (0, wup q.2 41 0 r)
  | .inr none => none)
set_option maxHeartbeats 4000000 in
theorem h_years {Z : ZT} {l : Launch} (w : Wld) (a1 : Int32) (a2 : Int32) (a3 : Int32) (r : Int32) (w1 : Wld) (h : H_years w a1 a2 a3 = some (r, w1)) : ConH Z l hL_years 8 138 [vR 42, vI a1, vI a2, vI a3, vR 41] w r w1 := by
  intro hst
  refine vx_ofWH (cc := method_29_code) (maxL := 6) (ret := some .int) (hh := [(0, 12, 15, 18), (0, 12, 19, 13)]) (by decide +kernel) rfl ?_
  intro p e s m args below meth c s₁ B hml hv
  obtain ⟨⟨rfl, hP, hK, hD, hS9⟩, hNc⟩ := hv
  have hts0 := atoms_spec (ws := wsH hL_years) B.pre
  have htab : c.exceptionTable.toList = tableOf [(0, 12, 15, 18), (0, 12, 19, 13)] := vx_table (x := yL_years) B (hts0 _ List.mem_cons_self)
  have hts : ∀ w ∈ TBL, w.before ([vR 42, vI a1, vI a2, vI a3, vR 41].map (cv Z)).toArray s = true := fun w hw => hts0 w (List.mem_cons_of_mem _ hw)
  have F : Fx Z p l s m ([vR 42, vI a1, vI a2, vI a3, vR 41].map (cv Z)).toArray meth c 14 6 method_29_code := ⟨B.exec, B.bytes, hml, findClass_of_methodNamed B.named, hts, hK, hD, B.notSynchronized, hS9⟩
  obtain ⟨⟨o9, w9⟩, hq9, hf9⟩ := Option.bind_eq_some_iff.mp h
  have hcon := c_C_years (Z := Z) (l := l) w a1 a2 a3 o9 w9 hq9
  have hk : Okc Z p l e { frames := 8, cells := 1, slots := 6, locals := 138 } s m ([vR 42, vI a1, vI a2, vI a3, vR 41].map (cv Z)).toArray below meth c 0 0 6 (vx_MQ below (QcO Z (.inr (some r)) w1) (fun _ _ _ => False) ([vR 42, vI a1, vI a2, vI a3, vR 41].map (cv Z)).toArray s 1 6 (AW Z)) (0, [(0, vR 42), (1, vI a1), (2, vI a2), (3, vI a3), (4, vR 41)], [], w) := by
    refine exB_ok F [(.aload 4, 0, 0, 0, 0), (.iconst 0, 0, 0, 0, 0), (.aload_n 0, 0, 0, 0, 0), (.iload_n 1, 0, 0, 0, 0), (.iload_n 2, 0, 0, 0, 0), (.iload_n 3, 0, 0, 0, 0)] (lv' := [(0, vR 42), (1, vI a1), (2, vI a2), (3, vI a3), (4, vR 41)]) (st' := [vI a3, vI a2, vI a1, vR 42, vI 0, vR 41]) (w' := w) (cs := []) (by decide +kernel) rfl (fun _ h => nomatch h) ?_
    refine callV_try (as := [vI a1, vI a2, vI a3]) (t := [vI 0, vR 41]) (n := 42) (M := mX10_years) (fr' := 7) (lc' := 111) F hst (by decide +kernel) ml_14_96 rfl rfl rfl (by decide) (by decide) (by decide) (mc1 o9) (ms6 o9) hcon (fun v hv => ?_) (fun k hk H locs ls q ce g1 g2 g3 g4 g5 g6 => ?_)
    · subst hv
      cases v with
      | none => exact nomatch hf9
      | some x =>
        have hf9 : some ((0 : Int32), wup w9 41 0 x) = some (r, w1) := hf9
        cases hf9
        refine exB_ok F [(.i2l, 0, 0, 0, 0), (.lastore, 41, 1, 3, 0)] (lv' := [(0, vR 42), (1, vI a1), (2, vI a2), (3, vI a3), (4, vR 41)]) (st' := []) (w' := wup w9 41 0 x) (cs := [vp_in 0 1, ((Int32.toInt64 x).toInt32).toInt64 = Int32.toInt64 x]) (by decide +kernel) (by show some _ = some _; rw [long32]; rfl) (fun q hq => by
          rcases List.mem_cons.mp hq with rfl | hq
          · exact vp_in_nI (n := 0) (by decide) (by decide)
          rcases List.mem_cons.mp hq with rfl | hq
          · rw [long32]
          cases hq) ?_
        refine okc_goto (tgt := 23) (off := 11) F (by decide +kernel) (by decide) ?_
        refine exB_ok F [(.iconst 0, 0, 0, 0, 0)] (lv' := [(0, vR 42), (1, vI a1), (2, vI a2), (3, vI a3), (4, vR 41)]) (st' := [vI 0]) (w' := wup w9 41 0 x) (cs := []) (by decide +kernel) rfl (fun _ h => nomatch h) ?_
        exact okc_ret F B.returns (Nat.zero_le _) (Nat.zero_le _) (by decide +kernel)
    · subst hk
      have hf9 : (bif Nat.beq k 0 then some (1, w9) else bif Nat.beq k 1 then some (2, w9) else none) = some (r, w1) := hf9
      match k, hf9, g6 with
      | 0, hf9, g6 =>
        cases hf9
        refine vx_catch (own := RN 14) (name := "java/util/NoSuchElementException") (E := "java/util/NoSuchElementException") (ce := ce) F.2.2.2.1 [] ⟨0, 12, 15, 18⟩ [⟨0, 12, 19, 13⟩] htab (fun z hz => nomatch hz) (by decide) (by decide) (hts _ lk_n) (va_Nw.use rfl (hS9.2.2.1 _ (List.mem_of_getElem? (i := 0) rfl))) g4 g5 g6 ?_
        exact hnd_w (k := 5) (n := 1) (v := 1) F B.returns g3 (by decide) (by decide +kernel) (by decide +kernel) rfl (by decide +kernel) (fun t h9 _ => ⟨⟨some 1, rfl, rfl, by rw [h9]; exact g1⟩, g2.F h9⟩) g2.2.2
      | 1, hf9, g6 =>
        cases hf9
        refine vx_catch (own := RN 14) (name := "java/lang/IllegalArgumentException") (E := "java/lang/IllegalArgumentException") (ce := ce) F.2.2.2.1 [⟨0, 12, 15, 18⟩] ⟨0, 12, 19, 13⟩ [] htab (fun z hz => by
          rcases List.mem_cons.mp hz with rfl | hz
          · exact Or.inr ⟨by decide, "java/util/NoSuchElementException", hts _ lk_n, hNc⟩
          · cases hz) (by decide) (by decide) (hts _ lk_i) (va_Nw.use rfl (hS9.2.2.1 _ (List.mem_of_getElem? (i := 1) rfl))) g4 g5 g6 ?_
        exact hnd_w (k := 5) (n := 2) (v := 2) F B.returns g3 (by decide) (by decide +kernel) (by decide +kernel) rfl (by decide +kernel) (fun t h9 _ => ⟨⟨some 2, rfl, rfl, by rw [h9]; exact g1⟩, g2.F h9⟩) g2.2.2
      | k + 2, hf9, g6 => exact nomatch hf9
  have hcs : (lg_sl ([vR 42, vI a1, vI a2, vI a3, vR 41].map (cv Z))).length ≤ 6 := by rw [lgsl_len]; exact Nat.le_of_ble_eq_true rfl
  rw [lg_entry_eq]
  have hl := lv_entry ([vR 42, vI a1, vI a2, vI a3, vR 41].map (cv Z)) hcs
  rw [mlA_ok] at hl
  exact hk s.heap [] _ hP va_S.rf hl
