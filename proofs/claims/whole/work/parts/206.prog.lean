def V_M_which_2_2 (w : Wld) : (Int32) → Cfg := fun s => (2, [(0, vR 0), (1, vR 2), (2, vI s)], [], w)
def E_M_which_2_2 (w : Wld) : (Unit) → Cfg := fun s => (26, [], [], w)
noncomputable def B_M_which_2_2 (w : Wld) (s : Int32) : Option ((Int32) ⊕ ((Unit) ⊕ (Int32))) :=
  br ((8 : Int32) ≤ s) (some (.inr (.inl (())))) (gd (vp_in s 8) (bp (F_M_is w (4 + Int32.toNatClampNeg s)) (fun i1 => br (i1 = 0) (bi (s + 1) (fun i2 => some (.inl i2))) (some (.inr (.inr s))))))
set_option maxRecDepth 10000 in
theorem s_B_M_which_2_2 {Z : ZT} {l : Launch} {o : Oc} {wo : Wld} {Ok : Cfg → Prop} (hD : Clo3 Z l 10 3 prog_13_method_18_code (some .int) 6 126 o wo Ok) (w : Wld) (s : Int32) : SimK Ok (V_M_which_2_2 w s) (B_M_which_2_2 w s) (GLp Ok (V_M_which_2_2 w) (GLp Ok (E_M_which_2_2 w) (Gp o wo w))) := by
  unfold B_M_which_2_2
  have hC := hD.1
  have hC2 := hD.2
  show SimK Ok (2, [(0, vR 0), (1, vR 2), (2, vI s)], [], w) _ _
  refine sim_blk0 hC [(.iload_n 2, 0, 0, 0, 0), (.aload_n 1, 0, 0, 0, 0)] [(0, vR 0), (1, vR 2), (2, vI s)] [vR 2, vI s] w 4 (by decide +kernel) rfl rfl ?_
  refine sim_slen hC2 2 8 4 8 (by decide +kernel) (by decide +kernel) rfl ?_
  refine sim_br hC (.if_icmp .ge 21) 26 (by decide +kernel) rfl (by decide) ?_ ?_
  · refine sim_sub hC [] ?_
    exact sim_exitx (E := (E_M_which_2_2 w)) (())
  · refine sim_blk0 hC [(.aload_n 0, 0, 0, 0, 0), (.aload_n 1, 0, 0, 0, 0), (.iload_n 2, 0, 0, 0, 0)] [(0, vR 0), (1, vR 2), (2, vI s)] [vI s, vR 2, vR 0] w 11 (by decide +kernel) rfl rfl ?_
    refine sim_sald hC2 2 8 4 (by decide +kernel) (by decide +kernel) ?_
    refine sim_vp hC 222 mX11_is 5 103 0 [vS (4 + Int32.toNatClampNeg s)] [] (by decide +kernel) ml_10_222 rfl rfl rfl rfl rfl rfl (fun rz hz => c_M_is w (4 + Int32.toNatClampNeg s) rz hz) (fun i1 => ?_)
    refine sim_br hC (.ifCond .eq 5) 20 (by decide +kernel) rfl (by decide) ?_ ?_
    · refine sim_blk0 hC [(.iinc 2 1, 0, 0, 0, 1)] [(0, vR 0), (1, vR 2), (2, vI (s + 1))] [] w 23 (by decide +kernel) rfl rfl ?_
      refine sim_bi (C := fun i2 => (23, [(0, vR 0), (1, vR 2), (2, vI i2)], [], w)) (fun i2 => ?_)
      refine sim_goto hC (-21) 2 (by decide +kernel) (by decide) ?_
      exact sim_back (V := (V_M_which_2_2 w)) i2
    · refine sim_blk0 hC [(.iload_n 2, 0, 0, 0, 0)] [(0, vR 0), (1, vR 2), (2, vI s)] [vI s] w 19 (by decide +kernel) rfl rfl ?_
      refine sim_outx ?_
      exact sim_retp hC (by decide +kernel) trivial
noncomputable def F_M_which_2 (w : Wld) : Option (Int32) :=
  bx (loop (B_M_which_2_2 w) 0) (fun r3 => some (-1))
set_option maxRecDepth 10000 in
theorem s_M_which_2 {Z : ZT} {l : Launch} {o : Oc} {wo : Wld} {Ok : Cfg → Prop} (hD : Clo3 Z l 10 3 prog_13_method_18_code (some .int) 6 126 o wo Ok) (w : Wld) : SimK Ok (0, [(0, vR 0), (1, vR 2)], [], w) (F_M_which_2 w) (Gp o wo w) := by
  unfold F_M_which_2
  have hC := hD.1
  have hC2 := hD.2
  refine sim_blk0 hC [(.iconst 0, 0, 0, 0, 0), (.istore_n 2, 0, 0, 0, 0)] [(0, vR 0), (1, vR 2), (2, vI 0)] [] w 2 (by decide +kernel) rfl rfl ?_
  refine sim_bx (E := (E_M_which_2_2 w)) ?_ (fun r3 => ?_)
  · exact sim_loop (V := (V_M_which_2_2 w)) (fun sz => s_B_M_which_2_2 hD w sz) 0
  · show SimK Ok (26, [], [], w) _ _
    refine sim_blk0 hC [(.iconst (-1), 0, 0, 0, (-1))] [] [vI (-1)] w 27 (by decide +kernel) rfl rfl ?_
    exact sim_retp hC (by decide +kernel) trivial
theorem c_M_which_2 {Z : ZT} {l : Launch} (w : Wld) (r : Int32) (h : F_M_which_2 w = some r) : Con Z l mX11_which 6 126 [vR 0, vR 2] w (.inr (some r)) w :=
  Con_of3 (oc := 10) (by decide +kernel) rfl rfl (fun Ok hC => s_M_which_2 hC w r h ⟨rfl, rfl⟩)
noncomputable def F_M_lay (w : Wld) (a1 : Int32) : Option (Wld) :=
  br ((w 0 21) = 0) (gd (vp_in 9 10) (gd (vp_in ((700 : Int32) + (w 3 (Int32.toNatClampNeg 9))) 1400) (bw (wup w 11 (Int32.toNatClampNeg ((700 : Int32) + (w 3 (Int32.toNatClampNeg 9)))) a1) (fun w1 => gd (vp_in 9 10) (gd (vp_in 9 10) (bw (wup w1 3 (Int32.toNatClampNeg 9) ((w1 3 (Int32.toNatClampNeg 9)) + (1 : Int32))) (fun w2 => some w2))))))) (some w)
set_option maxRecDepth 10000 in
theorem s_M_lay {Z : ZT} {l : Launch} {o : Oc} {wo : Wld} {Ok : Cfg → Prop} (hC : Clo Z l 10 2 prog_13_method_23_code none 1 0 o wo Ok) (w : Wld) (a1 : Int32) : SimK Ok (0, [(0, vR 0), (1, vI a1)], [], w) (F_M_lay w a1) (Gv o wo) := by
  unfold F_M_lay
  refine sim_blk0 hC [(.aload_n 0, 0, 0, 0, 0), (.getfield 208, 0, 21, 0, 0)] [(0, vR 0), (1, vI a1)] [vI (w 0 21)] w 4 (by decide +kernel) rfl rfl ?_
  refine sim_br hC (.ifCond .eq 4) 8 (by decide +kernel) rfl (by decide) ?_ ?_
  · refine sim_blk2 hC [(.aload_n 0, 0, 0, 0, 0), (.getfield 65, 0, 11, 13, 0), (.sipush 700, 0, 0, 0, 700), (.aload_n 0, 0, 0, 0, 0), (.getfield 42, 0, 3, 5, 0), (.bipush 9, 0, 0, 0, 9), (.iaload, 3, 10, 0, 0), (.iadd, 0, 0, 0, 0), (.iload_n 1, 0, 0, 0, 0), (.iastore, 11, 1400, 0, 0)] [(0, vR 0), (1, vI a1)] [] (wup w 11 (Int32.toNatClampNeg ((700 : Int32) + (w 3 (Int32.toNatClampNeg 9)))) a1) 25 (by decide +kernel) rfl rfl ?_
    refine sim_bw (C := fun w1 => (25, [(0, vR 0), (1, vI a1)], [], w1)) (fun w1 => ?_)
    refine sim_blk2 hC [(.aload_n 0, 0, 0, 0, 0), (.getfield 42, 0, 3, 5, 0), (.bipush 9, 0, 0, 0, 9), (.dup2, 0, 0, 0, 0), (.iaload, 3, 10, 0, 0), (.iconst 1, 0, 0, 0, 1), (.iadd, 0, 0, 0, 0), (.iastore, 3, 10, 0, 0)] [(0, vR 0), (1, vI a1)] [] (wup w1 3 (Int32.toNatClampNeg 9) ((w1 3 (Int32.toNatClampNeg 9)) + (1 : Int32))) 36 (by decide +kernel) rfl rfl ?_
    refine sim_bw (C := fun w2 => (36, [(0, vR 0), (1, vI a1)], [], w2)) (fun w2 => ?_)
    exact sim_retv hC (by decide +kernel)
  · exact sim_retv hC (by decide +kernel)
theorem c_M_lay {Z : ZT} {l : Launch} (w : Wld) (a1 : Int32) (w1 : Wld) (h : F_M_lay w a1 = some w1) : Con Z l mX11_lay 1 0 [vR 0, vI a1] w (.inr none) w1 :=
  Con_of (oc := 10) (by decide +kernel) rfl rfl (fun Ok hC => s_M_lay hC w a1 w1 h ⟨rfl, rfl⟩)
noncomputable def K_M_isMarked_33 (t0 : Int32) (w : Wld) : Option (Int32) :=
  gd (t0 = 0 ∨ t0 = 1) (some t0)
set_option maxRecDepth 10000 in
theorem s_K_M_isMarked_33 {Z : ZT} {l : Launch} {o : Oc} {wo : Wld} {Ok : Cfg → Prop} (hC : Clo Z l 10 2 prog_13_method_19_code (some .boolean) 1 0 o wo Ok) (t0 : Int32) (w : Wld) : SimK Ok (33, [], [vI t0], w) (K_M_isMarked_33 t0 w) (Gp o wo w) := by
  unfold K_M_isMarked_33
  exact sim_retpz hC (by decide +kernel) rfl
noncomputable def K_M_isMarked_32 (w : Wld) : Option (Int32) :=
  K_M_isMarked_33 0 w
set_option maxRecDepth 10000 in
theorem s_K_M_isMarked_32 {Z : ZT} {l : Launch} {o : Oc} {wo : Wld} {Ok : Cfg → Prop} (hC : Clo Z l 10 2 prog_13_method_19_code (some .boolean) 1 0 o wo Ok) (w : Wld) : SimK Ok (32, [], [], w) (K_M_isMarked_32 w) (Gp o wo w) := by
  unfold K_M_isMarked_32
  refine sim_blk0 hC [(.iconst 0, 0, 0, 0, 0)] [] [vI 0] w 33 (by decide +kernel) rfl rfl ?_
  exact s_K_M_isMarked_33 hC 0 w
noncomputable def F_M_isMarked (w : Wld) (a1 : Int32) : Option (Int32) :=
  br (¬ (w 0 21) = 0) (K_M_isMarked_32 w) (br (¬ (w 0 17) = 3) (K_M_isMarked_32 w) (gd (vp_in (w 0 19) 700) (br (¬ (w 13 (Int32.toNatClampNeg (w 0 19))) = a1) (K_M_isMarked_32 w) (K_M_isMarked_33 1 w))))
set_option maxRecDepth 10000 in
theorem s_M_isMarked {Z : ZT} {l : Launch} {o : Oc} {wo : Wld} {Ok : Cfg → Prop} (hC : Clo Z l 10 2 prog_13_method_19_code (some .boolean) 1 0 o wo Ok) (w : Wld) (a1 : Int32) : SimK Ok (0, [(0, vR 0), (1, vI a1)], [], w) (F_M_isMarked w a1) (Gp o wo w) := by
  unfold F_M_isMarked
  refine sim_blk0 hC [(.aload_n 0, 0, 0, 0, 0), (.getfield 208, 0, 21, 0, 0)] [(0, vR 0), (1, vI a1)] [vI (w 0 21)] w 4 (by decide +kernel) rfl rfl ?_
  refine sim_br hC (.ifCond .ne 28) 32 (by decide +kernel) rfl (by decide) ?_ ?_
  · refine sim_sub hC [] ?_
    exact s_K_M_isMarked_32 hC w
  · refine sim_blk0 hC [(.aload_n 0, 0, 0, 0, 0), (.getfield 182, 0, 17, 0, 0), (.iconst 3, 0, 0, 0, 3)] [(0, vR 0), (1, vI a1)] [vI 3, vI (w 0 17)] w 12 (by decide +kernel) rfl rfl ?_
    refine sim_br hC (.if_icmp .ne 20) 32 (by decide +kernel) rfl (by decide) ?_ ?_
    · refine sim_sub hC [] ?_
      exact s_K_M_isMarked_32 hC w
    · refine sim_blk1 hC [(.aload_n 0, 0, 0, 0, 0), (.getfield 71, 0, 13, 15, 0), (.aload_n 0, 0, 0, 0, 0), (.getfield 179, 0, 19, 0, 0), (.iaload, 13, 700, 0, 0), (.iload_n 1, 0, 0, 0, 0)] [(0, vR 0), (1, vI a1)] [vI a1, vI (w 13 (Int32.toNatClampNeg (w 0 19)))] w 25 (by decide +kernel) rfl rfl ?_
      refine sim_br hC (.if_icmp .ne 7) 32 (by decide +kernel) rfl (by decide) ?_ ?_
      · refine sim_sub hC [] ?_
        exact s_K_M_isMarked_32 hC w
      · refine sim_blk0 hC [(.iconst 1, 0, 0, 0, 1)] [(0, vR 0), (1, vI a1)] [vI 1] w 29 (by decide +kernel) rfl rfl ?_
        refine sim_goto hC 4 33 (by decide +kernel) (by decide) ?_
        refine sim_sub hC [] ?_
        exact s_K_M_isMarked_33 hC 1 w
theorem c_M_isMarked {Z : ZT} {l : Launch} (w : Wld) (a1 : Int32) (r : Int32) (h : F_M_isMarked w a1 = some r) : Con Z l mX11_isMarked 1 0 [vR 0, vI a1] w (.inr (some r)) w :=
  Con_of (oc := 10) (by decide +kernel) rfl rfl (fun Ok hC => s_M_isMarked hC w a1 r h ⟨rfl, rfl⟩)
noncomputable def K_M_mark_31 (w : Wld) : Option (Wld) :=
  some w
set_option maxRecDepth 10000 in
theorem s_K_M_mark_31 {Z : ZT} {l : Launch} {o : Oc} {wo : Wld} {Ok : Cfg → Prop} (hC : Clo Z l 10 2 prog_13_method_20_code none 3 42 o wo Ok) (w : Wld) : SimK Ok (31, [], [], w) (K_M_mark_31 w) (Gv o wo) := by
  unfold K_M_mark_31
  exact sim_retv hC (by decide +kernel)
noncomputable def K_M_mark_20 (w : Wld) : Option (Wld) :=
  br (¬ (w 0 21) = 0) (K_M_mark_31 w) (bv (F_M_stepOn w) (fun w1 => K_M_mark_31 w1))
set_option maxRecDepth 10000 in
theorem s_K_M_mark_20 {Z : ZT} {l : Launch} {o : Oc} {wo : Wld} {Ok : Cfg → Prop} (hC : Clo Z l 10 2 prog_13_method_20_code none 3 42 o wo Ok) (w : Wld) : SimK Ok (20, [(0, vR 0)], [], w) (K_M_mark_20 w) (Gv o wo) := by
  unfold K_M_mark_20
  refine sim_blk0 hC [(.aload_n 0, 0, 0, 0, 0), (.getfield 208, 0, 21, 0, 0)] [(0, vR 0)] [vI (w 0 21)] w 24 (by decide +kernel) rfl rfl ?_
  refine sim_br hC (.ifCond .ne 7) 31 (by decide +kernel) rfl (by decide) ?_ ?_
  · refine sim_sub hC [] ?_
    exact s_K_M_mark_31 hC w
  · refine sim_blk0 hC [(.aload_n 0, 0, 0, 0, 0)] [(0, vR 0)] [vR 0] w 28 (by decide +kernel) rfl rfl ?_
    refine sim_vv hC 233 mX11_stepOn 2 21 0 [] [] (by decide +kernel) ml_10_233 rfl rfl rfl rfl rfl rfl (fun wz hz => c_M_stepOn w wz hz) (fun w1 => ?_)
    refine sim_sub hC [] ?_
    exact s_K_M_mark_31 hC w1
noncomputable def F_M_mark (w : Wld) (a1 : Int32) : Option (Wld) :=
  br (¬ (w 0 21) = 0) (K_M_mark_20 w) (bp (F_M_isMarked w a1) (fun i2 => br (¬ i2 = 0) (K_M_mark_20 w) (bv (F_M_wrong w 1) (fun w3 => K_M_mark_20 w3))))
set_option maxRecDepth 10000 in
theorem s_M_mark {Z : ZT} {l : Launch} {o : Oc} {wo : Wld} {Ok : Cfg → Prop} (hC : Clo Z l 10 2 prog_13_method_20_code none 3 42 o wo Ok) (w : Wld) (a1 : Int32) : SimK Ok (0, [(0, vR 0), (1, vI a1)], [], w) (F_M_mark w a1) (Gv o wo) := by
  unfold F_M_mark
  refine sim_blk0 hC [(.aload_n 0, 0, 0, 0, 0), (.getfield 208, 0, 21, 0, 0)] [(0, vR 0), (1, vI a1)] [vI (w 0 21)] w 4 (by decide +kernel) rfl rfl ?_
  refine sim_br hC (.ifCond .ne 16) 20 (by decide +kernel) rfl (by decide) ?_ ?_
  · refine sim_sub hC [0] ?_
    exact s_K_M_mark_20 hC w
  · refine sim_blk0 hC [(.aload_n 0, 0, 0, 0, 0), (.iload_n 1, 0, 0, 0, 0)] [(0, vR 0), (1, vI a1)] [vI a1, vR 0] w 9 (by decide +kernel) rfl rfl ?_
    refine sim_vp hC 226 mX11_isMarked 1 0 0 [vI a1] [] (by decide +kernel) ml_10_226 rfl rfl rfl rfl rfl rfl (fun rz hz => c_M_isMarked w a1 rz hz) (fun i2 => ?_)
    refine sim_br hC (.ifCond .ne 8) 20 (by decide +kernel) rfl (by decide) ?_ ?_
    · refine sim_sub hC [0] ?_
      exact s_K_M_mark_20 hC w
    · refine sim_blk0 hC [(.aload_n 0, 0, 0, 0, 0), (.iconst 1, 0, 0, 0, 1)] [(0, vR 0), (1, vI a1)] [vI 1, vR 0] w 17 (by decide +kernel) rfl rfl ?_
      refine sim_vv hC 229 mX11_wrong 1 0 0 [vI 1] [] (by decide +kernel) ml_10_229 rfl rfl rfl rfl rfl rfl (fun wz hz => c_M_wrong w 1 wz hz) (fun w3 => ?_)
      refine sim_sub hC [0] ?_
      exact s_K_M_mark_20 hC w3
theorem c_M_mark {Z : ZT} {l : Launch} (w : Wld) (a1 : Int32) (w1 : Wld) (h : F_M_mark w a1 = some w1) : Con Z l mX11_mark 3 42 [vR 0, vI a1] w (.inr none) w1 :=
  Con_of (oc := 10) (by decide +kernel) rfl rfl (fun Ok hC => s_M_mark hC w a1 w1 h ⟨rfl, rfl⟩)
noncomputable def K_M_numberNow_74 (t0 : Int32) (w : Wld) : Option (Int32 × Wld) :=
  some ((t0, w))
set_option maxRecDepth 10000 in
theorem s_K_M_numberNow_74 {Z : ZT} {l : Launch} {o : Oc} {wo : Wld} {Ok : Cfg → Prop} (hC : Clo Z l 10 3 prog_13_method_21_code (some .int) 2 21 o wo Ok) (t0 : Int32) (w : Wld) : SimK Ok (74, [], [vI t0], w) (K_M_numberNow_74 t0 w) (Gi o wo) := by
  unfold K_M_numberNow_74
  exact sim_reti hC (by decide +kernel) trivial
noncomputable def K_M_numberNow_59 (w : Wld) : Option (Int32 × Wld) :=
  br (¬ (w 0 21) = 0) (K_M_numberNow_74 0 w) (K_M_numberNow_74 (w 0 18) w)
set_option maxRecDepth 10000 in
theorem s_K_M_numberNow_59 {Z : ZT} {l : Launch} {o : Oc} {wo : Wld} {Ok : Cfg → Prop} (hC : Clo Z l 10 3 prog_13_method_21_code (some .int) 2 21 o wo Ok) (w : Wld) : SimK Ok (59, [(0, vR 0)], [], w) (K_M_numberNow_59 w) (Gi o wo) := by
  unfold K_M_numberNow_59
  refine sim_blk0 hC [(.aload_n 0, 0, 0, 0, 0), (.getfield 208, 0, 21, 0, 0)] [(0, vR 0)] [vI (w 0 21)] w 63 (by decide +kernel) rfl rfl ?_
  refine sim_br hC (.ifCond .ne 10) 73 (by decide +kernel) rfl (by decide) ?_ ?_
  · refine sim_blk0 hC [(.iconst 0, 0, 0, 0, 0)] [(0, vR 0)] [vI 0] w 74 (by decide +kernel) rfl rfl ?_
    refine sim_sub hC [] ?_
    exact s_K_M_numberNow_74 hC 0 w
  · refine sim_blk0 hC [(.aload_n 0, 0, 0, 0, 0), (.getfield 192, 0, 18, 0, 0)] [(0, vR 0)] [vI (w 0 18)] w 70 (by decide +kernel) rfl rfl ?_
    refine sim_goto hC 4 74 (by decide +kernel) (by decide) ?_
    refine sim_sub hC [] ?_
    exact s_K_M_numberNow_74 hC (w 0 18) w
noncomputable def K_M_numberNow_54 (w : Wld) : Option (Int32 × Wld) :=
  bv (F_M_wrong w 2) (fun w1 => K_M_numberNow_59 w1)
set_option maxRecDepth 10000 in
theorem s_K_M_numberNow_54 {Z : ZT} {l : Launch} {o : Oc} {wo : Wld} {Ok : Cfg → Prop} (hC : Clo Z l 10 3 prog_13_method_21_code (some .int) 2 21 o wo Ok) (w : Wld) : SimK Ok (54, [(0, vR 0)], [], w) (K_M_numberNow_54 w) (Gi o wo) := by
  unfold K_M_numberNow_54
  refine sim_blk0 hC [(.aload_n 0, 0, 0, 0, 0), (.iconst 2, 0, 0, 0, 2)] [(0, vR 0)] [vI 2, vR 0] w 56 (by decide +kernel) rfl rfl ?_
  refine sim_vv hC 229 mX11_wrong 1 0 0 [vI 2] [] (by decide +kernel) ml_10_229 rfl rfl rfl rfl rfl rfl (fun wz hz => c_M_wrong w 2 wz hz) (fun w1 => ?_)
  exact s_K_M_numberNow_59 hC w1
noncomputable def F_M_numberNow (w : Wld) (a1 : Int32) (a2 : Int32) : Option (Int32 × Wld) :=
  br ((w 0 21) = 0) (br ((w 0 17) = 2) (br ((4 : Int32) < ((w 0 20) - (w 0 19))) (K_M_numberNow_54 w) (br ((w 0 18) < a1) (K_M_numberNow_54 w) (br ((w 0 18) ≤ a2) (K_M_numberNow_59 w) (K_M_numberNow_54 w)))) (bv (F_M_wrong w 1) (fun w2 => K_M_numberNow_59 w2))) (some ((0, w)))
set_option maxRecDepth 10000 in
theorem s_M_numberNow {Z : ZT} {l : Launch} {o : Oc} {wo : Wld} {Ok : Cfg → Prop} (hC : Clo Z l 10 3 prog_13_method_21_code (some .int) 2 21 o wo Ok) (w : Wld) (a1 : Int32) (a2 : Int32) : SimK Ok (0, [(0, vR 0), (1, vI a1), (2, vI a2)], [], w) (F_M_numberNow w a1 a2) (Gi o wo) := by
  unfold F_M_numberNow
  refine sim_blk0 hC [(.aload_n 0, 0, 0, 0, 0), (.getfield 208, 0, 21, 0, 0)] [(0, vR 0), (1, vI a1), (2, vI a2)] [vI (w 0 21)] w 4 (by decide +kernel) rfl rfl ?_
  refine sim_br hC (.ifCond .eq 5) 9 (by decide +kernel) rfl (by decide) ?_ ?_
  · refine sim_blk0 hC [(.aload_n 0, 0, 0, 0, 0), (.getfield 182, 0, 17, 0, 0), (.iconst 2, 0, 0, 0, 2)] [(0, vR 0), (1, vI a1), (2, vI a2)] [vI 2, vI (w 0 17)] w 14 (by decide +kernel) rfl rfl ?_
    refine sim_br hC (.if_icmp .eq 11) 25 (by decide +kernel) rfl (by decide) ?_ ?_
    · refine sim_blk0 hC [(.aload_n 0, 0, 0, 0, 0), (.getfield 205, 0, 20, 0, 0), (.aload_n 0, 0, 0, 0, 0), (.getfield 179, 0, 19, 0, 0), (.isub, 0, 0, 0, 0), (.iconst 4, 0, 0, 0, 4)] [(0, vR 0), (1, vI a1), (2, vI a2)] [vI 4, vI ((w 0 20) - (w 0 19))] w 35 (by decide +kernel) rfl rfl ?_
      refine sim_br hC (.if_icmp .gt 19) 54 (by decide +kernel) rfl (by decide) ?_ ?_
      · refine sim_sub hC [0] ?_
        exact s_K_M_numberNow_54 hC w
      · refine sim_blk0 hC [(.aload_n 0, 0, 0, 0, 0), (.getfield 192, 0, 18, 0, 0), (.iload_n 1, 0, 0, 0, 0)] [(0, vR 0), (1, vI a1), (2, vI a2)] [vI a1, vI (w 0 18)] w 43 (by decide +kernel) rfl rfl ?_
        refine sim_br hC (.if_icmp .lt 11) 54 (by decide +kernel) rfl (by decide) ?_ ?_
        · refine sim_sub hC [0] ?_
          exact s_K_M_numberNow_54 hC w
        · refine sim_blk0 hC [(.aload_n 0, 0, 0, 0, 0), (.getfield 192, 0, 18, 0, 0), (.iload_n 2, 0, 0, 0, 0)] [(0, vR 0), (1, vI a1), (2, vI a2)] [vI a2, vI (w 0 18)] w 51 (by decide +kernel) rfl rfl ?_
          refine sim_br hC (.if_icmp .le 8) 59 (by decide +kernel) rfl (by decide) ?_ ?_
          · refine sim_sub hC [0] ?_
            exact s_K_M_numberNow_59 hC w
          · refine sim_sub hC [0] ?_
            exact s_K_M_numberNow_54 hC w
    · refine sim_blk0 hC [(.aload_n 0, 0, 0, 0, 0), (.iconst 1, 0, 0, 0, 1)] [(0, vR 0), (1, vI a1), (2, vI a2)] [vI 1, vR 0] w 19 (by decide +kernel) rfl rfl ?_
      refine sim_vv hC 229 mX11_wrong 1 0 0 [vI 1] [] (by decide +kernel) ml_10_229 rfl rfl rfl rfl rfl rfl (fun wz hz => c_M_wrong w 1 wz hz) (fun w2 => ?_)
      refine sim_goto hC 37 59 (by decide +kernel) (by decide) ?_
      refine sim_sub hC [0] ?_
      exact s_K_M_numberNow_59 hC w2
  · refine sim_blk0 hC [(.iconst 0, 0, 0, 0, 0)] [(0, vR 0), (1, vI a1), (2, vI a2)] [vI 0] w 8 (by decide +kernel) rfl rfl ?_
    exact sim_reti hC (by decide +kernel) trivial
theorem c_M_numberNow {Z : ZT} {l : Launch} (w : Wld) (a1 : Int32) (a2 : Int32) (r : Int32) (w1 : Wld) (h : F_M_numberNow w a1 a2 = some (r, w1)) : Con Z l mX11_numberNow 2 21 [vR 0, vI a1, vI a2] w (.inr (some r)) w1 :=
  Con_of (oc := 10) (by decide +kernel) rfl rfl (fun Ok hC => s_M_numberNow hC w a1 a2 (r, w1) h ⟨rfl, rfl⟩)
noncomputable def K_M_readNumber_18 (a3 : Int32) (w : Wld) : Option (Int32 × Wld) :=
  some ((a3, w))
set_option maxRecDepth 10000 in
theorem s_K_M_readNumber_18 {Z : ZT} {l : Launch} {o : Oc} {wo : Wld} {Ok : Cfg → Prop} (hC : Clo Z l 10 4 prog_13_method_22_code (some .int) 3 43 o wo Ok) (a3 : Int32) (w : Wld) : SimK Ok (18, [(3, vI a3)], [], w) (K_M_readNumber_18 a3 w) (Gi o wo) := by
  unfold K_M_readNumber_18
  refine sim_blk0 hC [(.iload_n 3, 0, 0, 0, 0)] [(3, vI a3)] [vI a3] w 19 (by decide +kernel) rfl rfl ?_
  exact sim_reti hC (by decide +kernel) trivial
noncomputable def F_M_readNumber (w : Wld) (a1 : Int32) (a2 : Int32) : Option (Int32 × Wld) :=
  bd (F_M_numberNow w a1 a2) (fun i1 w2 => br (¬ (w2 0 21) = 0) (K_M_readNumber_18 i1 w2) (bv (F_M_stepOn w2) (fun w3 => K_M_readNumber_18 i1 w3)))
set_option maxRecDepth 10000 in
theorem s_M_readNumber {Z : ZT} {l : Launch} {o : Oc} {wo : Wld} {Ok : Cfg → Prop} (hC : Clo Z l 10 4 prog_13_method_22_code (some .int) 3 43 o wo Ok) (w : Wld) (a1 : Int32) (a2 : Int32) : SimK Ok (0, [(0, vR 0), (1, vI a1), (2, vI a2)], [], w) (F_M_readNumber w a1 a2) (Gi o wo) := by
  unfold F_M_readNumber
  refine sim_blk0 hC [(.aload_n 0, 0, 0, 0, 0), (.iload_n 1, 0, 0, 0, 0), (.iload_n 2, 0, 0, 0, 0)] [(0, vR 0), (1, vI a1), (2, vI a2)] [vI a2, vI a1, vR 0] w 3 (by decide +kernel) rfl rfl ?_
  refine sim_vd hC 236 mX11_numberNow 2 21 0 [vI a1, vI a2] [] (by decide +kernel) ml_10_236 rfl rfl rfl rfl rfl rfl (fun rz wz hz => c_M_numberNow w a1 a2 rz wz hz) (fun i1 w2 => ?_)
  refine sim_blk0 hC [(.istore_n 3, 0, 0, 0, 0), (.aload_n 0, 0, 0, 0, 0), (.getfield 208, 0, 21, 0, 0)] [(0, vR 0), (1, vI a1), (2, vI a2), (3, vI i1)] [vI (w2 0 21)] w2 11 (by decide +kernel) rfl rfl ?_
  refine sim_br hC (.ifCond .ne 7) 18 (by decide +kernel) rfl (by decide) ?_ ?_
  · refine sim_sub hC [3] ?_
    exact s_K_M_readNumber_18 hC i1 w2
  · refine sim_blk0 hC [(.aload_n 0, 0, 0, 0, 0)] [(0, vR 0), (1, vI a1), (2, vI a2), (3, vI i1)] [vR 0] w2 15 (by decide +kernel) rfl rfl ?_
    refine sim_vv hC 233 mX11_stepOn 2 21 0 [] [] (by decide +kernel) ml_10_233 rfl rfl rfl rfl rfl rfl (fun wz hz => c_M_stepOn w2 wz hz) (fun w3 => ?_)
    refine sim_sub hC [3] ?_
    exact s_K_M_readNumber_18 hC i1 w3
theorem c_M_readNumber {Z : ZT} {l : Launch} (w : Wld) (a1 : Int32) (a2 : Int32) (r : Int32) (w1 : Wld) (h : F_M_readNumber w a1 a2 = some (r, w1)) : Con Z l mX11_readNumber 3 43 [vR 0, vI a1, vI a2] w (.inr (some r)) w1 :=
  Con_of (oc := 10) (by decide +kernel) rfl rfl (fun Ok hC => s_M_readNumber hC w a1 a2 (r, w1) h ⟨rfl, rfl⟩)
noncomputable def K_M_readPart_74 (rx : Wld → Int32 → Option (Wld)) (w : Wld) : Option (Wld) :=
  some w
set_option maxRecDepth 10000 in
theorem s_K_M_readPart_74 {Z : ZT} {l : Launch} {o : Oc} {wo : Wld} {Ok : Cfg → Prop} {rx : Wld → Int32 → Option (Wld)} {d : Nat} (hC : Clo Z l 10 3 prog_13_method_24_code none (40 + 6 * d + 1) (600 + 132 * d + 22) o wo Ok) (hrx : ∀ (w : Wld) (a : Int32) (w1 : Wld), rx w a = some w1 → Con Z l mX11_readExpression (40 + 6 * d) (600 + 132 * d) [vR 0, vI a] w (.inr none) w1) (w : Wld) : SimK Ok (74, [], [], w) (K_M_readPart_74 rx w) (Gv o wo) := by
  unfold K_M_readPart_74
  exact sim_retv hC (by decide +kernel)
noncomputable def K_M_readPart_56 (rx : Wld → Int32 → Option (Wld)) (a2 : Int32) (w : Wld) : Option (Wld) :=
  bv (F_M_lay w ((-1 : Int32) - a2)) (fun w5 => br (¬ (w5 0 21) = 0) (K_M_readPart_74 rx w5) (bv (F_M_stepOn w5) (fun w6 => K_M_readPart_74 rx w6)))
set_option maxRecDepth 10000 in
theorem s_K_M_readPart_56 {Z : ZT} {l : Launch} {o : Oc} {wo : Wld} {Ok : Cfg → Prop} {rx : Wld → Int32 → Option (Wld)} {d : Nat} (hC : Clo Z l 10 3 prog_13_method_24_code none (40 + 6 * d + 1) (600 + 132 * d + 22) o wo Ok) (hrx : ∀ (w : Wld) (a : Int32) (w1 : Wld), rx w a = some w1 → Con Z l mX11_readExpression (40 + 6 * d) (600 + 132 * d) [vR 0, vI a] w (.inr none) w1) (a2 : Int32) (w : Wld) : SimK Ok (56, [(0, vR 0), (2, vI a2)], [], w) (K_M_readPart_56 rx a2 w) (Gv o wo) := by
  unfold K_M_readPart_56
  refine sim_blk0 hC [(.aload_n 0, 0, 0, 0, 0), (.iconst (-1), 0, 0, 0, (-1)), (.iload_n 2, 0, 0, 0, 0), (.isub, 0, 0, 0, 0)] [(0, vR 0), (2, vI a2)] [vI ((-1 : Int32) - a2), vR 0] w 60 (by decide +kernel) rfl rfl ?_
  refine sim_vv hC 242 mX11_lay 1 0 0 [vI ((-1 : Int32) - a2)] [] (by decide +kernel) ml_10_242 rfl rfl rfl rfl (ble_of (by omega)) (ble_of (by show 8 + (2 + 11) + _ ≤ _; omega)) (fun wz hz => c_M_lay w ((-1 : Int32) - a2) wz hz) (fun w5 => ?_)
  refine sim_blk0 hC [(.aload_n 0, 0, 0, 0, 0), (.getfield 208, 0, 21, 0, 0)] [(0, vR 0), (2, vI a2)] [vI (w5 0 21)] w5 67 (by decide +kernel) rfl rfl ?_
  refine sim_br hC (.ifCond .ne 7) 74 (by decide +kernel) rfl (by decide) ?_ ?_
  · refine sim_sub hC [] ?_
    exact s_K_M_readPart_74 hC hrx w5
  · refine sim_blk0 hC [(.aload_n 0, 0, 0, 0, 0)] [(0, vR 0), (2, vI a2)] [vR 0] w5 71 (by decide +kernel) rfl rfl ?_
    refine sim_vv hC 233 mX11_stepOn 2 21 0 [] [] (by decide +kernel) ml_10_233 rfl rfl rfl rfl (ble_of (by omega)) (ble_of (by show 8 + (2 + 11) + _ ≤ _; omega)) (fun wz hz => c_M_stepOn w5 wz hz) (fun w6 => ?_)
    refine sim_sub hC [] ?_
    exact s_K_M_readPart_74 hC hrx w6
noncomputable def F_M_readPart (rx : Wld → Int32 → Option (Wld)) (w : Wld) (a1 : Int32) : Option (Wld) :=
  br ((w 0 21) = 0) (br (¬ (w 0 17) = 2) (br (¬ (w 0 17) = 1) (bv (F_M_mark w 40) (fun w1 => bv (rx w1 (a1 + (1 : Int32))) (fun w2 => bv (F_M_mark w2 41) (fun w3 => some w3)))) (bp (F_M_which_2 w) (fun i4 => br (¬ i4 = (-1)) (K_M_readPart_56 rx i4 w) (bv (F_M_wrong w 3) (fun w7 => K_M_readPart_56 rx i4 w7))))) (bd (F_M_readNumber w 0 9999) (fun i8 w9 => bv (F_M_lay w9 i8) (fun w10 => some w10)))) (some w)
set_option maxRecDepth 10000 in
theorem s_M_readPart {Z : ZT} {l : Launch} {o : Oc} {wo : Wld} {Ok : Cfg → Prop} {rx : Wld → Int32 → Option (Wld)} {d : Nat} (hC : Clo Z l 10 3 prog_13_method_24_code none (40 + 6 * d + 1) (600 + 132 * d + 22) o wo Ok) (hrx : ∀ (w : Wld) (a : Int32) (w1 : Wld), rx w a = some w1 → Con Z l mX11_readExpression (40 + 6 * d) (600 + 132 * d) [vR 0, vI a] w (.inr none) w1) (w : Wld) (a1 : Int32) : SimK Ok (0, [(0, vR 0), (1, vI a1)], [], w) (F_M_readPart rx w a1) (Gv o wo) := by
  unfold F_M_readPart
  refine sim_blk0 hC [(.aload_n 0, 0, 0, 0, 0), (.getfield 208, 0, 21, 0, 0)] [(0, vR 0), (1, vI a1)] [vI (w 0 21)] w 4 (by decide +kernel) rfl rfl ?_
  refine sim_br hC (.ifCond .eq 4) 8 (by decide +kernel) rfl (by decide) ?_ ?_
  · refine sim_blk0 hC [(.aload_n 0, 0, 0, 0, 0), (.getfield 182, 0, 17, 0, 0), (.iconst 2, 0, 0, 0, 2)] [(0, vR 0), (1, vI a1)] [vI 2, vI (w 0 17)] w 13 (by decide +kernel) rfl rfl ?_
    refine sim_br hC (.if_icmp .ne 16) 29 (by decide +kernel) rfl (by decide) ?_ ?_
    · refine sim_blk0 hC [(.aload_n 0, 0, 0, 0, 0), (.getfield 182, 0, 17, 0, 0), (.iconst 1, 0, 0, 0, 1)] [(0, vR 0), (1, vI a1)] [vI 1, vI (w 0 17)] w 34 (by decide +kernel) rfl rfl ?_
      refine sim_br hC (.if_icmp .ne 41) 75 (by decide +kernel) rfl (by decide) ?_ ?_
      · refine sim_blk0 hC [(.aload_n 0, 0, 0, 0, 0), (.bipush 40, 0, 0, 0, 40)] [(0, vR 0), (1, vI a1)] [vI 40, vR 0] w 78 (by decide +kernel) rfl rfl ?_
        refine sim_vv hC 249 mX11_mark 3 42 0 [vI 40] [] (by decide +kernel) ml_10_249 rfl rfl rfl rfl (ble_of (by omega)) (ble_of (by show 8 + (2 + 11) + _ ≤ _; omega)) (fun wz hz => c_M_mark w 40 wz hz) (fun w1 => ?_)
        refine sim_blk0 hC [(.aload_n 0, 0, 0, 0, 0), (.iload_n 1, 0, 0, 0, 0), (.iconst 1, 0, 0, 0, 1), (.iadd, 0, 0, 0, 0)] [(0, vR 0), (1, vI a1)] [vI (a1 + (1 : Int32)), vR 0] w1 85 (by decide +kernel) rfl rfl ?_
        refine sim_vv hC 252 mX11_readExpression (40 + 6 * d) (600 + 132 * d) 0 [vI (a1 + (1 : Int32))] [] (by decide +kernel) ml_10_252 rfl rfl rfl rfl (ble_of (by omega)) (ble_of (by show 8 + (3 + 11) + _ ≤ _; omega)) (fun wz hz => hrx w1 (a1 + (1 : Int32)) wz hz) (fun w2 => ?_)
        refine sim_blk0 hC [(.aload_n 0, 0, 0, 0, 0), (.bipush 41, 0, 0, 0, 41)] [(0, vR 0), (1, vI a1)] [vI 41, vR 0] w2 91 (by decide +kernel) rfl rfl ?_
        refine sim_vv hC 249 mX11_mark 3 42 0 [vI 41] [] (by decide +kernel) ml_10_249 rfl rfl rfl rfl (ble_of (by omega)) (ble_of (by show 8 + (2 + 11) + _ ≤ _; omega)) (fun wz hz => c_M_mark w2 41 wz hz) (fun w3 => ?_)
        exact sim_retv hC (by decide +kernel)
      · refine sim_blk0 hC [(.aload_n 0, 0, 0, 0, 0), (.aload_n 0, 0, 0, 0, 0), (.getfield 39, 0, 1, 4, 0)] [(0, vR 0), (1, vI a1)] [vR 2, vR 0] w 42 (by decide +kernel) rfl rfl ?_
        refine sim_vp hC 245 mX11_which 6 126 0 [vR 2] [] (by decide +kernel) ml_10_245 rfl rfl rfl rfl (ble_of (by omega)) (ble_of (by show 8 + (3 + 11) + _ ≤ _; omega)) (fun rz hz => c_M_which_2 w rz hz) (fun i4 => ?_)
        refine sim_blk0 hC [(.istore_n 2, 0, 0, 0, 0), (.iload_n 2, 0, 0, 0, 0), (.iconst (-1), 0, 0, 0, (-1))] [(0, vR 0), (1, vI a1), (2, vI i4)] [vI (-1), vI i4] w 48 (by decide +kernel) rfl rfl ?_
        refine sim_br hC (.if_icmp .ne 8) 56 (by decide +kernel) rfl (by decide) ?_ ?_
        · refine sim_sub hC [0, 2] ?_
          exact s_K_M_readPart_56 hC hrx i4 w
        · refine sim_blk0 hC [(.aload_n 0, 0, 0, 0, 0), (.iconst 3, 0, 0, 0, 3)] [(0, vR 0), (1, vI a1), (2, vI i4)] [vI 3, vR 0] w 53 (by decide +kernel) rfl rfl ?_
          refine sim_vv hC 229 mX11_wrong 1 0 0 [vI 3] [] (by decide +kernel) ml_10_229 rfl rfl rfl rfl (ble_of (by omega)) (ble_of (by show 8 + (2 + 11) + _ ≤ _; omega)) (fun wz hz => c_M_wrong w 3 wz hz) (fun w7 => ?_)
          refine sim_sub hC [0, 2] ?_
          exact s_K_M_readPart_56 hC hrx i4 w7
    · refine sim_blk0 hC [(.aload_n 0, 0, 0, 0, 0), (.aload_n 0, 0, 0, 0, 0), (.iconst 0, 0, 0, 0, 0), (.sipush 9999, 0, 0, 0, 9999)] [(0, vR 0), (1, vI a1)] [vI 9999, vI 0, vR 0, vR 0] w 22 (by decide +kernel) rfl rfl ?_
      refine sim_vd hC 239 mX11_readNumber 3 43 0 [vI 0, vI 9999] [vR 0] (by decide +kernel) ml_10_239 rfl rfl rfl rfl (ble_of (by omega)) (ble_of (by show 8 + (4 + 11) + _ ≤ _; omega)) (fun rz wz hz => c_M_readNumber w 0 9999 rz wz hz) (fun i8 w9 => ?_)
      refine sim_vv hC 242 mX11_lay 1 0 0 [vI i8] [] (by decide +kernel) ml_10_242 rfl rfl rfl rfl (ble_of (by omega)) (ble_of (by show 8 + (2 + 11) + _ ≤ _; omega)) (fun wz hz => c_M_lay w9 i8 wz hz) (fun w10 => ?_)
      exact sim_retv hC (by decide +kernel)
  · exact sim_retv hC (by decide +kernel)
theorem c_M_readPart {Z : ZT} {l : Launch} {rx : Wld → Int32 → Option (Wld)} {d : Nat} (hrx : ∀ (w : Wld) (a : Int32) (w1 : Wld), rx w a = some w1 → Con Z l mX11_readExpression (40 + 6 * d) (600 + 132 * d) [vR 0, vI a] w (.inr none) w1) (w : Wld) (a1 : Int32) (w1 : Wld) (h : F_M_readPart rx w a1 = some w1) : Con Z l mX11_readPart (40 + 6 * d + 1) (600 + 132 * d + 22) [vR 0, vI a1] w (.inr none) w1 :=
  Con_of (oc := 10) (by decide +kernel) rfl rfl (fun Ok hC => s_M_readPart hC hrx w a1 w1 h ⟨rfl, rfl⟩)
def V_M_readProduct_5 (a1 : Int32) : (Wld) → Cfg := fun s => (5, [(0, vR 0), (1, vI a1)], [], s)
def E_M_readProduct_5 (a1 : Int32) : (Wld) → Cfg := fun s => (57, [], [], s)
noncomputable def K_M_readProduct_39 (rx : Wld → Int32 → Option (Wld)) (a1 : Int32) (t0 : Int32) (w : Wld) : Option ((Wld) ⊕ (Wld)) :=
  bv (F_M_stepOn w) (fun w4 => bv (F_M_readPart rx w4 a1) (fun w5 => bv (F_M_lay w5 t0) (fun w6 => some (.inl w6))))
set_option maxRecDepth 10000 in
theorem s_K_M_readProduct_39 {Z : ZT} {l : Launch} {o : Oc} {wo : Wld} {Ok : Cfg → Prop} {rx : Wld → Int32 → Option (Wld)} {d : Nat} (hC : Clo Z l 10 3 prog_13_method_25_code none (40 + 6 * d + 2) (600 + 132 * d + 44) o wo Ok) (hrx : ∀ (w : Wld) (a : Int32) (w1 : Wld), rx w a = some w1 → Con Z l mX11_readExpression (40 + 6 * d) (600 + 132 * d) [vR 0, vI a] w (.inr none) w1) (a1 : Int32) (t0 : Int32) (w : Wld) : SimK Ok (39, [(0, vR 0), (1, vI a1)], [vI t0], w) (K_M_readProduct_39 rx a1 t0 w) (GLp Ok (V_M_readProduct_5 a1) (GEp Ok (E_M_readProduct_5 a1))) := by
  unfold K_M_readProduct_39
  refine sim_blk0 hC [(.istore_n 2, 0, 0, 0, 0), (.aload_n 0, 0, 0, 0, 0)] [(0, vR 0), (1, vI a1), (2, vI t0)] [vR 0] w 41 (by decide +kernel) rfl rfl ?_
  refine sim_vv hC 233 mX11_stepOn 2 21 0 [] [] (by decide +kernel) ml_10_233 rfl rfl rfl rfl (ble_of (by omega)) (ble_of (by show 8 + (2 + 11) + _ ≤ _; omega)) (fun wz hz => c_M_stepOn w wz hz) (fun w4 => ?_)
  refine sim_blk0 hC [(.aload_n 0, 0, 0, 0, 0), (.iload_n 1, 0, 0, 0, 0)] [(0, vR 0), (1, vI a1), (2, vI t0)] [vI a1, vR 0] w4 46 (by decide +kernel) rfl rfl ?_
  refine sim_vv hC 255 mX11_readPart (40 + 6 * d + 1) (600 + 132 * d + 22) 0 [vI a1] [] (by decide +kernel) ml_10_255 rfl rfl rfl rfl (ble_of (by omega)) (ble_of (by show 8 + (3 + 11) + _ ≤ _; omega)) (fun wz hz => c_M_readPart hrx w4 a1 wz hz) (fun w5 => ?_)
  refine sim_blk0 hC [(.aload_n 0, 0, 0, 0, 0), (.iload_n 2, 0, 0, 0, 0)] [(0, vR 0), (1, vI a1), (2, vI t0)] [vI t0, vR 0] w5 51 (by decide +kernel) rfl rfl ?_
  refine sim_vv hC 242 mX11_lay 1 0 0 [vI t0] [] (by decide +kernel) ml_10_242 rfl rfl rfl rfl (ble_of (by omega)) (ble_of (by show 8 + (2 + 11) + _ ≤ _; omega)) (fun wz hz => c_M_lay w5 t0 wz hz) (fun w6 => ?_)
  refine sim_goto hC (-49) 5 (by decide +kernel) (by decide) ?_
  refine sim_sub hC [0, 1] ?_
  exact sim_back (V := (V_M_readProduct_5 a1)) w6
noncomputable def K_M_readProduct_23 (rx : Wld → Int32 → Option (Wld)) (a1 : Int32) (w : Wld) : Option ((Wld) ⊕ (Wld)) :=
  bp (F_M_isMarked w 42) (fun i3 => br (i3 = 0) (K_M_readProduct_39 rx a1 (-23) w) (K_M_readProduct_39 rx a1 (-22) w))
set_option maxRecDepth 10000 in
theorem s_K_M_readProduct_23 {Z : ZT} {l : Launch} {o : Oc} {wo : Wld} {Ok : Cfg → Prop} {rx : Wld → Int32 → Option (Wld)} {d : Nat} (hC : Clo Z l 10 3 prog_13_method_25_code none (40 + 6 * d + 2) (600 + 132 * d + 44) o wo Ok) (hrx : ∀ (w : Wld) (a : Int32) (w1 : Wld), rx w a = some w1 → Con Z l mX11_readExpression (40 + 6 * d) (600 + 132 * d) [vR 0, vI a] w (.inr none) w1) (a1 : Int32) (w : Wld) : SimK Ok (23, [(0, vR 0), (1, vI a1)], [], w) (K_M_readProduct_23 rx a1 w) (GLp Ok (V_M_readProduct_5 a1) (GEp Ok (E_M_readProduct_5 a1))) := by
  unfold K_M_readProduct_23
  refine sim_blk0 hC [(.aload_n 0, 0, 0, 0, 0), (.bipush 42, 0, 0, 0, 42)] [(0, vR 0), (1, vI a1)] [vI 42, vR 0] w 26 (by decide +kernel) rfl rfl ?_
  refine sim_vp hC 226 mX11_isMarked 1 0 0 [vI 42] [] (by decide +kernel) ml_10_226 rfl rfl rfl rfl (ble_of (by omega)) (ble_of (by show 8 + (2 + 11) + _ ≤ _; omega)) (fun rz hz => c_M_isMarked w 42 rz hz) (fun i3 => ?_)
  refine sim_br hC (.ifCond .eq 8) 37 (by decide +kernel) rfl (by decide) ?_ ?_
  · refine sim_blk0 hC [(.bipush (-23), 0, 0, 0, (-23))] [(0, vR 0), (1, vI a1)] [vI (-23)] w 39 (by decide +kernel) rfl rfl ?_
    exact s_K_M_readProduct_39 hC hrx a1 (-23) w
  · refine sim_blk0 hC [(.bipush (-22), 0, 0, 0, (-22))] [(0, vR 0), (1, vI a1)] [vI (-22)] w 34 (by decide +kernel) rfl rfl ?_
    refine sim_goto hC 5 39 (by decide +kernel) (by decide) ?_
    exact s_K_M_readProduct_39 hC hrx a1 (-22) w
noncomputable def B_M_readProduct_5 (rx : Wld → Int32 → Option (Wld)) (a1 : Int32) (s : Wld) : Option ((Wld) ⊕ (Wld)) :=
  bp (F_M_isMarked s 42) (fun i2 => br (¬ i2 = 0) (K_M_readProduct_23 rx a1 s) (bp (F_M_isMarked s 47) (fun i7 => br (i7 = 0) (some (.inr s)) (K_M_readProduct_23 rx a1 s))))
set_option maxRecDepth 10000 in
theorem s_B_M_readProduct_5 {Z : ZT} {l : Launch} {o : Oc} {wo : Wld} {Ok : Cfg → Prop} {rx : Wld → Int32 → Option (Wld)} {d : Nat} (hC : Clo Z l 10 3 prog_13_method_25_code none (40 + 6 * d + 2) (600 + 132 * d + 44) o wo Ok) (hrx : ∀ (w : Wld) (a : Int32) (w1 : Wld), rx w a = some w1 → Con Z l mX11_readExpression (40 + 6 * d) (600 + 132 * d) [vR 0, vI a] w (.inr none) w1) (a1 : Int32) (s : Wld) : SimK Ok (V_M_readProduct_5 a1 s) (B_M_readProduct_5 rx a1 s) (GLp Ok (V_M_readProduct_5 a1) (GEp Ok (E_M_readProduct_5 a1))) := by
  unfold B_M_readProduct_5
  show SimK Ok (5, [(0, vR 0), (1, vI a1)], [], s) _ _
  refine sim_blk0 hC [(.aload_n 0, 0, 0, 0, 0), (.bipush 42, 0, 0, 0, 42)] [(0, vR 0), (1, vI a1)] [vI 42, vR 0] s 8 (by decide +kernel) rfl rfl ?_
  refine sim_vp hC 226 mX11_isMarked 1 0 0 [vI 42] [] (by decide +kernel) ml_10_226 rfl rfl rfl rfl (ble_of (by omega)) (ble_of (by show 8 + (2 + 11) + _ ≤ _; omega)) (fun rz hz => c_M_isMarked s 42 rz hz) (fun i2 => ?_)
  refine sim_br hC (.ifCond .ne 12) 23 (by decide +kernel) rfl (by decide) ?_ ?_
  · exact s_K_M_readProduct_23 hC hrx a1 s
  · refine sim_blk0 hC [(.aload_n 0, 0, 0, 0, 0), (.bipush 47, 0, 0, 0, 47)] [(0, vR 0), (1, vI a1)] [vI 47, vR 0] s 17 (by decide +kernel) rfl rfl ?_
    refine sim_vp hC 226 mX11_isMarked 1 0 0 [vI 47] [] (by decide +kernel) ml_10_226 rfl rfl rfl rfl (ble_of (by omega)) (ble_of (by show 8 + (2 + 11) + _ ≤ _; omega)) (fun rz hz => c_M_isMarked s 47 rz hz) (fun i7 => ?_)
    refine sim_br hC (.ifCond .eq 37) 57 (by decide +kernel) rfl (by decide) ?_ ?_
    · refine sim_sub hC [] ?_
      exact sim_exit (E := (E_M_readProduct_5 a1)) s
    · exact s_K_M_readProduct_23 hC hrx a1 s
noncomputable def F_M_readProduct (rx : Wld → Int32 → Option (Wld)) (w : Wld) (a1 : Int32) : Option (Wld) :=
  bv (F_M_readPart rx w a1) (fun w1 => bl (loop (B_M_readProduct_5 rx a1) w1) (fun r8 => some r8))
set_option maxRecDepth 10000 in
theorem s_M_readProduct {Z : ZT} {l : Launch} {o : Oc} {wo : Wld} {Ok : Cfg → Prop} {rx : Wld → Int32 → Option (Wld)} {d : Nat} (hC : Clo Z l 10 3 prog_13_method_25_code none (40 + 6 * d + 2) (600 + 132 * d + 44) o wo Ok) (hrx : ∀ (w : Wld) (a : Int32) (w1 : Wld), rx w a = some w1 → Con Z l mX11_readExpression (40 + 6 * d) (600 + 132 * d) [vR 0, vI a] w (.inr none) w1) (w : Wld) (a1 : Int32) : SimK Ok (0, [(0, vR 0), (1, vI a1)], [], w) (F_M_readProduct rx w a1) (Gv o wo) := by
  unfold F_M_readProduct
  refine sim_blk0 hC [(.aload_n 0, 0, 0, 0, 0), (.iload_n 1, 0, 0, 0, 0)] [(0, vR 0), (1, vI a1)] [vI a1, vR 0] w 2 (by decide +kernel) rfl rfl ?_
  refine sim_vv hC 255 mX11_readPart (40 + 6 * d + 1) (600 + 132 * d + 22) 0 [vI a1] [] (by decide +kernel) ml_10_255 rfl rfl rfl rfl (ble_of (by omega)) (ble_of (by show 8 + (3 + 11) + _ ≤ _; omega)) (fun wz hz => c_M_readPart hrx w a1 wz hz) (fun w1 => ?_)
  refine sim_bl (E := (E_M_readProduct_5 a1)) ?_ (fun r8 => ?_)
  · exact sim_loop (V := (V_M_readProduct_5 a1)) (fun sz => s_B_M_readProduct_5 hC hrx a1 sz) w1
  · show SimK Ok (57, [], [], r8) _ _
    exact sim_retv hC (by decide +kernel)
theorem c_M_readProduct {Z : ZT} {l : Launch} {rx : Wld → Int32 → Option (Wld)} {d : Nat} (hrx : ∀ (w : Wld) (a : Int32) (w1 : Wld), rx w a = some w1 → Con Z l mX11_readExpression (40 + 6 * d) (600 + 132 * d) [vR 0, vI a] w (.inr none) w1) (w : Wld) (a1 : Int32) (w1 : Wld) (h : F_M_readProduct rx w a1 = some w1) : Con Z l mX11_readProduct (40 + 6 * d + 2) (600 + 132 * d + 44) [vR 0, vI a1] w (.inr none) w1 :=
  Con_of (oc := 10) (by decide +kernel) rfl rfl (fun Ok hC => s_M_readProduct hC hrx w a1 w1 h ⟨rfl, rfl⟩)
def V_M_readSum_5 (a1 : Int32) : (Wld) → Cfg := fun s => (5, [(0, vR 0), (1, vI a1)], [], s)
def E_M_readSum_5 (a1 : Int32) : (Wld) → Cfg := fun s => (57, [], [], s)
noncomputable def K_M_readSum_39 (rx : Wld → Int32 → Option (Wld)) (a1 : Int32) (t0 : Int32) (w : Wld) : Option ((Wld) ⊕ (Wld)) :=
  bv (F_M_stepOn w) (fun w4 => bv (F_M_readProduct rx w4 a1) (fun w5 => bv (F_M_lay w5 t0) (fun w6 => some (.inl w6))))
set_option maxRecDepth 10000 in
theorem s_K_M_readSum_39 {Z : ZT} {l : Launch} {o : Oc} {wo : Wld} {Ok : Cfg → Prop} {rx : Wld → Int32 → Option (Wld)} {d : Nat} (hC : Clo Z l 10 3 prog_13_method_26_code none (40 + 6 * d + 3) (600 + 132 * d + 66) o wo Ok) (hrx : ∀ (w : Wld) (a : Int32) (w1 : Wld), rx w a = some w1 → Con Z l mX11_readExpression (40 + 6 * d) (600 + 132 * d) [vR 0, vI a] w (.inr none) w1) (a1 : Int32) (t0 : Int32) (w : Wld) : SimK Ok (39, [(0, vR 0), (1, vI a1)], [vI t0], w) (K_M_readSum_39 rx a1 t0 w) (GLp Ok (V_M_readSum_5 a1) (GEp Ok (E_M_readSum_5 a1))) := by
  unfold K_M_readSum_39
  refine sim_blk0 hC [(.istore_n 2, 0, 0, 0, 0), (.aload_n 0, 0, 0, 0, 0)] [(0, vR 0), (1, vI a1), (2, vI t0)] [vR 0] w 41 (by decide +kernel) rfl rfl ?_
  refine sim_vv hC 233 mX11_stepOn 2 21 0 [] [] (by decide +kernel) ml_10_233 rfl rfl rfl rfl (ble_of (by omega)) (ble_of (by show 8 + (2 + 11) + _ ≤ _; omega)) (fun wz hz => c_M_stepOn w wz hz) (fun w4 => ?_)
  refine sim_blk0 hC [(.aload_n 0, 0, 0, 0, 0), (.iload_n 1, 0, 0, 0, 0)] [(0, vR 0), (1, vI a1), (2, vI t0)] [vI a1, vR 0] w4 46 (by decide +kernel) rfl rfl ?_
  refine sim_vv hC 258 mX11_readProduct (40 + 6 * d + 2) (600 + 132 * d + 44) 0 [vI a1] [] (by decide +kernel) ml_10_258 rfl rfl rfl rfl (ble_of (by omega)) (ble_of (by show 8 + (3 + 11) + _ ≤ _; omega)) (fun wz hz => c_M_readProduct hrx w4 a1 wz hz) (fun w5 => ?_)
  refine sim_blk0 hC [(.aload_n 0, 0, 0, 0, 0), (.iload_n 2, 0, 0, 0, 0)] [(0, vR 0), (1, vI a1), (2, vI t0)] [vI t0, vR 0] w5 51 (by decide +kernel) rfl rfl ?_
  refine sim_vv hC 242 mX11_lay 1 0 0 [vI t0] [] (by decide +kernel) ml_10_242 rfl rfl rfl rfl (ble_of (by omega)) (ble_of (by show 8 + (2 + 11) + _ ≤ _; omega)) (fun wz hz => c_M_lay w5 t0 wz hz) (fun w6 => ?_)
  refine sim_goto hC (-49) 5 (by decide +kernel) (by decide) ?_
  refine sim_sub hC [0, 1] ?_
  exact sim_back (V := (V_M_readSum_5 a1)) w6
noncomputable def K_M_readSum_23 (rx : Wld → Int32 → Option (Wld)) (a1 : Int32) (w : Wld) : Option ((Wld) ⊕ (Wld)) :=
  bp (F_M_isMarked w 43) (fun i3 => br (i3 = 0) (K_M_readSum_39 rx a1 (-21) w) (K_M_readSum_39 rx a1 (-20) w))
set_option maxRecDepth 10000 in
theorem s_K_M_readSum_23 {Z : ZT} {l : Launch} {o : Oc} {wo : Wld} {Ok : Cfg → Prop} {rx : Wld → Int32 → Option (Wld)} {d : Nat} (hC : Clo Z l 10 3 prog_13_method_26_code none (40 + 6 * d + 3) (600 + 132 * d + 66) o wo Ok) (hrx : ∀ (w : Wld) (a : Int32) (w1 : Wld), rx w a = some w1 → Con Z l mX11_readExpression (40 + 6 * d) (600 + 132 * d) [vR 0, vI a] w (.inr none) w1) (a1 : Int32) (w : Wld) : SimK Ok (23, [(0, vR 0), (1, vI a1)], [], w) (K_M_readSum_23 rx a1 w) (GLp Ok (V_M_readSum_5 a1) (GEp Ok (E_M_readSum_5 a1))) := by
  unfold K_M_readSum_23
  refine sim_blk0 hC [(.aload_n 0, 0, 0, 0, 0), (.bipush 43, 0, 0, 0, 43)] [(0, vR 0), (1, vI a1)] [vI 43, vR 0] w 26 (by decide +kernel) rfl rfl ?_
  refine sim_vp hC 226 mX11_isMarked 1 0 0 [vI 43] [] (by decide +kernel) ml_10_226 rfl rfl rfl rfl (ble_of (by omega)) (ble_of (by show 8 + (2 + 11) + _ ≤ _; omega)) (fun rz hz => c_M_isMarked w 43 rz hz) (fun i3 => ?_)
  refine sim_br hC (.ifCond .eq 8) 37 (by decide +kernel) rfl (by decide) ?_ ?_
  · refine sim_blk0 hC [(.bipush (-21), 0, 0, 0, (-21))] [(0, vR 0), (1, vI a1)] [vI (-21)] w 39 (by decide +kernel) rfl rfl ?_
    exact s_K_M_readSum_39 hC hrx a1 (-21) w
  · refine sim_blk0 hC [(.bipush (-20), 0, 0, 0, (-20))] [(0, vR 0), (1, vI a1)] [vI (-20)] w 34 (by decide +kernel) rfl rfl ?_
    refine sim_goto hC 5 39 (by decide +kernel) (by decide) ?_
    exact s_K_M_readSum_39 hC hrx a1 (-20) w
noncomputable def B_M_readSum_5 (rx : Wld → Int32 → Option (Wld)) (a1 : Int32) (s : Wld) : Option ((Wld) ⊕ (Wld)) :=
  bp (F_M_isMarked s 43) (fun i2 => br (¬ i2 = 0) (K_M_readSum_23 rx a1 s) (bp (F_M_isMarked s 45) (fun i7 => br (i7 = 0) (some (.inr s)) (K_M_readSum_23 rx a1 s))))
set_option maxRecDepth 10000 in
theorem s_B_M_readSum_5 {Z : ZT} {l : Launch} {o : Oc} {wo : Wld} {Ok : Cfg → Prop} {rx : Wld → Int32 → Option (Wld)} {d : Nat} (hC : Clo Z l 10 3 prog_13_method_26_code none (40 + 6 * d + 3) (600 + 132 * d + 66) o wo Ok) (hrx : ∀ (w : Wld) (a : Int32) (w1 : Wld), rx w a = some w1 → Con Z l mX11_readExpression (40 + 6 * d) (600 + 132 * d) [vR 0, vI a] w (.inr none) w1) (a1 : Int32) (s : Wld) : SimK Ok (V_M_readSum_5 a1 s) (B_M_readSum_5 rx a1 s) (GLp Ok (V_M_readSum_5 a1) (GEp Ok (E_M_readSum_5 a1))) := by
  unfold B_M_readSum_5
  show SimK Ok (5, [(0, vR 0), (1, vI a1)], [], s) _ _
  refine sim_blk0 hC [(.aload_n 0, 0, 0, 0, 0), (.bipush 43, 0, 0, 0, 43)] [(0, vR 0), (1, vI a1)] [vI 43, vR 0] s 8 (by decide +kernel) rfl rfl ?_
  refine sim_vp hC 226 mX11_isMarked 1 0 0 [vI 43] [] (by decide +kernel) ml_10_226 rfl rfl rfl rfl (ble_of (by omega)) (ble_of (by show 8 + (2 + 11) + _ ≤ _; omega)) (fun rz hz => c_M_isMarked s 43 rz hz) (fun i2 => ?_)
  refine sim_br hC (.ifCond .ne 12) 23 (by decide +kernel) rfl (by decide) ?_ ?_
  · exact s_K_M_readSum_23 hC hrx a1 s
  · refine sim_blk0 hC [(.aload_n 0, 0, 0, 0, 0), (.bipush 45, 0, 0, 0, 45)] [(0, vR 0), (1, vI a1)] [vI 45, vR 0] s 17 (by decide +kernel) rfl rfl ?_
    refine sim_vp hC 226 mX11_isMarked 1 0 0 [vI 45] [] (by decide +kernel) ml_10_226 rfl rfl rfl rfl (ble_of (by omega)) (ble_of (by show 8 + (2 + 11) + _ ≤ _; omega)) (fun rz hz => c_M_isMarked s 45 rz hz) (fun i7 => ?_)
    refine sim_br hC (.ifCond .eq 37) 57 (by decide +kernel) rfl (by decide) ?_ ?_
    · refine sim_sub hC [] ?_
      exact sim_exit (E := (E_M_readSum_5 a1)) s
    · exact s_K_M_readSum_23 hC hrx a1 s
noncomputable def F_M_readSum (rx : Wld → Int32 → Option (Wld)) (w : Wld) (a1 : Int32) : Option (Wld) :=
  bv (F_M_readProduct rx w a1) (fun w1 => bl (loop (B_M_readSum_5 rx a1) w1) (fun r8 => some r8))
set_option maxRecDepth 10000 in
theorem s_M_readSum {Z : ZT} {l : Launch} {o : Oc} {wo : Wld} {Ok : Cfg → Prop} {rx : Wld → Int32 → Option (Wld)} {d : Nat} (hC : Clo Z l 10 3 prog_13_method_26_code none (40 + 6 * d + 3) (600 + 132 * d + 66) o wo Ok) (hrx : ∀ (w : Wld) (a : Int32) (w1 : Wld), rx w a = some w1 → Con Z l mX11_readExpression (40 + 6 * d) (600 + 132 * d) [vR 0, vI a] w (.inr none) w1) (w : Wld) (a1 : Int32) : SimK Ok (0, [(0, vR 0), (1, vI a1)], [], w) (F_M_readSum rx w a1) (Gv o wo) := by
  unfold F_M_readSum
  refine sim_blk0 hC [(.aload_n 0, 0, 0, 0, 0), (.iload_n 1, 0, 0, 0, 0)] [(0, vR 0), (1, vI a1)] [vI a1, vR 0] w 2 (by decide +kernel) rfl rfl ?_
  refine sim_vv hC 258 mX11_readProduct (40 + 6 * d + 2) (600 + 132 * d + 44) 0 [vI a1] [] (by decide +kernel) ml_10_258 rfl rfl rfl rfl (ble_of (by omega)) (ble_of (by show 8 + (3 + 11) + _ ≤ _; omega)) (fun wz hz => c_M_readProduct hrx w a1 wz hz) (fun w1 => ?_)
  refine sim_bl (E := (E_M_readSum_5 a1)) ?_ (fun r8 => ?_)
  · exact sim_loop (V := (V_M_readSum_5 a1)) (fun sz => s_B_M_readSum_5 hC hrx a1 sz) w1
  · show SimK Ok (57, [], [], r8) _ _
    exact sim_retv hC (by decide +kernel)
theorem c_M_readSum {Z : ZT} {l : Launch} {rx : Wld → Int32 → Option (Wld)} {d : Nat} (hrx : ∀ (w : Wld) (a : Int32) (w1 : Wld), rx w a = some w1 → Con Z l mX11_readExpression (40 + 6 * d) (600 + 132 * d) [vR 0, vI a] w (.inr none) w1) (w : Wld) (a1 : Int32) (w1 : Wld) (h : F_M_readSum rx w a1 = some w1) : Con Z l mX11_readSum (40 + 6 * d + 3) (600 + 132 * d + 66) [vR 0, vI a1] w (.inr none) w1 :=
  Con_of (oc := 10) (by decide +kernel) rfl rfl (fun Ok hC => s_M_readSum hC hrx w a1 w1 h ⟨rfl, rfl⟩)
def V_M_readNot_2 (a1 : Int32) : (Int32 × Wld) → Cfg := fun s => (2, [(0, vR 0), (1, vI a1), (2, vI s.1)], [], s.2)
def E_M_readNot_2 (a1 : Int32) : (Int32 × Wld) → Cfg := fun s => (40, [(0, vR 0), (1, vI a1), (2, vI s.1)], [], s.2)
noncomputable def K_M_readNot_23 (rx : Wld → Int32 → Option (Wld)) (a1 : Int32) (a2 : Int32) (w : Wld) : Option ((Int32 × Wld) ⊕ (Int32 × Wld)) :=
  bi (a2 + 1) (fun i2 => br (¬ (w 0 21) = 0) (some (.inl ((i2, w)))) (bv (F_M_stepOn w) (fun w3 => some (.inl ((i2, w3))))))
set_option maxRecDepth 10000 in
theorem s_K_M_readNot_23 {Z : ZT} {l : Launch} {o : Oc} {wo : Wld} {Ok : Cfg → Prop} {rx : Wld → Int32 → Option (Wld)} {d : Nat} (hD : Clo3 Z l 10 4 prog_13_method_27_code none (40 + 6 * d + 4) (600 + 132 * d + 88) o wo Ok) (hrx : ∀ (w : Wld) (a : Int32) (w1 : Wld), rx w a = some w1 → Con Z l mX11_readExpression (40 + 6 * d) (600 + 132 * d) [vR 0, vI a] w (.inr none) w1) (a1 : Int32) (a2 : Int32) (w : Wld) : SimK Ok (23, [(0, vR 0), (1, vI a1), (2, vI a2)], [], w) (K_M_readNot_23 rx a1 a2 w) (GLp Ok (V_M_readNot_2 a1) (GEp Ok (E_M_readNot_2 a1))) := by
  unfold K_M_readNot_23
  have hC := hD.1
  have hC2 := hD.2
  refine sim_blk0 hC [(.iinc 2 1, 0, 0, 0, 1)] [(0, vR 0), (1, vI a1), (2, vI (a2 + 1))] [] w 26 (by decide +kernel) rfl rfl ?_
  refine sim_bi (C := fun i2 => (26, [(0, vR 0), (1, vI a1), (2, vI i2)], [], w)) (fun i2 => ?_)
  refine sim_blk0 hC [(.aload_n 0, 0, 0, 0, 0), (.getfield 208, 0, 21, 0, 0)] [(0, vR 0), (1, vI a1), (2, vI i2)] [vI (w 0 21)] w 30 (by decide +kernel) rfl rfl ?_
  refine sim_br hC (.ifCond .ne (-28)) 2 (by decide +kernel) rfl (by decide) ?_ ?_
  · exact sim_back (V := (V_M_readNot_2 a1)) ((i2, w))
  · refine sim_blk0 hC [(.aload_n 0, 0, 0, 0, 0)] [(0, vR 0), (1, vI a1), (2, vI i2)] [vR 0] w 34 (by decide +kernel) rfl rfl ?_
    refine sim_vv hC 233 mX11_stepOn 2 21 0 [] [] (by decide +kernel) ml_10_233 rfl rfl rfl rfl (ble_of (by omega)) (ble_of (by show 8 + (2 + 11) + _ ≤ _; omega)) (fun wz hz => c_M_stepOn w wz hz) (fun w3 => ?_)
    refine sim_goto hC (-35) 2 (by decide +kernel) (by decide) ?_
    exact sim_back (V := (V_M_readNot_2 a1)) ((i2, w3))
noncomputable def B_M_readNot_2 (rx : Wld → Int32 → Option (Wld)) (a1 : Int32) (s : Int32 × Wld) : Option ((Int32 × Wld) ⊕ (Int32 × Wld)) :=
  bp (F_M_is s.2 15) (fun i1 => br (i1 = 0) (some (.inr ((s.1, s.2)))) (br (¬ s.1 = 6) (K_M_readNot_23 rx a1 s.1 s.2) (bv (F_M_wrong s.2 2) (fun w4 => K_M_readNot_23 rx a1 s.1 w4))))
set_option maxRecDepth 10000 in
theorem s_B_M_readNot_2 {Z : ZT} {l : Launch} {o : Oc} {wo : Wld} {Ok : Cfg → Prop} {rx : Wld → Int32 → Option (Wld)} {d : Nat} (hD : Clo3 Z l 10 4 prog_13_method_27_code none (40 + 6 * d + 4) (600 + 132 * d + 88) o wo Ok) (hrx : ∀ (w : Wld) (a : Int32) (w1 : Wld), rx w a = some w1 → Con Z l mX11_readExpression (40 + 6 * d) (600 + 132 * d) [vR 0, vI a] w (.inr none) w1) (a1 : Int32) (s : Int32 × Wld) : SimK Ok (V_M_readNot_2 a1 s) (B_M_readNot_2 rx a1 s) (GLp Ok (V_M_readNot_2 a1) (GEp Ok (E_M_readNot_2 a1))) := by
  unfold B_M_readNot_2
  have hC := hD.1
  have hC2 := hD.2
  show SimK Ok (2, [(0, vR 0), (1, vI a1), (2, vI s.1)], [], s.2) _ _
  refine sim_blk0 hC [(.aload_n 0, 0, 0, 0, 0)] [(0, vR 0), (1, vI a1), (2, vI s.1)] [vR 0] s.2 3 (by decide +kernel) rfl rfl ?_
  refine sim_ldsw hC2 261 15 "not" (by decide +kernel) (by decide) ?_
  refine sim_vp hC 222 mX11_is 5 103 0 [vS 15] [] (by decide +kernel) ml_10_222 rfl rfl rfl rfl (ble_of (by omega)) (ble_of (by show 8 + (4 + 11) + _ ≤ _; omega)) (fun rz hz => c_M_is s.2 15 rz hz) (fun i1 => ?_)
  refine sim_br hC (.ifCond .eq 31) 40 (by decide +kernel) rfl (by decide) ?_ ?_
  · exact sim_exit (E := (E_M_readNot_2 a1)) ((s.1, s.2))
  · refine sim_blk0 hC [(.iload_n 2, 0, 0, 0, 0), (.bipush 6, 0, 0, 0, 6)] [(0, vR 0), (1, vI a1), (2, vI s.1)] [vI 6, vI s.1] s.2 15 (by decide +kernel) rfl rfl ?_
    refine sim_br hC (.if_icmp .ne 8) 23 (by decide +kernel) rfl (by decide) ?_ ?_
    · exact s_K_M_readNot_23 hD hrx a1 s.1 s.2
    · refine sim_blk0 hC [(.aload_n 0, 0, 0, 0, 0), (.iconst 2, 0, 0, 0, 2)] [(0, vR 0), (1, vI a1), (2, vI s.1)] [vI 2, vR 0] s.2 20 (by decide +kernel) rfl rfl ?_
      refine sim_vv hC 229 mX11_wrong 1 0 0 [vI 2] [] (by decide +kernel) ml_10_229 rfl rfl rfl rfl (ble_of (by omega)) (ble_of (by show 8 + (2 + 11) + _ ≤ _; omega)) (fun wz hz => c_M_wrong s.2 2 wz hz) (fun w4 => ?_)
      exact s_K_M_readNot_23 hD hrx a1 s.1 w4
def V_M_readNot_96 (a2 : Int32) : (Int32 × Wld) → Cfg := fun s => (96, [(0, vR 0), (2, vI a2), (3, vI s.1)], [], s.2)
def E_M_readNot_96 (a2 : Int32) : (Wld) → Cfg := fun s => (113, [], [], s)
noncomputable def B_M_readNot_96 (rx : Wld → Int32 → Option (Wld)) (a2 : Int32) (s : Int32 × Wld) : Option ((Int32 × Wld) ⊕ (Wld)) :=
  br (a2 ≤ s.1) (some (.inr s.2)) (bv (F_M_lay s.2 (-28)) (fun w12 => bi (s.1 + 1) (fun i13 => some (.inl ((i13, w12))))))
set_option maxRecDepth 10000 in
theorem s_B_M_readNot_96 {Z : ZT} {l : Launch} {o : Oc} {wo : Wld} {Ok : Cfg → Prop} {rx : Wld → Int32 → Option (Wld)} {d : Nat} (hD : Clo3 Z l 10 4 prog_13_method_27_code none (40 + 6 * d + 4) (600 + 132 * d + 88) o wo Ok) (hrx : ∀ (w : Wld) (a : Int32) (w1 : Wld), rx w a = some w1 → Con Z l mX11_readExpression (40 + 6 * d) (600 + 132 * d) [vR 0, vI a] w (.inr none) w1) (a2 : Int32) (s : Int32 × Wld) : SimK Ok (V_M_readNot_96 a2 s) (B_M_readNot_96 rx a2 s) (GLp Ok (V_M_readNot_96 a2) (GEp Ok (E_M_readNot_96 a2))) := by
  unfold B_M_readNot_96
  have hC := hD.1
  have hC2 := hD.2
  show SimK Ok (96, [(0, vR 0), (2, vI a2), (3, vI s.1)], [], s.2) _ _
  refine sim_blk0 hC [(.iload_n 3, 0, 0, 0, 0), (.iload_n 2, 0, 0, 0, 0)] [(0, vR 0), (2, vI a2), (3, vI s.1)] [vI a2, vI s.1] s.2 98 (by decide +kernel) rfl rfl ?_
  refine sim_br hC (.if_icmp .ge 15) 113 (by decide +kernel) rfl (by decide) ?_ ?_
  · refine sim_sub hC [] ?_
    exact sim_exit (E := (E_M_readNot_96 a2)) s.2
  · refine sim_blk0 hC [(.aload_n 0, 0, 0, 0, 0), (.bipush (-28), 0, 0, 0, (-28))] [(0, vR 0), (2, vI a2), (3, vI s.1)] [vI (-28), vR 0] s.2 104 (by decide +kernel) rfl rfl ?_
    refine sim_vv hC 242 mX11_lay 1 0 0 [vI (-28)] [] (by decide +kernel) ml_10_242 rfl rfl rfl rfl (ble_of (by omega)) (ble_of (by show 8 + (2 + 11) + _ ≤ _; omega)) (fun wz hz => c_M_lay s.2 (-28) wz hz) (fun w12 => ?_)
    refine sim_blk0 hC [(.iinc 3 1, 0, 0, 0, 1)] [(0, vR 0), (2, vI a2), (3, vI (s.1 + 1))] [] w12 110 (by decide +kernel) rfl rfl ?_
    refine sim_bi (C := fun i13 => (110, [(0, vR 0), (2, vI a2), (3, vI i13)], [], w12)) (fun i13 => ?_)
    refine sim_goto hC (-14) 96 (by decide +kernel) (by decide) ?_
    exact sim_back (V := (V_M_readNot_96 a2)) ((i13, w12))
noncomputable def K_M_readNot_94 (rx : Wld → Int32 → Option (Wld)) (a2 : Int32) (w : Wld) : Option (Wld) :=
  bl (loop (B_M_readNot_96 rx a2) ((0, w))) (fun r14 => some r14)
set_option maxRecDepth 10000 in
theorem s_K_M_readNot_94 {Z : ZT} {l : Launch} {o : Oc} {wo : Wld} {Ok : Cfg → Prop} {rx : Wld → Int32 → Option (Wld)} {d : Nat} (hD : Clo3 Z l 10 4 prog_13_method_27_code none (40 + 6 * d + 4) (600 + 132 * d + 88) o wo Ok) (hrx : ∀ (w : Wld) (a : Int32) (w1 : Wld), rx w a = some w1 → Con Z l mX11_readExpression (40 + 6 * d) (600 + 132 * d) [vR 0, vI a] w (.inr none) w1) (a2 : Int32) (w : Wld) : SimK Ok (94, [(0, vR 0), (2, vI a2)], [], w) (K_M_readNot_94 rx a2 w) (Gv o wo) := by
  unfold K_M_readNot_94
  have hC := hD.1
  have hC2 := hD.2
  refine sim_blk0 hC [(.iconst 0, 0, 0, 0, 0), (.istore_n 3, 0, 0, 0, 0)] [(0, vR 0), (2, vI a2), (3, vI 0)] [] w 96 (by decide +kernel) rfl rfl ?_
  refine sim_bl (E := (E_M_readNot_96 a2)) ?_ (fun r14 => ?_)
  · exact sim_loop (V := (V_M_readNot_96 a2)) (fun sz => s_B_M_readNot_96 hD hrx a2 sz) ((0, w))
  · show SimK Ok (113, [], [], r14) _ _
    exact sim_retv hC (by decide +kernel)
noncomputable def K_M_readNot_79 (rx : Wld → Int32 → Option (Wld)) (a1 : Int32) (a2 : Int32) (t0 : Int32) (w : Wld) : Option (Wld) :=
  bv (F_M_stepOn w) (fun w9 => bv (F_M_readSum rx w9 a1) (fun w10 => bv (F_M_lay w10 t0) (fun w11 => K_M_readNot_94 rx a2 w11)))
set_option maxRecDepth 10000 in
theorem s_K_M_readNot_79 {Z : ZT} {l : Launch} {o : Oc} {wo : Wld} {Ok : Cfg → Prop} {rx : Wld → Int32 → Option (Wld)} {d : Nat} (hD : Clo3 Z l 10 4 prog_13_method_27_code none (40 + 6 * d + 4) (600 + 132 * d + 88) o wo Ok) (hrx : ∀ (w : Wld) (a : Int32) (w1 : Wld), rx w a = some w1 → Con Z l mX11_readExpression (40 + 6 * d) (600 + 132 * d) [vR 0, vI a] w (.inr none) w1) (a1 : Int32) (a2 : Int32) (t0 : Int32) (w : Wld) : SimK Ok (79, [(0, vR 0), (1, vI a1), (2, vI a2)], [vI t0], w) (K_M_readNot_79 rx a1 a2 t0 w) (Gv o wo) := by
  unfold K_M_readNot_79
  have hC := hD.1
  have hC2 := hD.2
  refine sim_blk0 hC [(.istore_n 3, 0, 0, 0, 0), (.aload_n 0, 0, 0, 0, 0)] [(0, vR 0), (1, vI a1), (2, vI a2), (3, vI t0)] [vR 0] w 81 (by decide +kernel) rfl rfl ?_
  refine sim_vv hC 233 mX11_stepOn 2 21 0 [] [] (by decide +kernel) ml_10_233 rfl rfl rfl rfl (ble_of (by omega)) (ble_of (by show 8 + (2 + 11) + _ ≤ _; omega)) (fun wz hz => c_M_stepOn w wz hz) (fun w9 => ?_)
  refine sim_blk0 hC [(.aload_n 0, 0, 0, 0, 0), (.iload_n 1, 0, 0, 0, 0)] [(0, vR 0), (1, vI a1), (2, vI a2), (3, vI t0)] [vI a1, vR 0] w9 86 (by decide +kernel) rfl rfl ?_
  refine sim_vv hC 263 mX11_readSum (40 + 6 * d + 3) (600 + 132 * d + 66) 0 [vI a1] [] (by decide +kernel) ml_10_263 rfl rfl rfl rfl (ble_of (by omega)) (ble_of (by show 8 + (3 + 11) + _ ≤ _; omega)) (fun wz hz => c_M_readSum hrx w9 a1 wz hz) (fun w10 => ?_)
  refine sim_blk0 hC [(.aload_n 0, 0, 0, 0, 0), (.iload_n 3, 0, 0, 0, 0)] [(0, vR 0), (1, vI a1), (2, vI a2), (3, vI t0)] [vI t0, vR 0] w10 91 (by decide +kernel) rfl rfl ?_
  refine sim_vv hC 242 mX11_lay 1 0 0 [vI t0] [] (by decide +kernel) ml_10_242 rfl rfl rfl rfl (ble_of (by omega)) (ble_of (by show 8 + (2 + 11) + _ ≤ _; omega)) (fun wz hz => c_M_lay w10 t0 wz hz) (fun w11 => ?_)
  refine sim_sub hC [0, 2] ?_
  exact s_K_M_readNot_94 hD hrx a2 w11
noncomputable def K_M_readNot_63 (rx : Wld → Int32 → Option (Wld)) (a1 : Int32) (a2 : Int32) (w : Wld) : Option (Wld) :=
  bp (F_M_isMarked w 60) (fun i8 => br (i8 = 0) (K_M_readNot_79 rx a1 a2 (-25) w) (K_M_readNot_79 rx a1 a2 (-24) w))
set_option maxRecDepth 10000 in
theorem s_K_M_readNot_63 {Z : ZT} {l : Launch} {o : Oc} {wo : Wld} {Ok : Cfg → Prop} {rx : Wld → Int32 → Option (Wld)} {d : Nat} (hD : Clo3 Z l 10 4 prog_13_method_27_code none (40 + 6 * d + 4) (600 + 132 * d + 88) o wo Ok) (hrx : ∀ (w : Wld) (a : Int32) (w1 : Wld), rx w a = some w1 → Con Z l mX11_readExpression (40 + 6 * d) (600 + 132 * d) [vR 0, vI a] w (.inr none) w1) (a1 : Int32) (a2 : Int32) (w : Wld) : SimK Ok (63, [(0, vR 0), (1, vI a1), (2, vI a2)], [], w) (K_M_readNot_63 rx a1 a2 w) (Gv o wo) := by
  unfold K_M_readNot_63
  have hC := hD.1
  have hC2 := hD.2
  refine sim_blk0 hC [(.aload_n 0, 0, 0, 0, 0), (.bipush 60, 0, 0, 0, 60)] [(0, vR 0), (1, vI a1), (2, vI a2)] [vI 60, vR 0] w 66 (by decide +kernel) rfl rfl ?_
  refine sim_vp hC 226 mX11_isMarked 1 0 0 [vI 60] [] (by decide +kernel) ml_10_226 rfl rfl rfl rfl (ble_of (by omega)) (ble_of (by show 8 + (2 + 11) + _ ≤ _; omega)) (fun rz hz => c_M_isMarked w 60 rz hz) (fun i8 => ?_)
  refine sim_br hC (.ifCond .eq 8) 77 (by decide +kernel) rfl (by decide) ?_ ?_
  · refine sim_blk0 hC [(.bipush (-25), 0, 0, 0, (-25))] [(0, vR 0), (1, vI a1), (2, vI a2)] [vI (-25)] w 79 (by decide +kernel) rfl rfl ?_
    exact s_K_M_readNot_79 hD hrx a1 a2 (-25) w
  · refine sim_blk0 hC [(.bipush (-24), 0, 0, 0, (-24))] [(0, vR 0), (1, vI a1), (2, vI a2)] [vI (-24)] w 74 (by decide +kernel) rfl rfl ?_
    refine sim_goto hC 5 79 (by decide +kernel) (by decide) ?_
    exact s_K_M_readNot_79 hD hrx a1 a2 (-24) w
noncomputable def F_M_readNot (rx : Wld → Int32 → Option (Wld)) (w : Wld) (a1 : Int32) : Option (Wld) :=
  bl (loop (B_M_readNot_2 rx a1) ((0, w))) (fun r5 => bv (F_M_readSum rx r5.2 a1) (fun w6 => bp (F_M_isMarked w6 60) (fun i7 => br (¬ i7 = 0) (K_M_readNot_63 rx a1 r5.1 w6) (bp (F_M_isMarked w6 61) (fun i15 => br (i15 = 0) (K_M_readNot_94 rx r5.1 w6) (K_M_readNot_63 rx a1 r5.1 w6))))))
set_option maxRecDepth 10000 in
theorem s_M_readNot {Z : ZT} {l : Launch} {o : Oc} {wo : Wld} {Ok : Cfg → Prop} {rx : Wld → Int32 → Option (Wld)} {d : Nat} (hD : Clo3 Z l 10 4 prog_13_method_27_code none (40 + 6 * d + 4) (600 + 132 * d + 88) o wo Ok) (hrx : ∀ (w : Wld) (a : Int32) (w1 : Wld), rx w a = some w1 → Con Z l mX11_readExpression (40 + 6 * d) (600 + 132 * d) [vR 0, vI a] w (.inr none) w1) (w : Wld) (a1 : Int32) : SimK Ok (0, [(0, vR 0), (1, vI a1)], [], w) (F_M_readNot rx w a1) (Gv o wo) := by
  unfold F_M_readNot
  have hC := hD.1
  have hC2 := hD.2
  refine sim_blk0 hC [(.iconst 0, 0, 0, 0, 0), (.istore_n 2, 0, 0, 0, 0)] [(0, vR 0), (1, vI a1), (2, vI 0)] [] w 2 (by decide +kernel) rfl rfl ?_
  refine sim_bl (E := (E_M_readNot_2 a1)) ?_ (fun r5 => ?_)
  · exact sim_loop (V := (V_M_readNot_2 a1)) (fun sz => s_B_M_readNot_2 hD hrx a1 sz) ((0, w))
  · show SimK Ok (40, [(0, vR 0), (1, vI a1), (2, vI r5.1)], [], r5.2) _ _
    refine sim_blk0 hC [(.aload_n 0, 0, 0, 0, 0), (.iload_n 1, 0, 0, 0, 0)] [(0, vR 0), (1, vI a1), (2, vI r5.1)] [vI a1, vR 0] r5.2 42 (by decide +kernel) rfl rfl ?_
    refine sim_vv hC 263 mX11_readSum (40 + 6 * d + 3) (600 + 132 * d + 66) 0 [vI a1] [] (by decide +kernel) ml_10_263 rfl rfl rfl rfl (ble_of (by omega)) (ble_of (by show 8 + (3 + 11) + _ ≤ _; omega)) (fun wz hz => c_M_readSum hrx r5.2 a1 wz hz) (fun w6 => ?_)
    refine sim_blk0 hC [(.aload_n 0, 0, 0, 0, 0), (.bipush 60, 0, 0, 0, 60)] [(0, vR 0), (1, vI a1), (2, vI r5.1)] [vI 60, vR 0] w6 48 (by decide +kernel) rfl rfl ?_
    refine sim_vp hC 226 mX11_isMarked 1 0 0 [vI 60] [] (by decide +kernel) ml_10_226 rfl rfl rfl rfl (ble_of (by omega)) (ble_of (by show 8 + (2 + 11) + _ ≤ _; omega)) (fun rz hz => c_M_isMarked w6 60 rz hz) (fun i7 => ?_)
    refine sim_br hC (.ifCond .ne 12) 63 (by decide +kernel) rfl (by decide) ?_ ?_
    · exact s_K_M_readNot_63 hD hrx a1 r5.1 w6
    · refine sim_blk0 hC [(.aload_n 0, 0, 0, 0, 0), (.bipush 61, 0, 0, 0, 61)] [(0, vR 0), (1, vI a1), (2, vI r5.1)] [vI 61, vR 0] w6 57 (by decide +kernel) rfl rfl ?_
      refine sim_vp hC 226 mX11_isMarked 1 0 0 [vI 61] [] (by decide +kernel) ml_10_226 rfl rfl rfl rfl (ble_of (by omega)) (ble_of (by show 8 + (2 + 11) + _ ≤ _; omega)) (fun rz hz => c_M_isMarked w6 61 rz hz) (fun i15 => ?_)
      refine sim_br hC (.ifCond .eq 34) 94 (by decide +kernel) rfl (by decide) ?_ ?_
      · refine sim_sub hC [0, 2] ?_
        exact s_K_M_readNot_94 hD hrx r5.1 w6
      · exact s_K_M_readNot_63 hD hrx a1 r5.1 w6
theorem c_M_readNot {Z : ZT} {l : Launch} {rx : Wld → Int32 → Option (Wld)} {d : Nat} (hrx : ∀ (w : Wld) (a : Int32) (w1 : Wld), rx w a = some w1 → Con Z l mX11_readExpression (40 + 6 * d) (600 + 132 * d) [vR 0, vI a] w (.inr none) w1) (w : Wld) (a1 : Int32) (w1 : Wld) (h : F_M_readNot rx w a1 = some w1) : Con Z l mX11_readNot (40 + 6 * d + 4) (600 + 132 * d + 88) [vR 0, vI a1] w (.inr none) w1 :=
  Con_of3 (oc := 10) (by decide +kernel) rfl rfl (fun Ok hC => s_M_readNot hC hrx w a1 w1 h ⟨rfl, rfl⟩)
def V_M_readAnd_5 (a1 : Int32) : (Wld) → Cfg := fun s => (5, [(0, vR 0), (1, vI a1)], [], s)
def E_M_readAnd_5 (a1 : Int32) : (Wld) → Cfg := fun s => (33, [], [], s)
noncomputable def B_M_readAnd_5 (rx : Wld → Int32 → Option (Wld)) (a1 : Int32) (s : Wld) : Option ((Wld) ⊕ (Wld)) :=
  bp (F_M_is s 16) (fun i2 => br (i2 = 0) (some (.inr s)) (bv (F_M_stepOn s) (fun w3 => bv (F_M_readNot rx w3 a1) (fun w4 => bv (F_M_lay w4 (-26)) (fun w5 => some (.inl w5))))))
set_option maxRecDepth 10000 in
theorem s_B_M_readAnd_5 {Z : ZT} {l : Launch} {o : Oc} {wo : Wld} {Ok : Cfg → Prop} {rx : Wld → Int32 → Option (Wld)} {d : Nat} (hD : Clo3 Z l 10 2 prog_13_method_28_code none (40 + 6 * d + 5) (600 + 132 * d + 111) o wo Ok) (hrx : ∀ (w : Wld) (a : Int32) (w1 : Wld), rx w a = some w1 → Con Z l mX11_readExpression (40 + 6 * d) (600 + 132 * d) [vR 0, vI a] w (.inr none) w1) (a1 : Int32) (s : Wld) : SimK Ok (V_M_readAnd_5 a1 s) (B_M_readAnd_5 rx a1 s) (GLp Ok (V_M_readAnd_5 a1) (GEp Ok (E_M_readAnd_5 a1))) := by
  unfold B_M_readAnd_5
  have hC := hD.1
  have hC2 := hD.2
  show SimK Ok (5, [(0, vR 0), (1, vI a1)], [], s) _ _
  refine sim_blk0 hC [(.aload_n 0, 0, 0, 0, 0)] [(0, vR 0), (1, vI a1)] [vR 0] s 6 (by decide +kernel) rfl rfl ?_
  refine sim_ldsw hC2 269 16 "and" (by decide +kernel) (by decide) ?_
  refine sim_vp hC 222 mX11_is 5 103 0 [vS 16] [] (by decide +kernel) ml_10_222 rfl rfl rfl rfl (ble_of (by omega)) (ble_of (by show 8 + (4 + 11) + _ ≤ _; omega)) (fun rz hz => c_M_is s 16 rz hz) (fun i2 => ?_)
  refine sim_br hC (.ifCond .eq 21) 33 (by decide +kernel) rfl (by decide) ?_ ?_
  · refine sim_sub hC [] ?_
    exact sim_exit (E := (E_M_readAnd_5 a1)) s
  · refine sim_blk0 hC [(.aload_n 0, 0, 0, 0, 0)] [(0, vR 0), (1, vI a1)] [vR 0] s 16 (by decide +kernel) rfl rfl ?_
    refine sim_vv hC 233 mX11_stepOn 2 21 0 [] [] (by decide +kernel) ml_10_233 rfl rfl rfl rfl (ble_of (by omega)) (ble_of (by show 8 + (2 + 11) + _ ≤ _; omega)) (fun wz hz => c_M_stepOn s wz hz) (fun w3 => ?_)
    refine sim_blk0 hC [(.aload_n 0, 0, 0, 0, 0), (.iload_n 1, 0, 0, 0, 0)] [(0, vR 0), (1, vI a1)] [vI a1, vR 0] w3 21 (by decide +kernel) rfl rfl ?_
    refine sim_vv hC 266 mX11_readNot (40 + 6 * d + 4) (600 + 132 * d + 88) 0 [vI a1] [] (by decide +kernel) ml_10_266 rfl rfl rfl rfl (ble_of (by omega)) (ble_of (by show 8 + (4 + 11) + _ ≤ _; omega)) (fun wz hz => c_M_readNot hrx w3 a1 wz hz) (fun w4 => ?_)
    refine sim_blk0 hC [(.aload_n 0, 0, 0, 0, 0), (.bipush (-26), 0, 0, 0, (-26))] [(0, vR 0), (1, vI a1)] [vI (-26), vR 0] w4 27 (by decide +kernel) rfl rfl ?_
    refine sim_vv hC 242 mX11_lay 1 0 0 [vI (-26)] [] (by decide +kernel) ml_10_242 rfl rfl rfl rfl (ble_of (by omega)) (ble_of (by show 8 + (2 + 11) + _ ≤ _; omega)) (fun wz hz => c_M_lay w4 (-26) wz hz) (fun w5 => ?_)
    refine sim_goto hC (-25) 5 (by decide +kernel) (by decide) ?_
    exact sim_back (V := (V_M_readAnd_5 a1)) w5
noncomputable def F_M_readAnd (rx : Wld → Int32 → Option (Wld)) (w : Wld) (a1 : Int32) : Option (Wld) :=
  bv (F_M_readNot rx w a1) (fun w1 => bl (loop (B_M_readAnd_5 rx a1) w1) (fun r6 => some r6))
set_option maxRecDepth 10000 in
theorem s_M_readAnd {Z : ZT} {l : Launch} {o : Oc} {wo : Wld} {Ok : Cfg → Prop} {rx : Wld → Int32 → Option (Wld)} {d : Nat} (hD : Clo3 Z l 10 2 prog_13_method_28_code none (40 + 6 * d + 5) (600 + 132 * d + 111) o wo Ok) (hrx : ∀ (w : Wld) (a : Int32) (w1 : Wld), rx w a = some w1 → Con Z l mX11_readExpression (40 + 6 * d) (600 + 132 * d) [vR 0, vI a] w (.inr none) w1) (w : Wld) (a1 : Int32) : SimK Ok (0, [(0, vR 0), (1, vI a1)], [], w) (F_M_readAnd rx w a1) (Gv o wo) := by
  unfold F_M_readAnd
  have hC := hD.1
  have hC2 := hD.2
  refine sim_blk0 hC [(.aload_n 0, 0, 0, 0, 0), (.iload_n 1, 0, 0, 0, 0)] [(0, vR 0), (1, vI a1)] [vI a1, vR 0] w 2 (by decide +kernel) rfl rfl ?_
  refine sim_vv hC 266 mX11_readNot (40 + 6 * d + 4) (600 + 132 * d + 88) 0 [vI a1] [] (by decide +kernel) ml_10_266 rfl rfl rfl rfl (ble_of (by omega)) (ble_of (by show 8 + (4 + 11) + _ ≤ _; omega)) (fun wz hz => c_M_readNot hrx w a1 wz hz) (fun w1 => ?_)
  refine sim_bl (E := (E_M_readAnd_5 a1)) ?_ (fun r6 => ?_)
  · exact sim_loop (V := (V_M_readAnd_5 a1)) (fun sz => s_B_M_readAnd_5 hD hrx a1 sz) w1
  · show SimK Ok (33, [], [], r6) _ _
    exact sim_retv hC (by decide +kernel)
theorem c_M_readAnd {Z : ZT} {l : Launch} {rx : Wld → Int32 → Option (Wld)} {d : Nat} (hrx : ∀ (w : Wld) (a : Int32) (w1 : Wld), rx w a = some w1 → Con Z l mX11_readExpression (40 + 6 * d) (600 + 132 * d) [vR 0, vI a] w (.inr none) w1) (w : Wld) (a1 : Int32) (w1 : Wld) (h : F_M_readAnd rx w a1 = some w1) : Con Z l mX11_readAnd (40 + 6 * d + 5) (600 + 132 * d + 111) [vR 0, vI a1] w (.inr none) w1 :=
  Con_of3 (oc := 10) (by decide +kernel) rfl rfl (fun Ok hC => s_M_readAnd hC hrx w a1 w1 h ⟨rfl, rfl⟩)
def V_M_readExpression_67 (a1 : Int32) : (Wld) → Cfg := fun s => (67, [(0, vR 0), (1, vI a1)], [], s)
def E_M_readExpression_67 (a1 : Int32) : (Wld) → Cfg := fun s => (95, [], [], s)
noncomputable def B_M_readExpression_67 (rx : Wld → Int32 → Option (Wld)) (a1 : Int32) (s : Wld) : Option ((Wld) ⊕ (Wld)) :=
  bp (F_M_is s 17) (fun i2 => br (i2 = 0) (some (.inr s)) (bv (F_M_stepOn s) (fun w3 => bv (F_M_readAnd rx w3 a1) (fun w4 => bv (F_M_lay w4 (-27)) (fun w5 => some (.inl w5))))))
set_option maxRecDepth 10000 in
theorem s_B_M_readExpression_67 {Z : ZT} {l : Launch} {o : Oc} {wo : Wld} {Ok : Cfg → Prop} {rx : Wld → Int32 → Option (Wld)} {d : Nat} (hD : Clo3 Z l 10 3 prog_13_method_29_code none (40 + 6 * d + 6) (600 + 132 * d + 132) o wo Ok) (hrx : ∀ (w : Wld) (a : Int32) (w1 : Wld), rx w a = some w1 → Con Z l mX11_readExpression (40 + 6 * d) (600 + 132 * d) [vR 0, vI a] w (.inr none) w1) (a1 : Int32) (s : Wld) : SimK Ok (V_M_readExpression_67 a1 s) (B_M_readExpression_67 rx a1 s) (GLp Ok (V_M_readExpression_67 a1) (GEp Ok (E_M_readExpression_67 a1))) := by
  unfold B_M_readExpression_67
  have hC := hD.1
  have hC2 := hD.2
  show SimK Ok (67, [(0, vR 0), (1, vI a1)], [], s) _ _
  refine sim_blk0 hC [(.aload_n 0, 0, 0, 0, 0)] [(0, vR 0), (1, vI a1)] [vR 0] s 68 (by decide +kernel) rfl rfl ?_
  refine sim_ldsw hC2 274 17 "or" (by decide +kernel) (by decide) ?_
  refine sim_vp hC 222 mX11_is 5 103 0 [vS 17] [] (by decide +kernel) ml_10_222 rfl rfl rfl rfl (ble_of (by omega)) (ble_of (by show 8 + (4 + 11) + _ ≤ _; omega)) (fun rz hz => c_M_is s 17 rz hz) (fun i2 => ?_)
  refine sim_br hC (.ifCond .eq 21) 95 (by decide +kernel) rfl (by decide) ?_ ?_
  · refine sim_sub hC [] ?_
    exact sim_exit (E := (E_M_readExpression_67 a1)) s
  · refine sim_blk0 hC [(.aload_n 0, 0, 0, 0, 0)] [(0, vR 0), (1, vI a1)] [vR 0] s 78 (by decide +kernel) rfl rfl ?_
    refine sim_vv hC 233 mX11_stepOn 2 21 0 [] [] (by decide +kernel) ml_10_233 rfl rfl rfl rfl (ble_of (by omega)) (ble_of (by show 8 + (2 + 11) + _ ≤ _; omega)) (fun wz hz => c_M_stepOn s wz hz) (fun w3 => ?_)
    refine sim_blk0 hC [(.aload_n 0, 0, 0, 0, 0), (.iload_n 1, 0, 0, 0, 0)] [(0, vR 0), (1, vI a1)] [vI a1, vR 0] w3 83 (by decide +kernel) rfl rfl ?_
    refine sim_vv hC 271 mX11_readAnd (40 + 6 * d + 5) (600 + 132 * d + 111) 0 [vI a1] [] (by decide +kernel) ml_10_271 rfl rfl rfl rfl (ble_of (by omega)) (ble_of (by show 8 + (2 + 11) + _ ≤ _; omega)) (fun wz hz => c_M_readAnd hrx w3 a1 wz hz) (fun w4 => ?_)
    refine sim_blk0 hC [(.aload_n 0, 0, 0, 0, 0), (.bipush (-27), 0, 0, 0, (-27))] [(0, vR 0), (1, vI a1)] [vI (-27), vR 0] w4 89 (by decide +kernel) rfl rfl ?_
    refine sim_vv hC 242 mX11_lay 1 0 0 [vI (-27)] [] (by decide +kernel) ml_10_242 rfl rfl rfl rfl (ble_of (by omega)) (ble_of (by show 8 + (2 + 11) + _ ≤ _; omega)) (fun wz hz => c_M_lay w4 (-27) wz hz) (fun w5 => ?_)
    refine sim_goto hC (-25) 67 (by decide +kernel) (by decide) ?_
    exact sim_back (V := (V_M_readExpression_67 a1)) w5
noncomputable def K_M_readExpression_62 (rx : Wld → Int32 → Option (Wld)) (a1 : Int32) (w : Wld) : Option (Wld) :=
  bv (F_M_readAnd rx w a1) (fun w1 => bl (loop (B_M_readExpression_67 rx a1) w1) (fun r6 => some r6))
set_option maxRecDepth 10000 in
theorem s_K_M_readExpression_62 {Z : ZT} {l : Launch} {o : Oc} {wo : Wld} {Ok : Cfg → Prop} {rx : Wld → Int32 → Option (Wld)} {d : Nat} (hD : Clo3 Z l 10 3 prog_13_method_29_code none (40 + 6 * d + 6) (600 + 132 * d + 132) o wo Ok) (hrx : ∀ (w : Wld) (a : Int32) (w1 : Wld), rx w a = some w1 → Con Z l mX11_readExpression (40 + 6 * d) (600 + 132 * d) [vR 0, vI a] w (.inr none) w1) (a1 : Int32) (w : Wld) : SimK Ok (62, [(0, vR 0), (1, vI a1)], [], w) (K_M_readExpression_62 rx a1 w) (Gv o wo) := by
  unfold K_M_readExpression_62
  have hC := hD.1
  have hC2 := hD.2
  refine sim_blk0 hC [(.aload_n 0, 0, 0, 0, 0), (.iload_n 1, 0, 0, 0, 0)] [(0, vR 0), (1, vI a1)] [vI a1, vR 0] w 64 (by decide +kernel) rfl rfl ?_
  refine sim_vv hC 271 mX11_readAnd (40 + 6 * d + 5) (600 + 132 * d + 111) 0 [vI a1] [] (by decide +kernel) ml_10_271 rfl rfl rfl rfl (ble_of (by omega)) (ble_of (by show 8 + (2 + 11) + _ ≤ _; omega)) (fun wz hz => c_M_readAnd hrx w a1 wz hz) (fun w1 => ?_)
  refine sim_bl (E := (E_M_readExpression_67 a1)) ?_ (fun r6 => ?_)
  · exact sim_loop (V := (V_M_readExpression_67 a1)) (fun sz => s_B_M_readExpression_67 hD hrx a1 sz) w1
  · show SimK Ok (95, [], [], r6) _ _
    exact sim_retv hC (by decide +kernel)
noncomputable def K_M_readExpression_38 (rx : Wld → Int32 → Option (Wld)) (a1 : Int32) (t0 : Int32) (w : Wld) : Option (Wld) :=
  br (¬ t0 = 0) (br (¬ a1 = 6) (K_M_readExpression_62 rx a1 w) (bv (F_M_wrong w 2) (fun w7 => K_M_readExpression_62 rx a1 w7))) (bv (F_M_wrong w 1) (fun w8 => K_M_readExpression_62 rx a1 w8))
set_option maxRecDepth 10000 in
theorem s_K_M_readExpression_38 {Z : ZT} {l : Launch} {o : Oc} {wo : Wld} {Ok : Cfg → Prop} {rx : Wld → Int32 → Option (Wld)} {d : Nat} (hD : Clo3 Z l 10 3 prog_13_method_29_code none (40 + 6 * d + 6) (600 + 132 * d + 132) o wo Ok) (hrx : ∀ (w : Wld) (a : Int32) (w1 : Wld), rx w a = some w1 → Con Z l mX11_readExpression (40 + 6 * d) (600 + 132 * d) [vR 0, vI a] w (.inr none) w1) (a1 : Int32) (t0 : Int32) (w : Wld) : SimK Ok (38, [(0, vR 0), (1, vI a1)], [vI t0], w) (K_M_readExpression_38 rx a1 t0 w) (Gv o wo) := by
  unfold K_M_readExpression_38
  have hC := hD.1
  have hC2 := hD.2
  refine sim_blk0 hC [(.istore_n 2, 0, 0, 0, 0), (.iload_n 2, 0, 0, 0, 0)] [(0, vR 0), (1, vI a1), (2, vI t0)] [vI t0] w 40 (by decide +kernel) rfl rfl ?_
  refine sim_br hC (.ifCond .ne 11) 51 (by decide +kernel) rfl (by decide) ?_ ?_
  · refine sim_blk0 hC [(.iload_n 1, 0, 0, 0, 0), (.bipush 6, 0, 0, 0, 6)] [(0, vR 0), (1, vI a1), (2, vI t0)] [vI 6, vI a1] w 54 (by decide +kernel) rfl rfl ?_
    refine sim_br hC (.if_icmp .ne 8) 62 (by decide +kernel) rfl (by decide) ?_ ?_
    · refine sim_sub hC [0, 1] ?_
      exact s_K_M_readExpression_62 hD hrx a1 w
    · refine sim_blk0 hC [(.aload_n 0, 0, 0, 0, 0), (.iconst 2, 0, 0, 0, 2)] [(0, vR 0), (1, vI a1), (2, vI t0)] [vI 2, vR 0] w 59 (by decide +kernel) rfl rfl ?_
      refine sim_vv hC 229 mX11_wrong 1 0 0 [vI 2] [] (by decide +kernel) ml_10_229 rfl rfl rfl rfl (ble_of (by omega)) (ble_of (by show 8 + (2 + 11) + _ ≤ _; omega)) (fun wz hz => c_M_wrong w 2 wz hz) (fun w7 => ?_)
      refine sim_sub hC [0, 1] ?_
      exact s_K_M_readExpression_62 hD hrx a1 w7
  · refine sim_blk0 hC [(.aload_n 0, 0, 0, 0, 0), (.iconst 1, 0, 0, 0, 1)] [(0, vR 0), (1, vI a1), (2, vI t0)] [vI 1, vR 0] w 45 (by decide +kernel) rfl rfl ?_
    refine sim_vv hC 229 mX11_wrong 1 0 0 [vI 1] [] (by decide +kernel) ml_10_229 rfl rfl rfl rfl (ble_of (by omega)) (ble_of (by show 8 + (2 + 11) + _ ≤ _; omega)) (fun wz hz => c_M_wrong w 1 wz hz) (fun w8 => ?_)
    refine sim_goto hC 14 62 (by decide +kernel) (by decide) ?_
    refine sim_sub hC [0, 1] ?_
    exact s_K_M_readExpression_62 hD hrx a1 w8
noncomputable def K_M_readExpression_33 (rx : Wld → Int32 → Option (Wld)) (a1 : Int32) (w : Wld) : Option (Wld) :=
  K_M_readExpression_38 rx a1 1 w
set_option maxRecDepth 10000 in
theorem s_K_M_readExpression_33 {Z : ZT} {l : Launch} {o : Oc} {wo : Wld} {Ok : Cfg → Prop} {rx : Wld → Int32 → Option (Wld)} {d : Nat} (hD : Clo3 Z l 10 3 prog_13_method_29_code none (40 + 6 * d + 6) (600 + 132 * d + 132) o wo Ok) (hrx : ∀ (w : Wld) (a : Int32) (w1 : Wld), rx w a = some w1 → Con Z l mX11_readExpression (40 + 6 * d) (600 + 132 * d) [vR 0, vI a] w (.inr none) w1) (a1 : Int32) (w : Wld) : SimK Ok (33, [(0, vR 0), (1, vI a1)], [], w) (K_M_readExpression_33 rx a1 w) (Gv o wo) := by
  unfold K_M_readExpression_33
  have hC := hD.1
  have hC2 := hD.2
  refine sim_blk0 hC [(.iconst 1, 0, 0, 0, 1)] [(0, vR 0), (1, vI a1)] [vI 1] w 34 (by decide +kernel) rfl rfl ?_
  refine sim_goto hC 4 38 (by decide +kernel) (by decide) ?_
  exact s_K_M_readExpression_38 hD hrx a1 1 w
noncomputable def F_M_readExpression (rx : Wld → Int32 → Option (Wld)) (w : Wld) (a1 : Int32) : Option (Wld) :=
  br ((w 0 21) = 0) (br ((w 0 17) = 2) (K_M_readExpression_33 rx a1 w) (br ((w 0 17) = 1) (K_M_readExpression_33 rx a1 w) (bp (F_M_isMarked w 40) (fun i9 => br (i9 = 0) (K_M_readExpression_38 rx a1 0 w) (K_M_readExpression_33 rx a1 w))))) (some w)
set_option maxRecDepth 10000 in
theorem s_M_readExpression {Z : ZT} {l : Launch} {o : Oc} {wo : Wld} {Ok : Cfg → Prop} {rx : Wld → Int32 → Option (Wld)} {d : Nat} (hD : Clo3 Z l 10 3 prog_13_method_29_code none (40 + 6 * d + 6) (600 + 132 * d + 132) o wo Ok) (hrx : ∀ (w : Wld) (a : Int32) (w1 : Wld), rx w a = some w1 → Con Z l mX11_readExpression (40 + 6 * d) (600 + 132 * d) [vR 0, vI a] w (.inr none) w1) (w : Wld) (a1 : Int32) : SimK Ok (0, [(0, vR 0), (1, vI a1)], [], w) (F_M_readExpression rx w a1) (Gv o wo) := by
  unfold F_M_readExpression
  have hC := hD.1
  have hC2 := hD.2
  refine sim_blk0 hC [(.aload_n 0, 0, 0, 0, 0), (.getfield 208, 0, 21, 0, 0)] [(0, vR 0), (1, vI a1)] [vI (w 0 21)] w 4 (by decide +kernel) rfl rfl ?_
  refine sim_br hC (.ifCond .eq 4) 8 (by decide +kernel) rfl (by decide) ?_ ?_
  · refine sim_blk0 hC [(.aload_n 0, 0, 0, 0, 0), (.getfield 182, 0, 17, 0, 0), (.iconst 2, 0, 0, 0, 2)] [(0, vR 0), (1, vI a1)] [vI 2, vI (w 0 17)] w 13 (by decide +kernel) rfl rfl ?_
    refine sim_br hC (.if_icmp .eq 20) 33 (by decide +kernel) rfl (by decide) ?_ ?_
    · exact s_K_M_readExpression_33 hD hrx a1 w
    · refine sim_blk0 hC [(.aload_n 0, 0, 0, 0, 0), (.getfield 182, 0, 17, 0, 0), (.iconst 1, 0, 0, 0, 1)] [(0, vR 0), (1, vI a1)] [vI 1, vI (w 0 17)] w 21 (by decide +kernel) rfl rfl ?_
      refine sim_br hC (.if_icmp .eq 12) 33 (by decide +kernel) rfl (by decide) ?_ ?_
      · exact s_K_M_readExpression_33 hD hrx a1 w
      · refine sim_blk0 hC [(.aload_n 0, 0, 0, 0, 0), (.bipush 40, 0, 0, 0, 40)] [(0, vR 0), (1, vI a1)] [vI 40, vR 0] w 27 (by decide +kernel) rfl rfl ?_
        refine sim_vp hC 226 mX11_isMarked 1 0 0 [vI 40] [] (by decide +kernel) ml_10_226 rfl rfl rfl rfl (ble_of (by omega)) (ble_of (by show 8 + (2 + 11) + _ ≤ _; omega)) (fun rz hz => c_M_isMarked w 40 rz hz) (fun i9 => ?_)
        refine sim_br hC (.ifCond .eq 7) 37 (by decide +kernel) rfl (by decide) ?_ ?_
        · refine sim_blk0 hC [(.iconst 0, 0, 0, 0, 0)] [(0, vR 0), (1, vI a1)] [vI 0] w 38 (by decide +kernel) rfl rfl ?_
          exact s_K_M_readExpression_38 hD hrx a1 0 w
        · exact s_K_M_readExpression_33 hD hrx a1 w
  · exact sim_retv hC (by decide +kernel)
theorem c_M_readExpression {Z : ZT} {l : Launch} {rx : Wld → Int32 → Option (Wld)} {d : Nat} (hrx : ∀ (w : Wld) (a : Int32) (w1 : Wld), rx w a = some w1 → Con Z l mX11_readExpression (40 + 6 * d) (600 + 132 * d) [vR 0, vI a] w (.inr none) w1) (w : Wld) (a1 : Int32) (w1 : Wld) (h : F_M_readExpression rx w a1 = some w1) : Con Z l mX11_readExpression (40 + 6 * d + 6) (600 + 132 * d + 132) [vR 0, vI a1] w (.inr none) w1 :=
  Con_of3 (oc := 10) (by decide +kernel) rfl rfl (fun Ok hC => s_M_readExpression hC hrx w a1 w1 h ⟨rfl, rfl⟩)
noncomputable def X_M_readExpression : Nat → Wld → Int32 → Option (Wld)
  | 0 => fun _ _ => none
  | d + 1 => fun w a => F_M_readExpression (X_M_readExpression d) w a
theorem cX_M_readExpression {Z : ZT} {l : Launch} : ∀ (d : Nat) (w : Wld) (a : Int32) (w1 : Wld), X_M_readExpression d w a = some w1 → Con Z l mX11_readExpression (40 + 6 * d) (600 + 132 * d) [vR 0, vI a] w (.inr none) w1 := by
  intro d
  induction d with
  | zero => intro w a w1 h; exact nomatch h
  | succ d ih =>
    intro w a w1 h
    have h9 := c_M_readExpression (Z := Z) (l := l) (rx := X_M_readExpression d) (d := d) ih w a w1 h
    rw [Nat.mul_succ, Nat.mul_succ, ← Nat.add_assoc, ← Nat.add_assoc]
    exact h9

noncomputable def K_M_another_17 (w : Wld) : Option (Int32 × Wld) :=
  br ((w 0 21) = 0) (bv (F_M_stepOn w) (fun w1 => some ((1, w1)))) (some ((0, w)))
set_option maxRecDepth 10000 in
theorem s_K_M_another_17 {Z : ZT} {l : Launch} {o : Oc} {wo : Wld} {Ok : Cfg → Prop} (hC : Clo Z l 10 3 prog_13_method_30_code (some .boolean) 3 42 o wo Ok) (w : Wld) : SimK Ok (17, [(0, vR 0)], [], w) (K_M_another_17 w) (Gi o wo) := by
  unfold K_M_another_17
  refine sim_blk0 hC [(.aload_n 0, 0, 0, 0, 0), (.getfield 208, 0, 21, 0, 0)] [(0, vR 0)] [vI (w 0 21)] w 21 (by decide +kernel) rfl rfl ?_
  refine sim_br hC (.ifCond .eq 5) 26 (by decide +kernel) rfl (by decide) ?_ ?_
  · refine sim_blk0 hC [(.aload_n 0, 0, 0, 0, 0)] [(0, vR 0)] [vR 0] w 27 (by decide +kernel) rfl rfl ?_
    refine sim_vv hC 233 mX11_stepOn 2 21 0 [] [] (by decide +kernel) ml_10_233 rfl rfl rfl rfl rfl rfl (fun wz hz => c_M_stepOn w wz hz) (fun w1 => ?_)
    refine sim_blk0 hC [(.iconst 1, 0, 0, 0, 1)] [(0, vR 0)] [vI 1] w1 31 (by decide +kernel) rfl rfl ?_
    exact sim_reti hC (by decide +kernel) (Or.inr rfl)
  · refine sim_blk0 hC [(.iconst 0, 0, 0, 0, 0)] [(0, vR 0)] [vI 0] w 25 (by decide +kernel) rfl rfl ?_
    exact sim_reti hC (by decide +kernel) (Or.inl rfl)
noncomputable def F_M_another (w : Wld) (a1 : Int32) (a2 : Int32) : Option (Int32 × Wld) :=
  gd (vp_in ((5 : Int32) + a1) 10) (br (¬ (w 3 (Int32.toNatClampNeg ((5 : Int32) + a1))) = a2) (K_M_another_17 w) (bv (F_M_wrong w 2) (fun w2 => K_M_another_17 w2)))
set_option maxRecDepth 10000 in
theorem s_M_another {Z : ZT} {l : Launch} {o : Oc} {wo : Wld} {Ok : Cfg → Prop} (hC : Clo Z l 10 3 prog_13_method_30_code (some .boolean) 3 42 o wo Ok) (w : Wld) (a1 : Int32) (a2 : Int32) : SimK Ok (0, [(0, vR 0), (1, vI a1), (2, vI a2)], [], w) (F_M_another w a1 a2) (Gi o wo) := by
  unfold F_M_another
  refine sim_blk1 hC [(.aload_n 0, 0, 0, 0, 0), (.getfield 42, 0, 3, 5, 0), (.iconst 5, 0, 0, 0, 5), (.iload_n 1, 0, 0, 0, 0), (.iadd, 0, 0, 0, 0), (.iaload, 3, 10, 0, 0), (.iload_n 2, 0, 0, 0, 0)] [(0, vR 0), (1, vI a1), (2, vI a2)] [vI a2, vI (w 3 (Int32.toNatClampNeg ((5 : Int32) + a1)))] w 9 (by decide +kernel) rfl rfl ?_
  refine sim_br hC (.if_icmp .ne 8) 17 (by decide +kernel) rfl (by decide) ?_ ?_
  · refine sim_sub hC [0] ?_
    exact s_K_M_another_17 hC w
  · refine sim_blk0 hC [(.aload_n 0, 0, 0, 0, 0), (.iconst 2, 0, 0, 0, 2)] [(0, vR 0), (1, vI a1), (2, vI a2)] [vI 2, vR 0] w 14 (by decide +kernel) rfl rfl ?_
    refine sim_vv hC 229 mX11_wrong 1 0 0 [vI 2] [] (by decide +kernel) ml_10_229 rfl rfl rfl rfl rfl rfl (fun wz hz => c_M_wrong w 2 wz hz) (fun w2 => ?_)
    refine sim_sub hC [0] ?_
    exact s_K_M_another_17 hC w2
theorem c_M_another {Z : ZT} {l : Launch} (w : Wld) (a1 : Int32) (a2 : Int32) (r : Int32) (w1 : Wld) (h : F_M_another w a1 a2 = some (r, w1)) : Con Z l mX11_another 3 42 [vR 0, vI a1, vI a2] w (.inr (some r)) w1 :=
  Con_of (oc := 10) (by decide +kernel) rfl rfl (fun Ok hC => s_M_another hC w a1 a2 (r, w1) h ⟨rfl, rfl⟩)
noncomputable def K_M_sayMonk_97 (a2 : Int32) (a3 : Int32) (w : Wld) : Option (Wld) :=
  gd (vp_in a2 16) (bw (wup w 10 (Int32.toNatClampNeg a2) a3) (fun w13 => gd (vp_in 6 10) (gd (vp_in 6 10) (bw (wup w13 3 (Int32.toNatClampNeg 6) ((w13 3 (Int32.toNatClampNeg 6)) + (1 : Int32))) (fun w14 => some w14)))))
set_option maxRecDepth 10000 in
theorem s_K_M_sayMonk_97 {Z : ZT} {l : Launch} {o : Oc} {wo : Wld} {Ok : Cfg → Prop} (hC : Clo Z l 10 4 prog_13_method_32_code none 4 66 o wo Ok) (a2 : Int32) (a3 : Int32) (w : Wld) : SimK Ok (97, [(0, vR 0), (2, vI a2), (3, vI a3)], [], w) (K_M_sayMonk_97 a2 a3 w) (Gv o wo) := by
  unfold K_M_sayMonk_97
  refine sim_blk1 hC [(.aload_n 0, 0, 0, 0, 0), (.getfield 62, 0, 10, 12, 0), (.iload_n 2, 0, 0, 0, 0), (.iload_n 3, 0, 0, 0, 0), (.iastore, 10, 16, 0, 0)] [(0, vR 0), (2, vI a2), (3, vI a3)] [] (wup w 10 (Int32.toNatClampNeg a2) a3) 104 (by decide +kernel) rfl rfl ?_
  refine sim_bw (C := fun w13 => (104, [(0, vR 0), (2, vI a2), (3, vI a3)], [], w13)) (fun w13 => ?_)
  refine sim_blk2 hC [(.aload_n 0, 0, 0, 0, 0), (.getfield 42, 0, 3, 5, 0), (.bipush 6, 0, 0, 0, 6), (.dup2, 0, 0, 0, 0), (.iaload, 3, 10, 0, 0), (.iconst 1, 0, 0, 0, 1), (.iadd, 0, 0, 0, 0), (.iastore, 3, 10, 0, 0)] [(0, vR 0), (2, vI a2), (3, vI a3)] [] (wup w13 3 (Int32.toNatClampNeg 6) ((w13 3 (Int32.toNatClampNeg 6)) + (1 : Int32))) 115 (by decide +kernel) rfl rfl ?_
  refine sim_bw (C := fun w14 => (115, [(0, vR 0), (2, vI a2), (3, vI a3)], [], w14)) (fun w14 => ?_)
  exact sim_retv hC (by decide +kernel)
noncomputable def K_M_sayMonk_86 (a2 : Int32) (a3 : Int32) (w : Wld) : Option (Wld) :=
  br (¬ (w 0 21) = 0) (K_M_sayMonk_97 a2 a3 w) (bv (F_M_stepOn w) (fun w15 => K_M_sayMonk_97 a2 a3 w15))
set_option maxRecDepth 10000 in
theorem s_K_M_sayMonk_86 {Z : ZT} {l : Launch} {o : Oc} {wo : Wld} {Ok : Cfg → Prop} (hC : Clo Z l 10 4 prog_13_method_32_code none 4 66 o wo Ok) (a2 : Int32) (a3 : Int32) (w : Wld) : SimK Ok (86, [(0, vR 0), (2, vI a2), (3, vI a3)], [], w) (K_M_sayMonk_86 a2 a3 w) (Gv o wo) := by
  unfold K_M_sayMonk_86
  refine sim_blk0 hC [(.aload_n 0, 0, 0, 0, 0), (.getfield 208, 0, 21, 0, 0)] [(0, vR 0), (2, vI a2), (3, vI a3)] [vI (w 0 21)] w 90 (by decide +kernel) rfl rfl ?_
  refine sim_br hC (.ifCond .ne 7) 97 (by decide +kernel) rfl (by decide) ?_ ?_
  · exact s_K_M_sayMonk_97 hC a2 a3 w
  · refine sim_blk0 hC [(.aload_n 0, 0, 0, 0, 0)] [(0, vR 0), (2, vI a2), (3, vI a3)] [vR 0] w 94 (by decide +kernel) rfl rfl ?_
    refine sim_vv hC 233 mX11_stepOn 2 21 0 [] [] (by decide +kernel) ml_10_233 rfl rfl rfl rfl rfl rfl (fun wz hz => c_M_stepOn w wz hz) (fun w15 => ?_)
    exact s_K_M_sayMonk_97 hC a2 a3 w15
noncomputable def F_M_sayMonk (w : Wld) (a1 : Int32) : Option (Wld) :=
  bd (F_M_another w 1 8) (fun i1 w2 => br (¬ i1 = 0) (gd (vp_in 6 10) (bi ((8 : Int32) + (w2 3 (Int32.toNatClampNeg 6))) (fun i3 => gd (vp_in i3 16) (bw (wup w2 7 (Int32.toNatClampNeg i3) a1) (fun w4 => bd (F_M_readNumber w4 0 99) (fun i5 w6 => gd (vp_in i3 16) (bw (wup w6 8 (Int32.toNatClampNeg i3) i5) (fun w7 => bd (F_M_readNumber w7 0 9) (fun i8 w9 => gd (vp_in i3 16) (bw (wup w9 9 (Int32.toNatClampNeg i3) i8) (fun w10 => bd (F_M_numberNow w10 0 9999) (fun i11 w12 => br (¬ (w12 0 21) = 0) (K_M_sayMonk_86 i3 i11 w12) (gd (vp_in 5 10) (br (i11 < (w12 3 (Int32.toNatClampNeg 5))) (K_M_sayMonk_86 i3 i11 w12) (bv (F_M_wrong w12 3) (fun w16 => K_M_sayMonk_86 i3 i11 w16)))))))))))))))) (some w2))
set_option maxRecDepth 10000 in
theorem s_M_sayMonk {Z : ZT} {l : Launch} {o : Oc} {wo : Wld} {Ok : Cfg → Prop} (hC : Clo Z l 10 4 prog_13_method_32_code none 4 66 o wo Ok) (w : Wld) (a1 : Int32) : SimK Ok (0, [(0, vR 0), (1, vI a1)], [], w) (F_M_sayMonk w a1) (Gv o wo) := by
  unfold F_M_sayMonk
  refine sim_blk0 hC [(.aload_n 0, 0, 0, 0, 0), (.iconst 1, 0, 0, 0, 1), (.bipush 8, 0, 0, 0, 8)] [(0, vR 0), (1, vI a1)] [vI 8, vI 1, vR 0] w 4 (by decide +kernel) rfl rfl ?_
  refine sim_vd hC 276 mX11_another 3 42 0 [vI 1, vI 8] [] (by decide +kernel) ml_10_276 rfl rfl rfl rfl rfl rfl (fun rz wz hz => c_M_another w 1 8 rz wz hz) (fun i1 w2 => ?_)
  refine sim_br hC (.ifCond .ne 4) 11 (by decide +kernel) rfl (by decide) ?_ ?_
  · refine sim_blk1 hC [(.bipush 8, 0, 0, 0, 8), (.aload_n 0, 0, 0, 0, 0), (.getfield 42, 0, 3, 5, 0), (.bipush 6, 0, 0, 0, 6), (.iaload, 3, 10, 0, 0), (.iadd, 0, 0, 0, 0), (.istore_n 2, 0, 0, 0, 0)] [(0, vR 0), (1, vI a1), (2, vI ((8 : Int32) + (w2 3 (Int32.toNatClampNeg 6))))] [] w2 22 (by decide +kernel) rfl rfl ?_
    refine sim_bi (C := fun i3 => (22, [(0, vR 0), (1, vI a1), (2, vI i3)], [], w2)) (fun i3 => ?_)
    refine sim_blk1 hC [(.aload_n 0, 0, 0, 0, 0), (.getfield 54, 0, 7, 9, 0), (.iload_n 2, 0, 0, 0, 0), (.iload_n 1, 0, 0, 0, 0), (.iastore, 7, 16, 0, 0)] [(0, vR 0), (1, vI a1), (2, vI i3)] [] (wup w2 7 (Int32.toNatClampNeg i3) a1) 29 (by decide +kernel) rfl rfl ?_
    refine sim_bw (C := fun w4 => (29, [(0, vR 0), (1, vI a1), (2, vI i3)], [], w4)) (fun w4 => ?_)
    refine sim_blk0 hC [(.aload_n 0, 0, 0, 0, 0), (.getfield 56, 0, 8, 10, 0), (.iload_n 2, 0, 0, 0, 0), (.aload_n 0, 0, 0, 0, 0), (.iconst 0, 0, 0, 0, 0), (.bipush 99, 0, 0, 0, 99)] [(0, vR 0), (1, vI a1), (2, vI i3)] [vI 99, vI 0, vR 0, vI i3, vR 8] w4 38 (by decide +kernel) rfl rfl ?_
    refine sim_vd hC 239 mX11_readNumber 3 43 0 [vI 0, vI 99] [vI i3, vR 8] (by decide +kernel) ml_10_239 rfl rfl rfl rfl rfl rfl (fun rz wz hz => c_M_readNumber w4 0 99 rz wz hz) (fun i5 w6 => ?_)
    refine sim_blk1 hC [(.iastore, 8, 16, 0, 0)] [(0, vR 0), (1, vI a1), (2, vI i3)] [] (wup w6 8 (Int32.toNatClampNeg i3) i5) 42 (by decide +kernel) rfl rfl ?_
    refine sim_bw (C := fun w7 => (42, [(0, vR 0), (1, vI a1), (2, vI i3)], [], w7)) (fun w7 => ?_)
    refine sim_blk0 hC [(.aload_n 0, 0, 0, 0, 0), (.getfield 59, 0, 9, 11, 0), (.iload_n 2, 0, 0, 0, 0), (.aload_n 0, 0, 0, 0, 0), (.iconst 0, 0, 0, 0, 0), (.bipush 9, 0, 0, 0, 9)] [(0, vR 0), (1, vI a1), (2, vI i3)] [vI 9, vI 0, vR 0, vI i3, vR 9] w7 51 (by decide +kernel) rfl rfl ?_
    refine sim_vd hC 239 mX11_readNumber 3 43 0 [vI 0, vI 9] [vI i3, vR 9] (by decide +kernel) ml_10_239 rfl rfl rfl rfl rfl rfl (fun rz wz hz => c_M_readNumber w7 0 9 rz wz hz) (fun i8 w9 => ?_)
    refine sim_blk1 hC [(.iastore, 9, 16, 0, 0)] [(0, vR 0), (1, vI a1), (2, vI i3)] [] (wup w9 9 (Int32.toNatClampNeg i3) i8) 55 (by decide +kernel) rfl rfl ?_
    refine sim_bw (C := fun w10 => (55, [(0, vR 0), (1, vI a1), (2, vI i3)], [], w10)) (fun w10 => ?_)
    refine sim_blk0 hC [(.aload_n 0, 0, 0, 0, 0), (.iconst 0, 0, 0, 0, 0), (.sipush 9999, 0, 0, 0, 9999)] [(0, vR 0), (1, vI a1), (2, vI i3)] [vI 9999, vI 0, vR 0] w10 60 (by decide +kernel) rfl rfl ?_
    refine sim_vd hC 236 mX11_numberNow 2 21 0 [vI 0, vI 9999] [] (by decide +kernel) ml_10_236 rfl rfl rfl rfl rfl rfl (fun rz wz hz => c_M_numberNow w10 0 9999 rz wz hz) (fun i11 w12 => ?_)
    refine sim_blk0 hC [(.istore_n 3, 0, 0, 0, 0), (.aload_n 0, 0, 0, 0, 0), (.getfield 208, 0, 21, 0, 0)] [(0, vR 0), (1, vI a1), (2, vI i3), (3, vI i11)] [vI (w12 0 21)] w12 68 (by decide +kernel) rfl rfl ?_
    refine sim_br hC (.ifCond .ne 18) 86 (by decide +kernel) rfl (by decide) ?_ ?_
    · refine sim_sub hC [0, 2, 3] ?_
      exact s_K_M_sayMonk_86 hC i3 i11 w12
    · refine sim_blk1 hC [(.iload_n 3, 0, 0, 0, 0), (.aload_n 0, 0, 0, 0, 0), (.getfield 42, 0, 3, 5, 0), (.iconst 5, 0, 0, 0, 5), (.iaload, 3, 10, 0, 0)] [(0, vR 0), (1, vI a1), (2, vI i3), (3, vI i11)] [vI (w12 3 (Int32.toNatClampNeg 5)), vI i11] w12 78 (by decide +kernel) rfl rfl ?_
      refine sim_br hC (.if_icmp .lt 8) 86 (by decide +kernel) rfl (by decide) ?_ ?_
      · refine sim_sub hC [0, 2, 3] ?_
        exact s_K_M_sayMonk_86 hC i3 i11 w12
      · refine sim_blk0 hC [(.aload_n 0, 0, 0, 0, 0), (.iconst 3, 0, 0, 0, 3)] [(0, vR 0), (1, vI a1), (2, vI i3), (3, vI i11)] [vI 3, vR 0] w12 83 (by decide +kernel) rfl rfl ?_
        refine sim_vv hC 229 mX11_wrong 1 0 0 [vI 3] [] (by decide +kernel) ml_10_229 rfl rfl rfl rfl rfl rfl (fun wz hz => c_M_wrong w12 3 wz hz) (fun w16 => ?_)
        refine sim_sub hC [0, 2, 3] ?_
        exact s_K_M_sayMonk_86 hC i3 i11 w16
  · exact sim_retv hC (by decide +kernel)
theorem c_M_sayMonk {Z : ZT} {l : Launch} (w : Wld) (a1 : Int32) (w1 : Wld) (h : F_M_sayMonk w a1 = some w1) : Con Z l mX11_sayMonk 4 66 [vR 0, vI a1] w (.inr none) w1 :=
  Con_of (oc := 10) (by decide +kernel) rfl rfl (fun Ok hC => s_M_sayMonk hC w a1 w1 h ⟨rfl, rfl⟩)
noncomputable def F_M_sayRoom (w : Wld) : Option (Wld) :=
  bd (F_M_another w 0 9) (fun i1 w2 => br (¬ i1 = 0) (gd (vp_in 5 10) (bi ((9 : Int32) + (w2 3 (Int32.toNatClampNeg 5))) (fun i3 => bd (F_M_readNumber w2 0 99) (fun i4 w5 => gd (vp_in i3 18) (bw (wup w5 4 (Int32.toNatClampNeg i3) i4) (fun w6 => bd (F_M_readNumber w6 0 8) (fun i7 w8 => gd (vp_in i3 18) (bw (wup w8 5 (Int32.toNatClampNeg i3) i7) (fun w9 => bd (F_M_readNumber w9 0 8) (fun i10 w11 => gd (vp_in i3 18) (bw (wup w11 6 (Int32.toNatClampNeg i3) i10) (fun w12 => gd (vp_in 5 10) (gd (vp_in 5 10) (bw (wup w12 3 (Int32.toNatClampNeg 5) ((w12 3 (Int32.toNatClampNeg 5)) + (1 : Int32))) (fun w13 => some w13))))))))))))))) (some w2))
set_option maxRecDepth 10000 in
theorem s_M_sayRoom {Z : ZT} {l : Launch} {o : Oc} {wo : Wld} {Ok : Cfg → Prop} (hC : Clo Z l 10 2 prog_13_method_31_code none 4 66 o wo Ok) (w : Wld) : SimK Ok (0, [(0, vR 0)], [], w) (F_M_sayRoom w) (Gv o wo) := by
  unfold F_M_sayRoom
  refine sim_blk0 hC [(.aload_n 0, 0, 0, 0, 0), (.iconst 0, 0, 0, 0, 0), (.bipush 9, 0, 0, 0, 9)] [(0, vR 0)] [vI 9, vI 0, vR 0] w 4 (by decide +kernel) rfl rfl ?_
  refine sim_vd hC 276 mX11_another 3 42 0 [vI 0, vI 9] [] (by decide +kernel) ml_10_276 rfl rfl rfl rfl rfl rfl (fun rz wz hz => c_M_another w 0 9 rz wz hz) (fun i1 w2 => ?_)
  refine sim_br hC (.ifCond .ne 4) 11 (by decide +kernel) rfl (by decide) ?_ ?_
  · refine sim_blk1 hC [(.bipush 9, 0, 0, 0, 9), (.aload_n 0, 0, 0, 0, 0), (.getfield 42, 0, 3, 5, 0), (.iconst 5, 0, 0, 0, 5), (.iaload, 3, 10, 0, 0), (.iadd, 0, 0, 0, 0), (.istore_n 1, 0, 0, 0, 0)] [(0, vR 0), (1, vI ((9 : Int32) + (w2 3 (Int32.toNatClampNeg 5))))] [] w2 21 (by decide +kernel) rfl rfl ?_
    refine sim_bi (C := fun i3 => (21, [(0, vR 0), (1, vI i3)], [], w2)) (fun i3 => ?_)
    refine sim_blk0 hC [(.aload_n 0, 0, 0, 0, 0), (.getfield 46, 0, 4, 6, 0), (.iload_n 1, 0, 0, 0, 0), (.aload_n 0, 0, 0, 0, 0), (.iconst 0, 0, 0, 0, 0), (.bipush 99, 0, 0, 0, 99)] [(0, vR 0), (1, vI i3)] [vI 99, vI 0, vR 0, vI i3, vR 4] w2 30 (by decide +kernel) rfl rfl ?_
    refine sim_vd hC 239 mX11_readNumber 3 43 0 [vI 0, vI 99] [vI i3, vR 4] (by decide +kernel) ml_10_239 rfl rfl rfl rfl rfl rfl (fun rz wz hz => c_M_readNumber w2 0 99 rz wz hz) (fun i4 w5 => ?_)
    refine sim_blk1 hC [(.iastore, 4, 18, 0, 0)] [(0, vR 0), (1, vI i3)] [] (wup w5 4 (Int32.toNatClampNeg i3) i4) 34 (by decide +kernel) rfl rfl ?_
    refine sim_bw (C := fun w6 => (34, [(0, vR 0), (1, vI i3)], [], w6)) (fun w6 => ?_)
    refine sim_blk0 hC [(.aload_n 0, 0, 0, 0, 0), (.getfield 48, 0, 5, 7, 0), (.iload_n 1, 0, 0, 0, 0), (.aload_n 0, 0, 0, 0, 0), (.iconst 0, 0, 0, 0, 0), (.bipush 8, 0, 0, 0, 8)] [(0, vR 0), (1, vI i3)] [vI 8, vI 0, vR 0, vI i3, vR 5] w6 43 (by decide +kernel) rfl rfl ?_
    refine sim_vd hC 239 mX11_readNumber 3 43 0 [vI 0, vI 8] [vI i3, vR 5] (by decide +kernel) ml_10_239 rfl rfl rfl rfl rfl rfl (fun rz wz hz => c_M_readNumber w6 0 8 rz wz hz) (fun i7 w8 => ?_)
    refine sim_blk1 hC [(.iastore, 5, 18, 0, 0)] [(0, vR 0), (1, vI i3)] [] (wup w8 5 (Int32.toNatClampNeg i3) i7) 47 (by decide +kernel) rfl rfl ?_
    refine sim_bw (C := fun w9 => (47, [(0, vR 0), (1, vI i3)], [], w9)) (fun w9 => ?_)
    refine sim_blk0 hC [(.aload_n 0, 0, 0, 0, 0), (.getfield 51, 0, 6, 8, 0), (.iload_n 1, 0, 0, 0, 0), (.aload_n 0, 0, 0, 0, 0), (.iconst 0, 0, 0, 0, 0), (.bipush 8, 0, 0, 0, 8)] [(0, vR 0), (1, vI i3)] [vI 8, vI 0, vR 0, vI i3, vR 6] w9 56 (by decide +kernel) rfl rfl ?_
    refine sim_vd hC 239 mX11_readNumber 3 43 0 [vI 0, vI 8] [vI i3, vR 6] (by decide +kernel) ml_10_239 rfl rfl rfl rfl rfl rfl (fun rz wz hz => c_M_readNumber w9 0 8 rz wz hz) (fun i10 w11 => ?_)
    refine sim_blk1 hC [(.iastore, 6, 18, 0, 0)] [(0, vR 0), (1, vI i3)] [] (wup w11 6 (Int32.toNatClampNeg i3) i10) 60 (by decide +kernel) rfl rfl ?_
    refine sim_bw (C := fun w12 => (60, [(0, vR 0), (1, vI i3)], [], w12)) (fun w12 => ?_)
    refine sim_blk2 hC [(.aload_n 0, 0, 0, 0, 0), (.getfield 42, 0, 3, 5, 0), (.iconst 5, 0, 0, 0, 5), (.dup2, 0, 0, 0, 0), (.iaload, 3, 10, 0, 0), (.iconst 1, 0, 0, 0, 1), (.iadd, 0, 0, 0, 0), (.iastore, 3, 10, 0, 0)] [(0, vR 0), (1, vI i3)] [] (wup w12 3 (Int32.toNatClampNeg 5) ((w12 3 (Int32.toNatClampNeg 5)) + (1 : Int32))) 70 (by decide +kernel) rfl rfl ?_
    refine sim_bw (C := fun w13 => (70, [(0, vR 0), (1, vI i3)], [], w13)) (fun w13 => ?_)
    exact sim_retv hC (by decide +kernel)
  · exact sim_retv hC (by decide +kernel)
theorem c_M_sayRoom {Z : ZT} {l : Launch} (w : Wld) (w1 : Wld) (h : F_M_sayRoom w = some w1) : Con Z l mX11_sayRoom 4 66 [vR 0] w (.inr none) w1 :=
  Con_of (oc := 10) (by decide +kernel) rfl rfl (fun Ok hC => s_M_sayRoom hC w w1 h ⟨rfl, rfl⟩)
noncomputable def K_M_readLine_165 (a1 : Int32) (a3 : Int32) (w : Wld) : Option (Int32 × Wld) :=
  bv (F_M_mark w 59) (fun w7 => some ((a1 ||| a3, w7)))
set_option maxRecDepth 10000 in
theorem s_K_M_readLine_165 {Z : ZT} {l : Launch} {o : Oc} {wo : Wld} {Ok : Cfg → Prop} (hD : Clo3 Z l 10 4 prog_13_method_33_code (some .int) 101 1942 o wo Ok) (a1 : Int32) (a3 : Int32) (w : Wld) : SimK Ok (165, [(0, vR 0), (1, vI a1), (3, vI a3)], [], w) (K_M_readLine_165 a1 a3 w) (Gi o wo) := by
  unfold K_M_readLine_165
  have hC := hD.1
  have hC2 := hD.2
  refine sim_blk0 hC [(.aload_n 0, 0, 0, 0, 0), (.bipush 59, 0, 0, 0, 59)] [(0, vR 0), (1, vI a1), (3, vI a3)] [vI 59, vR 0] w 168 (by decide +kernel) rfl rfl ?_
  refine sim_vv hC 249 mX11_mark 3 42 0 [vI 59] [] (by decide +kernel) ml_10_249 rfl rfl rfl rfl rfl rfl (fun wz hz => c_M_mark w 59 wz hz) (fun w7 => ?_)
  refine sim_blk0 hC [(.iload_n 1, 0, 0, 0, 0), (.iload_n 3, 0, 0, 0, 0), (.ior, 0, 0, 0, 0)] [(0, vR 0), (1, vI a1), (3, vI a3)] [vI (a1 ||| a3)] w7 174 (by decide +kernel) rfl rfl ?_
  exact sim_reti hC (by decide +kernel) trivial
noncomputable def K_M_readLine_79 (a1 : Int32) (a3 : Int32) (w : Wld) : Option (Int32 × Wld) :=
  br (¬ a3 = 1) (br (¬ a3 = 2) (bv (X_M_readExpression 10 w 0) (fun w10 => K_M_readLine_165 a1 a3 w10)) (bd (F_M_readNumber w 0 50) (fun i11 w12 => gd (vp_in 8 10) (bw (wup w12 3 (Int32.toNatClampNeg 8) i11) (fun w13 => K_M_readLine_165 a1 a3 w13))))) (bd (F_M_readNumber w 1 50) (fun i14 w15 => gd (vp_in 7 10) (bw (wup w15 3 (Int32.toNatClampNeg 7) i14) (fun w16 => K_M_readLine_165 a1 a3 w16))))
set_option maxRecDepth 10000 in
theorem s_K_M_readLine_79 {Z : ZT} {l : Launch} {o : Oc} {wo : Wld} {Ok : Cfg → Prop} (hD : Clo3 Z l 10 4 prog_13_method_33_code (some .int) 101 1942 o wo Ok) (a1 : Int32) (a3 : Int32) (w : Wld) : SimK Ok (79, [(0, vR 0), (1, vI a1), (3, vI a3)], [], w) (K_M_readLine_79 a1 a3 w) (Gi o wo) := by
  unfold K_M_readLine_79
  have hC := hD.1
  have hC2 := hD.2
  refine sim_blk0 hC [(.iload_n 3, 0, 0, 0, 0), (.iconst 1, 0, 0, 0, 1)] [(0, vR 0), (1, vI a1), (3, vI a3)] [vI 1, vI a3] w 81 (by decide +kernel) rfl rfl ?_
  refine sim_br hC (.if_icmp .ne 20) 101 (by decide +kernel) rfl (by decide) ?_ ?_
  · refine sim_blk0 hC [(.iload_n 3, 0, 0, 0, 0), (.iconst 2, 0, 0, 0, 2)] [(0, vR 0), (1, vI a1), (3, vI a3)] [vI 2, vI a3] w 103 (by decide +kernel) rfl rfl ?_
    refine sim_br hC (.if_icmp .ne 20) 123 (by decide +kernel) rfl (by decide) ?_ ?_
    · refine sim_blk0 hC [(.aload_n 0, 0, 0, 0, 0), (.iconst 0, 0, 0, 0, 0)] [(0, vR 0), (1, vI a1), (3, vI a3)] [vI 0, vR 0] w 125 (by decide +kernel) rfl rfl ?_
      refine sim_vv hC 252 mX11_readExpression (40 + 6 * 10) (600 + 132 * 10) 0 [vI 0] [] (by decide +kernel) ml_10_252 rfl rfl rfl rfl rfl rfl (fun wz hz => cX_M_readExpression 10 w 0 wz hz) (fun w10 => ?_)
      refine sim_goto hC 37 165 (by decide +kernel) (by decide) ?_
      exact s_K_M_readLine_165 hD a1 a3 w10
    · refine sim_blk0 hC [(.aload_n 0, 0, 0, 0, 0), (.getfield 42, 0, 3, 5, 0), (.bipush 8, 0, 0, 0, 8), (.aload_n 0, 0, 0, 0, 0), (.iconst 0, 0, 0, 0, 0), (.bipush 50, 0, 0, 0, 50)] [(0, vR 0), (1, vI a1), (3, vI a3)] [vI 50, vI 0, vR 0, vI 8, vR 3] w 116 (by decide +kernel) rfl rfl ?_
      refine sim_vd hC 239 mX11_readNumber 3 43 0 [vI 0, vI 50] [vI 8, vR 3] (by decide +kernel) ml_10_239 rfl rfl rfl rfl rfl rfl (fun rz wz hz => c_M_readNumber w 0 50 rz wz hz) (fun i11 w12 => ?_)
      refine sim_blk1 hC [(.iastore, 3, 10, 0, 0)] [(0, vR 0), (1, vI a1), (3, vI a3)] [] (wup w12 3 (Int32.toNatClampNeg 8) i11) 120 (by decide +kernel) rfl rfl ?_
      refine sim_bw (C := fun w13 => (120, [(0, vR 0), (1, vI a1), (3, vI a3)], [], w13)) (fun w13 => ?_)
      refine sim_goto hC 45 165 (by decide +kernel) (by decide) ?_
      exact s_K_M_readLine_165 hD a1 a3 w13
  · refine sim_blk0 hC [(.aload_n 0, 0, 0, 0, 0), (.getfield 42, 0, 3, 5, 0), (.bipush 7, 0, 0, 0, 7), (.aload_n 0, 0, 0, 0, 0), (.iconst 1, 0, 0, 0, 1), (.bipush 50, 0, 0, 0, 50)] [(0, vR 0), (1, vI a1), (3, vI a3)] [vI 50, vI 1, vR 0, vI 7, vR 3] w 94 (by decide +kernel) rfl rfl ?_
    refine sim_vd hC 239 mX11_readNumber 3 43 0 [vI 1, vI 50] [vI 7, vR 3] (by decide +kernel) ml_10_239 rfl rfl rfl rfl rfl rfl (fun rz wz hz => c_M_readNumber w 1 50 rz wz hz) (fun i14 w15 => ?_)
    refine sim_blk1 hC [(.iastore, 3, 10, 0, 0)] [(0, vR 0), (1, vI a1), (3, vI a3)] [] (wup w15 3 (Int32.toNatClampNeg 7) i14) 98 (by decide +kernel) rfl rfl ?_
    refine sim_bw (C := fun w16 => (98, [(0, vR 0), (1, vI a1), (3, vI a3)], [], w16)) (fun w16 => ?_)
    refine sim_goto hC 67 165 (by decide +kernel) (by decide) ?_
    exact s_K_M_readLine_165 hD a1 a3 w16
noncomputable def K_M_readLine_64 (a1 : Int32) (a2 : Int32) (a3 : Int32) (w : Wld) : Option (Int32 × Wld) :=
  br (a3 ≤ 0) (br (a2 = (-1)) (bp (F_M_is w 7) (fun i5 => br (i5 = 0) (bv (F_M_wrong w 1) (fun w6 => K_M_readLine_165 a1 a3 w6)) (bv (F_M_sayRoom w) (fun w8 => K_M_readLine_165 a1 a3 w8)))) (bv (F_M_sayMonk w a2) (fun w9 => K_M_readLine_165 a1 a3 w9))) (br (¬ (w 0 21) = 0) (K_M_readLine_79 a1 a3 w) (bv (F_M_stepOn w) (fun w17 => K_M_readLine_79 a1 a3 w17)))
set_option maxRecDepth 10000 in
theorem s_K_M_readLine_64 {Z : ZT} {l : Launch} {o : Oc} {wo : Wld} {Ok : Cfg → Prop} (hD : Clo3 Z l 10 4 prog_13_method_33_code (some .int) 101 1942 o wo Ok) (a1 : Int32) (a2 : Int32) (a3 : Int32) (w : Wld) : SimK Ok (64, [(0, vR 0), (1, vI a1), (2, vI a2), (3, vI a3)], [], w) (K_M_readLine_64 a1 a2 a3 w) (Gi o wo) := by
  unfold K_M_readLine_64
  have hC := hD.1
  have hC2 := hD.2
  refine sim_blk0 hC [(.iload_n 3, 0, 0, 0, 0)] [(0, vR 0), (1, vI a1), (2, vI a2), (3, vI a3)] [vI a3] w 65 (by decide +kernel) rfl rfl ?_
  refine sim_br hC (.ifCond .le 66) 131 (by decide +kernel) rfl (by decide) ?_ ?_
  · refine sim_blk0 hC [(.iload_n 2, 0, 0, 0, 0), (.iconst (-1), 0, 0, 0, (-1))] [(0, vR 0), (1, vI a1), (2, vI a2), (3, vI a3)] [vI (-1), vI a2] w 133 (by decide +kernel) rfl rfl ?_
    refine sim_br hC (.if_icmp .eq 11) 144 (by decide +kernel) rfl (by decide) ?_ ?_
    · refine sim_blk0 hC [(.aload_n 0, 0, 0, 0, 0)] [(0, vR 0), (1, vI a1), (2, vI a2), (3, vI a3)] [vR 0] w 145 (by decide +kernel) rfl rfl ?_
      refine sim_lds hC2 29 7 "room" (by decide +kernel) (by decide) ?_
      refine sim_vp hC 222 mX11_is 5 103 0 [vS 7] [] (by decide +kernel) ml_10_222 rfl rfl rfl rfl rfl rfl (fun rz hz => c_M_is w 7 rz hz) (fun i5 => ?_)
      refine sim_br hC (.ifCond .eq 10) 160 (by decide +kernel) rfl (by decide) ?_ ?_
      · refine sim_blk0 hC [(.aload_n 0, 0, 0, 0, 0), (.iconst 1, 0, 0, 0, 1)] [(0, vR 0), (1, vI a1), (2, vI a2), (3, vI a3)] [vI 1, vR 0] w 162 (by decide +kernel) rfl rfl ?_
        refine sim_vv hC 229 mX11_wrong 1 0 0 [vI 1] [] (by decide +kernel) ml_10_229 rfl rfl rfl rfl rfl rfl (fun wz hz => c_M_wrong w 1 wz hz) (fun w6 => ?_)
        refine sim_sub hC [0, 1, 3] ?_
        exact s_K_M_readLine_165 hD a1 a3 w6
      · refine sim_blk0 hC [(.aload_n 0, 0, 0, 0, 0)] [(0, vR 0), (1, vI a1), (2, vI a2), (3, vI a3)] [vR 0] w 154 (by decide +kernel) rfl rfl ?_
        refine sim_vv hC 289 mX11_sayRoom 4 66 0 [] [] (by decide +kernel) ml_10_289 rfl rfl rfl rfl rfl rfl (fun wz hz => c_M_sayRoom w wz hz) (fun w8 => ?_)
        refine sim_goto hC 8 165 (by decide +kernel) (by decide) ?_
        refine sim_sub hC [0, 1, 3] ?_
        exact s_K_M_readLine_165 hD a1 a3 w8
    · refine sim_blk0 hC [(.aload_n 0, 0, 0, 0, 0), (.iload_n 2, 0, 0, 0, 0)] [(0, vR 0), (1, vI a1), (2, vI a2), (3, vI a3)] [vI a2, vR 0] w 138 (by decide +kernel) rfl rfl ?_
      refine sim_vv hC 286 mX11_sayMonk 4 66 0 [vI a2] [] (by decide +kernel) ml_10_286 rfl rfl rfl rfl rfl rfl (fun wz hz => c_M_sayMonk w a2 wz hz) (fun w9 => ?_)
      refine sim_goto hC 24 165 (by decide +kernel) (by decide) ?_
      refine sim_sub hC [0, 1, 3] ?_
      exact s_K_M_readLine_165 hD a1 a3 w9
  · refine sim_blk0 hC [(.aload_n 0, 0, 0, 0, 0), (.getfield 208, 0, 21, 0, 0)] [(0, vR 0), (1, vI a1), (2, vI a2), (3, vI a3)] [vI (w 0 21)] w 72 (by decide +kernel) rfl rfl ?_
    refine sim_br hC (.ifCond .ne 7) 79 (by decide +kernel) rfl (by decide) ?_ ?_
    · refine sim_sub hC [0, 1, 3] ?_
      exact s_K_M_readLine_79 hD a1 a3 w
    · refine sim_blk0 hC [(.aload_n 0, 0, 0, 0, 0)] [(0, vR 0), (1, vI a1), (2, vI a2), (3, vI a3)] [vR 0] w 76 (by decide +kernel) rfl rfl ?_
      refine sim_vv hC 233 mX11_stepOn 2 21 0 [] [] (by decide +kernel) ml_10_233 rfl rfl rfl rfl rfl rfl (fun wz hz => c_M_stepOn w wz hz) (fun w17 => ?_)
      refine sim_sub hC [0, 1, 3] ?_
      exact s_K_M_readLine_79 hD a1 a3 w17
noncomputable def K_M_readLine_52 (a1 : Int32) (a2 : Int32) (t0 : Int32) (w : Wld) : Option (Int32 × Wld) :=
  br ((t0 &&& a1) = 0) (K_M_readLine_64 a1 a2 t0 w) (bv (F_M_wrong w 5) (fun w18 => K_M_readLine_64 a1 a2 t0 w18))
set_option maxRecDepth 10000 in
theorem s_K_M_readLine_52 {Z : ZT} {l : Launch} {o : Oc} {wo : Wld} {Ok : Cfg → Prop} (hD : Clo3 Z l 10 4 prog_13_method_33_code (some .int) 101 1942 o wo Ok) (a1 : Int32) (a2 : Int32) (t0 : Int32) (w : Wld) : SimK Ok (52, [(0, vR 0), (1, vI a1), (2, vI a2)], [vI t0], w) (K_M_readLine_52 a1 a2 t0 w) (Gi o wo) := by
  unfold K_M_readLine_52
  have hC := hD.1
  have hC2 := hD.2
  refine sim_blk0 hC [(.istore_n 3, 0, 0, 0, 0), (.iload_n 3, 0, 0, 0, 0), (.iload_n 1, 0, 0, 0, 0), (.iand, 0, 0, 0, 0)] [(0, vR 0), (1, vI a1), (2, vI a2), (3, vI t0)] [vI (t0 &&& a1)] w 56 (by decide +kernel) rfl rfl ?_
  refine sim_br hC (.ifCond .eq 8) 64 (by decide +kernel) rfl (by decide) ?_ ?_
  · exact s_K_M_readLine_64 hD a1 a2 t0 w
  · refine sim_blk0 hC [(.aload_n 0, 0, 0, 0, 0), (.iconst 5, 0, 0, 0, 5)] [(0, vR 0), (1, vI a1), (2, vI a2), (3, vI t0)] [vI 5, vR 0] w 61 (by decide +kernel) rfl rfl ?_
    refine sim_vv hC 229 mX11_wrong 1 0 0 [vI 5] [] (by decide +kernel) ml_10_229 rfl rfl rfl rfl rfl rfl (fun wz hz => c_M_wrong w 5 wz hz) (fun w18 => ?_)
    exact s_K_M_readLine_64 hD a1 a2 t0 w18
noncomputable def F_M_readLine (w : Wld) (a1 : Int32) : Option (Int32 × Wld) :=
  bp (F_M_which_1 w) (fun i1 => bp (F_M_is w 12) (fun i2 => br (i2 = 0) (bp (F_M_is w 13) (fun i3 => br (i3 = 0) (bp (F_M_is w 14) (fun i4 => br (i4 = 0) (K_M_readLine_52 a1 i1 0 w) (K_M_readLine_52 a1 i1 4 w))) (K_M_readLine_52 a1 i1 2 w))) (K_M_readLine_52 a1 i1 1 w)))
set_option maxRecDepth 10000 in
theorem s_M_readLine {Z : ZT} {l : Launch} {o : Oc} {wo : Wld} {Ok : Cfg → Prop} (hD : Clo3 Z l 10 4 prog_13_method_33_code (some .int) 101 1942 o wo Ok) (w : Wld) (a1 : Int32) : SimK Ok (0, [(0, vR 0), (1, vI a1)], [], w) (F_M_readLine w a1) (Gi o wo) := by
  unfold F_M_readLine
  have hC := hD.1
  have hC2 := hD.2
  refine sim_blk0 hC [(.aload_n 0, 0, 0, 0, 0), (.aload_n 0, 0, 0, 0, 0), (.getfield 19, 0, 0, 3, 0)] [(0, vR 0), (1, vI a1)] [vR 1, vR 0] w 5 (by decide +kernel) rfl rfl ?_
  refine sim_vp hC 245 mX11_which 6 126 0 [vR 1] [] (by decide +kernel) ml_10_245 rfl rfl rfl rfl rfl rfl (fun rz hz => c_M_which_1 w rz hz) (fun i1 => ?_)
  refine sim_blk0 hC [(.istore_n 2, 0, 0, 0, 0), (.aload_n 0, 0, 0, 0, 0)] [(0, vR 0), (1, vI a1), (2, vI i1)] [vR 0] w 10 (by decide +kernel) rfl rfl ?_
  refine sim_ldsw hC2 280 12 "tires" (by decide +kernel) (by decide) ?_
  refine sim_vp hC 222 mX11_is 5 103 0 [vS 12] [] (by decide +kernel) ml_10_222 rfl rfl rfl rfl rfl rfl (fun rz hz => c_M_is w 12 rz hz) (fun i2 => ?_)
  refine sim_br hC (.ifCond .eq 7) 23 (by decide +kernel) rfl (by decide) ?_ ?_
  · refine sim_blk0 hC [(.aload_n 0, 0, 0, 0, 0)] [(0, vR 0), (1, vI a1), (2, vI i1)] [vR 0] w 24 (by decide +kernel) rfl rfl ?_
    refine sim_ldsw hC2 282 13 "rests" (by decide +kernel) (by decide) ?_
    refine sim_vp hC 222 mX11_is 5 103 0 [vS 13] [] (by decide +kernel) ml_10_222 rfl rfl rfl rfl rfl rfl (fun rz hz => c_M_is w 13 rz hz) (fun i3 => ?_)
    refine sim_br hC (.ifCond .eq 7) 37 (by decide +kernel) rfl (by decide) ?_ ?_
    · refine sim_blk0 hC [(.aload_n 0, 0, 0, 0, 0)] [(0, vR 0), (1, vI a1), (2, vI i1)] [vR 0] w 38 (by decide +kernel) rfl rfl ?_
      refine sim_ldsw hC2 284 14 "dreams" (by decide +kernel) (by decide) ?_
      refine sim_vp hC 222 mX11_is 5 103 0 [vS 14] [] (by decide +kernel) ml_10_222 rfl rfl rfl rfl rfl rfl (fun rz hz => c_M_is w 14 rz hz) (fun i4 => ?_)
      refine sim_br hC (.ifCond .eq 7) 51 (by decide +kernel) rfl (by decide) ?_ ?_
      · refine sim_blk0 hC [(.iconst 0, 0, 0, 0, 0)] [(0, vR 0), (1, vI a1), (2, vI i1)] [vI 0] w 52 (by decide +kernel) rfl rfl ?_
        exact s_K_M_readLine_52 hD a1 i1 0 w
      · refine sim_blk0 hC [(.iconst 4, 0, 0, 0, 4)] [(0, vR 0), (1, vI a1), (2, vI i1)] [vI 4] w 48 (by decide +kernel) rfl rfl ?_
        refine sim_goto hC 4 52 (by decide +kernel) (by decide) ?_
        exact s_K_M_readLine_52 hD a1 i1 4 w
    · refine sim_blk0 hC [(.iconst 2, 0, 0, 0, 2)] [(0, vR 0), (1, vI a1), (2, vI i1)] [vI 2] w 34 (by decide +kernel) rfl rfl ?_
      refine sim_goto hC 18 52 (by decide +kernel) (by decide) ?_
      exact s_K_M_readLine_52 hD a1 i1 2 w
  · refine sim_blk0 hC [(.iconst 1, 0, 0, 0, 1)] [(0, vR 0), (1, vI a1), (2, vI i1)] [vI 1] w 20 (by decide +kernel) rfl rfl ?_
    refine sim_goto hC 32 52 (by decide +kernel) (by decide) ?_
    exact s_K_M_readLine_52 hD a1 i1 1 w
theorem c_M_readLine {Z : ZT} {l : Launch} (w : Wld) (a1 : Int32) (r : Int32) (w1 : Wld) (h : F_M_readLine w a1 = some (r, w1)) : Con Z l mX11_readLine 101 1942 [vR 0, vI a1] w (.inr (some r)) w1 :=
  Con_of3 (oc := 10) (by decide +kernel) rfl rfl (fun Ok hC => s_M_readLine hC w a1 (r, w1) h ⟨rfl, rfl⟩)
noncomputable def F_M_fail (w : Wld) (a1 : Int32) : Option (Int32 × Wld) :=
  bw (wup w 0 2 a1) (fun w1 => some ((0, w1)))
set_option maxRecDepth 10000 in
theorem s_M_fail {Z : ZT} {l : Launch} {o : Oc} {wo : Wld} {Ok : Cfg → Prop} (hC : Clo Z l 10 2 prog_13_method_3_code (some .int) 1 0 o wo Ok) (w : Wld) (a1 : Int32) : SimK Ok (0, [(0, vR 0), (1, vI a1)], [], w) (F_M_fail w a1) (Gi o wo) := by
  unfold F_M_fail
  refine sim_blk0 hC [(.aload_n 0, 0, 0, 0, 0), (.iload_n 1, 0, 0, 0, 0), (.putfield 159, 0, 2, 0, 0)] [(0, vR 0), (1, vI a1)] [] (wup w 0 2 a1) 5 (by decide +kernel) rfl rfl ?_
  refine sim_bw (C := fun w1 => (5, [(0, vR 0), (1, vI a1)], [], w1)) (fun w1 => ?_)
  refine sim_blk0 hC [(.iconst 0, 0, 0, 0, 0)] [(0, vR 0), (1, vI a1)] [vI 0] w1 6 (by decide +kernel) rfl rfl ?_
  exact sim_reti hC (by decide +kernel) trivial
theorem c_M_fail {Z : ZT} {l : Launch} (w : Wld) (a1 : Int32) (r : Int32) (w1 : Wld) (h : F_M_fail w a1 = some (r, w1)) : Con Z l mX11_fail 1 0 [vR 0, vI a1] w (.inr (some r)) w1 :=
  Con_of (oc := 10) (by decide +kernel) rfl rfl (fun Ok hC => s_M_fail hC w a1 (r, w1) h ⟨rfl, rfl⟩)
noncomputable def K_M_house_17 (w : Wld) : Option (Int32 × Wld) :=
  bd (F_M_fail w 1) (fun i2 w3 => some ((i2, w3)))
set_option maxRecDepth 10000 in
theorem s_K_M_house_17 {Z : ZT} {l : Launch} {o : Oc} {wo : Wld} {Ok : Cfg → Prop} (hC : Clo Z l 10 3 prog_13_method_34_code (some .int) 102 1965 o wo Ok) (w : Wld) : SimK Ok (17, [(0, vR 0)], [], w) (K_M_house_17 w) (Gi o wo) := by
  unfold K_M_house_17
  refine sim_blk0 hC [(.aload_n 0, 0, 0, 0, 0), (.iconst 1, 0, 0, 0, 1)] [(0, vR 0)] [vI 1, vR 0] w 19 (by decide +kernel) rfl rfl ?_
  refine sim_vd hC 292 mX11_fail 1 0 0 [vI 1] [] (by decide +kernel) ml_10_292 rfl rfl rfl rfl rfl rfl (fun rz wz hz => c_M_fail w 1 rz wz hz) (fun i2 w3 => ?_)
  exact sim_reti hC (by decide +kernel) trivial
def V_M_house_50 : (Int32 × Wld) → Cfg := fun s => (50, [(0, vR 0), (2, vI s.1)], [], s.2)
def E_M_house_50 : (Wld) → Cfg := fun s => (90, [(0, vR 0)], [], s)
noncomputable def K_M_house_83 (a2 : Int32) (t1 : Int32) (t2 : Int32) (w : Wld) : Option ((Int32 × Wld) ⊕ (Wld)) :=
  gd (vp_in t1 10) (bw (wup w 3 (Int32.toNatClampNeg t1) t2) (fun w9 => bi (a2 + 1) (fun i10 => some (.inl ((i10, w9))))))
set_option maxRecDepth 10000 in
theorem s_K_M_house_83 {Z : ZT} {l : Launch} {o : Oc} {wo : Wld} {Ok : Cfg → Prop} (hC : Clo Z l 10 3 prog_13_method_34_code (some .int) 102 1965 o wo Ok) (a2 : Int32) (t1 : Int32) (t2 : Int32) (w : Wld) : SimK Ok (83, [(0, vR 0), (2, vI a2)], [vI t2, vI t1, vR 3], w) (K_M_house_83 a2 t1 t2 w) (GLp Ok (V_M_house_50) (GEp Ok (E_M_house_50))) := by
  unfold K_M_house_83
  refine sim_blk1 hC [(.iastore, 3, 10, 0, 0)] [(0, vR 0), (2, vI a2)] [] (wup w 3 (Int32.toNatClampNeg t1) t2) 84 (by decide +kernel) rfl rfl ?_
  refine sim_bw (C := fun w9 => (84, [(0, vR 0), (2, vI a2)], [], w9)) (fun w9 => ?_)
  refine sim_blk0 hC [(.iinc 2 1, 0, 0, 0, 1)] [(0, vR 0), (2, vI (a2 + 1))] [] w9 87 (by decide +kernel) rfl rfl ?_
  refine sim_bi (C := fun i10 => (87, [(0, vR 0), (2, vI i10)], [], w9)) (fun i10 => ?_)
  refine sim_goto hC (-37) 50 (by decide +kernel) (by decide) ?_
  exact sim_back (V := (V_M_house_50)) ((i10, w9))
noncomputable def B_M_house_50 (s : Int32 × Wld) : Option ((Int32 × Wld) ⊕ (Wld)) :=
  br ((5 : Int32) ≤ s.1) (some (.inr s.2)) (br (¬ s.1 = 2) (br (¬ s.1 = 3) (K_M_house_83 s.1 ((5 : Int32) + s.1) 0 s.2) (K_M_house_83 s.1 ((5 : Int32) + s.1) 10 s.2)) (K_M_house_83 s.1 ((5 : Int32) + s.1) 20 s.2))
set_option maxRecDepth 10000 in
theorem s_B_M_house_50 {Z : ZT} {l : Launch} {o : Oc} {wo : Wld} {Ok : Cfg → Prop} (hC : Clo Z l 10 3 prog_13_method_34_code (some .int) 102 1965 o wo Ok) (s : Int32 × Wld) : SimK Ok (V_M_house_50 s) (B_M_house_50 s) (GLp Ok (V_M_house_50) (GEp Ok (E_M_house_50))) := by
  unfold B_M_house_50
  show SimK Ok (50, [(0, vR 0), (2, vI s.1)], [], s.2) _ _
  refine sim_blk0 hC [(.iload_n 2, 0, 0, 0, 0), (.iconst 5, 0, 0, 0, 5)] [(0, vR 0), (2, vI s.1)] [vI 5, vI s.1] s.2 52 (by decide +kernel) rfl rfl ?_
  refine sim_br hC (.if_icmp .ge 38) 90 (by decide +kernel) rfl (by decide) ?_ ?_
  · refine sim_sub hC [0] ?_
    exact sim_exit (E := (E_M_house_50)) s.2
  · refine sim_blk0 hC [(.aload_n 0, 0, 0, 0, 0), (.getfield 42, 0, 3, 5, 0), (.iconst 5, 0, 0, 0, 5), (.iload_n 2, 0, 0, 0, 0), (.iadd, 0, 0, 0, 0), (.iload_n 2, 0, 0, 0, 0), (.iconst 2, 0, 0, 0, 2)] [(0, vR 0), (2, vI s.1)] [vI 2, vI s.1, vI ((5 : Int32) + s.1), vR 3] s.2 64 (by decide +kernel) rfl rfl ?_
    refine sim_br hC (.if_icmp .ne 8) 72 (by decide +kernel) rfl (by decide) ?_ ?_
    · refine sim_blk0 hC [(.iload_n 2, 0, 0, 0, 0), (.iconst 3, 0, 0, 0, 3)] [(0, vR 0), (2, vI s.1)] [vI 3, vI s.1, vI ((5 : Int32) + s.1), vR 3] s.2 74 (by decide +kernel) rfl rfl ?_
      refine sim_br hC (.if_icmp .ne 8) 82 (by decide +kernel) rfl (by decide) ?_ ?_
      · refine sim_blk0 hC [(.iconst 0, 0, 0, 0, 0)] [(0, vR 0), (2, vI s.1)] [vI 0, vI ((5 : Int32) + s.1), vR 3] s.2 83 (by decide +kernel) rfl rfl ?_
        exact s_K_M_house_83 hC s.1 ((5 : Int32) + s.1) 0 s.2
      · refine sim_blk0 hC [(.bipush 10, 0, 0, 0, 10)] [(0, vR 0), (2, vI s.1)] [vI 10, vI ((5 : Int32) + s.1), vR 3] s.2 79 (by decide +kernel) rfl rfl ?_
        refine sim_goto hC 4 83 (by decide +kernel) (by decide) ?_
        exact s_K_M_house_83 hC s.1 ((5 : Int32) + s.1) 10 s.2
    · refine sim_blk0 hC [(.bipush 20, 0, 0, 0, 20)] [(0, vR 0), (2, vI s.1)] [vI 20, vI ((5 : Int32) + s.1), vR 3] s.2 69 (by decide +kernel) rfl rfl ?_
      refine sim_goto hC 14 83 (by decide +kernel) (by decide) ?_
      exact s_K_M_house_83 hC s.1 ((5 : Int32) + s.1) 20 s.2
def V_M_house_96 : (Int32 × Wld) → Cfg := fun s => (96, [(0, vR 0), (2, vI s.1)], [], s.2)
def E_M_house_96 : (Wld) → Cfg := fun s => (119, [(0, vR 0)], [], s)
noncomputable def B_M_house_96 (s : Int32 × Wld) : Option ((Int32 × Wld) ⊕ (Wld)) :=
  br (¬ (s.2 0 21) = 0) (some (.inr s.2)) (br ((s.2 0 17) = 0) (some (.inr s.2)) (bd (F_M_readLine s.2 s.1) (fun i13 w14 => some (.inl ((i13, w14))))))
set_option maxRecDepth 10000 in
theorem s_B_M_house_96 {Z : ZT} {l : Launch} {o : Oc} {wo : Wld} {Ok : Cfg → Prop} (hC : Clo Z l 10 3 prog_13_method_34_code (some .int) 102 1965 o wo Ok) (s : Int32 × Wld) : SimK Ok (V_M_house_96 s) (B_M_house_96 s) (GLp Ok (V_M_house_96) (GEp Ok (E_M_house_96))) := by
  unfold B_M_house_96
  show SimK Ok (96, [(0, vR 0), (2, vI s.1)], [], s.2) _ _
  refine sim_blk0 hC [(.aload_n 0, 0, 0, 0, 0), (.getfield 208, 0, 21, 0, 0)] [(0, vR 0), (2, vI s.1)] [vI (s.2 0 21)] s.2 100 (by decide +kernel) rfl rfl ?_
  refine sim_br hC (.ifCond .ne 19) 119 (by decide +kernel) rfl (by decide) ?_ ?_
  · refine sim_sub hC [0] ?_
    exact sim_exit (E := (E_M_house_96)) s.2
  · refine sim_blk0 hC [(.aload_n 0, 0, 0, 0, 0), (.getfield 182, 0, 17, 0, 0)] [(0, vR 0), (2, vI s.1)] [vI (s.2 0 17)] s.2 107 (by decide +kernel) rfl rfl ?_
    refine sim_br hC (.ifCond .eq 12) 119 (by decide +kernel) rfl (by decide) ?_ ?_
    · refine sim_sub hC [0] ?_
      exact sim_exit (E := (E_M_house_96)) s.2
    · refine sim_blk0 hC [(.aload_n 0, 0, 0, 0, 0), (.iload_n 2, 0, 0, 0, 0)] [(0, vR 0), (2, vI s.1)] [vI s.1, vR 0] s.2 112 (by decide +kernel) rfl rfl ?_
      refine sim_vd hC 295 mX11_readLine 101 1942 0 [vI s.1] [] (by decide +kernel) ml_10_295 rfl rfl rfl rfl rfl rfl (fun rz wz hz => c_M_readLine s.2 s.1 rz wz hz) (fun i13 w14 => ?_)
      refine sim_blk0 hC [(.istore_n 2, 0, 0, 0, 0)] [(0, vR 0), (2, vI i13)] [] w14 116 (by decide +kernel) rfl rfl ?_
      refine sim_goto hC (-20) 96 (by decide +kernel) (by decide) ?_
      exact sim_back (V := (V_M_house_96)) ((i13, w14))
noncomputable def F_M_house (w : Wld) (a1 : Int32) : Option (Int32 × Wld) :=
  bw (wup w 0 2 0) (fun w1 => br (a1 < 0) (K_M_house_17 w1) (br (a1 ≤ (w1 0 14)) (bw (wup w1 0 14 0) (fun w4 => bw (wup w4 0 16 a1) (fun w5 => bw (wup w5 0 15 0) (fun w6 => bw (wup w6 0 21 0) (fun w7 => bw (wup w7 0 23 (-1)) (fun w8 => bl (loop (B_M_house_50) ((0, w8))) (fun r11 => bv (F_M_stepOn r11) (fun w12 => bl (loop (B_M_house_96) ((0, w12))) (fun r15 => br ((r15 0 21) = 0) (bv (F_M_takeOver r15) (fun w16 => some ((0, w16)))) (bw (wup r15 0 23 (r15 0 22)) (fun w17 => gd (vp_in 0 3) (gd (vp_in 0 3) (bw (wup w17 12 (Int32.toNatClampNeg 0) ((w17 12 (Int32.toNatClampNeg 0)) + (1 : Int32))) (fun w18 => some ((w18 0 21, w18)))))))))))))))) (K_M_house_17 w1)))
set_option maxRecDepth 10000 in
theorem s_M_house {Z : ZT} {l : Launch} {o : Oc} {wo : Wld} {Ok : Cfg → Prop} (hC : Clo Z l 10 3 prog_13_method_34_code (some .int) 102 1965 o wo Ok) (w : Wld) (a1 : Int32) : SimK Ok (0, [(0, vR 0), (1, vI a1)], [], w) (F_M_house w a1) (Gi o wo) := by
  unfold F_M_house
  refine sim_blk0 hC [(.aload_n 0, 0, 0, 0, 0), (.iconst 0, 0, 0, 0, 0), (.putfield 159, 0, 2, 0, 0)] [(0, vR 0), (1, vI a1)] [] (wup w 0 2 0) 5 (by decide +kernel) rfl rfl ?_
  refine sim_bw (C := fun w1 => (5, [(0, vR 0), (1, vI a1)], [], w1)) (fun w1 => ?_)
  refine sim_blk0 hC [(.iload_n 1, 0, 0, 0, 0)] [(0, vR 0), (1, vI a1)] [vI a1] w1 6 (by decide +kernel) rfl rfl ?_
  refine sim_br hC (.ifCond .lt 11) 17 (by decide +kernel) rfl (by decide) ?_ ?_
  · refine sim_sub hC [0] ?_
    exact s_K_M_house_17 hC w1
  · refine sim_blk0 hC [(.iload_n 1, 0, 0, 0, 0), (.aload_n 0, 0, 0, 0, 0), (.getfield 166, 0, 14, 0, 0)] [(0, vR 0), (1, vI a1)] [vI (w1 0 14), vI a1] w1 14 (by decide +kernel) rfl rfl ?_
    refine sim_br hC (.if_icmp .le 9) 23 (by decide +kernel) rfl (by decide) ?_ ?_
    · refine sim_blk0 hC [(.aload_n 0, 0, 0, 0, 0), (.iconst 0, 0, 0, 0, 0), (.putfield 166, 0, 14, 0, 0)] [(0, vR 0), (1, vI a1)] [] (wup w1 0 14 0) 28 (by decide +kernel) rfl rfl ?_
      refine sim_bw (C := fun w4 => (28, [(0, vR 0), (1, vI a1)], [], w4)) (fun w4 => ?_)
      refine sim_blk0 hC [(.aload_n 0, 0, 0, 0, 0), (.iload_n 1, 0, 0, 0, 0), (.putfield 169, 0, 16, 0, 0)] [(0, vR 0), (1, vI a1)] [] (wup w4 0 16 a1) 33 (by decide +kernel) rfl rfl ?_
      refine sim_bw (C := fun w5 => (33, [(0, vR 0), (1, vI a1)], [], w5)) (fun w5 => ?_)
      refine sim_blk0 hC [(.aload_n 0, 0, 0, 0, 0), (.iconst 0, 0, 0, 0, 0), (.putfield 172, 0, 15, 0, 0)] [(0, vR 0), (1, vI a1)] [] (wup w5 0 15 0) 38 (by decide +kernel) rfl rfl ?_
      refine sim_bw (C := fun w6 => (38, [(0, vR 0), (1, vI a1)], [], w6)) (fun w6 => ?_)
      refine sim_blk0 hC [(.aload_n 0, 0, 0, 0, 0), (.iconst 0, 0, 0, 0, 0), (.putfield 208, 0, 21, 0, 0)] [(0, vR 0), (1, vI a1)] [] (wup w6 0 21 0) 43 (by decide +kernel) rfl rfl ?_
      refine sim_bw (C := fun w7 => (43, [(0, vR 0), (1, vI a1)], [], w7)) (fun w7 => ?_)
      refine sim_blk0 hC [(.aload_n 0, 0, 0, 0, 0), (.iconst (-1), 0, 0, 0, (-1)), (.putfield 74, 0, 23, 0, 0)] [(0, vR 0), (1, vI a1)] [] (wup w7 0 23 (-1)) 48 (by decide +kernel) rfl rfl ?_
      refine sim_bw (C := fun w8 => (48, [(0, vR 0), (1, vI a1)], [], w8)) (fun w8 => ?_)
      refine sim_blk0 hC [(.iconst 0, 0, 0, 0, 0), (.istore_n 2, 0, 0, 0, 0)] [(0, vR 0), (1, vI a1), (2, vI 0)] [] w8 50 (by decide +kernel) rfl rfl ?_
      refine sim_bl (E := (E_M_house_50)) ?_ (fun r11 => ?_)
      · refine sim_sub hC [0, 2] ?_
        exact sim_loop (V := (V_M_house_50)) (fun sz => s_B_M_house_50 hC sz) ((0, w8))
      · show SimK Ok (90, [(0, vR 0)], [], r11) _ _
        refine sim_blk0 hC [(.aload_n 0, 0, 0, 0, 0)] [(0, vR 0)] [vR 0] r11 91 (by decide +kernel) rfl rfl ?_
        refine sim_vv hC 233 mX11_stepOn 2 21 0 [] [] (by decide +kernel) ml_10_233 rfl rfl rfl rfl rfl rfl (fun wz hz => c_M_stepOn r11 wz hz) (fun w12 => ?_)
        refine sim_blk0 hC [(.iconst 0, 0, 0, 0, 0), (.istore_n 2, 0, 0, 0, 0)] [(0, vR 0), (2, vI 0)] [] w12 96 (by decide +kernel) rfl rfl ?_
        refine sim_bl (E := (E_M_house_96)) ?_ (fun r15 => ?_)
        · exact sim_loop (V := (V_M_house_96)) (fun sz => s_B_M_house_96 hC sz) ((0, w12))
        · show SimK Ok (119, [(0, vR 0)], [], r15) _ _
          refine sim_blk0 hC [(.aload_n 0, 0, 0, 0, 0), (.getfield 208, 0, 21, 0, 0)] [(0, vR 0)] [vI (r15 0 21)] r15 123 (by decide +kernel) rfl rfl ?_
          refine sim_br hC (.ifCond .eq 26) 149 (by decide +kernel) rfl (by decide) ?_ ?_
          · refine sim_blk0 hC [(.aload_n 0, 0, 0, 0, 0)] [(0, vR 0)] [vR 0] r15 150 (by decide +kernel) rfl rfl ?_
            refine sim_vv hC 298 mX11_takeOver 2 21 0 [] [] (by decide +kernel) ml_10_298 rfl rfl rfl rfl rfl rfl (fun wz hz => c_M_takeOver r15 wz hz) (fun w16 => ?_)
            refine sim_blk0 hC [(.iconst 0, 0, 0, 0, 0)] [(0, vR 0)] [vI 0] w16 154 (by decide +kernel) rfl rfl ?_
            exact sim_reti hC (by decide +kernel) trivial
          · refine sim_blk0 hC [(.aload_n 0, 0, 0, 0, 0), (.aload_n 0, 0, 0, 0, 0), (.getfield 211, 0, 22, 0, 0), (.putfield 74, 0, 23, 0, 0)] [(0, vR 0)] [] (wup r15 0 23 (r15 0 22)) 134 (by decide +kernel) rfl rfl ?_
            refine sim_bw (C := fun w17 => (134, [(0, vR 0)], [], w17)) (fun w17 => ?_)
            refine sim_blk2 hC [(.aload_n 0, 0, 0, 0, 0), (.getfield 68, 0, 12, 14, 0), (.iconst 0, 0, 0, 0, 0), (.dup2, 0, 0, 0, 0), (.iaload, 12, 3, 0, 0), (.iconst 1, 0, 0, 0, 1), (.iadd, 0, 0, 0, 0), (.iastore, 12, 3, 0, 0)] [(0, vR 0)] [] (wup w17 12 (Int32.toNatClampNeg 0) ((w17 12 (Int32.toNatClampNeg 0)) + (1 : Int32))) 144 (by decide +kernel) rfl rfl ?_
            refine sim_bw (C := fun w18 => (144, [(0, vR 0)], [], w18)) (fun w18 => ?_)
            refine sim_blk0 hC [(.aload_n 0, 0, 0, 0, 0), (.getfield 208, 0, 21, 0, 0)] [(0, vR 0)] [vI (w18 0 21)] w18 148 (by decide +kernel) rfl rfl ?_
            exact sim_reti hC (by decide +kernel) trivial
    · refine sim_sub hC [0] ?_
      exact s_K_M_house_17 hC w1
theorem c_M_house {Z : ZT} {l : Launch} (w : Wld) (a1 : Int32) (r : Int32) (w1 : Wld) (h : F_M_house w a1 = some (r, w1)) : Con Z l mX11_house 102 1965 [vR 0, vI a1] w (.inr (some r)) w1 :=
  Con_of (oc := 10) (by decide +kernel) rfl rfl (fun Ok hC => s_M_house hC w a1 (r, w1) h ⟨rfl, rfl⟩)
noncomputable def F_M_fault (w : Wld) : Option (Int32 × Wld) :=
  bw (wup w 0 2 0) (fun w1 => some ((w1 0 23, w1)))
set_option maxRecDepth 10000 in
theorem s_M_fault {Z : ZT} {l : Launch} {o : Oc} {wo : Wld} {Ok : Cfg → Prop} (hC : Clo Z l 10 1 prog_13_method_37_code (some .int) 1 0 o wo Ok) (w : Wld) : SimK Ok (0, [(0, vR 0)], [], w) (F_M_fault w) (Gi o wo) := by
  unfold F_M_fault
  refine sim_blk0 hC [(.aload_n 0, 0, 0, 0, 0), (.iconst 0, 0, 0, 0, 0), (.putfield 159, 0, 2, 0, 0)] [(0, vR 0)] [] (wup w 0 2 0) 5 (by decide +kernel) rfl rfl ?_
  refine sim_bw (C := fun w1 => (5, [(0, vR 0)], [], w1)) (fun w1 => ?_)
  refine sim_blk0 hC [(.aload_n 0, 0, 0, 0, 0), (.getfield 74, 0, 23, 0, 0)] [(0, vR 0)] [vI (w1 0 23)] w1 9 (by decide +kernel) rfl rfl ?_
  exact sim_reti hC (by decide +kernel) trivial
theorem c_M_fault {Z : ZT} {l : Launch} (w : Wld) (r : Int32) (w1 : Wld) (h : F_M_fault w = some (r, w1)) : Con Z l mX11_fault 1 0 [vR 0] w (.inr (some r)) w1 :=
  Con_of (oc := 10) (by decide +kernel) rfl rfl (fun Ok hC => s_M_fault hC w (r, w1) h ⟨rfl, rfl⟩)
def V_M_bitsOf_4 (w : Wld) : (Int32 × Int32) → Cfg := fun s => (4, [(1, vI s.1), (2, vI s.2)], [], w)
def E_M_bitsOf_4 (w : Wld) : (Int32) → Cfg := fun s => (20, [(1, vI s)], [], w)
noncomputable def B_M_bitsOf_4 (w : Wld) (s : Int32 × Int32) : Option ((Int32 × Int32) ⊕ (Int32)) :=
  br (s.2 = 0) (some (.inr s.1)) (bi (s.1 + 1) (fun i1 => bi (s.2 &&& (s.2 - (1 : Int32))) (fun i2 => some (.inl ((i1, i2))))))
set_option maxRecDepth 10000 in
theorem s_B_M_bitsOf_4 {Z : ZT} {l : Launch} {o : Oc} {wo : Wld} {Ok : Cfg → Prop} (hC : Clo Z l 10 3 prog_13_method_7_code (some .int) 1 0 o wo Ok) (w : Wld) (s : Int32 × Int32) : SimK Ok (V_M_bitsOf_4 w s) (B_M_bitsOf_4 w s) (GLp Ok (V_M_bitsOf_4 w) (GEp Ok (E_M_bitsOf_4 w))) := by
  unfold B_M_bitsOf_4
  show SimK Ok (4, [(1, vI s.1), (2, vI s.2)], [], w) _ _
  refine sim_blk0 hC [(.iload_n 2, 0, 0, 0, 0)] [(1, vI s.1), (2, vI s.2)] [vI s.2] w 5 (by decide +kernel) rfl rfl ?_
  refine sim_br hC (.ifCond .eq 15) 20 (by decide +kernel) rfl (by decide) ?_ ?_
  · refine sim_sub hC [0] ?_
    exact sim_exit (E := (E_M_bitsOf_4 w)) s.1
  · refine sim_blk0 hC [(.iinc 1 1, 0, 0, 0, 1)] [(1, vI (s.1 + 1)), (2, vI s.2)] [] w 11 (by decide +kernel) rfl rfl ?_
    refine sim_bi (C := fun i1 => (11, [(1, vI i1), (2, vI s.2)], [], w)) (fun i1 => ?_)
    refine sim_blk0 hC [(.iload_n 2, 0, 0, 0, 0), (.iload_n 2, 0, 0, 0, 0), (.iconst 1, 0, 0, 0, 1), (.isub, 0, 0, 0, 0), (.iand, 0, 0, 0, 0), (.istore_n 2, 0, 0, 0, 0)] [(1, vI i1), (2, vI (s.2 &&& (s.2 - (1 : Int32))))] [] w 17 (by decide +kernel) rfl rfl ?_
    refine sim_bi (C := fun i2 => (17, [(1, vI i1), (2, vI i2)], [], w)) (fun i2 => ?_)
    refine sim_goto hC (-13) 4 (by decide +kernel) (by decide) ?_
    exact sim_back (V := (V_M_bitsOf_4 w)) ((i1, i2))
noncomputable def F_M_bitsOf (w : Wld) (a0 : Int32) : Option (Int32) :=
  bl (loop (B_M_bitsOf_4 w) ((0, a0))) (fun r3 => some r3)
set_option maxRecDepth 10000 in
theorem s_M_bitsOf {Z : ZT} {l : Launch} {o : Oc} {wo : Wld} {Ok : Cfg → Prop} (hC : Clo Z l 10 3 prog_13_method_7_code (some .int) 1 0 o wo Ok) (w : Wld) (a0 : Int32) : SimK Ok (0, [(0, vI a0)], [], w) (F_M_bitsOf w a0) (Gp o wo w) := by
  unfold F_M_bitsOf
  refine sim_blk0 hC [(.iconst 0, 0, 0, 0, 0), (.istore_n 1, 0, 0, 0, 0), (.iload_n 0, 0, 0, 0, 0), (.istore_n 2, 0, 0, 0, 0)] [(0, vI a0), (1, vI 0), (2, vI a0)] [] w 4 (by decide +kernel) rfl rfl ?_
  refine sim_bl (E := (E_M_bitsOf_4 w)) ?_ (fun r3 => ?_)
  · refine sim_sub hC [1, 2] ?_
    exact sim_loop (V := (V_M_bitsOf_4 w)) (fun sz => s_B_M_bitsOf_4 hC w sz) ((0, a0))
  · show SimK Ok (20, [(1, vI r3)], [], w) _ _
    refine sim_blk0 hC [(.iload_n 1, 0, 0, 0, 0)] [(1, vI r3)] [vI r3] w 21 (by decide +kernel) rfl rfl ?_
    exact sim_retp hC (by decide +kernel) trivial
theorem c_M_bitsOf {Z : ZT} {l : Launch} (w : Wld) (a0 : Int32) (r : Int32) (h : F_M_bitsOf w a0 = some r) : Con Z l mX11_bitsOf 1 0 [vI a0] w (.inr (some r)) w :=
  Con_of (oc := 10) (by decide +kernel) rfl rfl (fun Ok hC => s_M_bitsOf hC w a0 r h ⟨rfl, rfl⟩)
def V_M_metMany_4 (w : Wld) : (Int32 × Int32) → Cfg := fun s => (4, [(0, vR 0), (1, vI s.1), (2, vI s.2)], [], w)
def E_M_metMany_4 (w : Wld) : (Int32) → Cfg := fun s => (32, [(1, vI s)], [], w)
noncomputable def B_M_metMany_4 (w : Wld) (s : Int32 × Int32) : Option ((Int32 × Int32) ⊕ (Int32)) :=
  gd (vp_in 1 10) (br ((w 3 (Int32.toNatClampNeg 1)) ≤ s.2) (some (.inr s.1)) (gd (vp_in s.2 8) (bp (F_M_bitsOf w (w 17 (Int32.toNatClampNeg s.2))) (fun i1 => bi (s.1 + i1) (fun i2 => bi (s.2 + 1) (fun i3 => some (.inl ((i2, i3)))))))))
set_option maxRecDepth 10000 in
theorem s_B_M_metMany_4 {Z : ZT} {l : Launch} {o : Oc} {wo : Wld} {Ok : Cfg → Prop} (hC : Clo Z l 10 3 prog_13_method_49_code (some .int) 2 22 o wo Ok) (w : Wld) (s : Int32 × Int32) : SimK Ok (V_M_metMany_4 w s) (B_M_metMany_4 w s) (GLp Ok (V_M_metMany_4 w) (GEp Ok (E_M_metMany_4 w))) := by
  unfold B_M_metMany_4
  show SimK Ok (4, [(0, vR 0), (1, vI s.1), (2, vI s.2)], [], w) _ _
  refine sim_blk1 hC [(.iload_n 2, 0, 0, 0, 0), (.aload_n 0, 0, 0, 0, 0), (.getfield 42, 0, 3, 5, 0), (.iconst 1, 0, 0, 0, 1), (.iaload, 3, 10, 0, 0)] [(0, vR 0), (1, vI s.1), (2, vI s.2)] [vI (w 3 (Int32.toNatClampNeg 1)), vI s.2] w 11 (by decide +kernel) rfl rfl ?_
  refine sim_br hC (.if_icmp .ge 21) 32 (by decide +kernel) rfl (by decide) ?_ ?_
  · refine sim_sub hC [1] ?_
    exact sim_exit (E := (E_M_metMany_4 w)) s.1
  · refine sim_blk1 hC [(.iload_n 1, 0, 0, 0, 0), (.aload_n 0, 0, 0, 0, 0), (.getfield 87, 0, 27, 19, 0), (.iload_n 2, 0, 0, 0, 0), (.iaload, 17, 8, 0, 0)] [(0, vR 0), (1, vI s.1), (2, vI s.2)] [vI (w 17 (Int32.toNatClampNeg s.2)), vI s.1] w 21 (by decide +kernel) rfl rfl ?_
    refine sim_sp hC 332 mX11_bitsOf 1 0 [vI (w 17 (Int32.toNatClampNeg s.2))] [vI s.1] (by decide +kernel) ml_10_332 rfl rfl rfl rfl rfl (fun rz hz => c_M_bitsOf w (w 17 (Int32.toNatClampNeg s.2)) rz hz) (fun i1 => ?_)
    refine sim_blk0 hC [(.iadd, 0, 0, 0, 0), (.istore_n 1, 0, 0, 0, 0)] [(0, vR 0), (1, vI (s.1 + i1)), (2, vI s.2)] [] w 26 (by decide +kernel) rfl rfl ?_
    refine sim_bi (C := fun i2 => (26, [(0, vR 0), (1, vI i2), (2, vI s.2)], [], w)) (fun i2 => ?_)
    refine sim_blk0 hC [(.iinc 2 1, 0, 0, 0, 1)] [(0, vR 0), (1, vI i2), (2, vI (s.2 + 1))] [] w 29 (by decide +kernel) rfl rfl ?_
    refine sim_bi (C := fun i3 => (29, [(0, vR 0), (1, vI i2), (2, vI i3)], [], w)) (fun i3 => ?_)
    refine sim_goto hC (-25) 4 (by decide +kernel) (by decide) ?_
    exact sim_back (V := (V_M_metMany_4 w)) ((i2, i3))
noncomputable def F_M_metMany (w : Wld) : Option (Int32) :=
  bl (loop (B_M_metMany_4 w) ((0, 0))) (fun r4 => gd (¬ (2 : Int32) = 0) (some (r4 / (2 : Int32))))
set_option maxRecDepth 10000 in
theorem s_M_metMany {Z : ZT} {l : Launch} {o : Oc} {wo : Wld} {Ok : Cfg → Prop} (hC : Clo Z l 10 3 prog_13_method_49_code (some .int) 2 22 o wo Ok) (w : Wld) : SimK Ok (0, [(0, vR 0)], [], w) (F_M_metMany w) (Gp o wo w) := by
  unfold F_M_metMany
  refine sim_blk0 hC [(.iconst 0, 0, 0, 0, 0), (.istore_n 1, 0, 0, 0, 0), (.iconst 0, 0, 0, 0, 0), (.istore_n 2, 0, 0, 0, 0)] [(0, vR 0), (1, vI 0), (2, vI 0)] [] w 4 (by decide +kernel) rfl rfl ?_
  refine sim_bl (E := (E_M_metMany_4 w)) ?_ (fun r4 => ?_)
  · exact sim_loop (V := (V_M_metMany_4 w)) (fun sz => s_B_M_metMany_4 hC w sz) ((0, 0))
  · show SimK Ok (32, [(1, vI r4)], [], w) _ _
    refine sim_blk1 hC [(.iload_n 1, 0, 0, 0, 0), (.iconst 2, 0, 0, 0, 2), (.idiv, 0, 0, 0, 0)] [(1, vI r4)] [vI (r4 / (2 : Int32))] w 35 (by decide +kernel) rfl rfl ?_
    exact sim_retp hC (by decide +kernel) trivial
theorem c_M_metMany {Z : ZT} {l : Launch} (w : Wld) (r : Int32) (h : F_M_metMany w = some r) : Con Z l mX11_metMany 2 22 [vR 0] w (.inr (some r)) w :=
  Con_of (oc := 10) (by decide +kernel) rfl rfl (fun Ok hC => s_M_metMany hC w r h ⟨rfl, rfl⟩)
def V_M_alone_4 (w : Wld) : (Int32 × Int32) → Cfg := fun s => (4, [(0, vR 0), (1, vI s.1), (2, vI s.2)], [], w)
def E_M_alone_4 (w : Wld) : (Int32) → Cfg := fun s => (39, [(1, vI s)], [], w)
noncomputable def K_M_alone_31 (a2 : Int32) (t0 : Int32) (t1 : Int32) (w : Wld) : Option ((Int32 × Int32) ⊕ (Int32)) :=
  bi (t0 ||| t1) (fun i1 => bi (a2 + 1) (fun i2 => some (.inl ((i1, i2)))))
set_option maxRecDepth 10000 in
theorem s_K_M_alone_31 {Z : ZT} {l : Launch} {o : Oc} {wo : Wld} {Ok : Cfg → Prop} (hC : Clo Z l 10 3 prog_13_method_50_code (some .int) 1 0 o wo Ok) (a2 : Int32) (t0 : Int32) (t1 : Int32) (w : Wld) : SimK Ok (31, [(0, vR 0), (2, vI a2)], [vI t1, vI t0], w) (K_M_alone_31 a2 t0 t1 w) (GLp Ok (V_M_alone_4 w) (GEp Ok (E_M_alone_4 w))) := by
  unfold K_M_alone_31
  refine sim_blk0 hC [(.ior, 0, 0, 0, 0), (.istore_n 1, 0, 0, 0, 0)] [(0, vR 0), (1, vI (t0 ||| t1)), (2, vI a2)] [] w 33 (by decide +kernel) rfl rfl ?_
  refine sim_bi (C := fun i1 => (33, [(0, vR 0), (1, vI i1), (2, vI a2)], [], w)) (fun i1 => ?_)
  refine sim_blk0 hC [(.iinc 2 1, 0, 0, 0, 1)] [(0, vR 0), (1, vI i1), (2, vI (a2 + 1))] [] w 36 (by decide +kernel) rfl rfl ?_
  refine sim_bi (C := fun i2 => (36, [(0, vR 0), (1, vI i1), (2, vI i2)], [], w)) (fun i2 => ?_)
  refine sim_goto hC (-32) 4 (by decide +kernel) (by decide) ?_
  exact sim_back (V := (V_M_alone_4 w)) ((i1, i2))
noncomputable def B_M_alone_4 (w : Wld) (s : Int32 × Int32) : Option ((Int32 × Int32) ⊕ (Int32)) :=
  gd (vp_in 1 10) (br ((w 3 (Int32.toNatClampNeg 1)) ≤ s.2) (some (.inr s.1)) (gd (vp_in s.2 8) (br (¬ (w 17 (Int32.toNatClampNeg s.2)) = 0) (K_M_alone_31 s.2 s.1 0 w) (K_M_alone_31 s.2 s.1 ((1 : Int32) <<< (s.2 &&& 31)) w))))
set_option maxRecDepth 10000 in
theorem s_B_M_alone_4 {Z : ZT} {l : Launch} {o : Oc} {wo : Wld} {Ok : Cfg → Prop} (hC : Clo Z l 10 3 prog_13_method_50_code (some .int) 1 0 o wo Ok) (w : Wld) (s : Int32 × Int32) : SimK Ok (V_M_alone_4 w s) (B_M_alone_4 w s) (GLp Ok (V_M_alone_4 w) (GEp Ok (E_M_alone_4 w))) := by
  unfold B_M_alone_4
  show SimK Ok (4, [(0, vR 0), (1, vI s.1), (2, vI s.2)], [], w) _ _
  refine sim_blk1 hC [(.iload_n 2, 0, 0, 0, 0), (.aload_n 0, 0, 0, 0, 0), (.getfield 42, 0, 3, 5, 0), (.iconst 1, 0, 0, 0, 1), (.iaload, 3, 10, 0, 0)] [(0, vR 0), (1, vI s.1), (2, vI s.2)] [vI (w 3 (Int32.toNatClampNeg 1)), vI s.2] w 11 (by decide +kernel) rfl rfl ?_
  refine sim_br hC (.if_icmp .ge 28) 39 (by decide +kernel) rfl (by decide) ?_ ?_
  · refine sim_sub hC [1] ?_
    exact sim_exit (E := (E_M_alone_4 w)) s.1
  · refine sim_blk1 hC [(.iload_n 1, 0, 0, 0, 0), (.aload_n 0, 0, 0, 0, 0), (.getfield 87, 0, 27, 19, 0), (.iload_n 2, 0, 0, 0, 0), (.iaload, 17, 8, 0, 0)] [(0, vR 0), (1, vI s.1), (2, vI s.2)] [vI (w 17 (Int32.toNatClampNeg s.2)), vI s.1] w 21 (by decide +kernel) rfl rfl ?_
    refine sim_br hC (.ifCond .ne 9) 30 (by decide +kernel) rfl (by decide) ?_ ?_
    · refine sim_blk0 hC [(.iconst 0, 0, 0, 0, 0)] [(0, vR 0), (1, vI s.1), (2, vI s.2)] [vI 0, vI s.1] w 31 (by decide +kernel) rfl rfl ?_
      refine sim_sub hC [0, 2] ?_
      exact s_K_M_alone_31 hC s.2 s.1 0 w
    · refine sim_blk0 hC [(.iconst 1, 0, 0, 0, 1), (.iload_n 2, 0, 0, 0, 0), (.ishl, 0, 0, 0, 0)] [(0, vR 0), (1, vI s.1), (2, vI s.2)] [vI ((1 : Int32) <<< (s.2 &&& 31)), vI s.1] w 27 (by decide +kernel) rfl rfl ?_
      refine sim_goto hC 4 31 (by decide +kernel) (by decide) ?_
      refine sim_sub hC [0, 2] ?_
      exact s_K_M_alone_31 hC s.2 s.1 ((1 : Int32) <<< (s.2 &&& 31)) w
noncomputable def F_M_alone (w : Wld) : Option (Int32) :=
  bl (loop (B_M_alone_4 w) ((0, 0))) (fun r3 => some r3)
set_option maxRecDepth 10000 in
theorem s_M_alone {Z : ZT} {l : Launch} {o : Oc} {wo : Wld} {Ok : Cfg → Prop} (hC : Clo Z l 10 3 prog_13_method_50_code (some .int) 1 0 o wo Ok) (w : Wld) : SimK Ok (0, [(0, vR 0)], [], w) (F_M_alone w) (Gp o wo w) := by
  unfold F_M_alone
  refine sim_blk0 hC [(.iconst 0, 0, 0, 0, 0), (.istore_n 1, 0, 0, 0, 0), (.iconst 0, 0, 0, 0, 0), (.istore_n 2, 0, 0, 0, 0)] [(0, vR 0), (1, vI 0), (2, vI 0)] [] w 4 (by decide +kernel) rfl rfl ?_
  refine sim_bl (E := (E_M_alone_4 w)) ?_ (fun r3 => ?_)
  · exact sim_loop (V := (V_M_alone_4 w)) (fun sz => s_B_M_alone_4 hC w sz) ((0, 0))
  · show SimK Ok (39, [(1, vI r3)], [], w) _ _
    refine sim_blk0 hC [(.iload_n 1, 0, 0, 0, 0)] [(1, vI r3)] [vI r3] w 40 (by decide +kernel) rfl rfl ?_
    exact sim_retp hC (by decide +kernel) trivial
theorem c_M_alone {Z : ZT} {l : Launch} (w : Wld) (r : Int32) (h : F_M_alone w = some r) : Con Z l mX11_alone 1 0 [vR 0] w (.inr (some r)) w :=
  Con_of (oc := 10) (by decide +kernel) rfl rfl (fun Ok hC => s_M_alone hC w r h ⟨rfl, rfl⟩)
noncomputable def K_M_count_80 (a1 : Int32) (w : Wld) : Option (Int32 × Wld) :=
  gd (vp_in a1 10) (some ((w 3 (Int32.toNatClampNeg a1), w)))
set_option maxRecDepth 10000 in
theorem s_K_M_count_80 {Z : ZT} {l : Launch} {o : Oc} {wo : Wld} {Ok : Cfg → Prop} (hC : Clo Z l 10 2 prog_13_method_51_code (some .int) 3 44 o wo Ok) (a1 : Int32) (w : Wld) : SimK Ok (80, [(0, vR 0), (1, vI a1)], [], w) (K_M_count_80 a1 w) (Gi o wo) := by
  unfold K_M_count_80
  refine sim_blk1 hC [(.aload_n 0, 0, 0, 0, 0), (.getfield 42, 0, 3, 5, 0), (.iload_n 1, 0, 0, 0, 0), (.iaload, 3, 10, 0, 0)] [(0, vR 0), (1, vI a1)] [vI (w 3 (Int32.toNatClampNeg a1))] w 86 (by decide +kernel) rfl rfl ?_
  exact sim_reti hC (by decide +kernel) trivial
noncomputable def K_M_count_127 (a1 : Int32) (w : Wld) : Option (Int32 × Wld) :=
  gd (vp_in (a1 - (12 : Int32)) 3) (some ((w 12 (Int32.toNatClampNeg (a1 - (12 : Int32))), w)))
set_option maxRecDepth 10000 in
theorem s_K_M_count_127 {Z : ZT} {l : Launch} {o : Oc} {wo : Wld} {Ok : Cfg → Prop} (hC : Clo Z l 10 2 prog_13_method_51_code (some .int) 3 44 o wo Ok) (a1 : Int32) (w : Wld) : SimK Ok (127, [(0, vR 0), (1, vI a1)], [], w) (K_M_count_127 a1 w) (Gi o wo) := by
  unfold K_M_count_127
  refine sim_blk1 hC [(.aload_n 0, 0, 0, 0, 0), (.getfield 68, 0, 12, 14, 0), (.iload_n 1, 0, 0, 0, 0), (.bipush 12, 0, 0, 0, 12), (.isub, 0, 0, 0, 0), (.iaload, 12, 3, 0, 0)] [(0, vR 0), (1, vI a1)] [vI (w 12 (Int32.toNatClampNeg (a1 - (12 : Int32))))] w 136 (by decide +kernel) rfl rfl ?_
  exact sim_reti hC (by decide +kernel) trivial
noncomputable def F_M_count (w : Wld) (a1 : Int32) : Option (Int32 × Wld) :=
  bw (wup w 0 2 0) (fun w1 => br (a1 = 0) (K_M_count_80 a1 w1) (br (a1 = 1) (K_M_count_80 a1 w1) (br (a1 = 2) (K_M_count_80 a1 w1) (br (a1 = 3) (K_M_count_80 a1 w1) (br (a1 = 4) (some ((w1 0 31, w1))) (br (a1 = 5) (some ((w1 0 32, w1))) (br (a1 = 6) (some ((w1 0 33, w1))) (br (a1 = 7) (bp (F_M_alone w1) (fun i4 => some ((i4, w1)))) (br (a1 = 8) (bp (F_M_metMany w1) (fun i5 => some ((i5, w1)))) (br (a1 = 9) (some ((w1 0 34, w1))) (br (a1 = 10) (some ((w1 0 35, w1))) (br (a1 = 11) (some ((w1 0 14, w1))) (br (a1 = 12) (K_M_count_127 a1 w1) (br (a1 = 13) (K_M_count_127 a1 w1) (br (a1 = 14) (K_M_count_127 a1 w1) (bd (F_M_fail w1 1) (fun i2 w3 => some ((i2, w3)))))))))))))))))))
set_option maxRecDepth 10000 in
theorem s_M_count {Z : ZT} {l : Launch} {o : Oc} {wo : Wld} {Ok : Cfg → Prop} (hC : Clo Z l 10 2 prog_13_method_51_code (some .int) 3 44 o wo Ok) (w : Wld) (a1 : Int32) : SimK Ok (0, [(0, vR 0), (1, vI a1)], [], w) (F_M_count w a1) (Gi o wo) := by
  unfold F_M_count
  refine sim_blk0 hC [(.aload_n 0, 0, 0, 0, 0), (.iconst 0, 0, 0, 0, 0), (.putfield 159, 0, 2, 0, 0)] [(0, vR 0), (1, vI a1)] [] (wup w 0 2 0) 5 (by decide +kernel) rfl rfl ?_
  refine sim_bw (C := fun w1 => (5, [(0, vR 0), (1, vI a1)], [], w1)) (fun w1 => ?_)
  refine sim_blk0 hC [(.iload_n 1, 0, 0, 0, 0)] [(0, vR 0), (1, vI a1)] [vI a1] w1 6 (by decide +kernel) rfl rfl ?_
  refine sim_cases (fun h0 => ?_) (fun h0 => ?_)
  · refine sim_case hC 131 0 14 #[74, 74, 74, 74, 81, 86, 91, 96, 101, 106, 111, 116, 121, 121, 121] 74 74 80 h0 (by decide +kernel) (by decide) (by decide) (by decide +kernel) (by decide) ?_
    exact s_K_M_count_80 hC a1 w1
  · refine sim_cases (fun h1 => ?_) (fun h1 => ?_)
    · refine sim_case hC 131 0 14 #[74, 74, 74, 74, 81, 86, 91, 96, 101, 106, 111, 116, 121, 121, 121] 74 74 80 h1 (by decide +kernel) (by decide) (by decide) (by decide +kernel) (by decide) ?_
      exact s_K_M_count_80 hC a1 w1
    · refine sim_cases (fun h2 => ?_) (fun h2 => ?_)
      · refine sim_case hC 131 0 14 #[74, 74, 74, 74, 81, 86, 91, 96, 101, 106, 111, 116, 121, 121, 121] 74 74 80 h2 (by decide +kernel) (by decide) (by decide) (by decide +kernel) (by decide) ?_
        exact s_K_M_count_80 hC a1 w1
      · refine sim_cases (fun h3 => ?_) (fun h3 => ?_)
        · refine sim_case hC 131 0 14 #[74, 74, 74, 74, 81, 86, 91, 96, 101, 106, 111, 116, 121, 121, 121] 74 74 80 h3 (by decide +kernel) (by decide) (by decide) (by decide +kernel) (by decide) ?_
          exact s_K_M_count_80 hC a1 w1
        · refine sim_cases (fun h4 => ?_) (fun h4 => ?_)
          · refine sim_case hC 131 0 14 #[74, 74, 74, 74, 81, 86, 91, 96, 101, 106, 111, 116, 121, 121, 121] 74 81 87 h4 (by decide +kernel) (by decide) (by decide) (by decide +kernel) (by decide) ?_
            refine sim_blk0 hC [(.aload_n 0, 0, 0, 0, 0), (.getfield 305, 0, 31, 0, 0)] [(0, vR 0), (1, vI a1)] [vI (w1 0 31)] w1 91 (by decide +kernel) rfl rfl ?_
            exact sim_reti hC (by decide +kernel) trivial
          · refine sim_cases (fun h5 => ?_) (fun h5 => ?_)
            · refine sim_case hC 131 0 14 #[74, 74, 74, 74, 81, 86, 91, 96, 101, 106, 111, 116, 121, 121, 121] 74 86 92 h5 (by decide +kernel) (by decide) (by decide) (by decide +kernel) (by decide) ?_
              refine sim_blk0 hC [(.aload_n 0, 0, 0, 0, 0), (.getfield 307, 0, 32, 0, 0)] [(0, vR 0), (1, vI a1)] [vI (w1 0 32)] w1 96 (by decide +kernel) rfl rfl ?_
              exact sim_reti hC (by decide +kernel) trivial
            · refine sim_cases (fun h6 => ?_) (fun h6 => ?_)
              · refine sim_case hC 131 0 14 #[74, 74, 74, 74, 81, 86, 91, 96, 101, 106, 111, 116, 121, 121, 121] 74 91 97 h6 (by decide +kernel) (by decide) (by decide) (by decide +kernel) (by decide) ?_
                refine sim_blk0 hC [(.aload_n 0, 0, 0, 0, 0), (.getfield 309, 0, 33, 0, 0)] [(0, vR 0), (1, vI a1)] [vI (w1 0 33)] w1 101 (by decide +kernel) rfl rfl ?_
                exact sim_reti hC (by decide +kernel) trivial
              · refine sim_cases (fun h7 => ?_) (fun h7 => ?_)
                · refine sim_case hC 131 0 14 #[74, 74, 74, 74, 81, 86, 91, 96, 101, 106, 111, 116, 121, 121, 121] 74 96 102 h7 (by decide +kernel) (by decide) (by decide) (by decide +kernel) (by decide) ?_
                  refine sim_blk0 hC [(.aload_n 0, 0, 0, 0, 0)] [(0, vR 0), (1, vI a1)] [vR 0] w1 103 (by decide +kernel) rfl rfl ?_
                  refine sim_vp hC 365 mX11_alone 1 0 0 [] [] (by decide +kernel) ml_10_365 rfl rfl rfl rfl rfl rfl (fun rz hz => c_M_alone w1 rz hz) (fun i4 => ?_)
                  exact sim_reti hC (by decide +kernel) trivial
                · refine sim_cases (fun h8 => ?_) (fun h8 => ?_)
                  · refine sim_case hC 131 0 14 #[74, 74, 74, 74, 81, 86, 91, 96, 101, 106, 111, 116, 121, 121, 121] 74 101 107 h8 (by decide +kernel) (by decide) (by decide) (by decide +kernel) (by decide) ?_
                    refine sim_blk0 hC [(.aload_n 0, 0, 0, 0, 0)] [(0, vR 0), (1, vI a1)] [vR 0] w1 108 (by decide +kernel) rfl rfl ?_
                    refine sim_vp hC 368 mX11_metMany 2 22 0 [] [] (by decide +kernel) ml_10_368 rfl rfl rfl rfl rfl rfl (fun rz hz => c_M_metMany w1 rz hz) (fun i5 => ?_)
                    exact sim_reti hC (by decide +kernel) trivial
                  · refine sim_cases (fun h9 => ?_) (fun h9 => ?_)
                    · refine sim_case hC 131 0 14 #[74, 74, 74, 74, 81, 86, 91, 96, 101, 106, 111, 116, 121, 121, 121] 74 106 112 h9 (by decide +kernel) (by decide) (by decide) (by decide +kernel) (by decide) ?_
                      refine sim_blk0 hC [(.aload_n 0, 0, 0, 0, 0), (.getfield 312, 0, 34, 0, 0)] [(0, vR 0), (1, vI a1)] [vI (w1 0 34)] w1 116 (by decide +kernel) rfl rfl ?_
                      exact sim_reti hC (by decide +kernel) trivial
                    · refine sim_cases (fun h10 => ?_) (fun h10 => ?_)
                      · refine sim_case hC 131 0 14 #[74, 74, 74, 74, 81, 86, 91, 96, 101, 106, 111, 116, 121, 121, 121] 74 111 117 h10 (by decide +kernel) (by decide) (by decide) (by decide +kernel) (by decide) ?_
                        refine sim_blk0 hC [(.aload_n 0, 0, 0, 0, 0), (.getfield 315, 0, 35, 0, 0)] [(0, vR 0), (1, vI a1)] [vI (w1 0 35)] w1 121 (by decide +kernel) rfl rfl ?_
                        exact sim_reti hC (by decide +kernel) trivial
                      · refine sim_cases (fun h11 => ?_) (fun h11 => ?_)
                        · refine sim_case hC 131 0 14 #[74, 74, 74, 74, 81, 86, 91, 96, 101, 106, 111, 116, 121, 121, 121] 74 116 122 h11 (by decide +kernel) (by decide) (by decide) (by decide +kernel) (by decide) ?_
                          refine sim_blk0 hC [(.aload_n 0, 0, 0, 0, 0), (.getfield 166, 0, 14, 0, 0)] [(0, vR 0), (1, vI a1)] [vI (w1 0 14)] w1 126 (by decide +kernel) rfl rfl ?_
                          exact sim_reti hC (by decide +kernel) trivial
                        · refine sim_cases (fun h12 => ?_) (fun h12 => ?_)
                          · refine sim_case hC 131 0 14 #[74, 74, 74, 74, 81, 86, 91, 96, 101, 106, 111, 116, 121, 121, 121] 74 121 127 h12 (by decide +kernel) (by decide) (by decide) (by decide +kernel) (by decide) ?_
                            exact s_K_M_count_127 hC a1 w1
                          · refine sim_cases (fun h13 => ?_) (fun h13 => ?_)
                            · refine sim_case hC 131 0 14 #[74, 74, 74, 74, 81, 86, 91, 96, 101, 106, 111, 116, 121, 121, 121] 74 121 127 h13 (by decide +kernel) (by decide) (by decide) (by decide +kernel) (by decide) ?_
                              exact s_K_M_count_127 hC a1 w1
                            · refine sim_cases (fun h14 => ?_) (fun h14 => ?_)
                              · refine sim_case hC 131 0 14 #[74, 74, 74, 74, 81, 86, 91, 96, 101, 106, 111, 116, 121, 121, 121] 74 121 127 h14 (by decide +kernel) (by decide) (by decide) (by decide +kernel) (by decide) ?_
                                exact s_K_M_count_127 hC a1 w1
                              · refine sim_dflt hC 131 0 14 #[74, 74, 74, 74, 81, 86, 91, 96, 101, 106, 111, 116, 121, 121, 121] 74 137 (by decide +kernel) (sw_out [0, 1, 2, 3, 4, 5, 6, 7, 8, 9, 10, 11, 12, 13, 14] 0 14 (by decide +kernel) (List.forall_mem_cons.mpr ⟨h0, List.forall_mem_cons.mpr ⟨h1, List.forall_mem_cons.mpr ⟨h2, List.forall_mem_cons.mpr ⟨h3, List.forall_mem_cons.mpr ⟨h4, List.forall_mem_cons.mpr ⟨h5, List.forall_mem_cons.mpr ⟨h6, List.forall_mem_cons.mpr ⟨h7, List.forall_mem_cons.mpr ⟨h8, List.forall_mem_cons.mpr ⟨h9, List.forall_mem_cons.mpr ⟨h10, List.forall_mem_cons.mpr ⟨h11, List.forall_mem_cons.mpr ⟨h12, List.forall_mem_cons.mpr ⟨h13, List.forall_mem_cons.mpr ⟨h14, fun _ h => absurd h List.not_mem_nil⟩⟩⟩⟩⟩⟩⟩⟩⟩⟩⟩⟩⟩⟩⟩)) (by decide) ?_
                                refine sim_blk0 hC [(.aload_n 0, 0, 0, 0, 0), (.iconst 1, 0, 0, 0, 1)] [(0, vR 0), (1, vI a1)] [vI 1, vR 0] w1 139 (by decide +kernel) rfl rfl ?_
                                refine sim_vd hC 292 mX11_fail 1 0 0 [vI 1] [] (by decide +kernel) ml_10_292 rfl rfl rfl rfl rfl rfl (fun rz wz hz => c_M_fail w1 1 rz wz hz) (fun i2 w3 => ?_)
                                exact sim_reti hC (by decide +kernel) trivial
theorem c_M_count {Z : ZT} {l : Launch} (w : Wld) (a1 : Int32) (r : Int32) (w1 : Wld) (h : F_M_count w a1 = some (r, w1)) : Con Z l mX11_count 3 44 [vR 0, vI a1] w (.inr (some r)) w1 :=
  Con_of (oc := 10) (by decide +kernel) rfl rfl (fun Ok hC => s_M_count hC w a1 (r, w1) h ⟨rfl, rfl⟩)
noncomputable def K_M_isIn_18 (t0 : Int32) (w : Wld) : Option (Int32) :=
  gd (t0 = 0 ∨ t0 = 1) (some t0)
set_option maxRecDepth 10000 in
theorem s_K_M_isIn_18 {Z : ZT} {l : Launch} {o : Oc} {wo : Wld} {Ok : Cfg → Prop} (hC : Clo Z l 10 6 prog_13_method_5_code (some .boolean) 1 0 o wo Ok) (t0 : Int32) (w : Wld) : SimK Ok (18, [], [vI t0], w) (K_M_isIn_18 t0 w) (Gp o wo w) := by
  unfold K_M_isIn_18
  exact sim_retpz hC (by decide +kernel) rfl
noncomputable def K_M_isIn_17 (w : Wld) : Option (Int32) :=
  K_M_isIn_18 0 w
set_option maxRecDepth 10000 in
theorem s_K_M_isIn_17 {Z : ZT} {l : Launch} {o : Oc} {wo : Wld} {Ok : Cfg → Prop} (hC : Clo Z l 10 6 prog_13_method_5_code (some .boolean) 1 0 o wo Ok) (w : Wld) : SimK Ok (17, [], [], w) (K_M_isIn_17 w) (Gp o wo w) := by
  unfold K_M_isIn_17
  refine sim_blk0 hC [(.iconst 0, 0, 0, 0, 0)] [] [vI 0] w 18 (by decide +kernel) rfl rfl ?_
  exact s_K_M_isIn_18 hC 0 w
noncomputable def F_M_isIn (w : Wld) (a0 : Int64) (a2 : Int64) (a4 : Int64) : Option (Int32) :=
  br ((lg_cmp a0 a2) < 0) (K_M_isIn_17 w) (br (0 < (lg_cmp a0 a4)) (K_M_isIn_17 w) (K_M_isIn_18 1 w))
set_option maxRecDepth 10000 in
theorem s_M_isIn {Z : ZT} {l : Launch} {o : Oc} {wo : Wld} {Ok : Cfg → Prop} (hC : Clo Z l 10 6 prog_13_method_5_code (some .boolean) 1 0 o wo Ok) (w : Wld) (a0 : Int64) (a2 : Int64) (a4 : Int64) : SimK Ok (0, [(0, vL a0), (2, vL a2), (4, vL a4)], [], w) (F_M_isIn w a0 a2 a4) (Gp o wo w) := by
  unfold F_M_isIn
  refine sim_blk0 hC [(.lload_n 0, 0, 0, 0, 0), (.lload_n 2, 0, 0, 0, 0), (.lcmp, 0, 0, 0, 0)] [(0, vL a0), (2, vL a2), (4, vL a4)] [vI (lg_cmp a0 a2)] w 3 (by decide +kernel) rfl rfl ?_
  refine sim_br hC (.ifCond .lt 14) 17 (by decide +kernel) rfl (by decide) ?_ ?_
  · refine sim_sub hC [] ?_
    exact s_K_M_isIn_17 hC w
  · refine sim_blk0 hC [(.lload_n 0, 0, 0, 0, 0), (.lload 4, 0, 0, 0, 0), (.lcmp, 0, 0, 0, 0)] [(0, vL a0), (2, vL a2), (4, vL a4)] [vI (lg_cmp a0 a4)] w 10 (by decide +kernel) rfl rfl ?_
    refine sim_br hC (.ifCond .gt 7) 17 (by decide +kernel) rfl (by decide) ?_ ?_
    · refine sim_sub hC [] ?_
      exact s_K_M_isIn_17 hC w
    · refine sim_blk0 hC [(.iconst 1, 0, 0, 0, 1)] [(0, vL a0), (2, vL a2), (4, vL a4)] [vI 1] w 14 (by decide +kernel) rfl rfl ?_
      refine sim_goto hC 4 18 (by decide +kernel) (by decide) ?_
      refine sim_sub hC [] ?_
      exact s_K_M_isIn_18 hC 1 w
theorem c_M_isIn {Z : ZT} {l : Launch} (w : Wld) (a0 : Int64) (a2 : Int64) (a4 : Int64) (r : Int32) (h : F_M_isIn w a0 a2 a4 = some r) : Con Z l mX11_isIn 1 0 [vL a0, vL a2, vL a4] w (.inr (some r)) w :=
  Con_of (oc := 10) (by decide +kernel) rfl rfl (fun Ok hC => s_M_isIn hC w a0 a2 a4 r h ⟨rfl, rfl⟩)
noncomputable def F_M_isRoom (w : Wld) (a1 : Int32) : Option (Int32) :=
  gd (vp_in 0 10) (bp (F_M_isIn w (Int32.toInt64 a1) (Int32.toInt64 0) (Int32.toInt64 ((w 3 (Int32.toNatClampNeg 0)) - (1 : Int32)))) (fun i1 => gd (i1 = 0 ∨ i1 = 1) (some i1)))
set_option maxRecDepth 10000 in
theorem s_M_isRoom {Z : ZT} {l : Launch} {o : Oc} {wo : Wld} {Ok : Cfg → Prop} (hC : Clo Z l 10 2 prog_13_method_8_code (some .boolean) 2 25 o wo Ok) (w : Wld) (a1 : Int32) : SimK Ok (0, [(0, vR 0), (1, vI a1)], [], w) (F_M_isRoom w a1) (Gp o wo w) := by
  unfold F_M_isRoom
  refine sim_blk1 hC [(.iload_n 1, 0, 0, 0, 0), (.i2l, 0, 0, 0, 0), (.lconst 0, 0, 0, 0, 0), (.aload_n 0, 0, 0, 0, 0), (.getfield 42, 0, 3, 5, 0), (.iconst 0, 0, 0, 0, 0), (.iaload, 3, 10, 0, 0), (.iconst 1, 0, 0, 0, 1), (.isub, 0, 0, 0, 0), (.i2l, 0, 0, 0, 0)] [(0, vR 0), (1, vI a1)] [vL (Int32.toInt64 ((w 3 (Int32.toNatClampNeg 0)) - (1 : Int32))), vL (Int32.toInt64 0), vL (Int32.toInt64 a1)] w 12 (by decide +kernel) rfl rfl ?_
  refine sim_sp hC 162 mX11_isIn 1 0 [vL (Int32.toInt64 a1), vL (Int32.toInt64 0), vL (Int32.toInt64 ((w 3 (Int32.toNatClampNeg 0)) - (1 : Int32)))] [] (by decide +kernel) ml_10_162 rfl rfl rfl rfl rfl (fun rz hz => c_M_isIn w (Int32.toInt64 a1) (Int32.toInt64 0) (Int32.toInt64 ((w 3 (Int32.toNatClampNeg 0)) - (1 : Int32))) rz hz) (fun i1 => ?_)
  exact sim_retpz hC (by decide +kernel) rfl
theorem c_M_isRoom {Z : ZT} {l : Launch} (w : Wld) (a1 : Int32) (r : Int32) (h : F_M_isRoom w a1 = some r) : Con Z l mX11_isRoom 2 25 [vR 0, vI a1] w (.inr (some r)) w :=
  Con_of (oc := 10) (by decide +kernel) rfl rfl (fun Ok hC => s_M_isRoom hC w a1 r h ⟨rfl, rfl⟩)
def V_M_those_4 (a1 : Int32) (w : Wld) : (Int32 × Int32) → Cfg := fun s => (4, [(0, vR 0), (1, vI a1), (2, vI s.1), (3, vI s.2)], [], w)
def E_M_those_4 (a1 : Int32) (w : Wld) : (Int32) → Cfg := fun s => (40, [(2, vI s)], [], w)
noncomputable def K_M_those_32 (a1 : Int32) (a3 : Int32) (t0 : Int32) (t1 : Int32) (w : Wld) : Option ((Int32 × Int32) ⊕ (Int32)) :=
  bi (t0 ||| t1) (fun i1 => bi (a3 + 1) (fun i2 => some (.inl ((i1, i2)))))
set_option maxRecDepth 10000 in
theorem s_K_M_those_32 {Z : ZT} {l : Launch} {o : Oc} {wo : Wld} {Ok : Cfg → Prop} (hC : Clo Z l 10 4 prog_13_method_42_code (some .int) 1 0 o wo Ok) (a1 : Int32) (a3 : Int32) (t0 : Int32) (t1 : Int32) (w : Wld) : SimK Ok (32, [(0, vR 0), (1, vI a1), (3, vI a3)], [vI t1, vI t0], w) (K_M_those_32 a1 a3 t0 t1 w) (GLp Ok (V_M_those_4 a1 w) (GEp Ok (E_M_those_4 a1 w))) := by
  unfold K_M_those_32
  refine sim_blk0 hC [(.ior, 0, 0, 0, 0), (.istore_n 2, 0, 0, 0, 0)] [(0, vR 0), (1, vI a1), (2, vI (t0 ||| t1)), (3, vI a3)] [] w 34 (by decide +kernel) rfl rfl ?_
  refine sim_bi (C := fun i1 => (34, [(0, vR 0), (1, vI a1), (2, vI i1), (3, vI a3)], [], w)) (fun i1 => ?_)
  refine sim_blk0 hC [(.iinc 3 1, 0, 0, 0, 1)] [(0, vR 0), (1, vI a1), (2, vI i1), (3, vI (a3 + 1))] [] w 37 (by decide +kernel) rfl rfl ?_
  refine sim_bi (C := fun i2 => (37, [(0, vR 0), (1, vI a1), (2, vI i1), (3, vI i2)], [], w)) (fun i2 => ?_)
  refine sim_goto hC (-33) 4 (by decide +kernel) (by decide) ?_
  exact sim_back (V := (V_M_those_4 a1 w)) ((i1, i2))
noncomputable def B_M_those_4 (a1 : Int32) (w : Wld) (s : Int32 × Int32) : Option ((Int32 × Int32) ⊕ (Int32)) :=
  gd (vp_in 1 10) (br ((w 3 (Int32.toNatClampNeg 1)) ≤ s.2) (some (.inr s.1)) (gd (vp_in s.2 8) (br (¬ (w 16 (Int32.toNatClampNeg s.2)) = a1) (K_M_those_32 a1 s.2 s.1 0 w) (K_M_those_32 a1 s.2 s.1 ((1 : Int32) <<< (s.2 &&& 31)) w))))
set_option maxRecDepth 10000 in
theorem s_B_M_those_4 {Z : ZT} {l : Launch} {o : Oc} {wo : Wld} {Ok : Cfg → Prop} (hC : Clo Z l 10 4 prog_13_method_42_code (some .int) 1 0 o wo Ok) (a1 : Int32) (w : Wld) (s : Int32 × Int32) : SimK Ok (V_M_those_4 a1 w s) (B_M_those_4 a1 w s) (GLp Ok (V_M_those_4 a1 w) (GEp Ok (E_M_those_4 a1 w))) := by
  unfold B_M_those_4
  show SimK Ok (4, [(0, vR 0), (1, vI a1), (2, vI s.1), (3, vI s.2)], [], w) _ _
  refine sim_blk1 hC [(.iload_n 3, 0, 0, 0, 0), (.aload_n 0, 0, 0, 0, 0), (.getfield 42, 0, 3, 5, 0), (.iconst 1, 0, 0, 0, 1), (.iaload, 3, 10, 0, 0)] [(0, vR 0), (1, vI a1), (2, vI s.1), (3, vI s.2)] [vI (w 3 (Int32.toNatClampNeg 1)), vI s.2] w 11 (by decide +kernel) rfl rfl ?_
  refine sim_br hC (.if_icmp .ge 29) 40 (by decide +kernel) rfl (by decide) ?_ ?_
  · refine sim_sub hC [2] ?_
    exact sim_exit (E := (E_M_those_4 a1 w)) s.1
  · refine sim_blk1 hC [(.iload_n 2, 0, 0, 0, 0), (.aload_n 0, 0, 0, 0, 0), (.getfield 84, 0, 26, 18, 0), (.iload_n 3, 0, 0, 0, 0), (.iaload, 16, 8, 0, 0), (.iload_n 1, 0, 0, 0, 0)] [(0, vR 0), (1, vI a1), (2, vI s.1), (3, vI s.2)] [vI a1, vI (w 16 (Int32.toNatClampNeg s.2)), vI s.1] w 22 (by decide +kernel) rfl rfl ?_
    refine sim_br hC (.if_icmp .ne 9) 31 (by decide +kernel) rfl (by decide) ?_ ?_
    · refine sim_blk0 hC [(.iconst 0, 0, 0, 0, 0)] [(0, vR 0), (1, vI a1), (2, vI s.1), (3, vI s.2)] [vI 0, vI s.1] w 32 (by decide +kernel) rfl rfl ?_
      refine sim_sub hC [0, 1, 3] ?_
      exact s_K_M_those_32 hC a1 s.2 s.1 0 w
    · refine sim_blk0 hC [(.iconst 1, 0, 0, 0, 1), (.iload_n 3, 0, 0, 0, 0), (.ishl, 0, 0, 0, 0)] [(0, vR 0), (1, vI a1), (2, vI s.1), (3, vI s.2)] [vI ((1 : Int32) <<< (s.2 &&& 31)), vI s.1] w 28 (by decide +kernel) rfl rfl ?_
      refine sim_goto hC 4 32 (by decide +kernel) (by decide) ?_
      refine sim_sub hC [0, 1, 3] ?_
      exact s_K_M_those_32 hC a1 s.2 s.1 ((1 : Int32) <<< (s.2 &&& 31)) w
noncomputable def F_M_those (w : Wld) (a1 : Int32) : Option (Int32) :=
  bl (loop (B_M_those_4 a1 w) ((0, 0))) (fun r3 => some r3)
set_option maxRecDepth 10000 in
theorem s_M_those {Z : ZT} {l : Launch} {o : Oc} {wo : Wld} {Ok : Cfg → Prop} (hC : Clo Z l 10 4 prog_13_method_42_code (some .int) 1 0 o wo Ok) (w : Wld) (a1 : Int32) : SimK Ok (0, [(0, vR 0), (1, vI a1)], [], w) (F_M_those w a1) (Gp o wo w) := by
  unfold F_M_those
  refine sim_blk0 hC [(.iconst 0, 0, 0, 0, 0), (.istore_n 2, 0, 0, 0, 0), (.iconst 0, 0, 0, 0, 0), (.istore_n 3, 0, 0, 0, 0)] [(0, vR 0), (1, vI a1), (2, vI 0), (3, vI 0)] [] w 4 (by decide +kernel) rfl rfl ?_
  refine sim_bl (E := (E_M_those_4 a1 w)) ?_ (fun r3 => ?_)
  · exact sim_loop (V := (V_M_those_4 a1 w)) (fun sz => s_B_M_those_4 hC a1 w sz) ((0, 0))
  · show SimK Ok (40, [(2, vI r3)], [], w) _ _
    refine sim_blk0 hC [(.iload_n 2, 0, 0, 0, 0)] [(2, vI r3)] [vI r3] w 41 (by decide +kernel) rfl rfl ?_
    exact sim_retp hC (by decide +kernel) trivial
theorem c_M_those {Z : ZT} {l : Launch} (w : Wld) (a1 : Int32) (r : Int32) (h : F_M_those w a1 = some r) : Con Z l mX11_those 1 0 [vR 0, vI a1] w (.inr (some r)) w :=
  Con_of (oc := 10) (by decide +kernel) rfl rfl (fun Ok hC => s_M_those hC w a1 r h ⟨rfl, rfl⟩)
noncomputable def K_M_room_25 (w : Wld) : Option (Int32 × Wld) :=
  bd (F_M_fail w 1) (fun i3 w4 => some ((i3, w4)))
set_option maxRecDepth 10000 in
theorem s_K_M_room_25 {Z : ZT} {l : Launch} {o : Oc} {wo : Wld} {Ok : Cfg → Prop} (hC : Clo Z l 10 3 prog_13_method_52_code (some .int) 3 46 o wo Ok) (w : Wld) : SimK Ok (25, [(0, vR 0)], [], w) (K_M_room_25 w) (Gi o wo) := by
  unfold K_M_room_25
  refine sim_blk0 hC [(.aload_n 0, 0, 0, 0, 0), (.iconst 1, 0, 0, 0, 1)] [(0, vR 0)] [vI 1, vR 0] w 27 (by decide +kernel) rfl rfl ?_
  refine sim_vd hC 292 mX11_fail 1 0 0 [vI 1] [] (by decide +kernel) ml_10_292 rfl rfl rfl rfl rfl rfl (fun rz wz hz => c_M_fail w 1 rz wz hz) (fun i3 w4 => ?_)
  exact sim_reti hC (by decide +kernel) trivial
noncomputable def K_M_room_77 (t0 : Int32) (w : Wld) : Option (Int32 × Wld) :=
  some ((t0, w))
set_option maxRecDepth 10000 in
theorem s_K_M_room_77 {Z : ZT} {l : Launch} {o : Oc} {wo : Wld} {Ok : Cfg → Prop} (hC : Clo Z l 10 3 prog_13_method_52_code (some .int) 3 46 o wo Ok) (t0 : Int32) (w : Wld) : SimK Ok (77, [], [vI t0], w) (K_M_room_77 t0 w) (Gi o wo) := by
  unfold K_M_room_77
  exact sim_reti hC (by decide +kernel) trivial
noncomputable def F_M_room (w : Wld) (a1 : Int32) (a2 : Int32) : Option (Int32 × Wld) :=
  bw (wup w 0 2 0) (fun w1 => bp (F_M_isRoom w1 a1) (fun i2 => br (i2 = 0) (K_M_room_25 w1) (bp (F_M_isIn w1 (Int32.toInt64 a2) (Int32.toInt64 0) (Int32.toInt64 3)) (fun i5 => br (¬ i5 = 0) (br (¬ a2 = 0) (br (¬ a2 = 1) (br (¬ a2 = 2) (bp (F_M_those w1 a1) (fun i6 => K_M_room_77 i6 w1)) (gd (vp_in a1 9) (K_M_room_77 (w1 19 (Int32.toNatClampNeg a1)) w1))) (gd (vp_in a1 9) (K_M_room_77 (w1 18 (Int32.toNatClampNeg a1)) w1))) (gd (vp_in a1 18) (K_M_room_77 (w1 4 (Int32.toNatClampNeg a1)) w1))) (K_M_room_25 w1)))))
set_option maxRecDepth 10000 in
theorem s_M_room {Z : ZT} {l : Launch} {o : Oc} {wo : Wld} {Ok : Cfg → Prop} (hC : Clo Z l 10 3 prog_13_method_52_code (some .int) 3 46 o wo Ok) (w : Wld) (a1 : Int32) (a2 : Int32) : SimK Ok (0, [(0, vR 0), (1, vI a1), (2, vI a2)], [], w) (F_M_room w a1 a2) (Gi o wo) := by
  unfold F_M_room
  refine sim_blk0 hC [(.aload_n 0, 0, 0, 0, 0), (.iconst 0, 0, 0, 0, 0), (.putfield 159, 0, 2, 0, 0)] [(0, vR 0), (1, vI a1), (2, vI a2)] [] (wup w 0 2 0) 5 (by decide +kernel) rfl rfl ?_
  refine sim_bw (C := fun w1 => (5, [(0, vR 0), (1, vI a1), (2, vI a2)], [], w1)) (fun w1 => ?_)
  refine sim_blk0 hC [(.aload_n 0, 0, 0, 0, 0), (.iload_n 1, 0, 0, 0, 0)] [(0, vR 0), (1, vI a1), (2, vI a2)] [vI a1, vR 0] w1 7 (by decide +kernel) rfl rfl ?_
  refine sim_vp hC 371 mX11_isRoom 2 25 0 [vI a1] [] (by decide +kernel) ml_10_371 rfl rfl rfl rfl rfl rfl (fun rz hz => c_M_isRoom w1 a1 rz hz) (fun i2 => ?_)
  refine sim_br hC (.ifCond .eq 15) 25 (by decide +kernel) rfl (by decide) ?_ ?_
  · refine sim_sub hC [0] ?_
    exact s_K_M_room_25 hC w1
  · refine sim_blk0 hC [(.iload_n 2, 0, 0, 0, 0), (.i2l, 0, 0, 0, 0), (.lconst 0, 0, 0, 0, 0), (.ldc2_w 374, 0, 0, 0, 3)] [(0, vR 0), (1, vI a1), (2, vI a2)] [vL (Int32.toInt64 3), vL (Int32.toInt64 0), vL (Int32.toInt64 a2)] w1 19 (by decide +kernel) rfl rfl ?_
    refine sim_sp hC 162 mX11_isIn 1 0 [vL (Int32.toInt64 a2), vL (Int32.toInt64 0), vL (Int32.toInt64 3)] [] (by decide +kernel) ml_10_162 rfl rfl rfl rfl rfl (fun rz hz => c_M_isIn w1 (Int32.toInt64 a2) (Int32.toInt64 0) (Int32.toInt64 3) rz hz) (fun i5 => ?_)
    refine sim_br hC (.ifCond .ne 9) 31 (by decide +kernel) rfl (by decide) ?_ ?_
    · refine sim_blk0 hC [(.iload_n 2, 0, 0, 0, 0)] [(0, vR 0), (1, vI a1), (2, vI a2)] [vI a2] w1 32 (by decide +kernel) rfl rfl ?_
      refine sim_br hC (.ifCond .ne 12) 44 (by decide +kernel) rfl (by decide) ?_ ?_
      · refine sim_blk0 hC [(.iload_n 2, 0, 0, 0, 0), (.iconst 1, 0, 0, 0, 1)] [(0, vR 0), (1, vI a1), (2, vI a2)] [vI 1, vI a2] w1 46 (by decide +kernel) rfl rfl ?_
        refine sim_br hC (.if_icmp .ne 12) 58 (by decide +kernel) rfl (by decide) ?_ ?_
        · refine sim_blk0 hC [(.iload_n 2, 0, 0, 0, 0), (.iconst 2, 0, 0, 0, 2)] [(0, vR 0), (1, vI a1), (2, vI a2)] [vI 2, vI a2] w1 60 (by decide +kernel) rfl rfl ?_
          refine sim_br hC (.if_icmp .ne 12) 72 (by decide +kernel) rfl (by decide) ?_ ?_
          · refine sim_blk0 hC [(.aload_n 0, 0, 0, 0, 0), (.iload_n 1, 0, 0, 0, 0)] [(0, vR 0), (1, vI a1), (2, vI a2)] [vI a1, vR 0] w1 74 (by decide +kernel) rfl rfl ?_
            refine sim_vp hC 329 mX11_those 1 0 0 [vI a1] [] (by decide +kernel) ml_10_329 rfl rfl rfl rfl rfl rfl (fun rz hz => c_M_those w1 a1 rz hz) (fun i6 => ?_)
            refine sim_sub hC [] ?_
            exact s_K_M_room_77 hC i6 w1
          · refine sim_blk1 hC [(.aload_n 0, 0, 0, 0, 0), (.getfield 92, 0, 29, 21, 0), (.iload_n 1, 0, 0, 0, 0), (.iaload, 19, 9, 0, 0)] [(0, vR 0), (1, vI a1), (2, vI a2)] [vI (w1 19 (Int32.toNatClampNeg a1))] w1 69 (by decide +kernel) rfl rfl ?_
            refine sim_goto hC 8 77 (by decide +kernel) (by decide) ?_
            refine sim_sub hC [] ?_
            exact s_K_M_room_77 hC (w1 19 (Int32.toNatClampNeg a1)) w1
        · refine sim_blk1 hC [(.aload_n 0, 0, 0, 0, 0), (.getfield 89, 0, 28, 20, 0), (.iload_n 1, 0, 0, 0, 0), (.iaload, 18, 9, 0, 0)] [(0, vR 0), (1, vI a1), (2, vI a2)] [vI (w1 18 (Int32.toNatClampNeg a1))] w1 55 (by decide +kernel) rfl rfl ?_
          refine sim_goto hC 22 77 (by decide +kernel) (by decide) ?_
          refine sim_sub hC [] ?_
          exact s_K_M_room_77 hC (w1 18 (Int32.toNatClampNeg a1)) w1
      · refine sim_blk1 hC [(.aload_n 0, 0, 0, 0, 0), (.getfield 46, 0, 4, 6, 0), (.iload_n 1, 0, 0, 0, 0), (.iaload, 4, 18, 0, 0)] [(0, vR 0), (1, vI a1), (2, vI a2)] [vI (w1 4 (Int32.toNatClampNeg a1))] w1 41 (by decide +kernel) rfl rfl ?_
        refine sim_goto hC 36 77 (by decide +kernel) (by decide) ?_
        refine sim_sub hC [] ?_
        exact s_K_M_room_77 hC (w1 4 (Int32.toNatClampNeg a1)) w1
    · refine sim_sub hC [0] ?_
      exact s_K_M_room_25 hC w1
theorem c_M_room {Z : ZT} {l : Launch} (w : Wld) (a1 : Int32) (a2 : Int32) (r : Int32) (w1 : Wld) (h : F_M_room w a1 a2 = some (r, w1)) : Con Z l mX11_room 3 46 [vR 0, vI a1, vI a2] w (.inr (some r)) w1 :=
  Con_of (oc := 10) (by decide +kernel) rfl rfl (fun Ok hC => s_M_room hC w a1 a2 (r, w1) h ⟨rfl, rfl⟩)
noncomputable def F_M_isMonk (w : Wld) (a1 : Int32) : Option (Int32) :=
  gd (vp_in 1 10) (bp (F_M_isIn w (Int32.toInt64 a1) (Int32.toInt64 0) (Int32.toInt64 ((w 3 (Int32.toNatClampNeg 1)) - (1 : Int32)))) (fun i1 => gd (i1 = 0 ∨ i1 = 1) (some i1)))
set_option maxRecDepth 10000 in
theorem s_M_isMonk {Z : ZT} {l : Launch} {o : Oc} {wo : Wld} {Ok : Cfg → Prop} (hC : Clo Z l 10 2 prog_13_method_9_code (some .boolean) 2 25 o wo Ok) (w : Wld) (a1 : Int32) : SimK Ok (0, [(0, vR 0), (1, vI a1)], [], w) (F_M_isMonk w a1) (Gp o wo w) := by
  unfold F_M_isMonk
  refine sim_blk1 hC [(.iload_n 1, 0, 0, 0, 0), (.i2l, 0, 0, 0, 0), (.lconst 0, 0, 0, 0, 0), (.aload_n 0, 0, 0, 0, 0), (.getfield 42, 0, 3, 5, 0), (.iconst 1, 0, 0, 0, 1), (.iaload, 3, 10, 0, 0), (.iconst 1, 0, 0, 0, 1), (.isub, 0, 0, 0, 0), (.i2l, 0, 0, 0, 0)] [(0, vR 0), (1, vI a1)] [vL (Int32.toInt64 ((w 3 (Int32.toNatClampNeg 1)) - (1 : Int32))), vL (Int32.toInt64 0), vL (Int32.toInt64 a1)] w 12 (by decide +kernel) rfl rfl ?_
  refine sim_sp hC 162 mX11_isIn 1 0 [vL (Int32.toInt64 a1), vL (Int32.toInt64 0), vL (Int32.toInt64 ((w 3 (Int32.toNatClampNeg 1)) - (1 : Int32)))] [] (by decide +kernel) ml_10_162 rfl rfl rfl rfl rfl (fun rz hz => c_M_isIn w (Int32.toInt64 a1) (Int32.toInt64 0) (Int32.toInt64 ((w 3 (Int32.toNatClampNeg 1)) - (1 : Int32))) rz hz) (fun i1 => ?_)
  exact sim_retpz hC (by decide +kernel) rfl
theorem c_M_isMonk {Z : ZT} {l : Launch} (w : Wld) (a1 : Int32) (r : Int32) (h : F_M_isMonk w a1 = some r) : Con Z l mX11_isMonk 2 25 [vR 0, vI a1] w (.inr (some r)) w :=
  Con_of (oc := 10) (by decide +kernel) rfl rfl (fun Ok hC => s_M_isMonk hC w a1 r h ⟨rfl, rfl⟩)
