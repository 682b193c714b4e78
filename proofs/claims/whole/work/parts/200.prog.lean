def V_C_putBytes_3 (a1 : Int32) : (Int32 × Wld) → Cfg := fun s => (3, [(0, vR 42), (1, vI a1), (2, vI s.1)], [], s.2)
def E_C_putBytes_3 (a1 : Int32) : (Wld) → Cfg := fun s => (46, [], [], s)
noncomputable def B_C_putBytes_3 (a1 : Int32) (s : Int32 × Wld) : Option ((Int32 × Wld) ⊕ (Wld)) :=
  br (s.1 < 0) (some (.inr s.2)) (br ((700 : Int32) ≤ (s.2 42 1)) (some (.inr s.2)) (gd (vp_in (s.2 42 1) 700) (bw (wup s.2 43 (Int32.toNatClampNeg (s.2 42 1)) (vp_nar .byte ((a1 >>> (s.1 &&& 31)).toInt8.toInt32))) (fun w1 => bw (wup w1 42 1 ((w1 42 1) + (1 : Int32))) (fun w2 => bi (s.1 + (-8)) (fun i3 => some (.inl ((i3, w2)))))))))
set_option maxRecDepth 10000 in
theorem s_B_C_putBytes_3 {Z : ZT} {l : Launch} {o : Oc} {wo : Wld} {Ok : Cfg → Prop} (hC : Clo Z l 9 3 prog_1_method_3_code none 1 0 o wo Ok) (a1 : Int32) (s : Int32 × Wld) : SimK Ok (V_C_putBytes_3 a1 s) (B_C_putBytes_3 a1 s) (GLp Ok (V_C_putBytes_3 a1) (GEp Ok (E_C_putBytes_3 a1))) := by
  unfold B_C_putBytes_3
  show SimK Ok (3, [(0, vR 42), (1, vI a1), (2, vI s.1)], [], s.2) _ _
  refine sim_blk0 hC [(.iload_n 2, 0, 0, 0, 0)] [(0, vR 42), (1, vI a1), (2, vI s.1)] [vI s.1] s.2 4 (by decide +kernel) rfl rfl ?_
  refine sim_br hC (.ifCond .lt 42) 46 (by decide +kernel) rfl (by decide) ?_ ?_
  · refine sim_sub hC [] ?_
    exact sim_exit (E := (E_C_putBytes_3 a1)) s.2
  · refine sim_blk0 hC [(.aload_n 0, 0, 0, 0, 0), (.getfield 13, 42, 1, 0, 0), (.sipush 700, 0, 0, 0, 700)] [(0, vR 42), (1, vI a1), (2, vI s.1)] [vI 700, vI (s.2 42 1)] s.2 14 (by decide +kernel) rfl rfl ?_
    refine sim_br hC (.if_icmp .ge 32) 46 (by decide +kernel) rfl (by decide) ?_ ?_
    · refine sim_sub hC [] ?_
      exact sim_exit (E := (E_C_putBytes_3 a1)) s.2
    · refine sim_blk1 hC [(.aload_n 0, 0, 0, 0, 0), (.getfield 9, 42, 0, 45, 0), (.aload_n 0, 0, 0, 0, 0), (.getfield 13, 42, 1, 0, 0), (.iload_n 1, 0, 0, 0, 0), (.iload_n 2, 0, 0, 0, 0), (.ishr, 0, 0, 0, 0), (.i2b, 0, 0, 0, 0), (.bastore, 43, 700, 1, 0)] [(0, vR 42), (1, vI a1), (2, vI s.1)] [] (wup s.2 43 (Int32.toNatClampNeg (s.2 42 1)) (vp_nar .byte ((a1 >>> (s.1 &&& 31)).toInt8.toInt32))) 30 (by decide +kernel) rfl rfl ?_
      refine sim_bw (C := fun w1 => (30, [(0, vR 42), (1, vI a1), (2, vI s.1)], [], w1)) (fun w1 => ?_)
      refine sim_blk0 hC [(.aload_n 0, 0, 0, 0, 0), (.dup, 0, 0, 0, 0), (.getfield 13, 42, 1, 0, 0), (.iconst 1, 0, 0, 0, 1), (.iadd, 0, 0, 0, 0), (.putfield 13, 42, 1, 0, 0)] [(0, vR 42), (1, vI a1), (2, vI s.1)] [] (wup w1 42 1 ((w1 42 1) + (1 : Int32))) 40 (by decide +kernel) rfl rfl ?_
      refine sim_bw (C := fun w2 => (40, [(0, vR 42), (1, vI a1), (2, vI s.1)], [], w2)) (fun w2 => ?_)
      refine sim_blk0 hC [(.iinc 2 (-8), 0, 0, 0, (-8))] [(0, vR 42), (1, vI a1), (2, vI (s.1 + (-8)))] [] w2 43 (by decide +kernel) rfl rfl ?_
      refine sim_bi (C := fun i3 => (43, [(0, vR 42), (1, vI a1), (2, vI i3)], [], w2)) (fun i3 => ?_)
      refine sim_goto hC (-40) 3 (by decide +kernel) (by decide) ?_
      exact sim_back (V := (V_C_putBytes_3 a1)) ((i3, w2))
noncomputable def F_C_putBytes (w : Wld) (a1 : Int32) : Option (Wld) :=
  bl (loop (B_C_putBytes_3 a1) ((24, w))) (fun r4 => some r4)
set_option maxRecDepth 10000 in
theorem s_C_putBytes {Z : ZT} {l : Launch} {o : Oc} {wo : Wld} {Ok : Cfg → Prop} (hC : Clo Z l 9 3 prog_1_method_3_code none 1 0 o wo Ok) (w : Wld) (a1 : Int32) : SimK Ok (0, [(0, vR 42), (1, vI a1)], [], w) (F_C_putBytes w a1) (Gv o wo) := by
  unfold F_C_putBytes
  refine sim_blk0 hC [(.bipush 24, 0, 0, 0, 24), (.istore_n 2, 0, 0, 0, 0)] [(0, vR 42), (1, vI a1), (2, vI 24)] [] w 3 (by decide +kernel) rfl rfl ?_
  refine sim_bl (E := (E_C_putBytes_3 a1)) ?_ (fun r4 => ?_)
  · exact sim_loop (V := (V_C_putBytes_3 a1)) (fun sz => s_B_C_putBytes_3 hC a1 sz) ((24, w))
  · show SimK Ok (46, [], [], r4) _ _
    exact sim_retv hC (by decide +kernel)
theorem c_C_putBytes {Z : ZT} {l : Launch} (w : Wld) (a1 : Int32) (w1 : Wld) (h : F_C_putBytes w a1 = some w1) : Con Z l mX10_putBytes 1 0 [vR 42, vI a1] w (.inr none) w1 :=
  Con_of (oc := 9) (by decide +kernel) rfl rfl (fun Ok hC => s_C_putBytes hC w a1 w1 h ⟨rfl, rfl⟩)
noncomputable def F_C_feed (w : Wld) (a1 : Int32) (a2 : Int32) (a3 : Int32) (a4 : Int32) (a5 : Int32) : Option (Int32 × Wld) :=
  br ((w 42 1) ≤ 680) (bv (F_C_putBytes w a1) (fun w1 => bv (F_C_putBytes w1 a2) (fun w2 => bv (F_C_putBytes w2 a3) (fun w3 => bv (F_C_putBytes w3 a4) (fun w4 => bv (F_C_putBytes w4 a5) (fun w5 => some ((w5 42 1, w5)))))))) (some (((-1), w)))
set_option maxRecDepth 10000 in
theorem s_C_feed {Z : ZT} {l : Launch} {o : Oc} {wo : Wld} {Ok : Cfg → Prop} (hC : Clo Z l 9 6 prog_1_method_2_code (some .int) 2 22 o wo Ok) (w : Wld) (a1 : Int32) (a2 : Int32) (a3 : Int32) (a4 : Int32) (a5 : Int32) : SimK Ok (0, [(0, vR 42), (1, vI a1), (2, vI a2), (3, vI a3), (4, vI a4), (5, vI a5)], [], w) (F_C_feed w a1 a2 a3 a4 a5) (Gi o wo) := by
  unfold F_C_feed
  refine sim_blk0 hC [(.aload_n 0, 0, 0, 0, 0), (.getfield 13, 42, 1, 0, 0), (.sipush 680, 0, 0, 0, 680)] [(0, vR 42), (1, vI a1), (2, vI a2), (3, vI a3), (4, vI a4), (5, vI a5)] [vI 680, vI (w 42 1)] w 7 (by decide +kernel) rfl rfl ?_
  refine sim_br hC (.if_icmp .le 5) 12 (by decide +kernel) rfl (by decide) ?_ ?_
  · refine sim_blk0 hC [(.aload_n 0, 0, 0, 0, 0), (.iload_n 1, 0, 0, 0, 0)] [(0, vR 42), (1, vI a1), (2, vI a2), (3, vI a3), (4, vI a4), (5, vI a5)] [vI a1, vR 42] w 14 (by decide +kernel) rfl rfl ?_
    refine sim_vv hC 73 mX10_putBytes 1 0 42 [vI a1] [] (by decide +kernel) ml_9_73 rfl rfl rfl rfl rfl rfl (fun wz hz => c_C_putBytes w a1 wz hz) (fun w1 => ?_)
    refine sim_blk0 hC [(.aload_n 0, 0, 0, 0, 0), (.iload_n 2, 0, 0, 0, 0)] [(0, vR 42), (1, vI a1), (2, vI a2), (3, vI a3), (4, vI a4), (5, vI a5)] [vI a2, vR 42] w1 19 (by decide +kernel) rfl rfl ?_
    refine sim_vv hC 73 mX10_putBytes 1 0 42 [vI a2] [] (by decide +kernel) ml_9_73 rfl rfl rfl rfl rfl rfl (fun wz hz => c_C_putBytes w1 a2 wz hz) (fun w2 => ?_)
    refine sim_blk0 hC [(.aload_n 0, 0, 0, 0, 0), (.iload_n 3, 0, 0, 0, 0)] [(0, vR 42), (1, vI a1), (2, vI a2), (3, vI a3), (4, vI a4), (5, vI a5)] [vI a3, vR 42] w2 24 (by decide +kernel) rfl rfl ?_
    refine sim_vv hC 73 mX10_putBytes 1 0 42 [vI a3] [] (by decide +kernel) ml_9_73 rfl rfl rfl rfl rfl rfl (fun wz hz => c_C_putBytes w2 a3 wz hz) (fun w3 => ?_)
    refine sim_blk0 hC [(.aload_n 0, 0, 0, 0, 0), (.iload 4, 0, 0, 0, 0)] [(0, vR 42), (1, vI a1), (2, vI a2), (3, vI a3), (4, vI a4), (5, vI a5)] [vI a4, vR 42] w3 30 (by decide +kernel) rfl rfl ?_
    refine sim_vv hC 73 mX10_putBytes 1 0 42 [vI a4] [] (by decide +kernel) ml_9_73 rfl rfl rfl rfl rfl rfl (fun wz hz => c_C_putBytes w3 a4 wz hz) (fun w4 => ?_)
    refine sim_blk0 hC [(.aload_n 0, 0, 0, 0, 0), (.iload 5, 0, 0, 0, 0)] [(0, vR 42), (1, vI a1), (2, vI a2), (3, vI a3), (4, vI a4), (5, vI a5)] [vI a5, vR 42] w4 36 (by decide +kernel) rfl rfl ?_
    refine sim_vv hC 73 mX10_putBytes 1 0 42 [vI a5] [] (by decide +kernel) ml_9_73 rfl rfl rfl rfl rfl rfl (fun wz hz => c_C_putBytes w4 a5 wz hz) (fun w5 => ?_)
    refine sim_blk0 hC [(.aload_n 0, 0, 0, 0, 0), (.getfield 13, 42, 1, 0, 0)] [(0, vR 42), (1, vI a1), (2, vI a2), (3, vI a3), (4, vI a4), (5, vI a5)] [vI (w5 42 1)] w5 43 (by decide +kernel) rfl rfl ?_
    exact sim_reti hC (by decide +kernel) trivial
  · refine sim_blk0 hC [(.iconst (-1), 0, 0, 0, (-1))] [(0, vR 42), (1, vI a1), (2, vI a2), (3, vI a3), (4, vI a4), (5, vI a5)] [vI (-1)] w 11 (by decide +kernel) rfl rfl ?_
    exact sim_reti hC (by decide +kernel) trivial
theorem c_C_feed {Z : ZT} {l : Launch} (w : Wld) (a1 : Int32) (a2 : Int32) (a3 : Int32) (a4 : Int32) (a5 : Int32) (r : Int32) (w1 : Wld) (h : F_C_feed w a1 a2 a3 a4 a5 = some (r, w1)) : Con Z l mX10_feed 2 22 [vR 42, vI a1, vI a2, vI a3, vI a4, vI a5] w (.inr (some r)) w1 :=
  Con_of (oc := 9) (by decide +kernel) rfl rfl (fun Ok hC => s_C_feed hC w a1 a2 a3 a4 a5 (r, w1) h ⟨rfl, rfl⟩)
noncomputable def F_C_fault (w : Wld) : Option (Int32) :=
  some (w 42 2)
set_option maxRecDepth 10000 in
theorem s_C_fault {Z : ZT} {l : Launch} {o : Oc} {wo : Wld} {Ok : Cfg → Prop} (hC : Clo Z l 9 1 prog_1_method_5_code (some .int) 1 0 o wo Ok) (w : Wld) : SimK Ok (0, [(0, vR 42)], [], w) (F_C_fault w) (Gp o wo w) := by
  unfold F_C_fault
  refine sim_blk0 hC [(.aload_n 0, 0, 0, 0, 0), (.getfield 17, 42, 2, 0, 0)] [(0, vR 42)] [vI (w 42 2)] w 4 (by decide +kernel) rfl rfl ?_
  exact sim_retp hC (by decide +kernel) trivial
theorem c_C_fault {Z : ZT} {l : Launch} (w : Wld) (r : Int32) (h : F_C_fault w = some r) : Con Z l mX10_fault 1 0 [vR 42] w (.inr (some r)) w :=
  Con_of (oc := 9) (by decide +kernel) rfl rfl (fun Ok hC => s_C_fault hC w r h ⟨rfl, rfl⟩)
noncomputable def F_Acts_placeBehind_67 (w : Wld) : Option (Int32) :=
  gd (¬ (40 : Int32) = 0) (some ((((w 67 1) + (w 67 2)) - ((w 67 1) + (w 67 2)) / (40 : Int32) * (40 : Int32)) * (53 : Int32)))
set_option maxRecDepth 10000 in
theorem s_Acts_placeBehind_67 {Z : ZT} {l : Launch} {o : Oc} {wo : Wld} {Ok : Cfg → Prop} (hC : Clo Z l 0 1 prog_2_method_6_code (some .int) 1 0 o wo Ok) (w : Wld) : SimK Ok (0, [(0, vR 67)], [], w) (F_Acts_placeBehind_67 w) (Gp o wo w) := by
  unfold F_Acts_placeBehind_67
  refine sim_blk1 hC [(.aload_n 0, 0, 0, 0, 0), (.getfield 17, 67, 1, 0, 0), (.aload_n 0, 0, 0, 0, 0), (.getfield 21, 67, 2, 0, 0), (.iadd, 0, 0, 0, 0), (.bipush 40, 0, 0, 0, 40), (.irem, 0, 0, 0, 0), (.bipush 53, 0, 0, 0, 53), (.imul, 0, 0, 0, 0)] [(0, vR 67)] [vI ((((w 67 1) + (w 67 2)) - ((w 67 1) + (w 67 2)) / (40 : Int32) * (40 : Int32)) * (53 : Int32))] w 15 (by decide +kernel) rfl rfl ?_
  exact sim_retp hC (by decide +kernel) trivial
theorem c_Acts_placeBehind_67 {Z : ZT} {l : Launch} (w : Wld) (r : Int32) (h : F_Acts_placeBehind_67 w = some r) : Con Z l mX0_placeBehind 1 0 [vR 67] w (.inr (some r)) w :=
  Con_of (oc := 0) (by decide +kernel) rfl rfl (fun Ok hC => s_Acts_placeBehind_67 hC w r h ⟨rfl, rfl⟩)
noncomputable def K_Acts_keep_67_65_32 (w : Wld) : Option (Wld) :=
  bp (F_Acts_placeBehind_67 w) (fun i1 => gd (cpO w 66 53 2120 0 0 i1 53) (bw (wcp w 66 68 (Int32.toNatClampNeg 0) (Int32.toNatClampNeg i1) (Int32.toNatClampNeg 53)) (fun w2 => bw (wup w2 67 2 ((w2 67 2) + (1 : Int32))) (fun w3 => some w3))))
set_option maxRecDepth 10000 in
theorem s_K_Acts_keep_67_65_32 {Z : ZT} {l : Launch} {o : Oc} {wo : Wld} {Ok : Cfg → Prop} (hC : Clo Z l 0 2 prog_2_method_4_code none 2 60 o wo Ok) (w : Wld) : SimK Ok (32, [(0, vR 67), (1, vR 65)], [], w) (K_Acts_keep_67_65_32 w) (Gv o wo) := by
  unfold K_Acts_keep_67_65_32
  refine sim_blk0 hC [(.aload_n 1, 0, 0, 0, 0), (.getfield 30, 65, 0, 68, 0), (.iconst 0, 0, 0, 0, 0), (.aload_n 0, 0, 0, 0, 0), (.getfield 11, 67, 0, 70, 0), (.aload_n 0, 0, 0, 0, 0)] [(0, vR 67), (1, vR 65)] [vR 67, vR 68, vI 0, vR 66] w 42 (by decide +kernel) rfl rfl ?_
  refine sim_vp hC 33 mX0_placeBehind 1 0 67 [] [vR 68, vI 0, vR 66] (by decide +kernel) ml_0_33 rfl rfl rfl rfl rfl rfl (fun rz hz => c_Acts_placeBehind_67 w rz hz) (fun i1 => ?_)
  refine sim_blk0 hC [(.bipush 53, 0, 0, 0, 53)] [(0, vR 67), (1, vR 65)] [vI 53, vI i1, vR 68, vI 0, vR 66] w 47 (by decide +kernel) rfl rfl ?_
  refine sim_copy hC 24 66 68 53 2120 0 (by decide +kernel) (by decide) (by decide) (by decide +kernel) (by decide +kernel) rfl rfl rfl (fun w2 => ?_)
  refine sim_blk0 hC [(.aload_n 0, 0, 0, 0, 0), (.dup, 0, 0, 0, 0), (.getfield 21, 67, 2, 0, 0), (.iconst 1, 0, 0, 0, 1), (.iadd, 0, 0, 0, 0), (.putfield 21, 67, 2, 0, 0)] [(0, vR 67), (1, vR 65)] [] (wup w2 67 2 ((w2 67 2) + (1 : Int32))) 60 (by decide +kernel) rfl rfl ?_
  refine sim_bw (C := fun w3 => (60, [(0, vR 67), (1, vR 65)], [], w3)) (fun w3 => ?_)
  exact sim_retv hC (by decide +kernel)
noncomputable def F_Acts_keep_67_65 (w : Wld) : Option (Wld) :=
  br (¬ (w 67 2) = 40) (K_Acts_keep_67_65_32 w) (gd (¬ (40 : Int32) = 0) (bw (wup w 67 1 (((w 67 1) + (1 : Int32)) - ((w 67 1) + (1 : Int32)) / (40 : Int32) * (40 : Int32))) (fun w4 => bw (wup w4 67 2 ((w4 67 2) - (1 : Int32))) (fun w5 => K_Acts_keep_67_65_32 w5))))
set_option maxRecDepth 10000 in
theorem s_Acts_keep_67_65 {Z : ZT} {l : Launch} {o : Oc} {wo : Wld} {Ok : Cfg → Prop} (hC : Clo Z l 0 2 prog_2_method_4_code none 2 60 o wo Ok) (w : Wld) : SimK Ok (0, [(0, vR 67), (1, vR 65)], [], w) (F_Acts_keep_67_65 w) (Gv o wo) := by
  unfold F_Acts_keep_67_65
  refine sim_blk0 hC [(.aload_n 0, 0, 0, 0, 0), (.getfield 21, 67, 2, 0, 0), (.bipush 40, 0, 0, 0, 40)] [(0, vR 67), (1, vR 65)] [vI 40, vI (w 67 2)] w 6 (by decide +kernel) rfl rfl ?_
  refine sim_br hC (.if_icmp .ne 26) 32 (by decide +kernel) rfl (by decide) ?_ ?_
  · exact s_K_Acts_keep_67_65_32 hC w
  · refine sim_blk1 hC [(.aload_n 0, 0, 0, 0, 0), (.aload_n 0, 0, 0, 0, 0), (.getfield 17, 67, 1, 0, 0), (.iconst 1, 0, 0, 0, 1), (.iadd, 0, 0, 0, 0), (.bipush 40, 0, 0, 0, 40), (.irem, 0, 0, 0, 0), (.putfield 17, 67, 1, 0, 0)] [(0, vR 67), (1, vR 65)] [] (wup w 67 1 (((w 67 1) + (1 : Int32)) - ((w 67 1) + (1 : Int32)) / (40 : Int32) * (40 : Int32))) 22 (by decide +kernel) rfl rfl ?_
    refine sim_bw (C := fun w4 => (22, [(0, vR 67), (1, vR 65)], [], w4)) (fun w4 => ?_)
    refine sim_blk0 hC [(.aload_n 0, 0, 0, 0, 0), (.dup, 0, 0, 0, 0), (.getfield 21, 67, 2, 0, 0), (.iconst 1, 0, 0, 0, 1), (.isub, 0, 0, 0, 0), (.putfield 21, 67, 2, 0, 0)] [(0, vR 67), (1, vR 65)] [] (wup w4 67 2 ((w4 67 2) - (1 : Int32))) 32 (by decide +kernel) rfl rfl ?_
    refine sim_bw (C := fun w5 => (32, [(0, vR 67), (1, vR 65)], [], w5)) (fun w5 => ?_)
    exact s_K_Acts_keep_67_65_32 hC w5
theorem c_Acts_keep_67_65 {Z : ZT} {l : Launch} (w : Wld) (w1 : Wld) (h : F_Acts_keep_67_65 w = some w1) : Con Z l mX0_keep 2 60 [vR 67, vR 65] w (.inr none) w1 :=
  Con_of (oc := 0) (by decide +kernel) rfl rfl (fun Ok hC => s_Acts_keep_67_65 hC w w1 h ⟨rfl, rfl⟩)
def V_State_within_65_5 (a1 : Int32) (a2 : Int32) (w : Wld) : (Int32 × Int32) → Cfg := fun s => (5, [(0, vR 65), (1, vI a1), (2, vI a2), (3, vI s.1), (4, vI s.2)], [], w)
def E_State_within_65_5 (a1 : Int32) (a2 : Int32) (w : Wld) : (Int32) → Cfg := fun s => (38, [(3, vI s)], [], w)
noncomputable def K_State_within_65_32 (a1 : Int32) (a2 : Int32) (a3 : Int32) (a4 : Int32) (w : Wld) : Option ((Int32 × Int32) ⊕ (Int32)) :=
  bi (a4 + 1) (fun i1 => some (.inl ((a3, i1))))
set_option maxRecDepth 10000 in
theorem s_K_State_within_65_32 {Z : ZT} {l : Launch} {o : Oc} {wo : Wld} {Ok : Cfg → Prop} (hC : Clo Z l 7 5 prog_9_method_5_code (some .int) 1 0 o wo Ok) (a1 : Int32) (a2 : Int32) (a3 : Int32) (a4 : Int32) (w : Wld) : SimK Ok (32, [(0, vR 65), (1, vI a1), (2, vI a2), (3, vI a3), (4, vI a4)], [], w) (K_State_within_65_32 a1 a2 a3 a4 w) (GLp Ok (V_State_within_65_5 a1 a2 w) (GEp Ok (E_State_within_65_5 a1 a2 w))) := by
  unfold K_State_within_65_32
  refine sim_blk0 hC [(.iinc 4 1, 0, 0, 0, 1)] [(0, vR 65), (1, vI a1), (2, vI a2), (3, vI a3), (4, vI (a4 + 1))] [] w 35 (by decide +kernel) rfl rfl ?_
  refine sim_bi (C := fun i1 => (35, [(0, vR 65), (1, vI a1), (2, vI a2), (3, vI a3), (4, vI i1)], [], w)) (fun i1 => ?_)
  refine sim_goto hC (-30) 5 (by decide +kernel) (by decide) ?_
  exact sim_back (V := (V_State_within_65_5 a1 a2 w)) ((a3, i1))
noncomputable def B_State_within_65_5 (a1 : Int32) (a2 : Int32) (w : Wld) (s : Int32 × Int32) : Option ((Int32 × Int32) ⊕ (Int32)) :=
  br (a2 ≤ s.2) (some (.inr s.1)) (gd (vp_in ((16 : Int32) + s.2) 53) (br (¬ (w 66 (Int32.toNatClampNeg ((16 : Int32) + s.2))) = a1) (K_State_within_65_32 a1 a2 s.1 s.2 w) (bi (s.1 ||| ((1 : Int32) <<< (s.2 &&& 31))) (fun i2 => K_State_within_65_32 a1 a2 i2 s.2 w))))
set_option maxRecDepth 10000 in
theorem s_B_State_within_65_5 {Z : ZT} {l : Launch} {o : Oc} {wo : Wld} {Ok : Cfg → Prop} (hC : Clo Z l 7 5 prog_9_method_5_code (some .int) 1 0 o wo Ok) (a1 : Int32) (a2 : Int32) (w : Wld) (s : Int32 × Int32) : SimK Ok (V_State_within_65_5 a1 a2 w s) (B_State_within_65_5 a1 a2 w s) (GLp Ok (V_State_within_65_5 a1 a2 w) (GEp Ok (E_State_within_65_5 a1 a2 w))) := by
  unfold B_State_within_65_5
  show SimK Ok (5, [(0, vR 65), (1, vI a1), (2, vI a2), (3, vI s.1), (4, vI s.2)], [], w) _ _
  refine sim_blk0 hC [(.iload 4, 0, 0, 0, 0), (.iload_n 2, 0, 0, 0, 0)] [(0, vR 65), (1, vI a1), (2, vI a2), (3, vI s.1), (4, vI s.2)] [vI a2, vI s.2] w 8 (by decide +kernel) rfl rfl ?_
  refine sim_br hC (.if_icmp .ge 30) 38 (by decide +kernel) rfl (by decide) ?_ ?_
  · refine sim_sub hC [3] ?_
    exact sim_exit (E := (E_State_within_65_5 a1 a2 w)) s.1
  · refine sim_blk1 hC [(.aload_n 0, 0, 0, 0, 0), (.getfield 11, 65, 0, 68, 0), (.bipush 16, 0, 0, 0, 16), (.iload 4, 0, 0, 0, 0), (.iadd, 0, 0, 0, 0), (.iaload, 66, 53, 0, 0), (.iload_n 1, 0, 0, 0, 0)] [(0, vR 65), (1, vI a1), (2, vI a2), (3, vI s.1), (4, vI s.2)] [vI a1, vI (w 66 (Int32.toNatClampNeg ((16 : Int32) + s.2)))] w 22 (by decide +kernel) rfl rfl ?_
    refine sim_br hC (.if_icmp .ne 10) 32 (by decide +kernel) rfl (by decide) ?_ ?_
    · exact s_K_State_within_65_32 hC a1 a2 s.1 s.2 w
    · refine sim_blk0 hC [(.iload_n 3, 0, 0, 0, 0), (.iconst 1, 0, 0, 0, 1), (.iload 4, 0, 0, 0, 0), (.ishl, 0, 0, 0, 0), (.ior, 0, 0, 0, 0), (.istore_n 3, 0, 0, 0, 0)] [(0, vR 65), (1, vI a1), (2, vI a2), (3, vI (s.1 ||| ((1 : Int32) <<< (s.2 &&& 31)))), (4, vI s.2)] [] w 32 (by decide +kernel) rfl rfl ?_
      refine sim_bi (C := fun i2 => (32, [(0, vR 65), (1, vI a1), (2, vI a2), (3, vI i2), (4, vI s.2)], [], w)) (fun i2 => ?_)
      exact s_K_State_within_65_32 hC a1 a2 i2 s.2 w
noncomputable def F_State_within_65 (w : Wld) (a1 : Int32) (a2 : Int32) : Option (Int32) :=
  bl (loop (B_State_within_65_5 a1 a2 w) ((0, 0))) (fun r3 => some r3)
set_option maxRecDepth 10000 in
theorem s_State_within_65 {Z : ZT} {l : Launch} {o : Oc} {wo : Wld} {Ok : Cfg → Prop} (hC : Clo Z l 7 5 prog_9_method_5_code (some .int) 1 0 o wo Ok) (w : Wld) (a1 : Int32) (a2 : Int32) : SimK Ok (0, [(0, vR 65), (1, vI a1), (2, vI a2)], [], w) (F_State_within_65 w a1 a2) (Gp o wo w) := by
  unfold F_State_within_65
  refine sim_blk0 hC [(.iconst 0, 0, 0, 0, 0), (.istore_n 3, 0, 0, 0, 0), (.iconst 0, 0, 0, 0, 0), (.istore 4, 0, 0, 0, 0)] [(0, vR 65), (1, vI a1), (2, vI a2), (3, vI 0), (4, vI 0)] [] w 5 (by decide +kernel) rfl rfl ?_
  refine sim_bl (E := (E_State_within_65_5 a1 a2 w)) ?_ (fun r3 => ?_)
  · exact sim_loop (V := (V_State_within_65_5 a1 a2 w)) (fun sz => s_B_State_within_65_5 hC a1 a2 w sz) ((0, 0))
  · show SimK Ok (38, [(3, vI r3)], [], w) _ _
    refine sim_blk0 hC [(.iload_n 3, 0, 0, 0, 0)] [(3, vI r3)] [vI r3] w 39 (by decide +kernel) rfl rfl ?_
    exact sim_retp hC (by decide +kernel) trivial
theorem c_State_within_65 {Z : ZT} {l : Launch} (w : Wld) (a1 : Int32) (a2 : Int32) (r : Int32) (h : F_State_within_65 w a1 a2 = some r) : Con Z l mX7_within 1 0 [vR 65, vI a1, vI a2] w (.inr (some r)) w :=
  Con_of (oc := 7) (by decide +kernel) rfl rfl (fun Ok hC => s_State_within_65 hC w a1 a2 r h ⟨rfl, rfl⟩)
noncomputable def F_JI_bitCount (w : Wld) (a0 : Int32) : Option (Int32) :=
  bi (a0 - (((a0.toUInt32 >>> (Int32.toUInt32 1 &&& Int32.toUInt32 31)).toInt32) &&& (1431655765 : Int32))) (fun i1 => bi ((i1 &&& (858993459 : Int32)) + (((i1.toUInt32 >>> (Int32.toUInt32 2 &&& Int32.toUInt32 31)).toInt32) &&& (858993459 : Int32))) (fun i2 => bi ((i2 + ((i2.toUInt32 >>> (Int32.toUInt32 4 &&& Int32.toUInt32 31)).toInt32)) &&& (252645135 : Int32)) (fun i3 => bi (i3 + ((i3.toUInt32 >>> (Int32.toUInt32 8 &&& Int32.toUInt32 31)).toInt32)) (fun i4 => bi (i4 + ((i4.toUInt32 >>> (Int32.toUInt32 16 &&& Int32.toUInt32 31)).toInt32)) (fun i5 => some (i5 &&& (63 : Int32)))))))
set_option maxRecDepth 10000 in
theorem s_JI_bitCount {Z : ZT} {l : Launch} {o : Oc} {wo : Wld} {Ok : Cfg → Prop} (hC : Clo Z l 11 1 prog_20_method_49_code (some .int) 1 0 o wo Ok) (w : Wld) (a0 : Int32) : SimK Ok (0, [(0, vI a0)], [], w) (F_JI_bitCount w a0) (Gp o wo w) := by
  unfold F_JI_bitCount
  refine sim_blk0 hC [(.iload_n 0, 0, 0, 0, 0), (.iload_n 0, 0, 0, 0, 0), (.iconst 1, 0, 0, 0, 1), (.iushr, 0, 0, 0, 0), (.ldc_w 265, 0, 0, 0, 1431655765), (.iand, 0, 0, 0, 0), (.isub, 0, 0, 0, 0), (.istore_n 0, 0, 0, 0, 0)] [(0, vI (a0 - (((a0.toUInt32 >>> (Int32.toUInt32 1 &&& Int32.toUInt32 31)).toInt32) &&& (1431655765 : Int32))))] [] w 10 (by decide +kernel) rfl rfl ?_
  refine sim_bi (C := fun i1 => (10, [(0, vI i1)], [], w)) (fun i1 => ?_)
  refine sim_blk0 hC [(.iload_n 0, 0, 0, 0, 0), (.ldc_w 266, 0, 0, 0, 858993459), (.iand, 0, 0, 0, 0), (.iload_n 0, 0, 0, 0, 0), (.iconst 2, 0, 0, 0, 2), (.iushr, 0, 0, 0, 0), (.ldc_w 266, 0, 0, 0, 858993459), (.iand, 0, 0, 0, 0), (.iadd, 0, 0, 0, 0), (.istore_n 0, 0, 0, 0, 0)] [(0, vI ((i1 &&& (858993459 : Int32)) + (((i1.toUInt32 >>> (Int32.toUInt32 2 &&& Int32.toUInt32 31)).toInt32) &&& (858993459 : Int32))))] [] w 24 (by decide +kernel) rfl rfl ?_
  refine sim_bi (C := fun i2 => (24, [(0, vI i2)], [], w)) (fun i2 => ?_)
  refine sim_blk0 hC [(.iload_n 0, 0, 0, 0, 0), (.iload_n 0, 0, 0, 0, 0), (.iconst 4, 0, 0, 0, 4), (.iushr, 0, 0, 0, 0), (.iadd, 0, 0, 0, 0), (.ldc_w 267, 0, 0, 0, 252645135), (.iand, 0, 0, 0, 0), (.istore_n 0, 0, 0, 0, 0)] [(0, vI ((i2 + ((i2.toUInt32 >>> (Int32.toUInt32 4 &&& Int32.toUInt32 31)).toInt32)) &&& (252645135 : Int32)))] [] w 34 (by decide +kernel) rfl rfl ?_
  refine sim_bi (C := fun i3 => (34, [(0, vI i3)], [], w)) (fun i3 => ?_)
  refine sim_blk0 hC [(.iload_n 0, 0, 0, 0, 0), (.iload_n 0, 0, 0, 0, 0), (.bipush 8, 0, 0, 0, 8), (.iushr, 0, 0, 0, 0), (.iadd, 0, 0, 0, 0), (.istore_n 0, 0, 0, 0, 0)] [(0, vI (i3 + ((i3.toUInt32 >>> (Int32.toUInt32 8 &&& Int32.toUInt32 31)).toInt32)))] [] w 41 (by decide +kernel) rfl rfl ?_
  refine sim_bi (C := fun i4 => (41, [(0, vI i4)], [], w)) (fun i4 => ?_)
  refine sim_blk0 hC [(.iload_n 0, 0, 0, 0, 0), (.iload_n 0, 0, 0, 0, 0), (.bipush 16, 0, 0, 0, 16), (.iushr, 0, 0, 0, 0), (.iadd, 0, 0, 0, 0), (.istore_n 0, 0, 0, 0, 0)] [(0, vI (i4 + ((i4.toUInt32 >>> (Int32.toUInt32 16 &&& Int32.toUInt32 31)).toInt32)))] [] w 48 (by decide +kernel) rfl rfl ?_
  refine sim_bi (C := fun i5 => (48, [(0, vI i5)], [], w)) (fun i5 => ?_)
  refine sim_blk0 hC [(.iload_n 0, 0, 0, 0, 0), (.bipush 63, 0, 0, 0, 63), (.iand, 0, 0, 0, 0)] [(0, vI i5)] [vI (i5 &&& (63 : Int32))] w 52 (by decide +kernel) rfl rfl ?_
  exact sim_retp hC (by decide +kernel) trivial
theorem c_JI_bitCount {Z : ZT} {l : Launch} (w : Wld) (a0 : Int32) (r : Int32) (h : F_JI_bitCount w a0 = some r) : Con Z l mJ6_bitCount_0f7a4 1 0 [vI a0] w (.inr (some r)) w :=
  Con_of (oc := 11) (by decide +kernel) rfl rfl (fun Ok hC => s_JI_bitCount hC w a0 r h ⟨rfl, rfl⟩)
noncomputable def F_Night_lookAt_55_65 (w : Wld) (a2 : Int32) : Option (Wld) :=
  gd (vp_in ((16 : Int32) + a2) 53) (bi (w 66 (Int32.toNatClampNeg ((16 : Int32) + a2))) (fun i1 => gd (vp_in ((0 : Int32) + a2) 53) (gd (vp_in 0 8) (bw (wup w 62 (Int32.toNatClampNeg 0) (w 66 (Int32.toNatClampNeg ((0 : Int32) + a2)))) (fun w2 => gd (vp_in ((8 : Int32) + a2) 53) (gd (vp_in 1 8) (bw (wup w2 62 (Int32.toNatClampNeg 1) (w2 66 (Int32.toNatClampNeg ((8 : Int32) + a2)))) (fun w3 => gd (vp_in a2 8) (gd (vp_in 2 8) (bw (wup w3 62 (Int32.toNatClampNeg 2) (w3 58 (Int32.toNatClampNeg a2))) (fun w4 => gd (vp_in 3 8) (bw (wup w4 62 (Int32.toNatClampNeg 3) i1) (fun w5 => gd (vp_in i1 9) (gd (vp_in 4 8) (bw (wup w5 62 (Int32.toNatClampNeg 4) (w5 57 (Int32.toNatClampNeg i1))) (fun w6 => gd (vp_in 52 53) (gd (vp_in 5 8) (bw (wup w6 62 (Int32.toNatClampNeg 5) (w6 66 (Int32.toNatClampNeg 52))) (fun w7 => bp (F_State_within_65 w7 i1 (w7 56 1)) (fun i8 => bp (F_JI_bitCount w7 i8) (fun i9 => gd (vp_in 6 8) (bw (wup w7 62 (Int32.toNatClampNeg 6) (i9 - (1 : Int32))) (fun w10 => gd (vp_in 51 53) (gd (vp_in 7 8) (bw (wup w10 62 (Int32.toNatClampNeg 7) (((w10 66 (Int32.toNatClampNeg 51)) >>> (a2 &&& 31)) &&& (1 : Int32))) (fun w11 => some w11))))))))))))))))))))))))))
set_option maxRecDepth 10000 in
theorem s_Night_lookAt_55_65 {Z : ZT} {l : Launch} {o : Oc} {wo : Wld} {Ok : Cfg → Prop} (hC : Clo Z l 4 4 prog_6_method_3_code none 2 24 o wo Ok) (w : Wld) (a2 : Int32) : SimK Ok (0, [(0, vR 55), (1, vR 65), (2, vI a2)], [], w) (F_Night_lookAt_55_65 w a2) (Gv o wo) := by
  unfold F_Night_lookAt_55_65
  refine sim_blk1 hC [(.aload_n 1, 0, 0, 0, 0), (.getfield 31, 65, 0, 68, 0), (.bipush 16, 0, 0, 0, 16), (.iload_n 2, 0, 0, 0, 0), (.iadd, 0, 0, 0, 0), (.iaload, 66, 53, 0, 0), (.istore_n 3, 0, 0, 0, 0)] [(0, vR 55), (1, vR 65), (2, vI a2), (3, vI (w 66 (Int32.toNatClampNeg ((16 : Int32) + a2))))] [] w 10 (by decide +kernel) rfl rfl ?_
  refine sim_bi (C := fun i1 => (10, [(0, vR 55), (1, vR 65), (2, vI a2), (3, vI i1)], [], w)) (fun i1 => ?_)
  refine sim_blk2 hC [(.aload_n 0, 0, 0, 0, 0), (.getfield 20, 55, 1, 64, 0), (.iconst 0, 0, 0, 0, 0), (.aload_n 1, 0, 0, 0, 0), (.getfield 31, 65, 0, 68, 0), (.iconst 0, 0, 0, 0, 0), (.iload_n 2, 0, 0, 0, 0), (.iadd, 0, 0, 0, 0), (.iaload, 66, 53, 0, 0), (.iastore, 62, 8, 0, 0)] [(0, vR 55), (1, vR 65), (2, vI a2), (3, vI i1)] [] (wup w 62 (Int32.toNatClampNeg 0) (w 66 (Int32.toNatClampNeg ((0 : Int32) + a2)))) 24 (by decide +kernel) rfl rfl ?_
  refine sim_bw (C := fun w2 => (24, [(0, vR 55), (1, vR 65), (2, vI a2), (3, vI i1)], [], w2)) (fun w2 => ?_)
  refine sim_blk2 hC [(.aload_n 0, 0, 0, 0, 0), (.getfield 20, 55, 1, 64, 0), (.iconst 1, 0, 0, 0, 1), (.aload_n 1, 0, 0, 0, 0), (.getfield 31, 65, 0, 68, 0), (.bipush 8, 0, 0, 0, 8), (.iload_n 2, 0, 0, 0, 0), (.iadd, 0, 0, 0, 0), (.iaload, 66, 53, 0, 0), (.iastore, 62, 8, 0, 0)] [(0, vR 55), (1, vR 65), (2, vI a2), (3, vI i1)] [] (wup w2 62 (Int32.toNatClampNeg 1) (w2 66 (Int32.toNatClampNeg ((8 : Int32) + a2)))) 39 (by decide +kernel) rfl rfl ?_
  refine sim_bw (C := fun w3 => (39, [(0, vR 55), (1, vR 65), (2, vI a2), (3, vI i1)], [], w3)) (fun w3 => ?_)
  refine sim_blk2 hC [(.aload_n 0, 0, 0, 0, 0), (.getfield 20, 55, 1, 64, 0), (.iconst 2, 0, 0, 0, 2), (.aload_n 0, 0, 0, 0, 0), (.getfield 12, 55, 0, 58, 0), (.getfield 51, 56, 5, 60, 0), (.iload_n 2, 0, 0, 0, 0), (.iaload, 58, 8, 0, 0), (.iastore, 62, 8, 0, 0)] [(0, vR 55), (1, vR 65), (2, vI a2), (3, vI i1)] [] (wup w3 62 (Int32.toNatClampNeg 2) (w3 58 (Int32.toNatClampNeg a2))) 54 (by decide +kernel) rfl rfl ?_
  refine sim_bw (C := fun w4 => (54, [(0, vR 55), (1, vR 65), (2, vI a2), (3, vI i1)], [], w4)) (fun w4 => ?_)
  refine sim_blk1 hC [(.aload_n 0, 0, 0, 0, 0), (.getfield 20, 55, 1, 64, 0), (.iconst 3, 0, 0, 0, 3), (.iload_n 3, 0, 0, 0, 0), (.iastore, 62, 8, 0, 0)] [(0, vR 55), (1, vR 65), (2, vI a2), (3, vI i1)] [] (wup w4 62 (Int32.toNatClampNeg 3) i1) 61 (by decide +kernel) rfl rfl ?_
  refine sim_bw (C := fun w5 => (61, [(0, vR 55), (1, vR 65), (2, vI a2), (3, vI i1)], [], w5)) (fun w5 => ?_)
  refine sim_blk2 hC [(.aload_n 0, 0, 0, 0, 0), (.getfield 20, 55, 1, 64, 0), (.iconst 4, 0, 0, 0, 4), (.aload_n 0, 0, 0, 0, 0), (.getfield 12, 55, 0, 58, 0), (.getfield 54, 56, 4, 59, 0), (.iload_n 3, 0, 0, 0, 0), (.iaload, 57, 9, 0, 0), (.iastore, 62, 8, 0, 0)] [(0, vR 55), (1, vR 65), (2, vI a2), (3, vI i1)] [] (wup w5 62 (Int32.toNatClampNeg 4) (w5 57 (Int32.toNatClampNeg i1))) 76 (by decide +kernel) rfl rfl ?_
  refine sim_bw (C := fun w6 => (76, [(0, vR 55), (1, vR 65), (2, vI a2), (3, vI i1)], [], w6)) (fun w6 => ?_)
  refine sim_blk2 hC [(.aload_n 0, 0, 0, 0, 0), (.getfield 20, 55, 1, 64, 0), (.iconst 5, 0, 0, 0, 5), (.aload_n 1, 0, 0, 0, 0), (.getfield 31, 65, 0, 68, 0), (.bipush 52, 0, 0, 0, 52), (.iaload, 66, 53, 0, 0), (.iastore, 62, 8, 0, 0)] [(0, vR 55), (1, vR 65), (2, vI a2), (3, vI i1)] [] (wup w6 62 (Int32.toNatClampNeg 5) (w6 66 (Int32.toNatClampNeg 52))) 89 (by decide +kernel) rfl rfl ?_
  refine sim_bw (C := fun w7 => (89, [(0, vR 55), (1, vR 65), (2, vI a2), (3, vI i1)], [], w7)) (fun w7 => ?_)
  refine sim_blk0 hC [(.aload_n 0, 0, 0, 0, 0), (.getfield 20, 55, 1, 64, 0), (.bipush 6, 0, 0, 0, 6), (.aload_n 1, 0, 0, 0, 0), (.iload_n 3, 0, 0, 0, 0), (.aload_n 0, 0, 0, 0, 0), (.getfield 12, 55, 0, 58, 0), (.getfield 57, 56, 1, 0, 0)] [(0, vR 55), (1, vR 65), (2, vI a2), (3, vI i1)] [vI (w7 56 1), vI i1, vR 65, vI 6, vR 62] w7 104 (by decide +kernel) rfl rfl ?_
  refine sim_vp hC 60 mX7_within 1 0 65 [vI i1, vI (w7 56 1)] [vI 6, vR 62] (by decide +kernel) ml_4_60 rfl rfl rfl rfl rfl rfl (fun rz hz => c_State_within_65 w7 i1 (w7 56 1) rz hz) (fun i8 => ?_)
  refine sim_sp hC 64 mJ6_bitCount_0f7a4 1 0 [vI i8] [vI 6, vR 62] (by decide +kernel) ml_4_64 rfl rfl rfl rfl rfl (fun rz hz => c_JI_bitCount w7 i8 rz hz) (fun i9 => ?_)
  refine sim_blk1 hC [(.iconst 1, 0, 0, 0, 1), (.isub, 0, 0, 0, 0), (.iastore, 62, 8, 0, 0)] [(0, vR 55), (1, vR 65), (2, vI a2), (3, vI i1)] [] (wup w7 62 (Int32.toNatClampNeg 6) (i9 - (1 : Int32))) 113 (by decide +kernel) rfl rfl ?_
  refine sim_bw (C := fun w10 => (113, [(0, vR 55), (1, vR 65), (2, vI a2), (3, vI i1)], [], w10)) (fun w10 => ?_)
  refine sim_blk2 hC [(.aload_n 0, 0, 0, 0, 0), (.getfield 20, 55, 1, 64, 0), (.bipush 7, 0, 0, 0, 7), (.aload_n 1, 0, 0, 0, 0), (.getfield 31, 65, 0, 68, 0), (.bipush 51, 0, 0, 0, 51), (.iaload, 66, 53, 0, 0), (.iload_n 2, 0, 0, 0, 0), (.ishr, 0, 0, 0, 0), (.iconst 1, 0, 0, 0, 1), (.iand, 0, 0, 0, 0), (.iastore, 62, 8, 0, 0)] [(0, vR 55), (1, vR 65), (2, vI a2), (3, vI i1)] [] (wup w10 62 (Int32.toNatClampNeg 7) (((w10 66 (Int32.toNatClampNeg 51)) >>> (a2 &&& 31)) &&& (1 : Int32))) 131 (by decide +kernel) rfl rfl ?_
  refine sim_bw (C := fun w11 => (131, [(0, vR 55), (1, vR 65), (2, vI a2), (3, vI i1)], [], w11)) (fun w11 => ?_)
  exact sim_retv hC (by decide +kernel)
theorem c_Night_lookAt_55_65 {Z : ZT} {l : Launch} (w : Wld) (a2 : Int32) (w1 : Wld) (h : F_Night_lookAt_55_65 w a2 = some w1) : Con Z l mX4_lookAt 2 24 [vR 55, vR 65, vI a2] w (.inr none) w1 :=
  Con_of (oc := 4) (by decide +kernel) rfl rfl (fun Ok hC => s_Night_lookAt_55_65 hC w a2 w1 h ⟨rfl, rfl⟩)
noncomputable def K_Rule_joined_117 (t0 : Int32) (w : Wld) : Option (Int32) :=
  some t0
set_option maxRecDepth 10000 in
theorem s_K_Rule_joined_117 {Z : ZT} {l : Launch} {o : Oc} {wo : Wld} {Ok : Cfg → Prop} (hC : Clo Z l 6 3 prog_8_method_5_code (some .int) 1 0 o wo Ok) (t0 : Int32) (w : Wld) : SimK Ok (117, [], [vI t0], w) (K_Rule_joined_117 t0 w) (Gp o wo w) := by
  unfold K_Rule_joined_117
  exact sim_retp hC (by decide +kernel) trivial
noncomputable def K_Rule_joined_93 (t0 : Int32) (w : Wld) : Option (Int32) :=
  some t0
set_option maxRecDepth 10000 in
theorem s_K_Rule_joined_93 {Z : ZT} {l : Launch} {o : Oc} {wo : Wld} {Ok : Cfg → Prop} (hC : Clo Z l 6 3 prog_8_method_5_code (some .int) 1 0 o wo Ok) (t0 : Int32) (w : Wld) : SimK Ok (93, [], [vI t0], w) (K_Rule_joined_93 t0 w) (Gp o wo w) := by
  unfold K_Rule_joined_93
  exact sim_retp hC (by decide +kernel) trivial
noncomputable def K_Rule_joined_82 (t0 : Int32) (w : Wld) : Option (Int32) :=
  some t0
set_option maxRecDepth 10000 in
theorem s_K_Rule_joined_82 {Z : ZT} {l : Launch} {o : Oc} {wo : Wld} {Ok : Cfg → Prop} (hC : Clo Z l 6 3 prog_8_method_5_code (some .int) 1 0 o wo Ok) (t0 : Int32) (w : Wld) : SimK Ok (82, [], [vI t0], w) (K_Rule_joined_82 t0 w) (Gp o wo w) := by
  unfold K_Rule_joined_82
  exact sim_retp hC (by decide +kernel) trivial
noncomputable def K_Rule_joined_71 (t0 : Int32) (w : Wld) : Option (Int32) :=
  some t0
set_option maxRecDepth 10000 in
theorem s_K_Rule_joined_71 {Z : ZT} {l : Launch} {o : Oc} {wo : Wld} {Ok : Cfg → Prop} (hC : Clo Z l 6 3 prog_8_method_5_code (some .int) 1 0 o wo Ok) (t0 : Int32) (w : Wld) : SimK Ok (71, [], [vI t0], w) (K_Rule_joined_71 t0 w) (Gp o wo w) := by
  unfold K_Rule_joined_71
  exact sim_retp hC (by decide +kernel) trivial
noncomputable def K_Rule_joined_70 (w : Wld) : Option (Int32) :=
  K_Rule_joined_71 0 w
set_option maxRecDepth 10000 in
theorem s_K_Rule_joined_70 {Z : ZT} {l : Launch} {o : Oc} {wo : Wld} {Ok : Cfg → Prop} (hC : Clo Z l 6 3 prog_8_method_5_code (some .int) 1 0 o wo Ok) (w : Wld) : SimK Ok (70, [], [], w) (K_Rule_joined_70 w) (Gp o wo w) := by
  unfold K_Rule_joined_70
  refine sim_blk0 hC [(.iconst 0, 0, 0, 0, 0)] [] [vI 0] w 71 (by decide +kernel) rfl rfl ?_
  exact s_K_Rule_joined_71 hC 0 w
noncomputable def K_Rule_joined_57 (t0 : Int32) (w : Wld) : Option (Int32) :=
  some t0
set_option maxRecDepth 10000 in
theorem s_K_Rule_joined_57 {Z : ZT} {l : Launch} {o : Oc} {wo : Wld} {Ok : Cfg → Prop} (hC : Clo Z l 6 3 prog_8_method_5_code (some .int) 1 0 o wo Ok) (t0 : Int32) (w : Wld) : SimK Ok (57, [], [vI t0], w) (K_Rule_joined_57 t0 w) (Gp o wo w) := by
  unfold K_Rule_joined_57
  exact sim_retp hC (by decide +kernel) trivial
noncomputable def K_Rule_joined_52 (w : Wld) : Option (Int32) :=
  K_Rule_joined_57 1 w
set_option maxRecDepth 10000 in
theorem s_K_Rule_joined_52 {Z : ZT} {l : Launch} {o : Oc} {wo : Wld} {Ok : Cfg → Prop} (hC : Clo Z l 6 3 prog_8_method_5_code (some .int) 1 0 o wo Ok) (w : Wld) : SimK Ok (52, [], [], w) (K_Rule_joined_52 w) (Gp o wo w) := by
  unfold K_Rule_joined_52
  refine sim_blk0 hC [(.iconst 1, 0, 0, 0, 1)] [] [vI 1] w 53 (by decide +kernel) rfl rfl ?_
  refine sim_goto hC 4 57 (by decide +kernel) (by decide) ?_
  exact s_K_Rule_joined_57 hC 1 w
noncomputable def F_Rule_joined (w : Wld) (a0 : Int32) (a1 : Int32) (a2 : Int32) : Option (Int32) :=
  br (a0 = (-17)) (some (a1 * a2)) (br (a0 = (-16)) (some (a1 - a2)) (br (a0 = (-15)) (some (a1 + a2)) (br (a0 = (-14)) (br (¬ a1 = a2) (K_Rule_joined_93 0 w) (K_Rule_joined_93 1 w)) (br (a0 = (-13)) (br (a2 ≤ a1) (K_Rule_joined_82 0 w) (K_Rule_joined_82 1 w)) (br (a0 = (-12)) (br (a1 = 0) (K_Rule_joined_70 w) (br (a2 = 0) (K_Rule_joined_70 w) (K_Rule_joined_71 1 w))) (br (a0 = (-11)) (br (¬ a1 = 0) (K_Rule_joined_52 w) (br (a2 = 0) (K_Rule_joined_57 0 w) (K_Rule_joined_52 w))) (br (¬ a2 = 0) (gd (¬ a2 = 0) (K_Rule_joined_117 (a1 / a2) w)) (K_Rule_joined_117 0 w))))))))
set_option maxRecDepth 10000 in
theorem s_Rule_joined {Z : ZT} {l : Launch} {o : Oc} {wo : Wld} {Ok : Cfg → Prop} (hC : Clo Z l 6 3 prog_8_method_5_code (some .int) 1 0 o wo Ok) (w : Wld) (a0 : Int32) (a1 : Int32) (a2 : Int32) : SimK Ok (0, [(0, vI a0), (1, vI a1), (2, vI a2)], [], w) (F_Rule_joined w a0 a1 a2) (Gp o wo w) := by
  unfold F_Rule_joined
  refine sim_blk0 hC [(.iload_n 0, 0, 0, 0, 0)] [(0, vI a0), (1, vI a1), (2, vI a2)] [vI a0] w 1 (by decide +kernel) rfl rfl ?_
  refine sim_cases (fun h0 => ?_) (fun h0 => ?_)
  · refine sim_case hC 105 (-17) (-11) #[101, 97, 93, 82, 71, 57, 43] 43 101 102 h0 (by decide +kernel) (by decide) (by decide) (by decide +kernel) (by decide) ?_
    refine sim_blk0 hC [(.iload_n 1, 0, 0, 0, 0), (.iload_n 2, 0, 0, 0, 0), (.imul, 0, 0, 0, 0)] [(0, vI a0), (1, vI a1), (2, vI a2)] [vI (a1 * a2)] w 105 (by decide +kernel) rfl rfl ?_
    exact sim_retp hC (by decide +kernel) trivial
  · refine sim_cases (fun h1 => ?_) (fun h1 => ?_)
    · refine sim_case hC 105 (-17) (-11) #[101, 97, 93, 82, 71, 57, 43] 43 97 98 h1 (by decide +kernel) (by decide) (by decide) (by decide +kernel) (by decide) ?_
      refine sim_blk0 hC [(.iload_n 1, 0, 0, 0, 0), (.iload_n 2, 0, 0, 0, 0), (.isub, 0, 0, 0, 0)] [(0, vI a0), (1, vI a1), (2, vI a2)] [vI (a1 - a2)] w 101 (by decide +kernel) rfl rfl ?_
      exact sim_retp hC (by decide +kernel) trivial
    · refine sim_cases (fun h2 => ?_) (fun h2 => ?_)
      · refine sim_case hC 105 (-17) (-11) #[101, 97, 93, 82, 71, 57, 43] 43 93 94 h2 (by decide +kernel) (by decide) (by decide) (by decide +kernel) (by decide) ?_
        refine sim_blk0 hC [(.iload_n 1, 0, 0, 0, 0), (.iload_n 2, 0, 0, 0, 0), (.iadd, 0, 0, 0, 0)] [(0, vI a0), (1, vI a1), (2, vI a2)] [vI (a1 + a2)] w 97 (by decide +kernel) rfl rfl ?_
        exact sim_retp hC (by decide +kernel) trivial
      · refine sim_cases (fun h3 => ?_) (fun h3 => ?_)
        · refine sim_case hC 105 (-17) (-11) #[101, 97, 93, 82, 71, 57, 43] 43 82 83 h3 (by decide +kernel) (by decide) (by decide) (by decide +kernel) (by decide) ?_
          refine sim_blk0 hC [(.iload_n 1, 0, 0, 0, 0), (.iload_n 2, 0, 0, 0, 0)] [(0, vI a0), (1, vI a1), (2, vI a2)] [vI a2, vI a1] w 85 (by decide +kernel) rfl rfl ?_
          refine sim_br hC (.if_icmp .ne 7) 92 (by decide +kernel) rfl (by decide) ?_ ?_
          · refine sim_blk0 hC [(.iconst 0, 0, 0, 0, 0)] [(0, vI a0), (1, vI a1), (2, vI a2)] [vI 0] w 93 (by decide +kernel) rfl rfl ?_
            refine sim_sub hC [] ?_
            exact s_K_Rule_joined_93 hC 0 w
          · refine sim_blk0 hC [(.iconst 1, 0, 0, 0, 1)] [(0, vI a0), (1, vI a1), (2, vI a2)] [vI 1] w 89 (by decide +kernel) rfl rfl ?_
            refine sim_goto hC 4 93 (by decide +kernel) (by decide) ?_
            refine sim_sub hC [] ?_
            exact s_K_Rule_joined_93 hC 1 w
        · refine sim_cases (fun h4 => ?_) (fun h4 => ?_)
          · refine sim_case hC 105 (-17) (-11) #[101, 97, 93, 82, 71, 57, 43] 43 71 72 h4 (by decide +kernel) (by decide) (by decide) (by decide +kernel) (by decide) ?_
            refine sim_blk0 hC [(.iload_n 1, 0, 0, 0, 0), (.iload_n 2, 0, 0, 0, 0)] [(0, vI a0), (1, vI a1), (2, vI a2)] [vI a2, vI a1] w 74 (by decide +kernel) rfl rfl ?_
            refine sim_br hC (.if_icmp .ge 7) 81 (by decide +kernel) rfl (by decide) ?_ ?_
            · refine sim_blk0 hC [(.iconst 0, 0, 0, 0, 0)] [(0, vI a0), (1, vI a1), (2, vI a2)] [vI 0] w 82 (by decide +kernel) rfl rfl ?_
              refine sim_sub hC [] ?_
              exact s_K_Rule_joined_82 hC 0 w
            · refine sim_blk0 hC [(.iconst 1, 0, 0, 0, 1)] [(0, vI a0), (1, vI a1), (2, vI a2)] [vI 1] w 78 (by decide +kernel) rfl rfl ?_
              refine sim_goto hC 4 82 (by decide +kernel) (by decide) ?_
              refine sim_sub hC [] ?_
              exact s_K_Rule_joined_82 hC 1 w
          · refine sim_cases (fun h5 => ?_) (fun h5 => ?_)
            · refine sim_case hC 105 (-17) (-11) #[101, 97, 93, 82, 71, 57, 43] 43 57 58 h5 (by decide +kernel) (by decide) (by decide) (by decide +kernel) (by decide) ?_
              refine sim_blk0 hC [(.iload_n 1, 0, 0, 0, 0)] [(0, vI a0), (1, vI a1), (2, vI a2)] [vI a1] w 59 (by decide +kernel) rfl rfl ?_
              refine sim_br hC (.ifCond .eq 11) 70 (by decide +kernel) rfl (by decide) ?_ ?_
              · refine sim_sub hC [] ?_
                exact s_K_Rule_joined_70 hC w
              · refine sim_blk0 hC [(.iload_n 2, 0, 0, 0, 0)] [(0, vI a0), (1, vI a1), (2, vI a2)] [vI a2] w 63 (by decide +kernel) rfl rfl ?_
                refine sim_br hC (.ifCond .eq 7) 70 (by decide +kernel) rfl (by decide) ?_ ?_
                · refine sim_sub hC [] ?_
                  exact s_K_Rule_joined_70 hC w
                · refine sim_blk0 hC [(.iconst 1, 0, 0, 0, 1)] [(0, vI a0), (1, vI a1), (2, vI a2)] [vI 1] w 67 (by decide +kernel) rfl rfl ?_
                  refine sim_goto hC 4 71 (by decide +kernel) (by decide) ?_
                  refine sim_sub hC [] ?_
                  exact s_K_Rule_joined_71 hC 1 w
            · refine sim_cases (fun h6 => ?_) (fun h6 => ?_)
              · refine sim_case hC 105 (-17) (-11) #[101, 97, 93, 82, 71, 57, 43] 43 43 44 h6 (by decide +kernel) (by decide) (by decide) (by decide +kernel) (by decide) ?_
                refine sim_blk0 hC [(.iload_n 1, 0, 0, 0, 0)] [(0, vI a0), (1, vI a1), (2, vI a2)] [vI a1] w 45 (by decide +kernel) rfl rfl ?_
                refine sim_br hC (.ifCond .ne 7) 52 (by decide +kernel) rfl (by decide) ?_ ?_
                · refine sim_sub hC [] ?_
                  exact s_K_Rule_joined_52 hC w
                · refine sim_blk0 hC [(.iload_n 2, 0, 0, 0, 0)] [(0, vI a0), (1, vI a1), (2, vI a2)] [vI a2] w 49 (by decide +kernel) rfl rfl ?_
                  refine sim_br hC (.ifCond .eq 7) 56 (by decide +kernel) rfl (by decide) ?_ ?_
                  · refine sim_blk0 hC [(.iconst 0, 0, 0, 0, 0)] [(0, vI a0), (1, vI a1), (2, vI a2)] [vI 0] w 57 (by decide +kernel) rfl rfl ?_
                    refine sim_sub hC [] ?_
                    exact s_K_Rule_joined_57 hC 0 w
                  · refine sim_sub hC [] ?_
                    exact s_K_Rule_joined_52 hC w
              · refine sim_dflt hC 105 (-17) (-11) #[101, 97, 93, 82, 71, 57, 43] 43 106 (by decide +kernel) (sw_out [(-17), (-16), (-15), (-14), (-13), (-12), (-11)] (-17) (-11) (by decide +kernel) (List.forall_mem_cons.mpr ⟨h0, List.forall_mem_cons.mpr ⟨h1, List.forall_mem_cons.mpr ⟨h2, List.forall_mem_cons.mpr ⟨h3, List.forall_mem_cons.mpr ⟨h4, List.forall_mem_cons.mpr ⟨h5, List.forall_mem_cons.mpr ⟨h6, fun _ h => absurd h List.not_mem_nil⟩⟩⟩⟩⟩⟩⟩)) (by decide) ?_
                refine sim_blk0 hC [(.iload_n 2, 0, 0, 0, 0)] [(0, vI a0), (1, vI a1), (2, vI a2)] [vI a2] w 107 (by decide +kernel) rfl rfl ?_
                refine sim_br hC (.ifCond .ne 7) 114 (by decide +kernel) rfl (by decide) ?_ ?_
                · refine sim_blk1 hC [(.iload_n 1, 0, 0, 0, 0), (.iload_n 2, 0, 0, 0, 0), (.idiv, 0, 0, 0, 0)] [(0, vI a0), (1, vI a1), (2, vI a2)] [vI (a1 / a2)] w 117 (by decide +kernel) rfl rfl ?_
                  refine sim_sub hC [] ?_
                  exact s_K_Rule_joined_117 hC (a1 / a2) w
                · refine sim_blk0 hC [(.iconst 0, 0, 0, 0, 0)] [(0, vI a0), (1, vI a1), (2, vI a2)] [vI 0] w 111 (by decide +kernel) rfl rfl ?_
                  refine sim_goto hC 6 117 (by decide +kernel) (by decide) ?_
                  refine sim_sub hC [] ?_
                  exact s_K_Rule_joined_117 hC 0 w
theorem c_Rule_joined {Z : ZT} {l : Launch} (w : Wld) (a0 : Int32) (a1 : Int32) (a2 : Int32) (r : Int32) (h : F_Rule_joined w a0 a1 a2 = some r) : Con Z l mX6_joined 1 0 [vI a0, vI a1, vI a2] w (.inr (some r)) w :=
  Con_of (oc := 6) (by decide +kernel) rfl rfl (fun Ok hC => s_Rule_joined hC w a0 a1 a2 r h ⟨rfl, rfl⟩)
def V_Rule_valueBy_59_62_4 : (Int32 × Int32 × Wld) → Cfg := fun s => (4, [(0, vR 59), (1, vR 62), (2, vI s.1), (3, vI s.2.1)], [], s.2.2)
def E_Rule_valueBy_59_62_4 : (Wld) → Cfg := fun s => (142, [(0, vR 59)], [], s)
noncomputable def K_Rule_valueBy_59_62_136 (a2 : Int32) (a3 : Int32) (w : Wld) : Option ((Int32 × Int32 × Wld) ⊕ (Wld)) :=
  bi (a3 + 1) (fun i2 => some (.inl ((a2, i2, w))))
set_option maxRecDepth 10000 in
theorem s_K_Rule_valueBy_59_62_136 {Z : ZT} {l : Launch} {o : Oc} {wo : Wld} {Ok : Cfg → Prop} (hC : Clo Z l 6 5 prog_8_method_4_code (some .int) 2 22 o wo Ok) (a2 : Int32) (a3 : Int32) (w : Wld) : SimK Ok (136, [(0, vR 59), (1, vR 62), (2, vI a2), (3, vI a3)], [], w) (K_Rule_valueBy_59_62_136 a2 a3 w) (GLp Ok (V_Rule_valueBy_59_62_4) (GEp Ok (E_Rule_valueBy_59_62_4))) := by
  unfold K_Rule_valueBy_59_62_136
  refine sim_blk0 hC [(.iinc 3 1, 0, 0, 0, 1)] [(0, vR 59), (1, vR 62), (2, vI a2), (3, vI (a3 + 1))] [] w 139 (by decide +kernel) rfl rfl ?_
  refine sim_bi (C := fun i2 => (139, [(0, vR 59), (1, vR 62), (2, vI a2), (3, vI i2)], [], w)) (fun i2 => ?_)
  refine sim_goto hC (-135) 4 (by decide +kernel) (by decide) ?_
  exact sim_back (V := (V_Rule_valueBy_59_62_4)) ((a2, i2, w))
noncomputable def K_Rule_valueBy_59_62_132 (a2 : Int32) (a3 : Int32) (t1 : Int32) (t2 : Int32) (w : Wld) : Option ((Int32 × Int32 × Wld) ⊕ (Wld)) :=
  gd (vp_in t1 40) (bw (wup w 61 (Int32.toNatClampNeg t1) t2) (fun w3 => bi (a2 + 1) (fun i4 => K_Rule_valueBy_59_62_136 i4 a3 w3)))
set_option maxRecDepth 10000 in
theorem s_K_Rule_valueBy_59_62_132 {Z : ZT} {l : Launch} {o : Oc} {wo : Wld} {Ok : Cfg → Prop} (hC : Clo Z l 6 5 prog_8_method_4_code (some .int) 2 22 o wo Ok) (a2 : Int32) (a3 : Int32) (t1 : Int32) (t2 : Int32) (w : Wld) : SimK Ok (132, [(0, vR 59), (1, vR 62), (2, vI a2), (3, vI a3)], [vI t2, vI t1, vR 61], w) (K_Rule_valueBy_59_62_132 a2 a3 t1 t2 w) (GLp Ok (V_Rule_valueBy_59_62_4) (GEp Ok (E_Rule_valueBy_59_62_4))) := by
  unfold K_Rule_valueBy_59_62_132
  refine sim_blk1 hC [(.iastore, 61, 40, 0, 0)] [(0, vR 59), (1, vR 62), (2, vI a2), (3, vI a3)] [] (wup w 61 (Int32.toNatClampNeg t1) t2) 133 (by decide +kernel) rfl rfl ?_
  refine sim_bw (C := fun w3 => (133, [(0, vR 59), (1, vR 62), (2, vI a2), (3, vI a3)], [], w3)) (fun w3 => ?_)
  refine sim_blk0 hC [(.iinc 2 1, 0, 0, 0, 1)] [(0, vR 59), (1, vR 62), (2, vI (a2 + 1)), (3, vI a3)] [] w3 136 (by decide +kernel) rfl rfl ?_
  refine sim_bi (C := fun i4 => (136, [(0, vR 59), (1, vR 62), (2, vI i4), (3, vI a3)], [], w3)) (fun i4 => ?_)
  exact s_K_Rule_valueBy_59_62_136 hC i4 a3 w3
noncomputable def K_Rule_valueBy_59_62_100 (a2 : Int32) (a3 : Int32) (t1 : Int32) (t2 : Int32) (w : Wld) : Option ((Int32 × Int32 × Wld) ⊕ (Wld)) :=
  gd (vp_in t1 40) (bw (wup w 61 (Int32.toNatClampNeg t1) t2) (fun w5 => K_Rule_valueBy_59_62_136 a2 a3 w5))
set_option maxRecDepth 10000 in
theorem s_K_Rule_valueBy_59_62_100 {Z : ZT} {l : Launch} {o : Oc} {wo : Wld} {Ok : Cfg → Prop} (hC : Clo Z l 6 5 prog_8_method_4_code (some .int) 2 22 o wo Ok) (a2 : Int32) (a3 : Int32) (t1 : Int32) (t2 : Int32) (w : Wld) : SimK Ok (100, [(0, vR 59), (1, vR 62), (2, vI a2), (3, vI a3)], [vI t2, vI t1, vR 61], w) (K_Rule_valueBy_59_62_100 a2 a3 t1 t2 w) (GLp Ok (V_Rule_valueBy_59_62_4) (GEp Ok (E_Rule_valueBy_59_62_4))) := by
  unfold K_Rule_valueBy_59_62_100
  refine sim_blk1 hC [(.iastore, 61, 40, 0, 0)] [(0, vR 59), (1, vR 62), (2, vI a2), (3, vI a3)] [] (wup w 61 (Int32.toNatClampNeg t1) t2) 101 (by decide +kernel) rfl rfl ?_
  refine sim_bw (C := fun w5 => (101, [(0, vR 59), (1, vR 62), (2, vI a2), (3, vI a3)], [], w5)) (fun w5 => ?_)
  refine sim_goto hC 35 136 (by decide +kernel) (by decide) ?_
  exact s_K_Rule_valueBy_59_62_136 hC a2 a3 w5
noncomputable def B_Rule_valueBy_59_62_4 (s : Int32 × Int32 × Wld) : Option ((Int32 × Int32 × Wld) ⊕ (Wld)) :=
  br ((s.2.2 59 2) ≤ s.2.1) (some (.inr s.2.2)) (gd (vp_in s.2.1 700) (bi (s.2.2 60 (Int32.toNatClampNeg s.2.1)) (fun i1 => br ((-11 : Int32) < i1) (br (¬ i1 = (-10)) (br ((40 : Int32) ≤ s.1) (K_Rule_valueBy_59_62_136 s.1 s.2.1 s.2.2) (br (i1 < 0) (gd (vp_in ((-2 : Int32) - i1) 8) (K_Rule_valueBy_59_62_132 s.1 s.2.1 s.1 (s.2.2 62 (Int32.toNatClampNeg ((-2 : Int32) - i1))) s.2.2)) (K_Rule_valueBy_59_62_132 s.1 s.2.1 s.1 i1 s.2.2))) (br (s.1 < 1) (K_Rule_valueBy_59_62_136 s.1 s.2.1 s.2.2) (gd (vp_in (s.1 - (1 : Int32)) 40) (br (¬ (s.2.2 61 (Int32.toNatClampNeg (s.1 - (1 : Int32)))) = 0) (K_Rule_valueBy_59_62_100 s.1 s.2.1 (s.1 - (1 : Int32)) 0 s.2.2) (K_Rule_valueBy_59_62_100 s.1 s.2.1 (s.1 - (1 : Int32)) 1 s.2.2))))) (br (s.1 < 2) (K_Rule_valueBy_59_62_136 s.1 s.2.1 s.2.2) (bi (s.1 + (-1)) (fun i6 => gd (vp_in (i6 - (1 : Int32)) 40) (gd (vp_in i6 40) (bp (F_Rule_joined s.2.2 i1 (s.2.2 61 (Int32.toNatClampNeg (i6 - (1 : Int32)))) (s.2.2 61 (Int32.toNatClampNeg i6))) (fun i7 => gd (vp_in (i6 - (1 : Int32)) 40) (bw (wup s.2.2 61 (Int32.toNatClampNeg (i6 - (1 : Int32))) i7) (fun w8 => K_Rule_valueBy_59_62_136 i6 s.2.1 w8)))))))))))
set_option maxRecDepth 10000 in
theorem s_B_Rule_valueBy_59_62_4 {Z : ZT} {l : Launch} {o : Oc} {wo : Wld} {Ok : Cfg → Prop} (hC : Clo Z l 6 5 prog_8_method_4_code (some .int) 2 22 o wo Ok) (s : Int32 × Int32 × Wld) : SimK Ok (V_Rule_valueBy_59_62_4 s) (B_Rule_valueBy_59_62_4 s) (GLp Ok (V_Rule_valueBy_59_62_4) (GEp Ok (E_Rule_valueBy_59_62_4))) := by
  unfold B_Rule_valueBy_59_62_4
  show SimK Ok (4, [(0, vR 59), (1, vR 62), (2, vI s.1), (3, vI s.2.1)], [], s.2.2) _ _
  refine sim_blk0 hC [(.iload_n 3, 0, 0, 0, 0), (.aload_n 0, 0, 0, 0, 0), (.getfield 18, 59, 2, 0, 0)] [(0, vR 59), (1, vR 62), (2, vI s.1), (3, vI s.2.1)] [vI (s.2.2 59 2), vI s.2.1] s.2.2 9 (by decide +kernel) rfl rfl ?_
  refine sim_br hC (.if_icmp .ge 133) 142 (by decide +kernel) rfl (by decide) ?_ ?_
  · refine sim_sub hC [0] ?_
    exact sim_exit (E := (E_Rule_valueBy_59_62_4)) s.2.2
  · refine sim_blk1 hC [(.aload_n 0, 0, 0, 0, 0), (.getfield 9, 59, 0, 62, 0), (.iload_n 3, 0, 0, 0, 0), (.iaload, 60, 700, 0, 0), (.istore 4, 0, 0, 0, 0)] [(0, vR 59), (1, vR 62), (2, vI s.1), (3, vI s.2.1), (4, vI (s.2.2 60 (Int32.toNatClampNeg s.2.1)))] [] s.2.2 20 (by decide +kernel) rfl rfl ?_
    refine sim_bi (C := fun i1 => (20, [(0, vR 59), (1, vR 62), (2, vI s.1), (3, vI s.2.1), (4, vI i1)], [], s.2.2)) (fun i1 => ?_)
    refine sim_blk0 hC [(.iload 4, 0, 0, 0, 0), (.bipush (-11), 0, 0, 0, (-11))] [(0, vR 59), (1, vR 62), (2, vI s.1), (3, vI s.2.1), (4, vI i1)] [vI (-11), vI i1] s.2.2 24 (by decide +kernel) rfl rfl ?_
    refine sim_br hC (.if_icmp .gt 41) 65 (by decide +kernel) rfl (by decide) ?_ ?_
    · refine sim_blk0 hC [(.iload 4, 0, 0, 0, 0), (.bipush (-10), 0, 0, 0, (-10))] [(0, vR 59), (1, vR 62), (2, vI s.1), (3, vI s.2.1), (4, vI i1)] [vI (-10), vI i1] s.2.2 69 (by decide +kernel) rfl rfl ?_
      refine sim_br hC (.if_icmp .ne 35) 104 (by decide +kernel) rfl (by decide) ?_ ?_
      · refine sim_blk0 hC [(.iload_n 2, 0, 0, 0, 0), (.bipush 40, 0, 0, 0, 40)] [(0, vR 59), (1, vR 62), (2, vI s.1), (3, vI s.2.1), (4, vI i1)] [vI 40, vI s.1] s.2.2 107 (by decide +kernel) rfl rfl ?_
        refine sim_br hC (.if_icmp .ge 29) 136 (by decide +kernel) rfl (by decide) ?_ ?_
        · refine sim_sub hC [0, 1, 2, 3] ?_
          exact s_K_Rule_valueBy_59_62_136 hC s.1 s.2.1 s.2.2
        · refine sim_blk0 hC [(.aload_n 0, 0, 0, 0, 0), (.getfield 15, 59, 1, 63, 0), (.iload_n 2, 0, 0, 0, 0), (.iload 4, 0, 0, 0, 0)] [(0, vR 59), (1, vR 62), (2, vI s.1), (3, vI s.2.1), (4, vI i1)] [vI i1, vI s.1, vR 61] s.2.2 117 (by decide +kernel) rfl rfl ?_
          refine sim_br hC (.ifCond .lt 8) 125 (by decide +kernel) rfl (by decide) ?_ ?_
          · refine sim_blk1 hC [(.aload_n 1, 0, 0, 0, 0), (.bipush (-2), 0, 0, 0, (-2)), (.iload 4, 0, 0, 0, 0), (.isub, 0, 0, 0, 0), (.iaload, 62, 8, 0, 0)] [(0, vR 59), (1, vR 62), (2, vI s.1), (3, vI s.2.1), (4, vI i1)] [vI (s.2.2 62 (Int32.toNatClampNeg ((-2 : Int32) - i1))), vI s.1, vR 61] s.2.2 132 (by decide +kernel) rfl rfl ?_
            refine sim_sub hC [0, 1, 2, 3] ?_
            exact s_K_Rule_valueBy_59_62_132 hC s.1 s.2.1 s.1 (s.2.2 62 (Int32.toNatClampNeg ((-2 : Int32) - i1))) s.2.2
          · refine sim_blk0 hC [(.iload 4, 0, 0, 0, 0)] [(0, vR 59), (1, vR 62), (2, vI s.1), (3, vI s.2.1), (4, vI i1)] [vI i1, vI s.1, vR 61] s.2.2 122 (by decide +kernel) rfl rfl ?_
            refine sim_goto hC 10 132 (by decide +kernel) (by decide) ?_
            refine sim_sub hC [0, 1, 2, 3] ?_
            exact s_K_Rule_valueBy_59_62_132 hC s.1 s.2.1 s.1 i1 s.2.2
      · refine sim_blk0 hC [(.iload_n 2, 0, 0, 0, 0), (.iconst 1, 0, 0, 0, 1)] [(0, vR 59), (1, vR 62), (2, vI s.1), (3, vI s.2.1), (4, vI i1)] [vI 1, vI s.1] s.2.2 74 (by decide +kernel) rfl rfl ?_
        refine sim_br hC (.if_icmp .lt 62) 136 (by decide +kernel) rfl (by decide) ?_ ?_
        · refine sim_sub hC [0, 1, 2, 3] ?_
          exact s_K_Rule_valueBy_59_62_136 hC s.1 s.2.1 s.2.2
        · refine sim_blk1 hC [(.aload_n 0, 0, 0, 0, 0), (.getfield 15, 59, 1, 63, 0), (.iload_n 2, 0, 0, 0, 0), (.iconst 1, 0, 0, 0, 1), (.isub, 0, 0, 0, 0), (.aload_n 0, 0, 0, 0, 0), (.getfield 15, 59, 1, 63, 0), (.iload_n 2, 0, 0, 0, 0), (.iconst 1, 0, 0, 0, 1), (.isub, 0, 0, 0, 0), (.iaload, 61, 40, 0, 0)] [(0, vR 59), (1, vR 62), (2, vI s.1), (3, vI s.2.1), (4, vI i1)] [vI (s.2.2 61 (Int32.toNatClampNeg (s.1 - (1 : Int32)))), vI (s.1 - (1 : Int32)), vR 61] s.2.2 92 (by decide +kernel) rfl rfl ?_
          refine sim_br hC (.ifCond .ne 7) 99 (by decide +kernel) rfl (by decide) ?_ ?_
          · refine sim_blk0 hC [(.iconst 0, 0, 0, 0, 0)] [(0, vR 59), (1, vR 62), (2, vI s.1), (3, vI s.2.1), (4, vI i1)] [vI 0, vI (s.1 - (1 : Int32)), vR 61] s.2.2 100 (by decide +kernel) rfl rfl ?_
            refine sim_sub hC [0, 1, 2, 3] ?_
            exact s_K_Rule_valueBy_59_62_100 hC s.1 s.2.1 (s.1 - (1 : Int32)) 0 s.2.2
          · refine sim_blk0 hC [(.iconst 1, 0, 0, 0, 1)] [(0, vR 59), (1, vR 62), (2, vI s.1), (3, vI s.2.1), (4, vI i1)] [vI 1, vI (s.1 - (1 : Int32)), vR 61] s.2.2 96 (by decide +kernel) rfl rfl ?_
            refine sim_goto hC 4 100 (by decide +kernel) (by decide) ?_
            refine sim_sub hC [0, 1, 2, 3] ?_
            exact s_K_Rule_valueBy_59_62_100 hC s.1 s.2.1 (s.1 - (1 : Int32)) 1 s.2.2
    · refine sim_blk0 hC [(.iload_n 2, 0, 0, 0, 0), (.iconst 2, 0, 0, 0, 2)] [(0, vR 59), (1, vR 62), (2, vI s.1), (3, vI s.2.1), (4, vI i1)] [vI 2, vI s.1] s.2.2 29 (by decide +kernel) rfl rfl ?_
      refine sim_br hC (.if_icmp .lt 107) 136 (by decide +kernel) rfl (by decide) ?_ ?_
      · refine sim_sub hC [0, 1, 2, 3] ?_
        exact s_K_Rule_valueBy_59_62_136 hC s.1 s.2.1 s.2.2
      · refine sim_blk0 hC [(.iinc 2 (-1), 0, 0, 0, (-1))] [(0, vR 59), (1, vR 62), (2, vI (s.1 + (-1))), (3, vI s.2.1), (4, vI i1)] [] s.2.2 35 (by decide +kernel) rfl rfl ?_
        refine sim_bi (C := fun i6 => (35, [(0, vR 59), (1, vR 62), (2, vI i6), (3, vI s.2.1), (4, vI i1)], [], s.2.2)) (fun i6 => ?_)
        refine sim_blk2 hC [(.aload_n 0, 0, 0, 0, 0), (.getfield 15, 59, 1, 63, 0), (.iload_n 2, 0, 0, 0, 0), (.iconst 1, 0, 0, 0, 1), (.isub, 0, 0, 0, 0), (.iload 4, 0, 0, 0, 0), (.aload_n 0, 0, 0, 0, 0), (.getfield 15, 59, 1, 63, 0), (.iload_n 2, 0, 0, 0, 0), (.iconst 1, 0, 0, 0, 1), (.isub, 0, 0, 0, 0), (.iaload, 61, 40, 0, 0), (.aload_n 0, 0, 0, 0, 0), (.getfield 15, 59, 1, 63, 0), (.iload_n 2, 0, 0, 0, 0), (.iaload, 61, 40, 0, 0)] [(0, vR 59), (1, vR 62), (2, vI i6), (3, vI s.2.1), (4, vI i1)] [vI (s.2.2 61 (Int32.toNatClampNeg i6)), vI (s.2.2 61 (Int32.toNatClampNeg (i6 - (1 : Int32)))), vI i1, vI (i6 - (1 : Int32)), vR 61] s.2.2 58 (by decide +kernel) rfl rfl ?_
        refine sim_sp hC 28 mX6_joined 1 0 [vI i1, vI (s.2.2 61 (Int32.toNatClampNeg (i6 - (1 : Int32)))), vI (s.2.2 61 (Int32.toNatClampNeg i6))] [vI (i6 - (1 : Int32)), vR 61] (by decide +kernel) ml_6_28 rfl rfl rfl rfl rfl (fun rz hz => c_Rule_joined s.2.2 i1 (s.2.2 61 (Int32.toNatClampNeg (i6 - (1 : Int32)))) (s.2.2 61 (Int32.toNatClampNeg i6)) rz hz) (fun i7 => ?_)
        refine sim_blk1 hC [(.iastore, 61, 40, 0, 0)] [(0, vR 59), (1, vR 62), (2, vI i6), (3, vI s.2.1), (4, vI i1)] [] (wup s.2.2 61 (Int32.toNatClampNeg (i6 - (1 : Int32))) i7) 62 (by decide +kernel) rfl rfl ?_
        refine sim_bw (C := fun w8 => (62, [(0, vR 59), (1, vR 62), (2, vI i6), (3, vI s.2.1), (4, vI i1)], [], w8)) (fun w8 => ?_)
        refine sim_goto hC 74 136 (by decide +kernel) (by decide) ?_
        refine sim_sub hC [0, 1, 2, 3] ?_
        exact s_K_Rule_valueBy_59_62_136 hC i6 s.2.1 w8
noncomputable def F_Rule_valueBy_59_62 (w : Wld) : Option (Int32 × Wld) :=
  bl (loop (B_Rule_valueBy_59_62_4) ((0, 0, w))) (fun r9 => gd (vp_in 0 40) (some ((r9 61 (Int32.toNatClampNeg 0), r9))))
set_option maxRecDepth 10000 in
theorem s_Rule_valueBy_59_62 {Z : ZT} {l : Launch} {o : Oc} {wo : Wld} {Ok : Cfg → Prop} (hC : Clo Z l 6 5 prog_8_method_4_code (some .int) 2 22 o wo Ok) (w : Wld) : SimK Ok (0, [(0, vR 59), (1, vR 62)], [], w) (F_Rule_valueBy_59_62 w) (Gi o wo) := by
  unfold F_Rule_valueBy_59_62
  refine sim_blk0 hC [(.iconst 0, 0, 0, 0, 0), (.istore_n 2, 0, 0, 0, 0), (.iconst 0, 0, 0, 0, 0), (.istore_n 3, 0, 0, 0, 0)] [(0, vR 59), (1, vR 62), (2, vI 0), (3, vI 0)] [] w 4 (by decide +kernel) rfl rfl ?_
  refine sim_bl (E := (E_Rule_valueBy_59_62_4)) ?_ (fun r9 => ?_)
  · exact sim_loop (V := (V_Rule_valueBy_59_62_4)) (fun sz => s_B_Rule_valueBy_59_62_4 hC sz) ((0, 0, w))
  · show SimK Ok (142, [(0, vR 59)], [], r9) _ _
    refine sim_blk1 hC [(.aload_n 0, 0, 0, 0, 0), (.getfield 15, 59, 1, 63, 0), (.iconst 0, 0, 0, 0, 0), (.iaload, 61, 40, 0, 0)] [(0, vR 59)] [vI (r9 61 (Int32.toNatClampNeg 0))] r9 148 (by decide +kernel) rfl rfl ?_
    exact sim_reti hC (by decide +kernel) trivial
theorem c_Rule_valueBy_59_62 {Z : ZT} {l : Launch} (w : Wld) (r : Int32) (w1 : Wld) (h : F_Rule_valueBy_59_62 w = some (r, w1)) : Con Z l mX6_valueBy 2 22 [vR 59, vR 62] w (.inr (some r)) w1 :=
  Con_of (oc := 6) (by decide +kernel) rfl rfl (fun Ok hC => s_Rule_valueBy_59_62 hC w (r, w1) h ⟨rfl, rfl⟩)
noncomputable def K_Night_rises_55_65_77 (t0 : Int32) (w : Wld) : Option (Int32 × Wld) :=
  gd (t0 = 0 ∨ t0 = 1) (some ((t0, w)))
set_option maxRecDepth 10000 in
theorem s_K_Night_rises_55_65_77 {Z : ZT} {l : Launch} {o : Oc} {wo : Wld} {Ok : Cfg → Prop} (hC : Clo Z l 4 3 prog_6_method_2_code (some .boolean) 3 47 o wo Ok) (t0 : Int32) (w : Wld) : SimK Ok (77, [], [vI t0], w) (K_Night_rises_55_65_77 t0 w) (Gi o wo) := by
  unfold K_Night_rises_55_65_77
  exact sim_retiz hC (by decide +kernel) rfl
noncomputable def K_Night_rises_55_65_48 (t0 : Int32) (w : Wld) : Option (Int32 × Wld) :=
  gd (t0 = 0 ∨ t0 = 1) (some ((t0, w)))
set_option maxRecDepth 10000 in
theorem s_K_Night_rises_55_65_48 {Z : ZT} {l : Launch} {o : Oc} {wo : Wld} {Ok : Cfg → Prop} (hC : Clo Z l 4 3 prog_6_method_2_code (some .boolean) 3 47 o wo Ok) (t0 : Int32) (w : Wld) : SimK Ok (48, [], [vI t0], w) (K_Night_rises_55_65_48 t0 w) (Gi o wo) := by
  unfold K_Night_rises_55_65_48
  exact sim_retiz hC (by decide +kernel) rfl
noncomputable def F_Night_rises_55_65 (w : Wld) (a2 : Int32) : Option (Int32 × Wld) :=
  gd (vp_in 50 53) (br (¬ (((w 66 (Int32.toNatClampNeg 50)) >>> (a2 &&& 31)) &&& (1 : Int32)) = 1) (br (¬ (w 59 2) = 0) (bv (F_Night_lookAt_55_65 w a2) (fun w1 => bd (F_Rule_valueBy_59_62 w1) (fun i2 w3 => br (i2 ≤ 0) (K_Night_rises_55_65_77 0 w3) (K_Night_rises_55_65_77 1 w3)))) (gd (vp_in ((0 : Int32) + a2) 53) (br ((w 66 (Int32.toNatClampNeg ((0 : Int32) + a2))) < 50) (K_Night_rises_55_65_48 0 w) (K_Night_rises_55_65_48 1 w)))) (some ((0, w))))
set_option maxRecDepth 10000 in
theorem s_Night_rises_55_65 {Z : ZT} {l : Launch} {o : Oc} {wo : Wld} {Ok : Cfg → Prop} (hC : Clo Z l 4 3 prog_6_method_2_code (some .boolean) 3 47 o wo Ok) (w : Wld) (a2 : Int32) : SimK Ok (0, [(0, vR 55), (1, vR 65), (2, vI a2)], [], w) (F_Night_rises_55_65 w a2) (Gi o wo) := by
  unfold F_Night_rises_55_65
  refine sim_blk1 hC [(.aload_n 1, 0, 0, 0, 0), (.getfield 31, 65, 0, 68, 0), (.bipush 50, 0, 0, 0, 50), (.iaload, 66, 53, 0, 0), (.iload_n 2, 0, 0, 0, 0), (.ishr, 0, 0, 0, 0), (.iconst 1, 0, 0, 0, 1), (.iand, 0, 0, 0, 0), (.iconst 1, 0, 0, 0, 1)] [(0, vR 55), (1, vR 65), (2, vI a2)] [vI 1, vI (((w 66 (Int32.toNatClampNeg 50)) >>> (a2 &&& 31)) &&& (1 : Int32))] w 12 (by decide +kernel) rfl rfl ?_
  refine sim_br hC (.if_icmp .ne 5) 17 (by decide +kernel) rfl (by decide) ?_ ?_
  · refine sim_blk0 hC [(.aload_n 0, 0, 0, 0, 0), (.getfield 12, 55, 0, 58, 0), (.getfield 36, 56, 6, 61, 0), (.getfield 40, 59, 2, 0, 0)] [(0, vR 55), (1, vR 65), (2, vI a2)] [vI (w 59 2)] w 27 (by decide +kernel) rfl rfl ?_
    refine sim_br hC (.ifCond .ne 22) 49 (by decide +kernel) rfl (by decide) ?_ ?_
    · refine sim_blk0 hC [(.aload_n 0, 0, 0, 0, 0), (.aload_n 1, 0, 0, 0, 0), (.iload_n 2, 0, 0, 0, 0)] [(0, vR 55), (1, vR 65), (2, vI a2)] [vI a2, vR 65, vR 55] w 52 (by decide +kernel) rfl rfl ?_
      refine sim_vv hC 43 mX4_lookAt 2 24 55 [vR 65, vI a2] [] (by decide +kernel) ml_4_43 rfl rfl rfl rfl rfl rfl (fun wz hz => c_Night_lookAt_55_65 w a2 wz hz) (fun w1 => ?_)
      refine sim_blk0 hC [(.aload_n 0, 0, 0, 0, 0), (.getfield 12, 55, 0, 58, 0), (.getfield 36, 56, 6, 61, 0), (.aload_n 0, 0, 0, 0, 0), (.getfield 20, 55, 1, 64, 0)] [(0, vR 55), (1, vR 65), (2, vI a2)] [vR 62, vR 59] w1 66 (by decide +kernel) rfl rfl ?_
      refine sim_vd hC 47 mX6_valueBy 2 22 59 [vR 62] [] (by decide +kernel) ml_4_47 rfl rfl rfl rfl rfl rfl (fun rz wz hz => c_Rule_valueBy_59_62 w1 rz wz hz) (fun i2 w3 => ?_)
      refine sim_br hC (.ifCond .le 7) 76 (by decide +kernel) rfl (by decide) ?_ ?_
      · refine sim_blk0 hC [(.iconst 0, 0, 0, 0, 0)] [(0, vR 55), (1, vR 65), (2, vI a2)] [vI 0] w3 77 (by decide +kernel) rfl rfl ?_
        refine sim_sub hC [] ?_
        exact s_K_Night_rises_55_65_77 hC 0 w3
      · refine sim_blk0 hC [(.iconst 1, 0, 0, 0, 1)] [(0, vR 55), (1, vR 65), (2, vI a2)] [vI 1] w3 73 (by decide +kernel) rfl rfl ?_
        refine sim_goto hC 4 77 (by decide +kernel) (by decide) ?_
        refine sim_sub hC [] ?_
        exact s_K_Night_rises_55_65_77 hC 1 w3
    · refine sim_blk1 hC [(.aload_n 1, 0, 0, 0, 0), (.getfield 31, 65, 0, 68, 0), (.iconst 0, 0, 0, 0, 0), (.iload_n 2, 0, 0, 0, 0), (.iadd, 0, 0, 0, 0), (.iaload, 66, 53, 0, 0), (.bipush 50, 0, 0, 0, 50)] [(0, vR 55), (1, vR 65), (2, vI a2)] [vI 50, vI (w 66 (Int32.toNatClampNeg ((0 : Int32) + a2)))] w 40 (by decide +kernel) rfl rfl ?_
      refine sim_br hC (.if_icmp .lt 7) 47 (by decide +kernel) rfl (by decide) ?_ ?_
      · refine sim_blk0 hC [(.iconst 0, 0, 0, 0, 0)] [(0, vR 55), (1, vR 65), (2, vI a2)] [vI 0] w 48 (by decide +kernel) rfl rfl ?_
        refine sim_sub hC [] ?_
        exact s_K_Night_rises_55_65_48 hC 0 w
      · refine sim_blk0 hC [(.iconst 1, 0, 0, 0, 1)] [(0, vR 55), (1, vR 65), (2, vI a2)] [vI 1] w 44 (by decide +kernel) rfl rfl ?_
        refine sim_goto hC 4 48 (by decide +kernel) (by decide) ?_
        refine sim_sub hC [] ?_
        exact s_K_Night_rises_55_65_48 hC 1 w
  · refine sim_blk0 hC [(.iconst 0, 0, 0, 0, 0)] [(0, vR 55), (1, vR 65), (2, vI a2)] [vI 0] w 16 (by decide +kernel) rfl rfl ?_
    exact sim_reti hC (by decide +kernel) (Or.inl rfl)
theorem c_Night_rises_55_65 {Z : ZT} {l : Launch} (w : Wld) (a2 : Int32) (r : Int32) (w1 : Wld) (h : F_Night_rises_55_65 w a2 = some (r, w1)) : Con Z l mX4_rises 3 47 [vR 55, vR 65, vI a2] w (.inr (some r)) w1 :=
  Con_of (oc := 4) (by decide +kernel) rfl rfl (fun Ok hC => s_Night_rises_55_65 hC w a2 (r, w1) h ⟨rfl, rfl⟩)
def V_Night_singersIn_55_4 (a1 : Int32) (w : Wld) : (Int32 × Int32) → Cfg := fun s => (4, [(0, vR 55), (1, vI a1), (2, vI s.1), (3, vI s.2)], [], w)
def E_Night_singersIn_55_4 (a1 : Int32) (w : Wld) : (Int32) → Cfg := fun s => (49, [(2, vI s)], [], w)
noncomputable def K_Night_singersIn_55_43 (a1 : Int32) (a2 : Int32) (a3 : Int32) (w : Wld) : Option ((Int32 × Int32) ⊕ (Int32)) :=
  bi (a3 + 1) (fun i1 => some (.inl ((a2, i1))))
set_option maxRecDepth 10000 in
theorem s_K_Night_singersIn_55_43 {Z : ZT} {l : Launch} {o : Oc} {wo : Wld} {Ok : Cfg → Prop} (hC : Clo Z l 4 4 prog_6_method_6_code (some .int) 1 0 o wo Ok) (a1 : Int32) (a2 : Int32) (a3 : Int32) (w : Wld) : SimK Ok (43, [(0, vR 55), (1, vI a1), (2, vI a2), (3, vI a3)], [], w) (K_Night_singersIn_55_43 a1 a2 a3 w) (GLp Ok (V_Night_singersIn_55_4 a1 w) (GEp Ok (E_Night_singersIn_55_4 a1 w))) := by
  unfold K_Night_singersIn_55_43
  refine sim_blk0 hC [(.iinc 3 1, 0, 0, 0, 1)] [(0, vR 55), (1, vI a1), (2, vI a2), (3, vI (a3 + 1))] [] w 46 (by decide +kernel) rfl rfl ?_
  refine sim_bi (C := fun i1 => (46, [(0, vR 55), (1, vI a1), (2, vI a2), (3, vI i1)], [], w)) (fun i1 => ?_)
  refine sim_goto hC (-42) 4 (by decide +kernel) (by decide) ?_
  exact sim_back (V := (V_Night_singersIn_55_4 a1 w)) ((a2, i1))
noncomputable def B_Night_singersIn_55_4 (a1 : Int32) (w : Wld) (s : Int32 × Int32) : Option ((Int32 × Int32) ⊕ (Int32)) :=
  br ((w 56 1) ≤ s.2) (some (.inr s.1)) (br (¬ (((w 55 3) >>> (s.2 &&& 31)) &&& (1 : Int32)) = 1) (K_Night_singersIn_55_43 a1 s.1 s.2 w) (gd (vp_in s.2 8) (br (¬ (w 63 (Int32.toNatClampNeg s.2)) = a1) (K_Night_singersIn_55_43 a1 s.1 s.2 w) (bi (s.1 ||| ((1 : Int32) <<< (s.2 &&& 31))) (fun i2 => K_Night_singersIn_55_43 a1 i2 s.2 w)))))
set_option maxRecDepth 10000 in
theorem s_B_Night_singersIn_55_4 {Z : ZT} {l : Launch} {o : Oc} {wo : Wld} {Ok : Cfg → Prop} (hC : Clo Z l 4 4 prog_6_method_6_code (some .int) 1 0 o wo Ok) (a1 : Int32) (w : Wld) (s : Int32 × Int32) : SimK Ok (V_Night_singersIn_55_4 a1 w s) (B_Night_singersIn_55_4 a1 w s) (GLp Ok (V_Night_singersIn_55_4 a1 w) (GEp Ok (E_Night_singersIn_55_4 a1 w))) := by
  unfold B_Night_singersIn_55_4
  show SimK Ok (4, [(0, vR 55), (1, vI a1), (2, vI s.1), (3, vI s.2)], [], w) _ _
  refine sim_blk0 hC [(.iload_n 3, 0, 0, 0, 0), (.aload_n 0, 0, 0, 0, 0), (.getfield 12, 55, 0, 58, 0), (.getfield 57, 56, 1, 0, 0)] [(0, vR 55), (1, vI a1), (2, vI s.1), (3, vI s.2)] [vI (w 56 1), vI s.2] w 12 (by decide +kernel) rfl rfl ?_
  refine sim_br hC (.if_icmp .ge 37) 49 (by decide +kernel) rfl (by decide) ?_ ?_
  · refine sim_sub hC [2] ?_
    exact sim_exit (E := (E_Night_singersIn_55_4 a1 w)) s.1
  · refine sim_blk0 hC [(.aload_n 0, 0, 0, 0, 0), (.getfield 27, 55, 3, 0, 0), (.iload_n 3, 0, 0, 0, 0), (.ishr, 0, 0, 0, 0), (.iconst 1, 0, 0, 0, 1), (.iand, 0, 0, 0, 0), (.iconst 1, 0, 0, 0, 1)] [(0, vR 55), (1, vI a1), (2, vI s.1), (3, vI s.2)] [vI 1, vI (((w 55 3) >>> (s.2 &&& 31)) &&& (1 : Int32))] w 24 (by decide +kernel) rfl rfl ?_
    refine sim_br hC (.if_icmp .ne 19) 43 (by decide +kernel) rfl (by decide) ?_ ?_
    · exact s_K_Night_singersIn_55_43 hC a1 s.1 s.2 w
    · refine sim_blk1 hC [(.aload_n 0, 0, 0, 0, 0), (.getfield 24, 55, 2, 65, 0), (.iload_n 3, 0, 0, 0, 0), (.iaload, 63, 8, 0, 0), (.iload_n 1, 0, 0, 0, 0)] [(0, vR 55), (1, vI a1), (2, vI s.1), (3, vI s.2)] [vI a1, vI (w 63 (Int32.toNatClampNeg s.2))] w 34 (by decide +kernel) rfl rfl ?_
      refine sim_br hC (.if_icmp .ne 9) 43 (by decide +kernel) rfl (by decide) ?_ ?_
      · exact s_K_Night_singersIn_55_43 hC a1 s.1 s.2 w
      · refine sim_blk0 hC [(.iload_n 2, 0, 0, 0, 0), (.iconst 1, 0, 0, 0, 1), (.iload_n 3, 0, 0, 0, 0), (.ishl, 0, 0, 0, 0), (.ior, 0, 0, 0, 0), (.istore_n 2, 0, 0, 0, 0)] [(0, vR 55), (1, vI a1), (2, vI (s.1 ||| ((1 : Int32) <<< (s.2 &&& 31)))), (3, vI s.2)] [] w 43 (by decide +kernel) rfl rfl ?_
        refine sim_bi (C := fun i2 => (43, [(0, vR 55), (1, vI a1), (2, vI i2), (3, vI s.2)], [], w)) (fun i2 => ?_)
        exact s_K_Night_singersIn_55_43 hC a1 i2 s.2 w
noncomputable def F_Night_singersIn_55 (w : Wld) (a1 : Int32) : Option (Int32) :=
  bl (loop (B_Night_singersIn_55_4 a1 w) ((0, 0))) (fun r3 => some r3)
set_option maxRecDepth 10000 in
theorem s_Night_singersIn_55 {Z : ZT} {l : Launch} {o : Oc} {wo : Wld} {Ok : Cfg → Prop} (hC : Clo Z l 4 4 prog_6_method_6_code (some .int) 1 0 o wo Ok) (w : Wld) (a1 : Int32) : SimK Ok (0, [(0, vR 55), (1, vI a1)], [], w) (F_Night_singersIn_55 w a1) (Gp o wo w) := by
  unfold F_Night_singersIn_55
  refine sim_blk0 hC [(.iconst 0, 0, 0, 0, 0), (.istore_n 2, 0, 0, 0, 0), (.iconst 0, 0, 0, 0, 0), (.istore_n 3, 0, 0, 0, 0)] [(0, vR 55), (1, vI a1), (2, vI 0), (3, vI 0)] [] w 4 (by decide +kernel) rfl rfl ?_
  refine sim_bl (E := (E_Night_singersIn_55_4 a1 w)) ?_ (fun r3 => ?_)
  · exact sim_loop (V := (V_Night_singersIn_55_4 a1 w)) (fun sz => s_B_Night_singersIn_55_4 hC a1 w sz) ((0, 0))
  · show SimK Ok (49, [(2, vI r3)], [], w) _ _
    refine sim_blk0 hC [(.iload_n 2, 0, 0, 0, 0)] [(2, vI r3)] [vI r3] w 50 (by decide +kernel) rfl rfl ?_
    exact sim_retp hC (by decide +kernel) trivial
theorem c_Night_singersIn_55 {Z : ZT} {l : Launch} (w : Wld) (a1 : Int32) (r : Int32) (h : F_Night_singersIn_55 w a1 = some r) : Con Z l mX4_singersIn 1 0 [vR 55, vI a1] w (.inr (some r)) w :=
  Con_of (oc := 4) (by decide +kernel) rfl rfl (fun Ok hC => s_Night_singersIn_55 hC w a1 r h ⟨rfl, rfl⟩)
noncomputable def K_Night_tire_55_66_16 (a2 : Int32) (t0 : Int32) (w : Wld) : Option (Wld) :=
  gd (vp_in ((0 : Int32) + a2) 53) (gd (vp_in ((0 : Int32) + a2) 53) (bw (wup w 66 (Int32.toNatClampNeg ((0 : Int32) + a2)) (imax 0 ((w 66 (Int32.toNatClampNeg ((0 : Int32) + a2))) - (w 56 2)))) (fun w1 => gd (vp_in a2 8) (gd (vp_in (t0 + (w1 63 (Int32.toNatClampNeg a2))) 53) (gd (vp_in ((16 : Int32) + a2) 53) (bw (wup w1 66 (Int32.toNatClampNeg ((16 : Int32) + a2)) (w1 66 (Int32.toNatClampNeg (t0 + (w1 63 (Int32.toNatClampNeg a2)))))) (fun w2 => some w2)))))))
set_option maxRecDepth 10000 in
theorem s_K_Night_tire_55_66_16 {Z : ZT} {l : Launch} {o : Oc} {wo : Wld} {Ok : Cfg → Prop} (hC : Clo Z l 4 4 prog_6_method_5_code none 1 21 o wo Ok) (a2 : Int32) (t0 : Int32) (w : Wld) : SimK Ok (16, [(0, vR 55), (1, vR 66), (2, vI a2)], [vI t0], w) (K_Night_tire_55_66_16 a2 t0 w) (Gv o wo) := by
  unfold K_Night_tire_55_66_16
  refine sim_blk1 hC [(.istore_n 3, 0, 0, 0, 0), (.aload_n 1, 0, 0, 0, 0), (.iconst 0, 0, 0, 0, 0), (.iload_n 2, 0, 0, 0, 0), (.iadd, 0, 0, 0, 0), (.iconst 0, 0, 0, 0, 0), (.aload_n 1, 0, 0, 0, 0), (.iconst 0, 0, 0, 0, 0), (.iload_n 2, 0, 0, 0, 0), (.iadd, 0, 0, 0, 0), (.iaload, 66, 53, 0, 0), (.aload_n 0, 0, 0, 0, 0), (.getfield 12, 55, 0, 58, 0), (.getfield 92, 56, 2, 0, 0), (.isub, 0, 0, 0, 0)] [(0, vR 55), (1, vR 66), (2, vI a2), (3, vI t0)] [vI ((w 66 (Int32.toNatClampNeg ((0 : Int32) + a2))) - (w 56 2)), vI 0, vI ((0 : Int32) + a2), vR 66] w 35 (by decide +kernel) rfl rfl ?_
  refine sim_max hC 89 (by decide +kernel) ml_4_89 rfl rfl rfl ?_
  refine sim_blk1 hC [(.iastore, 66, 53, 0, 0)] [(0, vR 55), (1, vR 66), (2, vI a2), (3, vI t0)] [] (wup w 66 (Int32.toNatClampNeg ((0 : Int32) + a2)) (imax 0 ((w 66 (Int32.toNatClampNeg ((0 : Int32) + a2))) - (w 56 2)))) 39 (by decide +kernel) rfl rfl ?_
  refine sim_bw (C := fun w1 => (39, [(0, vR 55), (1, vR 66), (2, vI a2), (3, vI t0)], [], w1)) (fun w1 => ?_)
  refine sim_blk3 hC [(.aload_n 1, 0, 0, 0, 0), (.bipush 16, 0, 0, 0, 16), (.iload_n 2, 0, 0, 0, 0), (.iadd, 0, 0, 0, 0), (.aload_n 1, 0, 0, 0, 0), (.iload_n 3, 0, 0, 0, 0), (.aload_n 0, 0, 0, 0, 0), (.getfield 24, 55, 2, 65, 0), (.iload_n 2, 0, 0, 0, 0), (.iaload, 63, 8, 0, 0), (.iadd, 0, 0, 0, 0), (.iaload, 66, 53, 0, 0), (.iastore, 66, 53, 0, 0)] [(0, vR 55), (1, vR 66), (2, vI a2), (3, vI t0)] [] (wup w1 66 (Int32.toNatClampNeg ((16 : Int32) + a2)) (w1 66 (Int32.toNatClampNeg (t0 + (w1 63 (Int32.toNatClampNeg a2)))))) 55 (by decide +kernel) rfl rfl ?_
  refine sim_bw (C := fun w2 => (55, [(0, vR 55), (1, vR 66), (2, vI a2), (3, vI t0)], [], w2)) (fun w2 => ?_)
  exact sim_retv hC (by decide +kernel)
noncomputable def F_Night_tire_55_66 (w : Wld) (a2 : Int32) : Option (Wld) :=
  gd (vp_in ((8 : Int32) + a2) 53) (br ((w 66 (Int32.toNatClampNeg ((8 : Int32) + a2))) ≤ 0) (K_Night_tire_55_66_16 a2 32 w) (K_Night_tire_55_66_16 a2 41 w))
set_option maxRecDepth 10000 in
theorem s_Night_tire_55_66 {Z : ZT} {l : Launch} {o : Oc} {wo : Wld} {Ok : Cfg → Prop} (hC : Clo Z l 4 4 prog_6_method_5_code none 1 21 o wo Ok) (w : Wld) (a2 : Int32) : SimK Ok (0, [(0, vR 55), (1, vR 66), (2, vI a2)], [], w) (F_Night_tire_55_66 w a2) (Gv o wo) := by
  unfold F_Night_tire_55_66
  refine sim_blk1 hC [(.aload_n 1, 0, 0, 0, 0), (.bipush 8, 0, 0, 0, 8), (.iload_n 2, 0, 0, 0, 0), (.iadd, 0, 0, 0, 0), (.iaload, 66, 53, 0, 0)] [(0, vR 55), (1, vR 66), (2, vI a2)] [vI (w 66 (Int32.toNatClampNeg ((8 : Int32) + a2)))] w 6 (by decide +kernel) rfl rfl ?_
  refine sim_br hC (.ifCond .le 8) 14 (by decide +kernel) rfl (by decide) ?_ ?_
  · refine sim_blk0 hC [(.bipush 32, 0, 0, 0, 32)] [(0, vR 55), (1, vR 66), (2, vI a2)] [vI 32] w 16 (by decide +kernel) rfl rfl ?_
    exact s_K_Night_tire_55_66_16 hC a2 32 w
  · refine sim_blk0 hC [(.bipush 41, 0, 0, 0, 41)] [(0, vR 55), (1, vR 66), (2, vI a2)] [vI 41] w 11 (by decide +kernel) rfl rfl ?_
    refine sim_goto hC 5 16 (by decide +kernel) (by decide) ?_
    exact s_K_Night_tire_55_66_16 hC a2 41 w
theorem c_Night_tire_55_66 {Z : ZT} {l : Launch} (w : Wld) (a2 : Int32) (w1 : Wld) (h : F_Night_tire_55_66 w a2 = some w1) : Con Z l mX4_tire 1 21 [vR 55, vR 66, vI a2] w (.inr none) w1 :=
  Con_of (oc := 4) (by decide +kernel) rfl rfl (fun Ok hC => s_Night_tire_55_66 hC w a2 w1 h ⟨rfl, rfl⟩)
def V_Night_pass_55_65_12 : (Int32 × Wld) → Cfg := fun s => (12, [(0, vR 55), (1, vR 65), (2, vR 66), (3, vI s.1)], [], s.2)
def E_Night_pass_55_65_12 : (Wld) → Cfg := fun s => (66, [(0, vR 55), (2, vR 66)], [], s)
noncomputable def K_Night_pass_55_65_56 (a3 : Int32) (t1 : Int32) (t2 : Int32) (w : Wld) : Option ((Int32 × Wld) ⊕ (Wld)) :=
  bw (wup w 55 3 (t1 ||| t2)) (fun w5 => bi (a3 + 1) (fun i6 => some (.inl ((i6, w5)))))
set_option maxRecDepth 10000 in
theorem s_K_Night_pass_55_65_56 {Z : ZT} {l : Launch} {o : Oc} {wo : Wld} {Ok : Cfg → Prop} (hC : Clo Z l 4 5 prog_6_method_4_code none 4 69 o wo Ok) (a3 : Int32) (t1 : Int32) (t2 : Int32) (w : Wld) : SimK Ok (56, [(0, vR 55), (1, vR 65), (2, vR 66), (3, vI a3)], [vI t2, vI t1, vR 55], w) (K_Night_pass_55_65_56 a3 t1 t2 w) (GLp Ok (V_Night_pass_55_65_12) (GEp Ok (E_Night_pass_55_65_12))) := by
  unfold K_Night_pass_55_65_56
  refine sim_blk0 hC [(.ior, 0, 0, 0, 0), (.putfield 27, 55, 3, 0, 0)] [(0, vR 55), (1, vR 65), (2, vR 66), (3, vI a3)] [] (wup w 55 3 (t1 ||| t2)) 60 (by decide +kernel) rfl rfl ?_
  refine sim_bw (C := fun w5 => (60, [(0, vR 55), (1, vR 65), (2, vR 66), (3, vI a3)], [], w5)) (fun w5 => ?_)
  refine sim_blk0 hC [(.iinc 3 1, 0, 0, 0, 1)] [(0, vR 55), (1, vR 65), (2, vR 66), (3, vI (a3 + 1))] [] w5 63 (by decide +kernel) rfl rfl ?_
  refine sim_bi (C := fun i6 => (63, [(0, vR 55), (1, vR 65), (2, vR 66), (3, vI i6)], [], w5)) (fun i6 => ?_)
  refine sim_goto hC (-51) 12 (by decide +kernel) (by decide) ?_
  exact sim_back (V := (V_Night_pass_55_65_12)) ((i6, w5))
noncomputable def B_Night_pass_55_65_12 (s : Int32 × Wld) : Option ((Int32 × Wld) ⊕ (Wld)) :=
  br ((s.2 56 1) ≤ s.1) (some (.inr s.2)) (gd (vp_in ((16 : Int32) + s.1) 53) (gd (vp_in s.1 8) (bw (wup s.2 63 (Int32.toNatClampNeg s.1) (s.2 66 (Int32.toNatClampNeg ((16 : Int32) + s.1)))) (fun w2 => bd (F_Night_rises_55_65 w2 s.1) (fun i3 w4 => br (i3 = 0) (K_Night_pass_55_65_56 s.1 (w2 55 3) 0 w4) (K_Night_pass_55_65_56 s.1 (w2 55 3) ((1 : Int32) <<< (s.1 &&& 31)) w4))))))
set_option maxRecDepth 10000 in
theorem s_B_Night_pass_55_65_12 {Z : ZT} {l : Launch} {o : Oc} {wo : Wld} {Ok : Cfg → Prop} (hC : Clo Z l 4 5 prog_6_method_4_code none 4 69 o wo Ok) (s : Int32 × Wld) : SimK Ok (V_Night_pass_55_65_12 s) (B_Night_pass_55_65_12 s) (GLp Ok (V_Night_pass_55_65_12) (GEp Ok (E_Night_pass_55_65_12))) := by
  unfold B_Night_pass_55_65_12
  show SimK Ok (12, [(0, vR 55), (1, vR 65), (2, vR 66), (3, vI s.1)], [], s.2) _ _
  refine sim_blk0 hC [(.iload_n 3, 0, 0, 0, 0), (.aload_n 0, 0, 0, 0, 0), (.getfield 12, 55, 0, 58, 0), (.getfield 57, 56, 1, 0, 0)] [(0, vR 55), (1, vR 65), (2, vR 66), (3, vI s.1)] [vI (s.2 56 1), vI s.1] s.2 20 (by decide +kernel) rfl rfl ?_
  refine sim_br hC (.if_icmp .ge 46) 66 (by decide +kernel) rfl (by decide) ?_ ?_
  · refine sim_sub hC [0, 2] ?_
    exact sim_exit (E := (E_Night_pass_55_65_12)) s.2
  · refine sim_blk2 hC [(.aload_n 0, 0, 0, 0, 0), (.getfield 24, 55, 2, 65, 0), (.iload_n 3, 0, 0, 0, 0), (.aload_n 2, 0, 0, 0, 0), (.bipush 16, 0, 0, 0, 16), (.iload_n 3, 0, 0, 0, 0), (.iadd, 0, 0, 0, 0), (.iaload, 66, 53, 0, 0), (.iastore, 63, 8, 0, 0)] [(0, vR 55), (1, vR 65), (2, vR 66), (3, vI s.1)] [] (wup s.2 63 (Int32.toNatClampNeg s.1) (s.2 66 (Int32.toNatClampNeg ((16 : Int32) + s.1)))) 35 (by decide +kernel) rfl rfl ?_
    refine sim_bw (C := fun w2 => (35, [(0, vR 55), (1, vR 65), (2, vR 66), (3, vI s.1)], [], w2)) (fun w2 => ?_)
    refine sim_blk0 hC [(.aload_n 0, 0, 0, 0, 0), (.dup, 0, 0, 0, 0), (.getfield 27, 55, 3, 0, 0), (.aload_n 0, 0, 0, 0, 0), (.aload_n 1, 0, 0, 0, 0), (.iload_n 3, 0, 0, 0, 0)] [(0, vR 55), (1, vR 65), (2, vR 66), (3, vI s.1)] [vI s.1, vR 65, vR 55, vI (w2 55 3), vR 55] w2 43 (by decide +kernel) rfl rfl ?_
    refine sim_vd hC 70 mX4_rises 3 47 55 [vR 65, vI s.1] [vI (w2 55 3), vR 55] (by decide +kernel) ml_4_70 rfl rfl rfl rfl rfl rfl (fun rz wz hz => c_Night_rises_55_65 w2 s.1 rz wz hz) (fun i3 w4 => ?_)
    refine sim_br hC (.ifCond .eq 9) 55 (by decide +kernel) rfl (by decide) ?_ ?_
    · refine sim_blk0 hC [(.iconst 0, 0, 0, 0, 0)] [(0, vR 55), (1, vR 65), (2, vR 66), (3, vI s.1)] [vI 0, vI (w2 55 3), vR 55] w4 56 (by decide +kernel) rfl rfl ?_
      exact s_K_Night_pass_55_65_56 hC s.1 (w2 55 3) 0 w4
    · refine sim_blk0 hC [(.iconst 1, 0, 0, 0, 1), (.iload_n 3, 0, 0, 0, 0), (.ishl, 0, 0, 0, 0)] [(0, vR 55), (1, vR 65), (2, vR 66), (3, vI s.1)] [vI ((1 : Int32) <<< (s.1 &&& 31)), vI (w2 55 3), vR 55] w4 52 (by decide +kernel) rfl rfl ?_
      refine sim_goto hC 4 56 (by decide +kernel) (by decide) ?_
      exact s_K_Night_pass_55_65_56 hC s.1 (w2 55 3) ((1 : Int32) <<< (s.1 &&& 31)) w4
def V_Night_pass_55_65_68 : (Int32 × Wld) → Cfg := fun s => (68, [(0, vR 55), (2, vR 66), (3, vI s.1)], [], s.2)
def E_Night_pass_55_65_68 : (Wld) → Cfg := fun s => (176, [(0, vR 55), (2, vR 66)], [], s)
noncomputable def K_Night_pass_55_65_152 (a3 : Int32) (w : Wld) : Option ((Int32 × Wld) ⊕ (Wld)) :=
  gd (vp_in ((8 : Int32) + a3) 53) (gd (vp_in ((8 : Int32) + a3) 53) (bw (wup w 66 (Int32.toNatClampNeg ((8 : Int32) + a3)) (imax 0 ((w 66 (Int32.toNatClampNeg ((8 : Int32) + a3))) - (1 : Int32)))) (fun w10 => bi (a3 + 1) (fun i11 => some (.inl ((i11, w10)))))))
set_option maxRecDepth 10000 in
theorem s_K_Night_pass_55_65_152 {Z : ZT} {l : Launch} {o : Oc} {wo : Wld} {Ok : Cfg → Prop} (hC : Clo Z l 4 5 prog_6_method_4_code none 4 69 o wo Ok) (a3 : Int32) (w : Wld) : SimK Ok (152, [(0, vR 55), (2, vR 66), (3, vI a3)], [], w) (K_Night_pass_55_65_152 a3 w) (GLp Ok (V_Night_pass_55_65_68) (GEp Ok (E_Night_pass_55_65_68))) := by
  unfold K_Night_pass_55_65_152
  refine sim_blk1 hC [(.aload_n 2, 0, 0, 0, 0), (.bipush 8, 0, 0, 0, 8), (.iload_n 3, 0, 0, 0, 0), (.iadd, 0, 0, 0, 0), (.iconst 0, 0, 0, 0, 0), (.aload_n 2, 0, 0, 0, 0), (.bipush 8, 0, 0, 0, 8), (.iload_n 3, 0, 0, 0, 0), (.iadd, 0, 0, 0, 0), (.iaload, 66, 53, 0, 0), (.iconst 1, 0, 0, 0, 1), (.isub, 0, 0, 0, 0)] [(0, vR 55), (2, vR 66), (3, vI a3)] [vI ((w 66 (Int32.toNatClampNeg ((8 : Int32) + a3))) - (1 : Int32)), vI 0, vI ((8 : Int32) + a3), vR 66] w 166 (by decide +kernel) rfl rfl ?_
  refine sim_max hC 89 (by decide +kernel) ml_4_89 rfl rfl rfl ?_
  refine sim_blk1 hC [(.iastore, 66, 53, 0, 0)] [(0, vR 55), (2, vR 66), (3, vI a3)] [] (wup w 66 (Int32.toNatClampNeg ((8 : Int32) + a3)) (imax 0 ((w 66 (Int32.toNatClampNeg ((8 : Int32) + a3))) - (1 : Int32)))) 170 (by decide +kernel) rfl rfl ?_
  refine sim_bw (C := fun w10 => (170, [(0, vR 55), (2, vR 66), (3, vI a3)], [], w10)) (fun w10 => ?_)
  refine sim_blk0 hC [(.iinc 3 1, 0, 0, 0, 1)] [(0, vR 55), (2, vR 66), (3, vI (a3 + 1))] [] w10 173 (by decide +kernel) rfl rfl ?_
  refine sim_bi (C := fun i11 => (173, [(0, vR 55), (2, vR 66), (3, vI i11)], [], w10)) (fun i11 => ?_)
  refine sim_goto hC (-105) 68 (by decide +kernel) (by decide) ?_
  exact sim_back (V := (V_Night_pass_55_65_68)) ((i11, w10))
noncomputable def B_Night_pass_55_65_68 (s : Int32 × Wld) : Option ((Int32 × Wld) ⊕ (Wld)) :=
  br ((s.2 56 1) ≤ s.1) (some (.inr s.2)) (br (¬ (((s.2 55 3) >>> (s.1 &&& 31)) &&& (1 : Int32)) = 1) (gd (vp_in ((0 : Int32) + s.1) 53) (bi ((s.2 66 (Int32.toNatClampNeg ((0 : Int32) + s.1))) + (s.2 56 3)) (fun i8 => gd (vp_in ((0 : Int32) + s.1) 53) (bw (wup s.2 66 (Int32.toNatClampNeg ((0 : Int32) + s.1)) (imin 99 i8)) (fun w9 => K_Night_pass_55_65_152 s.1 w9))))) (gd (vp_in ((24 : Int32) + s.1) 53) (gd (vp_in s.1 8) (bp (F_Night_singersIn_55 s.2 (s.2 63 (Int32.toNatClampNeg s.1))) (fun i12 => gd (vp_in ((24 : Int32) + s.1) 53) (bw (wup s.2 66 (Int32.toNatClampNeg ((24 : Int32) + s.1)) ((s.2 66 (Int32.toNatClampNeg ((24 : Int32) + s.1))) ||| (i12 &&& (((1 : Int32) <<< (s.1 &&& 31)) ^^^ (-1 : Int32))))) (fun w13 => bv (F_Night_tire_55_66 w13 s.1) (fun w14 => K_Night_pass_55_65_152 s.1 w14))))))))
set_option maxRecDepth 10000 in
theorem s_B_Night_pass_55_65_68 {Z : ZT} {l : Launch} {o : Oc} {wo : Wld} {Ok : Cfg → Prop} (hC : Clo Z l 4 5 prog_6_method_4_code none 4 69 o wo Ok) (s : Int32 × Wld) : SimK Ok (V_Night_pass_55_65_68 s) (B_Night_pass_55_65_68 s) (GLp Ok (V_Night_pass_55_65_68) (GEp Ok (E_Night_pass_55_65_68))) := by
  unfold B_Night_pass_55_65_68
  show SimK Ok (68, [(0, vR 55), (2, vR 66), (3, vI s.1)], [], s.2) _ _
  refine sim_blk0 hC [(.iload_n 3, 0, 0, 0, 0), (.aload_n 0, 0, 0, 0, 0), (.getfield 12, 55, 0, 58, 0), (.getfield 57, 56, 1, 0, 0)] [(0, vR 55), (2, vR 66), (3, vI s.1)] [vI (s.2 56 1), vI s.1] s.2 76 (by decide +kernel) rfl rfl ?_
  refine sim_br hC (.if_icmp .ge 100) 176 (by decide +kernel) rfl (by decide) ?_ ?_
  · refine sim_sub hC [0, 1] ?_
    exact sim_exit (E := (E_Night_pass_55_65_68)) s.2
  · refine sim_blk0 hC [(.aload_n 0, 0, 0, 0, 0), (.getfield 27, 55, 3, 0, 0), (.iload_n 3, 0, 0, 0, 0), (.ishr, 0, 0, 0, 0), (.iconst 1, 0, 0, 0, 1), (.iand, 0, 0, 0, 0), (.iconst 1, 0, 0, 0, 1)] [(0, vR 55), (2, vR 66), (3, vI s.1)] [vI 1, vI (((s.2 55 3) >>> (s.1 &&& 31)) &&& (1 : Int32))] s.2 88 (by decide +kernel) rfl rfl ?_
    refine sim_br hC (.if_icmp .ne 37) 125 (by decide +kernel) rfl (by decide) ?_ ?_
    · refine sim_blk1 hC [(.aload_n 2, 0, 0, 0, 0), (.iconst 0, 0, 0, 0, 0), (.iload_n 3, 0, 0, 0, 0), (.iadd, 0, 0, 0, 0), (.iaload, 66, 53, 0, 0), (.aload_n 0, 0, 0, 0, 0), (.getfield 12, 55, 0, 58, 0), (.getfield 81, 56, 3, 0, 0), (.iadd, 0, 0, 0, 0), (.istore 4, 0, 0, 0, 0)] [(0, vR 55), (2, vR 66), (3, vI s.1), (4, vI ((s.2 66 (Int32.toNatClampNeg ((0 : Int32) + s.1))) + (s.2 56 3)))] [] s.2 140 (by decide +kernel) rfl rfl ?_
      refine sim_bi (C := fun i8 => (140, [(0, vR 55), (2, vR 66), (3, vI s.1), (4, vI i8)], [], s.2)) (fun i8 => ?_)
      refine sim_blk0 hC [(.aload_n 2, 0, 0, 0, 0), (.iconst 0, 0, 0, 0, 0), (.iload_n 3, 0, 0, 0, 0), (.iadd, 0, 0, 0, 0), (.bipush 99, 0, 0, 0, 99), (.iload 4, 0, 0, 0, 0)] [(0, vR 55), (2, vR 66), (3, vI s.1), (4, vI i8)] [vI i8, vI 99, vI ((0 : Int32) + s.1), vR 66] s.2 148 (by decide +kernel) rfl rfl ?_
      refine sim_min hC 84 (by decide +kernel) ml_4_84 rfl rfl rfl ?_
      refine sim_blk1 hC [(.iastore, 66, 53, 0, 0)] [(0, vR 55), (2, vR 66), (3, vI s.1), (4, vI i8)] [] (wup s.2 66 (Int32.toNatClampNeg ((0 : Int32) + s.1)) (imin 99 i8)) 152 (by decide +kernel) rfl rfl ?_
      refine sim_bw (C := fun w9 => (152, [(0, vR 55), (2, vR 66), (3, vI s.1), (4, vI i8)], [], w9)) (fun w9 => ?_)
      refine sim_sub hC [0, 1, 2] ?_
      exact s_K_Night_pass_55_65_152 hC s.1 w9
    · refine sim_blk2 hC [(.aload_n 2, 0, 0, 0, 0), (.bipush 24, 0, 0, 0, 24), (.iload_n 3, 0, 0, 0, 0), (.iadd, 0, 0, 0, 0), (.dup2, 0, 0, 0, 0), (.iaload, 66, 53, 0, 0), (.aload_n 0, 0, 0, 0, 0), (.aload_n 0, 0, 0, 0, 0), (.getfield 24, 55, 2, 65, 0), (.iload_n 3, 0, 0, 0, 0), (.iaload, 63, 8, 0, 0)] [(0, vR 55), (2, vR 66), (3, vI s.1)] [vI (s.2 63 (Int32.toNatClampNeg s.1)), vR 55, vI (s.2 66 (Int32.toNatClampNeg ((24 : Int32) + s.1))), vI ((24 : Int32) + s.1), vR 66] s.2 105 (by decide +kernel) rfl rfl ?_
      refine sim_vp hC 74 mX4_singersIn 1 0 55 [vI (s.2 63 (Int32.toNatClampNeg s.1))] [vI (s.2 66 (Int32.toNatClampNeg ((24 : Int32) + s.1))), vI ((24 : Int32) + s.1), vR 66] (by decide +kernel) ml_4_74 rfl rfl rfl rfl rfl rfl (fun rz hz => c_Night_singersIn_55 s.2 (s.2 63 (Int32.toNatClampNeg s.1)) rz hz) (fun i12 => ?_)
      refine sim_blk1 hC [(.iconst 1, 0, 0, 0, 1), (.iload_n 3, 0, 0, 0, 0), (.ishl, 0, 0, 0, 0), (.iconst (-1), 0, 0, 0, (-1)), (.ixor, 0, 0, 0, 0), (.iand, 0, 0, 0, 0), (.ior, 0, 0, 0, 0), (.iastore, 66, 53, 0, 0)] [(0, vR 55), (2, vR 66), (3, vI s.1)] [] (wup s.2 66 (Int32.toNatClampNeg ((24 : Int32) + s.1)) ((s.2 66 (Int32.toNatClampNeg ((24 : Int32) + s.1))) ||| (i12 &&& (((1 : Int32) <<< (s.1 &&& 31)) ^^^ (-1 : Int32))))) 116 (by decide +kernel) rfl rfl ?_
      refine sim_bw (C := fun w13 => (116, [(0, vR 55), (2, vR 66), (3, vI s.1)], [], w13)) (fun w13 => ?_)
      refine sim_blk0 hC [(.aload_n 0, 0, 0, 0, 0), (.aload_n 2, 0, 0, 0, 0), (.iload_n 3, 0, 0, 0, 0)] [(0, vR 55), (2, vR 66), (3, vI s.1)] [vI s.1, vR 66, vR 55] w13 119 (by decide +kernel) rfl rfl ?_
      refine sim_vv hC 77 mX4_tire 1 21 55 [vR 66, vI s.1] [] (by decide +kernel) ml_4_77 rfl rfl rfl rfl rfl rfl (fun wz hz => c_Night_tire_55_66 w13 s.1 wz hz) (fun w14 => ?_)
      refine sim_goto hC 30 152 (by decide +kernel) (by decide) ?_
      exact s_K_Night_pass_55_65_152 hC s.1 w14
noncomputable def F_Night_pass_55_65 (w : Wld) : Option (Wld) :=
  bw (wup w 55 3 0) (fun w1 => bl (loop (B_Night_pass_55_65_12) ((0, w1))) (fun r7 => bl (loop (B_Night_pass_55_65_68) ((0, r7))) (fun r15 => gd (vp_in 51 53) (bw (wup r15 66 (Int32.toNatClampNeg 51) (r15 55 3)) (fun w16 => gd (vp_in 52 53) (gd (vp_in 52 53) (bw (wup w16 66 (Int32.toNatClampNeg 52) ((w16 66 (Int32.toNatClampNeg 52)) + (1 : Int32))) (fun w17 => some w17))))))))
set_option maxRecDepth 10000 in
theorem s_Night_pass_55_65 {Z : ZT} {l : Launch} {o : Oc} {wo : Wld} {Ok : Cfg → Prop} (hC : Clo Z l 4 5 prog_6_method_4_code none 4 69 o wo Ok) (w : Wld) : SimK Ok (0, [(0, vR 55), (1, vR 65)], [], w) (F_Night_pass_55_65 w) (Gv o wo) := by
  unfold F_Night_pass_55_65
  refine sim_blk0 hC [(.aload_n 1, 0, 0, 0, 0), (.getfield 31, 65, 0, 68, 0), (.astore_n 2, 0, 0, 0, 0), (.aload_n 0, 0, 0, 0, 0), (.iconst 0, 0, 0, 0, 0), (.putfield 27, 55, 3, 0, 0)] [(0, vR 55), (1, vR 65), (2, vR 66)] [] (wup w 55 3 0) 10 (by decide +kernel) rfl rfl ?_
  refine sim_bw (C := fun w1 => (10, [(0, vR 55), (1, vR 65), (2, vR 66)], [], w1)) (fun w1 => ?_)
  refine sim_blk0 hC [(.iconst 0, 0, 0, 0, 0), (.istore_n 3, 0, 0, 0, 0)] [(0, vR 55), (1, vR 65), (2, vR 66), (3, vI 0)] [] w1 12 (by decide +kernel) rfl rfl ?_
  refine sim_bl (E := (E_Night_pass_55_65_12)) ?_ (fun r7 => ?_)
  · exact sim_loop (V := (V_Night_pass_55_65_12)) (fun sz => s_B_Night_pass_55_65_12 hC sz) ((0, w1))
  · show SimK Ok (66, [(0, vR 55), (2, vR 66)], [], r7) _ _
    refine sim_blk0 hC [(.iconst 0, 0, 0, 0, 0), (.istore_n 3, 0, 0, 0, 0)] [(0, vR 55), (2, vR 66), (3, vI 0)] [] r7 68 (by decide +kernel) rfl rfl ?_
    refine sim_bl (E := (E_Night_pass_55_65_68)) ?_ (fun r15 => ?_)
    · exact sim_loop (V := (V_Night_pass_55_65_68)) (fun sz => s_B_Night_pass_55_65_68 hC sz) ((0, r7))
    · show SimK Ok (176, [(0, vR 55), (2, vR 66)], [], r15) _ _
      refine sim_blk1 hC [(.aload_n 2, 0, 0, 0, 0), (.bipush 51, 0, 0, 0, 51), (.aload_n 0, 0, 0, 0, 0), (.getfield 27, 55, 3, 0, 0), (.iastore, 66, 53, 0, 0)] [(0, vR 55), (2, vR 66)] [] (wup r15 66 (Int32.toNatClampNeg 51) (r15 55 3)) 184 (by decide +kernel) rfl rfl ?_
      refine sim_bw (C := fun w16 => (184, [(0, vR 55), (2, vR 66)], [], w16)) (fun w16 => ?_)
      refine sim_blk2 hC [(.aload_n 2, 0, 0, 0, 0), (.bipush 52, 0, 0, 0, 52), (.dup2, 0, 0, 0, 0), (.iaload, 66, 53, 0, 0), (.iconst 1, 0, 0, 0, 1), (.iadd, 0, 0, 0, 0), (.iastore, 66, 53, 0, 0)] [(0, vR 55), (2, vR 66)] [] (wup w16 66 (Int32.toNatClampNeg 52) ((w16 66 (Int32.toNatClampNeg 52)) + (1 : Int32))) 192 (by decide +kernel) rfl rfl ?_
      refine sim_bw (C := fun w17 => (192, [(0, vR 55), (2, vR 66)], [], w17)) (fun w17 => ?_)
      exact sim_retv hC (by decide +kernel)
theorem c_Night_pass_55_65 {Z : ZT} {l : Launch} (w : Wld) (w1 : Wld) (h : F_Night_pass_55_65 w = some w1) : Con Z l mX4_pass 4 69 [vR 55, vR 65] w (.inr none) w1 :=
  Con_of (oc := 4) (by decide +kernel) rfl rfl (fun Ok hC => s_Night_pass_55_65 hC w w1 h ⟨rfl, rfl⟩)
noncomputable def F_C_refusedAct (w : Wld) : Option (Int32 × Wld) :=
  gd (vp_in 1 3) (gd (vp_in 1 3) (bw (wup w 73 (Int32.toNatClampNeg 1) ((w 73 (Int32.toNatClampNeg 1)) + (1 : Int32))) (fun w1 => some (((-1), w1)))))
set_option maxRecDepth 10000 in
theorem s_C_refusedAct {Z : ZT} {l : Launch} {o : Oc} {wo : Wld} {Ok : Cfg → Prop} (hC : Clo Z l 9 1 prog_1_method_16_code (some .int) 1 0 o wo Ok) (w : Wld) : SimK Ok (0, [(0, vR 42)], [], w) (F_C_refusedAct w) (Gi o wo) := by
  unfold F_C_refusedAct
  refine sim_blk2 hC [(.aload_n 0, 0, 0, 0, 0), (.getfield 42, 42, 6, 66, 0), (.getfield 88, 64, 3, 75, 0), (.iconst 1, 0, 0, 0, 1), (.dup2, 0, 0, 0, 0), (.iaload, 73, 3, 0, 0), (.iconst 1, 0, 0, 0, 1), (.iadd, 0, 0, 0, 0), (.iastore, 73, 3, 0, 0)] [(0, vR 42)] [] (wup w 73 (Int32.toNatClampNeg 1) ((w 73 (Int32.toNatClampNeg 1)) + (1 : Int32))) 13 (by decide +kernel) rfl rfl ?_
  refine sim_bw (C := fun w1 => (13, [(0, vR 42)], [], w1)) (fun w1 => ?_)
  refine sim_blk0 hC [(.iconst (-1), 0, 0, 0, (-1))] [(0, vR 42)] [vI (-1)] w1 14 (by decide +kernel) rfl rfl ?_
  exact sim_reti hC (by decide +kernel) trivial
theorem c_C_refusedAct {Z : ZT} {l : Launch} (w : Wld) (r : Int32) (w1 : Wld) (h : F_C_refusedAct w = some (r, w1)) : Con Z l mX10_refusedAct 1 0 [vR 42] w (.inr (some r)) w1 :=
  Con_of (oc := 9) (by decide +kernel) rfl rfl (fun Ok hC => s_C_refusedAct hC w (r, w1) h ⟨rfl, rfl⟩)
noncomputable def K_C_nights_34 (w : Wld) : Option (Int32 × Wld) :=
  bd (F_C_refusedAct w) (fun i1 w2 => some ((i1, w2)))
set_option maxRecDepth 10000 in
theorem s_K_C_nights_34 {Z : ZT} {l : Launch} {o : Oc} {wo : Wld} {Ok : Cfg → Prop} (hC : Clo Z l 9 4 prog_1_method_9_code (some .int) 5 93 o wo Ok) (w : Wld) : SimK Ok (34, [(0, vR 42)], [], w) (K_C_nights_34 w) (Gi o wo) := by
  unfold K_C_nights_34
  refine sim_blk0 hC [(.aload_n 0, 0, 0, 0, 0)] [(0, vR 42)] [vR 42] w 35 (by decide +kernel) rfl rfl ?_
  refine sim_vd hC 178 mX10_refusedAct 1 0 42 [] [] (by decide +kernel) ml_9_178 rfl rfl rfl rfl rfl rfl (fun rz wz hz => c_C_refusedAct w rz wz hz) (fun i1 w2 => ?_)
  exact sim_reti hC (by decide +kernel) trivial
def V_C_nights_52 (a1 : Int32) : (Int32 × Wld) → Cfg := fun s => (52, [(0, vR 42), (1, vI a1), (2, vR 65), (3, vI s.1)], [], s.2)
def E_C_nights_52 (a1 : Int32) : (Wld) → Cfg := fun s => (71, [(2, vR 65)], [], s)
noncomputable def B_C_nights_52 (a1 : Int32) (s : Int32 × Wld) : Option ((Int32 × Wld) ⊕ (Wld)) :=
  br (a1 ≤ s.1) (some (.inr s.2)) (bv (F_Night_pass_55_65 s.2) (fun w4 => bi (s.1 + 1) (fun i5 => some (.inl ((i5, w4))))))
set_option maxRecDepth 10000 in
theorem s_B_C_nights_52 {Z : ZT} {l : Launch} {o : Oc} {wo : Wld} {Ok : Cfg → Prop} (hC : Clo Z l 9 4 prog_1_method_9_code (some .int) 5 93 o wo Ok) (a1 : Int32) (s : Int32 × Wld) : SimK Ok (V_C_nights_52 a1 s) (B_C_nights_52 a1 s) (GLp Ok (V_C_nights_52 a1) (GEp Ok (E_C_nights_52 a1))) := by
  unfold B_C_nights_52
  show SimK Ok (52, [(0, vR 42), (1, vI a1), (2, vR 65), (3, vI s.1)], [], s.2) _ _
  refine sim_blk0 hC [(.iload_n 3, 0, 0, 0, 0), (.iload_n 1, 0, 0, 0, 0)] [(0, vR 42), (1, vI a1), (2, vR 65), (3, vI s.1)] [vI a1, vI s.1] s.2 54 (by decide +kernel) rfl rfl ?_
  refine sim_br hC (.if_icmp .ge 17) 71 (by decide +kernel) rfl (by decide) ?_ ?_
  · refine sim_sub hC [2] ?_
    exact sim_exit (E := (E_C_nights_52 a1)) s.2
  · refine sim_blk0 hC [(.aload_n 0, 0, 0, 0, 0), (.getfield 30, 42, 4, 57, 0), (.aload_n 2, 0, 0, 0, 0)] [(0, vR 42), (1, vI a1), (2, vR 65), (3, vI s.1)] [vR 65, vR 55] s.2 62 (by decide +kernel) rfl rfl ?_
    refine sim_vv hC 185 mX4_pass 4 69 55 [vR 65] [] (by decide +kernel) ml_9_185 rfl rfl rfl rfl rfl rfl (fun wz hz => c_Night_pass_55_65 s.2 wz hz) (fun w4 => ?_)
    refine sim_blk0 hC [(.iinc 3 1, 0, 0, 0, 1)] [(0, vR 42), (1, vI a1), (2, vR 65), (3, vI (s.1 + 1))] [] w4 68 (by decide +kernel) rfl rfl ?_
    refine sim_bi (C := fun i5 => (68, [(0, vR 42), (1, vI a1), (2, vR 65), (3, vI i5)], [], w4)) (fun i5 => ?_)
    refine sim_goto hC (-16) 52 (by decide +kernel) (by decide) ?_
    exact sim_back (V := (V_C_nights_52 a1)) ((i5, w4))
noncomputable def F_C_nights (w : Wld) (a1 : Int32) : Option (Int32 × Wld) :=
  br (a1 < 1) (K_C_nights_34 w) (br ((20 : Int32) < a1) (K_C_nights_34 w) (gd (vp_in 52 53) (br (((w 66 (Int32.toNatClampNeg 52)) + a1) ≤ 999) (bv (F_Acts_keep_67_65 w) (fun w3 => bl (loop (B_C_nights_52 a1) ((0, w3))) (fun r6 => gd (vp_in 52 53) (some ((r6 66 (Int32.toNatClampNeg 52), r6)))))) (K_C_nights_34 w))))
set_option maxRecDepth 10000 in
theorem s_C_nights {Z : ZT} {l : Launch} {o : Oc} {wo : Wld} {Ok : Cfg → Prop} (hC : Clo Z l 9 4 prog_1_method_9_code (some .int) 5 93 o wo Ok) (w : Wld) (a1 : Int32) : SimK Ok (0, [(0, vR 42), (1, vI a1)], [], w) (F_C_nights w a1) (Gi o wo) := by
  unfold F_C_nights
  refine sim_blk0 hC [(.aload_n 0, 0, 0, 0, 0), (.getfield 42, 42, 6, 66, 0), (.getfield 100, 64, 0, 67, 0), (.astore_n 2, 0, 0, 0, 0), (.iload_n 1, 0, 0, 0, 0), (.iconst 1, 0, 0, 0, 1)] [(0, vR 42), (1, vI a1), (2, vR 65)] [vI 1, vI a1] w 10 (by decide +kernel) rfl rfl ?_
  refine sim_br hC (.if_icmp .lt 24) 34 (by decide +kernel) rfl (by decide) ?_ ?_
  · refine sim_sub hC [0] ?_
    exact s_K_C_nights_34 hC w
  · refine sim_blk0 hC [(.iload_n 1, 0, 0, 0, 0), (.bipush 20, 0, 0, 0, 20)] [(0, vR 42), (1, vI a1), (2, vR 65)] [vI 20, vI a1] w 16 (by decide +kernel) rfl rfl ?_
    refine sim_br hC (.if_icmp .gt 18) 34 (by decide +kernel) rfl (by decide) ?_ ?_
    · refine sim_sub hC [0] ?_
      exact s_K_C_nights_34 hC w
    · refine sim_blk1 hC [(.aload_n 2, 0, 0, 0, 0), (.getfield 137, 65, 0, 68, 0), (.bipush 52, 0, 0, 0, 52), (.iaload, 66, 53, 0, 0), (.iload_n 1, 0, 0, 0, 0), (.iadd, 0, 0, 0, 0), (.sipush 999, 0, 0, 0, 999)] [(0, vR 42), (1, vI a1), (2, vR 65)] [vI 999, vI ((w 66 (Int32.toNatClampNeg 52)) + a1)] w 31 (by decide +kernel) rfl rfl ?_
      refine sim_br hC (.if_icmp .le 8) 39 (by decide +kernel) rfl (by decide) ?_ ?_
      · refine sim_blk0 hC [(.aload_n 0, 0, 0, 0, 0), (.getfield 42, 42, 6, 66, 0), (.getfield 109, 64, 1, 69, 0), (.aload_n 2, 0, 0, 0, 0)] [(0, vR 42), (1, vI a1), (2, vR 65)] [vR 65, vR 67] w 47 (by decide +kernel) rfl rfl ?_
        refine sim_vv hC 182 mX0_keep 2 60 67 [vR 65] [] (by decide +kernel) ml_9_182 rfl rfl rfl rfl rfl rfl (fun wz hz => c_Acts_keep_67_65 w wz hz) (fun w3 => ?_)
        refine sim_blk0 hC [(.iconst 0, 0, 0, 0, 0), (.istore_n 3, 0, 0, 0, 0)] [(0, vR 42), (1, vI a1), (2, vR 65), (3, vI 0)] [] w3 52 (by decide +kernel) rfl rfl ?_
        refine sim_bl (E := (E_C_nights_52 a1)) ?_ (fun r6 => ?_)
        · exact sim_loop (V := (V_C_nights_52 a1)) (fun sz => s_B_C_nights_52 hC a1 sz) ((0, w3))
        · show SimK Ok (71, [(2, vR 65)], [], r6) _ _
          refine sim_blk1 hC [(.aload_n 2, 0, 0, 0, 0), (.getfield 137, 65, 0, 68, 0), (.bipush 52, 0, 0, 0, 52), (.iaload, 66, 53, 0, 0)] [(2, vR 65)] [vI (r6 66 (Int32.toNatClampNeg 52))] r6 78 (by decide +kernel) rfl rfl ?_
          exact sim_reti hC (by decide +kernel) trivial
      · refine sim_sub hC [0] ?_
        exact s_K_C_nights_34 hC w
theorem c_C_nights {Z : ZT} {l : Launch} (w : Wld) (a1 : Int32) (r : Int32) (w1 : Wld) (h : F_C_nights w a1 = some (r, w1)) : Con Z l mX10_nights 5 93 [vR 42, vI a1] w (.inr (some r)) w1 :=
  Con_of (oc := 9) (by decide +kernel) rfl rfl (fun Ok hC => s_C_nights hC w a1 (r, w1) h ⟨rfl, rfl⟩)
noncomputable def K_Acts_bringBack_67_65_35 (w : Wld) : Option (Wld) :=
  some w
set_option maxRecDepth 10000 in
theorem s_K_Acts_bringBack_67_65_35 {Z : ZT} {l : Launch} {o : Oc} {wo : Wld} {Ok : Cfg → Prop} (hC : Clo Z l 0 2 prog_2_method_5_code none 2 60 o wo Ok) (w : Wld) : SimK Ok (35, [], [], w) (K_Acts_bringBack_67_65_35 w) (Gv o wo) := by
  unfold K_Acts_bringBack_67_65_35
  exact sim_retv hC (by decide +kernel)
noncomputable def F_Acts_bringBack_67_65 (w : Wld) : Option (Wld) :=
  br ((w 67 2) ≤ 0) (K_Acts_bringBack_67_65_35 w) (bw (wup w 67 2 ((w 67 2) - (1 : Int32))) (fun w1 => bp (F_Acts_placeBehind_67 w1) (fun i2 => gd (cpO w1 68 2120 53 0 i2 0 53) (bw (wcp w1 68 66 (Int32.toNatClampNeg i2) (Int32.toNatClampNeg 0) (Int32.toNatClampNeg 53)) (fun w3 => K_Acts_bringBack_67_65_35 w3)))))
set_option maxRecDepth 10000 in
theorem s_Acts_bringBack_67_65 {Z : ZT} {l : Launch} {o : Oc} {wo : Wld} {Ok : Cfg → Prop} (hC : Clo Z l 0 2 prog_2_method_5_code none 2 60 o wo Ok) (w : Wld) : SimK Ok (0, [(0, vR 67), (1, vR 65)], [], w) (F_Acts_bringBack_67_65 w) (Gv o wo) := by
  unfold F_Acts_bringBack_67_65
  refine sim_blk0 hC [(.aload_n 0, 0, 0, 0, 0), (.getfield 21, 67, 2, 0, 0)] [(0, vR 67), (1, vR 65)] [vI (w 67 2)] w 4 (by decide +kernel) rfl rfl ?_
  refine sim_br hC (.ifCond .le 31) 35 (by decide +kernel) rfl (by decide) ?_ ?_
  · refine sim_sub hC [] ?_
    exact s_K_Acts_bringBack_67_65_35 hC w
  · refine sim_blk0 hC [(.aload_n 0, 0, 0, 0, 0), (.dup, 0, 0, 0, 0), (.getfield 21, 67, 2, 0, 0), (.iconst 1, 0, 0, 0, 1), (.isub, 0, 0, 0, 0), (.putfield 21, 67, 2, 0, 0)] [(0, vR 67), (1, vR 65)] [] (wup w 67 2 ((w 67 2) - (1 : Int32))) 17 (by decide +kernel) rfl rfl ?_
    refine sim_bw (C := fun w1 => (17, [(0, vR 67), (1, vR 65)], [], w1)) (fun w1 => ?_)
    refine sim_blk0 hC [(.aload_n 0, 0, 0, 0, 0), (.getfield 11, 67, 0, 70, 0), (.aload_n 0, 0, 0, 0, 0)] [(0, vR 67), (1, vR 65)] [vR 67, vR 68] w1 22 (by decide +kernel) rfl rfl ?_
    refine sim_vp hC 33 mX0_placeBehind 1 0 67 [] [vR 68] (by decide +kernel) ml_0_33 rfl rfl rfl rfl rfl rfl (fun rz hz => c_Acts_placeBehind_67 w1 rz hz) (fun i2 => ?_)
    refine sim_blk0 hC [(.aload_n 1, 0, 0, 0, 0), (.getfield 30, 65, 0, 68, 0), (.iconst 0, 0, 0, 0, 0), (.bipush 53, 0, 0, 0, 53)] [(0, vR 67), (1, vR 65)] [vI 53, vI 0, vR 66, vI i2, vR 68] w1 32 (by decide +kernel) rfl rfl ?_
    refine sim_copy hC 24 68 66 2120 53 0 (by decide +kernel) (by decide) (by decide) (by decide +kernel) (by decide +kernel) rfl rfl rfl (fun w3 => ?_)
    refine sim_sub hC [] ?_
    exact s_K_Acts_bringBack_67_65_35 hC w3
theorem c_Acts_bringBack_67_65 {Z : ZT} {l : Launch} (w : Wld) (w1 : Wld) (h : F_Acts_bringBack_67_65 w = some w1) : Con Z l mX0_bringBack 2 60 [vR 67, vR 65] w (.inr none) w1 :=
  Con_of (oc := 0) (by decide +kernel) rfl rfl (fun Ok hC => s_Acts_bringBack_67_65 hC w w1 h ⟨rfl, rfl⟩)
noncomputable def F_C_undo (w : Wld) : Option (Int32 × Wld) :=
  br (¬ (w 67 2) = 0) (bv (F_Acts_bringBack_67_65 w) (fun w1 => some ((w1 67 2, w1)))) (some (((-1), w)))
set_option maxRecDepth 10000 in
theorem s_C_undo {Z : ZT} {l : Launch} {o : Oc} {wo : Wld} {Ok : Cfg → Prop} (hC : Clo Z l 9 1 prog_1_method_15_code (some .int) 3 81 o wo Ok) (w : Wld) : SimK Ok (0, [(0, vR 42)], [], w) (F_C_undo w) (Gi o wo) := by
  unfold F_C_undo
  refine sim_blk0 hC [(.aload_n 0, 0, 0, 0, 0), (.getfield 42, 42, 6, 66, 0), (.getfield 109, 64, 1, 69, 0), (.getfield 147, 67, 2, 0, 0)] [(0, vR 42)] [vI (w 67 2)] w 10 (by decide +kernel) rfl rfl ?_
  refine sim_br hC (.ifCond .ne 5) 15 (by decide +kernel) rfl (by decide) ?_ ?_
  · refine sim_blk0 hC [(.aload_n 0, 0, 0, 0, 0), (.getfield 42, 42, 6, 66, 0), (.getfield 109, 64, 1, 69, 0), (.aload_n 0, 0, 0, 0, 0), (.getfield 42, 42, 6, 66, 0), (.getfield 100, 64, 0, 67, 0)] [(0, vR 42)] [vR 65, vR 67] w 29 (by decide +kernel) rfl rfl ?_
    refine sim_vv hC 197 mX0_bringBack 2 60 67 [vR 65] [] (by decide +kernel) ml_9_197 rfl rfl rfl rfl rfl rfl (fun wz hz => c_Acts_bringBack_67_65 w wz hz) (fun w1 => ?_)
    refine sim_blk0 hC [(.aload_n 0, 0, 0, 0, 0), (.getfield 42, 42, 6, 66, 0), (.getfield 109, 64, 1, 69, 0), (.getfield 147, 67, 2, 0, 0)] [(0, vR 42)] [vI (w1 67 2)] w1 42 (by decide +kernel) rfl rfl ?_
    exact sim_reti hC (by decide +kernel) trivial
  · refine sim_blk0 hC [(.iconst (-1), 0, 0, 0, (-1))] [(0, vR 42)] [vI (-1)] w 14 (by decide +kernel) rfl rfl ?_
    exact sim_reti hC (by decide +kernel) trivial
theorem c_C_undo {Z : ZT} {l : Launch} (w : Wld) (r : Int32) (w1 : Wld) (h : F_C_undo w = some (r, w1)) : Con Z l mX10_undo 3 81 [vR 42] w (.inr (some r)) w1 :=
  Con_of (oc := 9) (by decide +kernel) rfl rfl (fun Ok hC => s_C_undo hC w (r, w1) h ⟨rfl, rfl⟩)
noncomputable def F_State_takeOver_84_65 (w : Wld) : Option (Wld) :=
  gd (cpO w 66 53 53 0 0 0 53) (bw (wcp w 66 85 (Int32.toNatClampNeg 0) (Int32.toNatClampNeg 0) (Int32.toNatClampNeg 53)) (fun w1 => some w1))
set_option maxRecDepth 10000 in
theorem s_State_takeOver_84_65 {Z : ZT} {l : Launch} {o : Oc} {wo : Wld} {Ok : Cfg → Prop} (hC : Clo Z l 7 2 prog_9_method_3_code none 1 60 o wo Ok) (w : Wld) : SimK Ok (0, [(0, vR 84), (1, vR 65)], [], w) (F_State_takeOver_84_65 w) (Gv o wo) := by
  unfold F_State_takeOver_84_65
  refine sim_blk0 hC [(.aload_n 1, 0, 0, 0, 0), (.getfield 11, 65, 0, 68, 0), (.iconst 0, 0, 0, 0, 0), (.aload_n 0, 0, 0, 0, 0), (.getfield 11, 84, 0, 87, 0), (.iconst 0, 0, 0, 0, 0), (.bipush 53, 0, 0, 0, 53)] [(0, vR 84), (1, vR 65)] [vI 53, vI 0, vR 85, vI 0, vR 66] w 12 (by decide +kernel) rfl rfl ?_
  refine sim_copy hC 21 66 85 53 53 0 (by decide +kernel) (by decide) (by decide) (by decide +kernel) (by decide +kernel) rfl rfl rfl (fun w1 => ?_)
  exact sim_retv hC (by decide +kernel)
theorem c_State_takeOver_84_65 {Z : ZT} {l : Launch} (w : Wld) (w1 : Wld) (h : F_State_takeOver_84_65 w = some w1) : Con Z l mX7_takeOver 1 60 [vR 84, vR 65] w (.inr none) w1 :=
  Con_of (oc := 7) (by decide +kernel) rfl rfl (fun Ok hC => s_State_takeOver_84_65 hC w w1 h ⟨rfl, rfl⟩)
noncomputable def F_C_beginTrial (w : Wld) : Option (Wld) :=
  bv (F_State_takeOver_84_65 w) (fun w1 => some w1)
set_option maxRecDepth 10000 in
theorem s_C_beginTrial {Z : ZT} {l : Launch} {o : Oc} {wo : Wld} {Ok : Cfg → Prop} (hC : Clo Z l 9 1 prog_1_method_32_code none 2 81 o wo Ok) (w : Wld) : SimK Ok (0, [(0, vR 42)], [], w) (F_C_beginTrial w) (Gv o wo) := by
  unfold F_C_beginTrial
  refine sim_blk0 hC [(.aload_n 0, 0, 0, 0, 0), (.getfield 56, 42, 9, 86, 0), (.aload_n 0, 0, 0, 0, 0), (.getfield 42, 42, 6, 66, 0), (.getfield 100, 64, 0, 67, 0)] [(0, vR 42)] [vR 65, vR 84] w 11 (by decide +kernel) rfl rfl ?_
  refine sim_vv hC 106 mX7_takeOver 1 60 84 [vR 65] [] (by decide +kernel) ml_9_106 rfl rfl rfl rfl rfl rfl (fun wz hz => c_State_takeOver_84_65 w wz hz) (fun w1 => ?_)
  exact sim_retv hC (by decide +kernel)
theorem c_C_beginTrial {Z : ZT} {l : Launch} (w : Wld) (w1 : Wld) (h : F_C_beginTrial w = some w1) : Con Z l mX10_beginTrial 2 81 [vR 42] w (.inr none) w1 :=
  Con_of (oc := 9) (by decide +kernel) rfl rfl (fun Ok hC => s_C_beginTrial hC w w1 h ⟨rfl, rfl⟩)
def V_State_within_84_5 (a1 : Int32) (a2 : Int32) (w : Wld) : (Int32 × Int32) → Cfg := fun s => (5, [(0, vR 84), (1, vI a1), (2, vI a2), (3, vI s.1), (4, vI s.2)], [], w)
def E_State_within_84_5 (a1 : Int32) (a2 : Int32) (w : Wld) : (Int32) → Cfg := fun s => (38, [(3, vI s)], [], w)
noncomputable def K_State_within_84_32 (a1 : Int32) (a2 : Int32) (a3 : Int32) (a4 : Int32) (w : Wld) : Option ((Int32 × Int32) ⊕ (Int32)) :=
  bi (a4 + 1) (fun i1 => some (.inl ((a3, i1))))
set_option maxRecDepth 10000 in
theorem s_K_State_within_84_32 {Z : ZT} {l : Launch} {o : Oc} {wo : Wld} {Ok : Cfg → Prop} (hC : Clo Z l 7 5 prog_9_method_5_code (some .int) 1 0 o wo Ok) (a1 : Int32) (a2 : Int32) (a3 : Int32) (a4 : Int32) (w : Wld) : SimK Ok (32, [(0, vR 84), (1, vI a1), (2, vI a2), (3, vI a3), (4, vI a4)], [], w) (K_State_within_84_32 a1 a2 a3 a4 w) (GLp Ok (V_State_within_84_5 a1 a2 w) (GEp Ok (E_State_within_84_5 a1 a2 w))) := by
  unfold K_State_within_84_32
  refine sim_blk0 hC [(.iinc 4 1, 0, 0, 0, 1)] [(0, vR 84), (1, vI a1), (2, vI a2), (3, vI a3), (4, vI (a4 + 1))] [] w 35 (by decide +kernel) rfl rfl ?_
  refine sim_bi (C := fun i1 => (35, [(0, vR 84), (1, vI a1), (2, vI a2), (3, vI a3), (4, vI i1)], [], w)) (fun i1 => ?_)
  refine sim_goto hC (-30) 5 (by decide +kernel) (by decide) ?_
  exact sim_back (V := (V_State_within_84_5 a1 a2 w)) ((a3, i1))
noncomputable def B_State_within_84_5 (a1 : Int32) (a2 : Int32) (w : Wld) (s : Int32 × Int32) : Option ((Int32 × Int32) ⊕ (Int32)) :=
  br (a2 ≤ s.2) (some (.inr s.1)) (gd (vp_in ((16 : Int32) + s.2) 53) (br (¬ (w 85 (Int32.toNatClampNeg ((16 : Int32) + s.2))) = a1) (K_State_within_84_32 a1 a2 s.1 s.2 w) (bi (s.1 ||| ((1 : Int32) <<< (s.2 &&& 31))) (fun i2 => K_State_within_84_32 a1 a2 i2 s.2 w))))
set_option maxRecDepth 10000 in
theorem s_B_State_within_84_5 {Z : ZT} {l : Launch} {o : Oc} {wo : Wld} {Ok : Cfg → Prop} (hC : Clo Z l 7 5 prog_9_method_5_code (some .int) 1 0 o wo Ok) (a1 : Int32) (a2 : Int32) (w : Wld) (s : Int32 × Int32) : SimK Ok (V_State_within_84_5 a1 a2 w s) (B_State_within_84_5 a1 a2 w s) (GLp Ok (V_State_within_84_5 a1 a2 w) (GEp Ok (E_State_within_84_5 a1 a2 w))) := by
  unfold B_State_within_84_5
  show SimK Ok (5, [(0, vR 84), (1, vI a1), (2, vI a2), (3, vI s.1), (4, vI s.2)], [], w) _ _
  refine sim_blk0 hC [(.iload 4, 0, 0, 0, 0), (.iload_n 2, 0, 0, 0, 0)] [(0, vR 84), (1, vI a1), (2, vI a2), (3, vI s.1), (4, vI s.2)] [vI a2, vI s.2] w 8 (by decide +kernel) rfl rfl ?_
  refine sim_br hC (.if_icmp .ge 30) 38 (by decide +kernel) rfl (by decide) ?_ ?_
  · refine sim_sub hC [3] ?_
    exact sim_exit (E := (E_State_within_84_5 a1 a2 w)) s.1
  · refine sim_blk1 hC [(.aload_n 0, 0, 0, 0, 0), (.getfield 11, 84, 0, 87, 0), (.bipush 16, 0, 0, 0, 16), (.iload 4, 0, 0, 0, 0), (.iadd, 0, 0, 0, 0), (.iaload, 85, 53, 0, 0), (.iload_n 1, 0, 0, 0, 0)] [(0, vR 84), (1, vI a1), (2, vI a2), (3, vI s.1), (4, vI s.2)] [vI a1, vI (w 85 (Int32.toNatClampNeg ((16 : Int32) + s.2)))] w 22 (by decide +kernel) rfl rfl ?_
    refine sim_br hC (.if_icmp .ne 10) 32 (by decide +kernel) rfl (by decide) ?_ ?_
    · exact s_K_State_within_84_32 hC a1 a2 s.1 s.2 w
    · refine sim_blk0 hC [(.iload_n 3, 0, 0, 0, 0), (.iconst 1, 0, 0, 0, 1), (.iload 4, 0, 0, 0, 0), (.ishl, 0, 0, 0, 0), (.ior, 0, 0, 0, 0), (.istore_n 3, 0, 0, 0, 0)] [(0, vR 84), (1, vI a1), (2, vI a2), (3, vI (s.1 ||| ((1 : Int32) <<< (s.2 &&& 31)))), (4, vI s.2)] [] w 32 (by decide +kernel) rfl rfl ?_
      refine sim_bi (C := fun i2 => (32, [(0, vR 84), (1, vI a1), (2, vI a2), (3, vI i2), (4, vI s.2)], [], w)) (fun i2 => ?_)
      exact s_K_State_within_84_32 hC a1 a2 i2 s.2 w
noncomputable def F_State_within_84 (w : Wld) (a1 : Int32) (a2 : Int32) : Option (Int32) :=
  bl (loop (B_State_within_84_5 a1 a2 w) ((0, 0))) (fun r3 => some r3)
set_option maxRecDepth 10000 in
theorem s_State_within_84 {Z : ZT} {l : Launch} {o : Oc} {wo : Wld} {Ok : Cfg → Prop} (hC : Clo Z l 7 5 prog_9_method_5_code (some .int) 1 0 o wo Ok) (w : Wld) (a1 : Int32) (a2 : Int32) : SimK Ok (0, [(0, vR 84), (1, vI a1), (2, vI a2)], [], w) (F_State_within_84 w a1 a2) (Gp o wo w) := by
  unfold F_State_within_84
  refine sim_blk0 hC [(.iconst 0, 0, 0, 0, 0), (.istore_n 3, 0, 0, 0, 0), (.iconst 0, 0, 0, 0, 0), (.istore 4, 0, 0, 0, 0)] [(0, vR 84), (1, vI a1), (2, vI a2), (3, vI 0), (4, vI 0)] [] w 5 (by decide +kernel) rfl rfl ?_
  refine sim_bl (E := (E_State_within_84_5 a1 a2 w)) ?_ (fun r3 => ?_)
  · exact sim_loop (V := (V_State_within_84_5 a1 a2 w)) (fun sz => s_B_State_within_84_5 hC a1 a2 w sz) ((0, 0))
  · show SimK Ok (38, [(3, vI r3)], [], w) _ _
    refine sim_blk0 hC [(.iload_n 3, 0, 0, 0, 0)] [(3, vI r3)] [vI r3] w 39 (by decide +kernel) rfl rfl ?_
    exact sim_retp hC (by decide +kernel) trivial
theorem c_State_within_84 {Z : ZT} {l : Launch} (w : Wld) (a1 : Int32) (a2 : Int32) (r : Int32) (h : F_State_within_84 w a1 a2 = some r) : Con Z l mX7_within 1 0 [vR 84, vI a1, vI a2] w (.inr (some r)) w :=
  Con_of (oc := 7) (by decide +kernel) rfl rfl (fun Ok hC => s_State_within_84 hC w a1 a2 r h ⟨rfl, rfl⟩)
noncomputable def F_Night_lookAt_55_84 (w : Wld) (a2 : Int32) : Option (Wld) :=
  gd (vp_in ((16 : Int32) + a2) 53) (bi (w 85 (Int32.toNatClampNeg ((16 : Int32) + a2))) (fun i1 => gd (vp_in ((0 : Int32) + a2) 53) (gd (vp_in 0 8) (bw (wup w 62 (Int32.toNatClampNeg 0) (w 85 (Int32.toNatClampNeg ((0 : Int32) + a2)))) (fun w2 => gd (vp_in ((8 : Int32) + a2) 53) (gd (vp_in 1 8) (bw (wup w2 62 (Int32.toNatClampNeg 1) (w2 85 (Int32.toNatClampNeg ((8 : Int32) + a2)))) (fun w3 => gd (vp_in a2 8) (gd (vp_in 2 8) (bw (wup w3 62 (Int32.toNatClampNeg 2) (w3 58 (Int32.toNatClampNeg a2))) (fun w4 => gd (vp_in 3 8) (bw (wup w4 62 (Int32.toNatClampNeg 3) i1) (fun w5 => gd (vp_in i1 9) (gd (vp_in 4 8) (bw (wup w5 62 (Int32.toNatClampNeg 4) (w5 57 (Int32.toNatClampNeg i1))) (fun w6 => gd (vp_in 52 53) (gd (vp_in 5 8) (bw (wup w6 62 (Int32.toNatClampNeg 5) (w6 85 (Int32.toNatClampNeg 52))) (fun w7 => bp (F_State_within_84 w7 i1 (w7 56 1)) (fun i8 => bp (F_JI_bitCount w7 i8) (fun i9 => gd (vp_in 6 8) (bw (wup w7 62 (Int32.toNatClampNeg 6) (i9 - (1 : Int32))) (fun w10 => gd (vp_in 51 53) (gd (vp_in 7 8) (bw (wup w10 62 (Int32.toNatClampNeg 7) (((w10 85 (Int32.toNatClampNeg 51)) >>> (a2 &&& 31)) &&& (1 : Int32))) (fun w11 => some w11))))))))))))))))))))))))))
set_option maxRecDepth 10000 in
theorem s_Night_lookAt_55_84 {Z : ZT} {l : Launch} {o : Oc} {wo : Wld} {Ok : Cfg → Prop} (hC : Clo Z l 4 4 prog_6_method_3_code none 2 24 o wo Ok) (w : Wld) (a2 : Int32) : SimK Ok (0, [(0, vR 55), (1, vR 84), (2, vI a2)], [], w) (F_Night_lookAt_55_84 w a2) (Gv o wo) := by
  unfold F_Night_lookAt_55_84
  refine sim_blk1 hC [(.aload_n 1, 0, 0, 0, 0), (.getfield 31, 84, 0, 87, 0), (.bipush 16, 0, 0, 0, 16), (.iload_n 2, 0, 0, 0, 0), (.iadd, 0, 0, 0, 0), (.iaload, 85, 53, 0, 0), (.istore_n 3, 0, 0, 0, 0)] [(0, vR 55), (1, vR 84), (2, vI a2), (3, vI (w 85 (Int32.toNatClampNeg ((16 : Int32) + a2))))] [] w 10 (by decide +kernel) rfl rfl ?_
  refine sim_bi (C := fun i1 => (10, [(0, vR 55), (1, vR 84), (2, vI a2), (3, vI i1)], [], w)) (fun i1 => ?_)
  refine sim_blk2 hC [(.aload_n 0, 0, 0, 0, 0), (.getfield 20, 55, 1, 64, 0), (.iconst 0, 0, 0, 0, 0), (.aload_n 1, 0, 0, 0, 0), (.getfield 31, 84, 0, 87, 0), (.iconst 0, 0, 0, 0, 0), (.iload_n 2, 0, 0, 0, 0), (.iadd, 0, 0, 0, 0), (.iaload, 85, 53, 0, 0), (.iastore, 62, 8, 0, 0)] [(0, vR 55), (1, vR 84), (2, vI a2), (3, vI i1)] [] (wup w 62 (Int32.toNatClampNeg 0) (w 85 (Int32.toNatClampNeg ((0 : Int32) + a2)))) 24 (by decide +kernel) rfl rfl ?_
  refine sim_bw (C := fun w2 => (24, [(0, vR 55), (1, vR 84), (2, vI a2), (3, vI i1)], [], w2)) (fun w2 => ?_)
  refine sim_blk2 hC [(.aload_n 0, 0, 0, 0, 0), (.getfield 20, 55, 1, 64, 0), (.iconst 1, 0, 0, 0, 1), (.aload_n 1, 0, 0, 0, 0), (.getfield 31, 84, 0, 87, 0), (.bipush 8, 0, 0, 0, 8), (.iload_n 2, 0, 0, 0, 0), (.iadd, 0, 0, 0, 0), (.iaload, 85, 53, 0, 0), (.iastore, 62, 8, 0, 0)] [(0, vR 55), (1, vR 84), (2, vI a2), (3, vI i1)] [] (wup w2 62 (Int32.toNatClampNeg 1) (w2 85 (Int32.toNatClampNeg ((8 : Int32) + a2)))) 39 (by decide +kernel) rfl rfl ?_
  refine sim_bw (C := fun w3 => (39, [(0, vR 55), (1, vR 84), (2, vI a2), (3, vI i1)], [], w3)) (fun w3 => ?_)
  refine sim_blk2 hC [(.aload_n 0, 0, 0, 0, 0), (.getfield 20, 55, 1, 64, 0), (.iconst 2, 0, 0, 0, 2), (.aload_n 0, 0, 0, 0, 0), (.getfield 12, 55, 0, 58, 0), (.getfield 51, 56, 5, 60, 0), (.iload_n 2, 0, 0, 0, 0), (.iaload, 58, 8, 0, 0), (.iastore, 62, 8, 0, 0)] [(0, vR 55), (1, vR 84), (2, vI a2), (3, vI i1)] [] (wup w3 62 (Int32.toNatClampNeg 2) (w3 58 (Int32.toNatClampNeg a2))) 54 (by decide +kernel) rfl rfl ?_
  refine sim_bw (C := fun w4 => (54, [(0, vR 55), (1, vR 84), (2, vI a2), (3, vI i1)], [], w4)) (fun w4 => ?_)
  refine sim_blk1 hC [(.aload_n 0, 0, 0, 0, 0), (.getfield 20, 55, 1, 64, 0), (.iconst 3, 0, 0, 0, 3), (.iload_n 3, 0, 0, 0, 0), (.iastore, 62, 8, 0, 0)] [(0, vR 55), (1, vR 84), (2, vI a2), (3, vI i1)] [] (wup w4 62 (Int32.toNatClampNeg 3) i1) 61 (by decide +kernel) rfl rfl ?_
  refine sim_bw (C := fun w5 => (61, [(0, vR 55), (1, vR 84), (2, vI a2), (3, vI i1)], [], w5)) (fun w5 => ?_)
  refine sim_blk2 hC [(.aload_n 0, 0, 0, 0, 0), (.getfield 20, 55, 1, 64, 0), (.iconst 4, 0, 0, 0, 4), (.aload_n 0, 0, 0, 0, 0), (.getfield 12, 55, 0, 58, 0), (.getfield 54, 56, 4, 59, 0), (.iload_n 3, 0, 0, 0, 0), (.iaload, 57, 9, 0, 0), (.iastore, 62, 8, 0, 0)] [(0, vR 55), (1, vR 84), (2, vI a2), (3, vI i1)] [] (wup w5 62 (Int32.toNatClampNeg 4) (w5 57 (Int32.toNatClampNeg i1))) 76 (by decide +kernel) rfl rfl ?_
  refine sim_bw (C := fun w6 => (76, [(0, vR 55), (1, vR 84), (2, vI a2), (3, vI i1)], [], w6)) (fun w6 => ?_)
  refine sim_blk2 hC [(.aload_n 0, 0, 0, 0, 0), (.getfield 20, 55, 1, 64, 0), (.iconst 5, 0, 0, 0, 5), (.aload_n 1, 0, 0, 0, 0), (.getfield 31, 84, 0, 87, 0), (.bipush 52, 0, 0, 0, 52), (.iaload, 85, 53, 0, 0), (.iastore, 62, 8, 0, 0)] [(0, vR 55), (1, vR 84), (2, vI a2), (3, vI i1)] [] (wup w6 62 (Int32.toNatClampNeg 5) (w6 85 (Int32.toNatClampNeg 52))) 89 (by decide +kernel) rfl rfl ?_
  refine sim_bw (C := fun w7 => (89, [(0, vR 55), (1, vR 84), (2, vI a2), (3, vI i1)], [], w7)) (fun w7 => ?_)
  refine sim_blk0 hC [(.aload_n 0, 0, 0, 0, 0), (.getfield 20, 55, 1, 64, 0), (.bipush 6, 0, 0, 0, 6), (.aload_n 1, 0, 0, 0, 0), (.iload_n 3, 0, 0, 0, 0), (.aload_n 0, 0, 0, 0, 0), (.getfield 12, 55, 0, 58, 0), (.getfield 57, 56, 1, 0, 0)] [(0, vR 55), (1, vR 84), (2, vI a2), (3, vI i1)] [vI (w7 56 1), vI i1, vR 84, vI 6, vR 62] w7 104 (by decide +kernel) rfl rfl ?_
  refine sim_vp hC 60 mX7_within 1 0 84 [vI i1, vI (w7 56 1)] [vI 6, vR 62] (by decide +kernel) ml_4_60 rfl rfl rfl rfl rfl rfl (fun rz hz => c_State_within_84 w7 i1 (w7 56 1) rz hz) (fun i8 => ?_)
  refine sim_sp hC 64 mJ6_bitCount_0f7a4 1 0 [vI i8] [vI 6, vR 62] (by decide +kernel) ml_4_64 rfl rfl rfl rfl rfl (fun rz hz => c_JI_bitCount w7 i8 rz hz) (fun i9 => ?_)
  refine sim_blk1 hC [(.iconst 1, 0, 0, 0, 1), (.isub, 0, 0, 0, 0), (.iastore, 62, 8, 0, 0)] [(0, vR 55), (1, vR 84), (2, vI a2), (3, vI i1)] [] (wup w7 62 (Int32.toNatClampNeg 6) (i9 - (1 : Int32))) 113 (by decide +kernel) rfl rfl ?_
  refine sim_bw (C := fun w10 => (113, [(0, vR 55), (1, vR 84), (2, vI a2), (3, vI i1)], [], w10)) (fun w10 => ?_)
  refine sim_blk2 hC [(.aload_n 0, 0, 0, 0, 0), (.getfield 20, 55, 1, 64, 0), (.bipush 7, 0, 0, 0, 7), (.aload_n 1, 0, 0, 0, 0), (.getfield 31, 84, 0, 87, 0), (.bipush 51, 0, 0, 0, 51), (.iaload, 85, 53, 0, 0), (.iload_n 2, 0, 0, 0, 0), (.ishr, 0, 0, 0, 0), (.iconst 1, 0, 0, 0, 1), (.iand, 0, 0, 0, 0), (.iastore, 62, 8, 0, 0)] [(0, vR 55), (1, vR 84), (2, vI a2), (3, vI i1)] [] (wup w10 62 (Int32.toNatClampNeg 7) (((w10 85 (Int32.toNatClampNeg 51)) >>> (a2 &&& 31)) &&& (1 : Int32))) 131 (by decide +kernel) rfl rfl ?_
  refine sim_bw (C := fun w11 => (131, [(0, vR 55), (1, vR 84), (2, vI a2), (3, vI i1)], [], w11)) (fun w11 => ?_)
  exact sim_retv hC (by decide +kernel)
theorem c_Night_lookAt_55_84 {Z : ZT} {l : Launch} (w : Wld) (a2 : Int32) (w1 : Wld) (h : F_Night_lookAt_55_84 w a2 = some w1) : Con Z l mX4_lookAt 2 24 [vR 55, vR 84, vI a2] w (.inr none) w1 :=
  Con_of (oc := 4) (by decide +kernel) rfl rfl (fun Ok hC => s_Night_lookAt_55_84 hC w a2 w1 h ⟨rfl, rfl⟩)
noncomputable def K_Night_rises_55_84_77 (t0 : Int32) (w : Wld) : Option (Int32 × Wld) :=
  gd (t0 = 0 ∨ t0 = 1) (some ((t0, w)))
set_option maxRecDepth 10000 in
theorem s_K_Night_rises_55_84_77 {Z : ZT} {l : Launch} {o : Oc} {wo : Wld} {Ok : Cfg → Prop} (hC : Clo Z l 4 3 prog_6_method_2_code (some .boolean) 3 47 o wo Ok) (t0 : Int32) (w : Wld) : SimK Ok (77, [], [vI t0], w) (K_Night_rises_55_84_77 t0 w) (Gi o wo) := by
  unfold K_Night_rises_55_84_77
  exact sim_retiz hC (by decide +kernel) rfl
noncomputable def K_Night_rises_55_84_48 (t0 : Int32) (w : Wld) : Option (Int32 × Wld) :=
  gd (t0 = 0 ∨ t0 = 1) (some ((t0, w)))
set_option maxRecDepth 10000 in
theorem s_K_Night_rises_55_84_48 {Z : ZT} {l : Launch} {o : Oc} {wo : Wld} {Ok : Cfg → Prop} (hC : Clo Z l 4 3 prog_6_method_2_code (some .boolean) 3 47 o wo Ok) (t0 : Int32) (w : Wld) : SimK Ok (48, [], [vI t0], w) (K_Night_rises_55_84_48 t0 w) (Gi o wo) := by
  unfold K_Night_rises_55_84_48
  exact sim_retiz hC (by decide +kernel) rfl
noncomputable def F_Night_rises_55_84 (w : Wld) (a2 : Int32) : Option (Int32 × Wld) :=
  gd (vp_in 50 53) (br (¬ (((w 85 (Int32.toNatClampNeg 50)) >>> (a2 &&& 31)) &&& (1 : Int32)) = 1) (br (¬ (w 59 2) = 0) (bv (F_Night_lookAt_55_84 w a2) (fun w1 => bd (F_Rule_valueBy_59_62 w1) (fun i2 w3 => br (i2 ≤ 0) (K_Night_rises_55_84_77 0 w3) (K_Night_rises_55_84_77 1 w3)))) (gd (vp_in ((0 : Int32) + a2) 53) (br ((w 85 (Int32.toNatClampNeg ((0 : Int32) + a2))) < 50) (K_Night_rises_55_84_48 0 w) (K_Night_rises_55_84_48 1 w)))) (some ((0, w))))
set_option maxRecDepth 10000 in
theorem s_Night_rises_55_84 {Z : ZT} {l : Launch} {o : Oc} {wo : Wld} {Ok : Cfg → Prop} (hC : Clo Z l 4 3 prog_6_method_2_code (some .boolean) 3 47 o wo Ok) (w : Wld) (a2 : Int32) : SimK Ok (0, [(0, vR 55), (1, vR 84), (2, vI a2)], [], w) (F_Night_rises_55_84 w a2) (Gi o wo) := by
  unfold F_Night_rises_55_84
  refine sim_blk1 hC [(.aload_n 1, 0, 0, 0, 0), (.getfield 31, 84, 0, 87, 0), (.bipush 50, 0, 0, 0, 50), (.iaload, 85, 53, 0, 0), (.iload_n 2, 0, 0, 0, 0), (.ishr, 0, 0, 0, 0), (.iconst 1, 0, 0, 0, 1), (.iand, 0, 0, 0, 0), (.iconst 1, 0, 0, 0, 1)] [(0, vR 55), (1, vR 84), (2, vI a2)] [vI 1, vI (((w 85 (Int32.toNatClampNeg 50)) >>> (a2 &&& 31)) &&& (1 : Int32))] w 12 (by decide +kernel) rfl rfl ?_
  refine sim_br hC (.if_icmp .ne 5) 17 (by decide +kernel) rfl (by decide) ?_ ?_
  · refine sim_blk0 hC [(.aload_n 0, 0, 0, 0, 0), (.getfield 12, 55, 0, 58, 0), (.getfield 36, 56, 6, 61, 0), (.getfield 40, 59, 2, 0, 0)] [(0, vR 55), (1, vR 84), (2, vI a2)] [vI (w 59 2)] w 27 (by decide +kernel) rfl rfl ?_
    refine sim_br hC (.ifCond .ne 22) 49 (by decide +kernel) rfl (by decide) ?_ ?_
    · refine sim_blk0 hC [(.aload_n 0, 0, 0, 0, 0), (.aload_n 1, 0, 0, 0, 0), (.iload_n 2, 0, 0, 0, 0)] [(0, vR 55), (1, vR 84), (2, vI a2)] [vI a2, vR 84, vR 55] w 52 (by decide +kernel) rfl rfl ?_
      refine sim_vv hC 43 mX4_lookAt 2 24 55 [vR 84, vI a2] [] (by decide +kernel) ml_4_43 rfl rfl rfl rfl rfl rfl (fun wz hz => c_Night_lookAt_55_84 w a2 wz hz) (fun w1 => ?_)
      refine sim_blk0 hC [(.aload_n 0, 0, 0, 0, 0), (.getfield 12, 55, 0, 58, 0), (.getfield 36, 56, 6, 61, 0), (.aload_n 0, 0, 0, 0, 0), (.getfield 20, 55, 1, 64, 0)] [(0, vR 55), (1, vR 84), (2, vI a2)] [vR 62, vR 59] w1 66 (by decide +kernel) rfl rfl ?_
      refine sim_vd hC 47 mX6_valueBy 2 22 59 [vR 62] [] (by decide +kernel) ml_4_47 rfl rfl rfl rfl rfl rfl (fun rz wz hz => c_Rule_valueBy_59_62 w1 rz wz hz) (fun i2 w3 => ?_)
      refine sim_br hC (.ifCond .le 7) 76 (by decide +kernel) rfl (by decide) ?_ ?_
      · refine sim_blk0 hC [(.iconst 0, 0, 0, 0, 0)] [(0, vR 55), (1, vR 84), (2, vI a2)] [vI 0] w3 77 (by decide +kernel) rfl rfl ?_
        refine sim_sub hC [] ?_
        exact s_K_Night_rises_55_84_77 hC 0 w3
      · refine sim_blk0 hC [(.iconst 1, 0, 0, 0, 1)] [(0, vR 55), (1, vR 84), (2, vI a2)] [vI 1] w3 73 (by decide +kernel) rfl rfl ?_
        refine sim_goto hC 4 77 (by decide +kernel) (by decide) ?_
        refine sim_sub hC [] ?_
        exact s_K_Night_rises_55_84_77 hC 1 w3
    · refine sim_blk1 hC [(.aload_n 1, 0, 0, 0, 0), (.getfield 31, 84, 0, 87, 0), (.iconst 0, 0, 0, 0, 0), (.iload_n 2, 0, 0, 0, 0), (.iadd, 0, 0, 0, 0), (.iaload, 85, 53, 0, 0), (.bipush 50, 0, 0, 0, 50)] [(0, vR 55), (1, vR 84), (2, vI a2)] [vI 50, vI (w 85 (Int32.toNatClampNeg ((0 : Int32) + a2)))] w 40 (by decide +kernel) rfl rfl ?_
      refine sim_br hC (.if_icmp .lt 7) 47 (by decide +kernel) rfl (by decide) ?_ ?_
      · refine sim_blk0 hC [(.iconst 0, 0, 0, 0, 0)] [(0, vR 55), (1, vR 84), (2, vI a2)] [vI 0] w 48 (by decide +kernel) rfl rfl ?_
        refine sim_sub hC [] ?_
        exact s_K_Night_rises_55_84_48 hC 0 w
      · refine sim_blk0 hC [(.iconst 1, 0, 0, 0, 1)] [(0, vR 55), (1, vR 84), (2, vI a2)] [vI 1] w 44 (by decide +kernel) rfl rfl ?_
        refine sim_goto hC 4 48 (by decide +kernel) (by decide) ?_
        refine sim_sub hC [] ?_
        exact s_K_Night_rises_55_84_48 hC 1 w
  · refine sim_blk0 hC [(.iconst 0, 0, 0, 0, 0)] [(0, vR 55), (1, vR 84), (2, vI a2)] [vI 0] w 16 (by decide +kernel) rfl rfl ?_
    exact sim_reti hC (by decide +kernel) (Or.inl rfl)
theorem c_Night_rises_55_84 {Z : ZT} {l : Launch} (w : Wld) (a2 : Int32) (r : Int32) (w1 : Wld) (h : F_Night_rises_55_84 w a2 = some (r, w1)) : Con Z l mX4_rises 3 47 [vR 55, vR 84, vI a2] w (.inr (some r)) w1 :=
  Con_of (oc := 4) (by decide +kernel) rfl rfl (fun Ok hC => s_Night_rises_55_84 hC w a2 (r, w1) h ⟨rfl, rfl⟩)
noncomputable def K_Night_tire_55_85_16 (a2 : Int32) (t0 : Int32) (w : Wld) : Option (Wld) :=
  gd (vp_in ((0 : Int32) + a2) 53) (gd (vp_in ((0 : Int32) + a2) 53) (bw (wup w 85 (Int32.toNatClampNeg ((0 : Int32) + a2)) (imax 0 ((w 85 (Int32.toNatClampNeg ((0 : Int32) + a2))) - (w 56 2)))) (fun w1 => gd (vp_in a2 8) (gd (vp_in (t0 + (w1 63 (Int32.toNatClampNeg a2))) 53) (gd (vp_in ((16 : Int32) + a2) 53) (bw (wup w1 85 (Int32.toNatClampNeg ((16 : Int32) + a2)) (w1 85 (Int32.toNatClampNeg (t0 + (w1 63 (Int32.toNatClampNeg a2)))))) (fun w2 => some w2)))))))
set_option maxRecDepth 10000 in
theorem s_K_Night_tire_55_85_16 {Z : ZT} {l : Launch} {o : Oc} {wo : Wld} {Ok : Cfg → Prop} (hC : Clo Z l 4 4 prog_6_method_5_code none 1 21 o wo Ok) (a2 : Int32) (t0 : Int32) (w : Wld) : SimK Ok (16, [(0, vR 55), (1, vR 85), (2, vI a2)], [vI t0], w) (K_Night_tire_55_85_16 a2 t0 w) (Gv o wo) := by
  unfold K_Night_tire_55_85_16
  refine sim_blk1 hC [(.istore_n 3, 0, 0, 0, 0), (.aload_n 1, 0, 0, 0, 0), (.iconst 0, 0, 0, 0, 0), (.iload_n 2, 0, 0, 0, 0), (.iadd, 0, 0, 0, 0), (.iconst 0, 0, 0, 0, 0), (.aload_n 1, 0, 0, 0, 0), (.iconst 0, 0, 0, 0, 0), (.iload_n 2, 0, 0, 0, 0), (.iadd, 0, 0, 0, 0), (.iaload, 85, 53, 0, 0), (.aload_n 0, 0, 0, 0, 0), (.getfield 12, 55, 0, 58, 0), (.getfield 92, 56, 2, 0, 0), (.isub, 0, 0, 0, 0)] [(0, vR 55), (1, vR 85), (2, vI a2), (3, vI t0)] [vI ((w 85 (Int32.toNatClampNeg ((0 : Int32) + a2))) - (w 56 2)), vI 0, vI ((0 : Int32) + a2), vR 85] w 35 (by decide +kernel) rfl rfl ?_
  refine sim_max hC 89 (by decide +kernel) ml_4_89 rfl rfl rfl ?_
  refine sim_blk1 hC [(.iastore, 85, 53, 0, 0)] [(0, vR 55), (1, vR 85), (2, vI a2), (3, vI t0)] [] (wup w 85 (Int32.toNatClampNeg ((0 : Int32) + a2)) (imax 0 ((w 85 (Int32.toNatClampNeg ((0 : Int32) + a2))) - (w 56 2)))) 39 (by decide +kernel) rfl rfl ?_
  refine sim_bw (C := fun w1 => (39, [(0, vR 55), (1, vR 85), (2, vI a2), (3, vI t0)], [], w1)) (fun w1 => ?_)
  refine sim_blk3 hC [(.aload_n 1, 0, 0, 0, 0), (.bipush 16, 0, 0, 0, 16), (.iload_n 2, 0, 0, 0, 0), (.iadd, 0, 0, 0, 0), (.aload_n 1, 0, 0, 0, 0), (.iload_n 3, 0, 0, 0, 0), (.aload_n 0, 0, 0, 0, 0), (.getfield 24, 55, 2, 65, 0), (.iload_n 2, 0, 0, 0, 0), (.iaload, 63, 8, 0, 0), (.iadd, 0, 0, 0, 0), (.iaload, 85, 53, 0, 0), (.iastore, 85, 53, 0, 0)] [(0, vR 55), (1, vR 85), (2, vI a2), (3, vI t0)] [] (wup w1 85 (Int32.toNatClampNeg ((16 : Int32) + a2)) (w1 85 (Int32.toNatClampNeg (t0 + (w1 63 (Int32.toNatClampNeg a2)))))) 55 (by decide +kernel) rfl rfl ?_
  refine sim_bw (C := fun w2 => (55, [(0, vR 55), (1, vR 85), (2, vI a2), (3, vI t0)], [], w2)) (fun w2 => ?_)
  exact sim_retv hC (by decide +kernel)
noncomputable def F_Night_tire_55_85 (w : Wld) (a2 : Int32) : Option (Wld) :=
  gd (vp_in ((8 : Int32) + a2) 53) (br ((w 85 (Int32.toNatClampNeg ((8 : Int32) + a2))) ≤ 0) (K_Night_tire_55_85_16 a2 32 w) (K_Night_tire_55_85_16 a2 41 w))
set_option maxRecDepth 10000 in
theorem s_Night_tire_55_85 {Z : ZT} {l : Launch} {o : Oc} {wo : Wld} {Ok : Cfg → Prop} (hC : Clo Z l 4 4 prog_6_method_5_code none 1 21 o wo Ok) (w : Wld) (a2 : Int32) : SimK Ok (0, [(0, vR 55), (1, vR 85), (2, vI a2)], [], w) (F_Night_tire_55_85 w a2) (Gv o wo) := by
  unfold F_Night_tire_55_85
  refine sim_blk1 hC [(.aload_n 1, 0, 0, 0, 0), (.bipush 8, 0, 0, 0, 8), (.iload_n 2, 0, 0, 0, 0), (.iadd, 0, 0, 0, 0), (.iaload, 85, 53, 0, 0)] [(0, vR 55), (1, vR 85), (2, vI a2)] [vI (w 85 (Int32.toNatClampNeg ((8 : Int32) + a2)))] w 6 (by decide +kernel) rfl rfl ?_
  refine sim_br hC (.ifCond .le 8) 14 (by decide +kernel) rfl (by decide) ?_ ?_
  · refine sim_blk0 hC [(.bipush 32, 0, 0, 0, 32)] [(0, vR 55), (1, vR 85), (2, vI a2)] [vI 32] w 16 (by decide +kernel) rfl rfl ?_
    exact s_K_Night_tire_55_85_16 hC a2 32 w
  · refine sim_blk0 hC [(.bipush 41, 0, 0, 0, 41)] [(0, vR 55), (1, vR 85), (2, vI a2)] [vI 41] w 11 (by decide +kernel) rfl rfl ?_
    refine sim_goto hC 5 16 (by decide +kernel) (by decide) ?_
    exact s_K_Night_tire_55_85_16 hC a2 41 w
theorem c_Night_tire_55_85 {Z : ZT} {l : Launch} (w : Wld) (a2 : Int32) (w1 : Wld) (h : F_Night_tire_55_85 w a2 = some w1) : Con Z l mX4_tire 1 21 [vR 55, vR 85, vI a2] w (.inr none) w1 :=
  Con_of (oc := 4) (by decide +kernel) rfl rfl (fun Ok hC => s_Night_tire_55_85 hC w a2 w1 h ⟨rfl, rfl⟩)
