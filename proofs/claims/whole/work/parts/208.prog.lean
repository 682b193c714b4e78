noncomputable def K_M_door_21 (w : Wld) : Option (Int32 × Wld) :=
  bd (F_M_fail w 1) (fun i3 w4 => some ((i3, w4)))
set_option maxRecDepth 10000 in
theorem s_K_M_door_21 {Z : ZT} {l : Launch} {o : Oc} {wo : Wld} {Ok : Cfg → Prop} (hC : Clo Z l 10 5 prog_13_method_61_code (some .int) 3 46 o wo Ok) (w : Wld) : SimK Ok (21, [(0, vR 0)], [], w) (K_M_door_21 w) (Gi o wo) := by
  unfold K_M_door_21
  refine sim_blk0 hC [(.aload_n 0, 0, 0, 0, 0), (.iconst 1, 0, 0, 0, 1)] [(0, vR 0)] [vI 1, vR 0] w 23 (by decide +kernel) rfl rfl ?_
  refine sim_vd hC 292 mX11_fail 1 0 0 [vI 1] [] (by decide +kernel) ml_10_292 rfl rfl rfl rfl rfl rfl (fun rz wz hz => c_M_fail w 1 rz wz hz) (fun i3 w4 => ?_)
  exact sim_reti hC (by decide +kernel) trivial
noncomputable def K_M_door_85 (a4 : Int32) (w : Wld) : Option (Int32 × Wld) :=
  some ((a4, w))
set_option maxRecDepth 10000 in
theorem s_K_M_door_85 {Z : ZT} {l : Launch} {o : Oc} {wo : Wld} {Ok : Cfg → Prop} (hC : Clo Z l 10 5 prog_13_method_61_code (some .int) 3 46 o wo Ok) (a4 : Int32) (w : Wld) : SimK Ok (85, [(4, vI a4)], [], w) (K_M_door_85 a4 w) (Gi o wo) := by
  unfold K_M_door_85
  refine sim_blk0 hC [(.iload 4, 0, 0, 0, 0)] [(4, vI a4)] [vI a4] w 87 (by decide +kernel) rfl rfl ?_
  exact sim_reti hC (by decide +kernel) trivial
noncomputable def K_M_door_46 (a1 : Int32) (a2 : Int32) (a3 : Int32) (t0 : Int32) (w : Wld) : Option (Int32 × Wld) :=
  br (¬ t0 = a3) (bv (F_M_keep w) (fun w6 => br (a2 = 0) (gd (vp_in a1 9) (bw (wup w6 18 (Int32.toNatClampNeg a1) a3) (fun w7 => K_M_door_85 t0 w7))) (gd (vp_in a1 9) (bw (wup w6 19 (Int32.toNatClampNeg a1) a3) (fun w8 => K_M_door_85 t0 w8))))) (bd (F_M_refuse w 1) (fun i9 w10 => some ((i9, w10))))
set_option maxRecDepth 10000 in
theorem s_K_M_door_46 {Z : ZT} {l : Launch} {o : Oc} {wo : Wld} {Ok : Cfg → Prop} (hC : Clo Z l 10 5 prog_13_method_61_code (some .int) 3 46 o wo Ok) (a1 : Int32) (a2 : Int32) (a3 : Int32) (t0 : Int32) (w : Wld) : SimK Ok (46, [(0, vR 0), (1, vI a1), (2, vI a2), (3, vI a3)], [vI t0], w) (K_M_door_46 a1 a2 a3 t0 w) (Gi o wo) := by
  unfold K_M_door_46
  refine sim_blk0 hC [(.istore 4, 0, 0, 0, 0), (.iload 4, 0, 0, 0, 0), (.iload_n 3, 0, 0, 0, 0)] [(0, vR 0), (1, vI a1), (2, vI a2), (3, vI a3), (4, vI t0)] [vI a3, vI t0] w 51 (by decide +kernel) rfl rfl ?_
  refine sim_br hC (.if_icmp .ne 9) 60 (by decide +kernel) rfl (by decide) ?_ ?_
  · refine sim_blk0 hC [(.aload_n 0, 0, 0, 0, 0)] [(0, vR 0), (1, vI a1), (2, vI a2), (3, vI a3), (4, vI t0)] [vR 0] w 61 (by decide +kernel) rfl rfl ?_
    refine sim_vv hC 388 mX11_keep 2 24 0 [] [] (by decide +kernel) ml_10_388 rfl rfl rfl rfl rfl rfl (fun wz hz => c_M_keep w wz hz) (fun w6 => ?_)
    refine sim_blk0 hC [(.iload_n 2, 0, 0, 0, 0)] [(0, vR 0), (1, vI a1), (2, vI a2), (3, vI a3), (4, vI t0)] [vI a2] w6 65 (by decide +kernel) rfl rfl ?_
    refine sim_br hC (.ifCond .eq 13) 78 (by decide +kernel) rfl (by decide) ?_ ?_
    · refine sim_blk1 hC [(.aload_n 0, 0, 0, 0, 0), (.getfield 89, 0, 28, 20, 0), (.iload_n 1, 0, 0, 0, 0), (.iload_n 3, 0, 0, 0, 0), (.iastore, 18, 9, 0, 0)] [(0, vR 0), (1, vI a1), (2, vI a2), (3, vI a3), (4, vI t0)] [] (wup w6 18 (Int32.toNatClampNeg a1) a3) 85 (by decide +kernel) rfl rfl ?_
      refine sim_bw (C := fun w7 => (85, [(0, vR 0), (1, vI a1), (2, vI a2), (3, vI a3), (4, vI t0)], [], w7)) (fun w7 => ?_)
      refine sim_sub hC [4] ?_
      exact s_K_M_door_85 hC t0 w7
    · refine sim_blk1 hC [(.aload_n 0, 0, 0, 0, 0), (.getfield 92, 0, 29, 21, 0), (.iload_n 1, 0, 0, 0, 0), (.iload_n 3, 0, 0, 0, 0), (.iastore, 19, 9, 0, 0)] [(0, vR 0), (1, vI a1), (2, vI a2), (3, vI a3), (4, vI t0)] [] (wup w6 19 (Int32.toNatClampNeg a1) a3) 75 (by decide +kernel) rfl rfl ?_
      refine sim_bw (C := fun w8 => (75, [(0, vR 0), (1, vI a1), (2, vI a2), (3, vI a3), (4, vI t0)], [], w8)) (fun w8 => ?_)
      refine sim_goto hC 10 85 (by decide +kernel) (by decide) ?_
      refine sim_sub hC [4] ?_
      exact s_K_M_door_85 hC t0 w8
  · refine sim_blk0 hC [(.aload_n 0, 0, 0, 0, 0), (.iconst 1, 0, 0, 0, 1)] [(0, vR 0), (1, vI a1), (2, vI a2), (3, vI a3), (4, vI t0)] [vI 1, vR 0] w 56 (by decide +kernel) rfl rfl ?_
    refine sim_vd hC 385 mX11_refuse 1 0 0 [vI 1] [] (by decide +kernel) ml_10_385 rfl rfl rfl rfl rfl rfl (fun rz wz hz => c_M_refuse w 1 rz wz hz) (fun i9 w10 => ?_)
    exact sim_reti hC (by decide +kernel) trivial
noncomputable def F_M_door (w : Wld) (a1 : Int32) (a2 : Int32) (a3 : Int32) : Option (Int32 × Wld) :=
  bw (wup w 0 2 0) (fun w1 => bp (F_M_isRoom w1 a1) (fun i2 => br (i2 = 0) (K_M_door_21 w1) (bp (F_M_isRoom w1 a3) (fun i5 => br (¬ i5 = 0) (br (a2 = 0) (gd (vp_in a1 9) (K_M_door_46 a1 a2 a3 (w1 18 (Int32.toNatClampNeg a1)) w1)) (gd (vp_in a1 9) (K_M_door_46 a1 a2 a3 (w1 19 (Int32.toNatClampNeg a1)) w1))) (K_M_door_21 w1)))))
set_option maxRecDepth 10000 in
theorem s_M_door {Z : ZT} {l : Launch} {o : Oc} {wo : Wld} {Ok : Cfg → Prop} (hC : Clo Z l 10 5 prog_13_method_61_code (some .int) 3 46 o wo Ok) (w : Wld) (a1 : Int32) (a2 : Int32) (a3 : Int32) : SimK Ok (0, [(0, vR 0), (1, vI a1), (2, vI a2), (3, vI a3)], [], w) (F_M_door w a1 a2 a3) (Gi o wo) := by
  unfold F_M_door
  refine sim_blk0 hC [(.aload_n 0, 0, 0, 0, 0), (.iconst 0, 0, 0, 0, 0), (.putfield 159, 0, 2, 0, 0)] [(0, vR 0), (1, vI a1), (2, vI a2), (3, vI a3)] [] (wup w 0 2 0) 5 (by decide +kernel) rfl rfl ?_
  refine sim_bw (C := fun w1 => (5, [(0, vR 0), (1, vI a1), (2, vI a2), (3, vI a3)], [], w1)) (fun w1 => ?_)
  refine sim_blk0 hC [(.aload_n 0, 0, 0, 0, 0), (.iload_n 1, 0, 0, 0, 0)] [(0, vR 0), (1, vI a1), (2, vI a2), (3, vI a3)] [vI a1, vR 0] w1 7 (by decide +kernel) rfl rfl ?_
  refine sim_vp hC 371 mX11_isRoom 2 25 0 [vI a1] [] (by decide +kernel) ml_10_371 rfl rfl rfl rfl rfl rfl (fun rz hz => c_M_isRoom w1 a1 rz hz) (fun i2 => ?_)
  refine sim_br hC (.ifCond .eq 11) 21 (by decide +kernel) rfl (by decide) ?_ ?_
  · refine sim_sub hC [0] ?_
    exact s_K_M_door_21 hC w1
  · refine sim_blk0 hC [(.aload_n 0, 0, 0, 0, 0), (.iload_n 3, 0, 0, 0, 0)] [(0, vR 0), (1, vI a1), (2, vI a2), (3, vI a3)] [vI a3, vR 0] w1 15 (by decide +kernel) rfl rfl ?_
    refine sim_vp hC 371 mX11_isRoom 2 25 0 [vI a3] [] (by decide +kernel) ml_10_371 rfl rfl rfl rfl rfl rfl (fun rz hz => c_M_isRoom w1 a3 rz hz) (fun i5 => ?_)
    refine sim_br hC (.ifCond .ne 9) 27 (by decide +kernel) rfl (by decide) ?_ ?_
    · refine sim_blk0 hC [(.iload_n 2, 0, 0, 0, 0)] [(0, vR 0), (1, vI a1), (2, vI a2), (3, vI a3)] [vI a2] w1 28 (by decide +kernel) rfl rfl ?_
      refine sim_br hC (.ifCond .eq 12) 40 (by decide +kernel) rfl (by decide) ?_ ?_
      · refine sim_blk1 hC [(.aload_n 0, 0, 0, 0, 0), (.getfield 89, 0, 28, 20, 0), (.iload_n 1, 0, 0, 0, 0), (.iaload, 18, 9, 0, 0)] [(0, vR 0), (1, vI a1), (2, vI a2), (3, vI a3)] [vI (w1 18 (Int32.toNatClampNeg a1))] w1 46 (by decide +kernel) rfl rfl ?_
        exact s_K_M_door_46 hC a1 a2 a3 (w1 18 (Int32.toNatClampNeg a1)) w1
      · refine sim_blk1 hC [(.aload_n 0, 0, 0, 0, 0), (.getfield 92, 0, 29, 21, 0), (.iload_n 1, 0, 0, 0, 0), (.iaload, 19, 9, 0, 0)] [(0, vR 0), (1, vI a1), (2, vI a2), (3, vI a3)] [vI (w1 19 (Int32.toNatClampNeg a1))] w1 37 (by decide +kernel) rfl rfl ?_
        refine sim_goto hC 9 46 (by decide +kernel) (by decide) ?_
        exact s_K_M_door_46 hC a1 a2 a3 (w1 19 (Int32.toNatClampNeg a1)) w1
    · refine sim_sub hC [0] ?_
      exact s_K_M_door_21 hC w1
theorem c_M_door {Z : ZT} {l : Launch} (w : Wld) (a1 : Int32) (a2 : Int32) (a3 : Int32) (r : Int32) (w1 : Wld) (h : F_M_door w a1 a2 a3 = some (r, w1)) : Con Z l mX11_door 3 46 [vR 0, vI a1, vI a2, vI a3] w (.inr (some r)) w1 :=
  Con_of (oc := 10) (by decide +kernel) rfl rfl (fun Ok hC => s_M_door hC w a1 a2 a3 (r, w1) h ⟨rfl, rfl⟩)
def V_M_unpack_20_32 (a3 : Int32) : (Int32 × Wld) → Cfg := fun s => (32, [(0, vR 0), (1, vR 20), (3, vI a3), (4, vI s.1)], [], s.2)
def E_M_unpack_20_32 (a3 : Int32) : (Wld) → Cfg := fun s => (106, [(0, vR 0), (1, vR 20), (3, vI a3)], [], s)
noncomputable def B_M_unpack_20_32 (a3 : Int32) (s : Int32 × Wld) : Option ((Int32 × Wld) ⊕ (Wld)) :=
  br ((8 : Int32) ≤ s.1) (some (.inr s.2)) (gd (vp_in (a3 + s.1) 2120) (gd (vp_in s.1 8) (bw (wup s.2 14 (Int32.toNatClampNeg s.1) (s.2 20 (Int32.toNatClampNeg (a3 + s.1)))) (fun w5 => gd (vp_in ((a3 + (8 : Int32)) + s.1) 2120) (gd (vp_in s.1 8) (bw (wup w5 15 (Int32.toNatClampNeg s.1) (w5 20 (Int32.toNatClampNeg ((a3 + (8 : Int32)) + s.1)))) (fun w6 => gd (vp_in ((a3 + (16 : Int32)) + s.1) 2120) (gd (vp_in s.1 8) (bw (wup w6 16 (Int32.toNatClampNeg s.1) (w6 20 (Int32.toNatClampNeg ((a3 + (16 : Int32)) + s.1)))) (fun w7 => gd (vp_in ((a3 + (24 : Int32)) + s.1) 2120) (gd (vp_in s.1 8) (bw (wup w7 17 (Int32.toNatClampNeg s.1) (w7 20 (Int32.toNatClampNeg ((a3 + (24 : Int32)) + s.1)))) (fun w8 => bi (s.1 + 1) (fun i9 => some (.inl ((i9, w8)))))))))))))))))
set_option maxRecDepth 10000 in
theorem s_B_M_unpack_20_32 {Z : ZT} {l : Launch} {o : Oc} {wo : Wld} {Ok : Cfg → Prop} (hC : Clo Z l 10 5 prog_13_method_39_code none 1 0 o wo Ok) (a3 : Int32) (s : Int32 × Wld) : SimK Ok (V_M_unpack_20_32 a3 s) (B_M_unpack_20_32 a3 s) (GLp Ok (V_M_unpack_20_32 a3) (GEp Ok (E_M_unpack_20_32 a3))) := by
  unfold B_M_unpack_20_32
  show SimK Ok (32, [(0, vR 0), (1, vR 20), (3, vI a3), (4, vI s.1)], [], s.2) _ _
  refine sim_blk0 hC [(.iload 4, 0, 0, 0, 0), (.bipush 8, 0, 0, 0, 8)] [(0, vR 0), (1, vR 20), (3, vI a3), (4, vI s.1)] [vI 8, vI s.1] s.2 36 (by decide +kernel) rfl rfl ?_
  refine sim_br hC (.if_icmp .ge 70) 106 (by decide +kernel) rfl (by decide) ?_ ?_
  · refine sim_sub hC [0, 1, 2] ?_
    exact sim_exit (E := (E_M_unpack_20_32 a3)) s.2
  · refine sim_blk2 hC [(.aload_n 0, 0, 0, 0, 0), (.getfield 78, 0, 24, 16, 0), (.iload 4, 0, 0, 0, 0), (.aload_n 1, 0, 0, 0, 0), (.iload_n 3, 0, 0, 0, 0), (.iload 4, 0, 0, 0, 0), (.iadd, 0, 0, 0, 0), (.iaload, 20, 2120, 0, 0), (.iastore, 14, 8, 0, 0)] [(0, vR 0), (1, vR 20), (3, vI a3), (4, vI s.1)] [] (wup s.2 14 (Int32.toNatClampNeg s.1) (s.2 20 (Int32.toNatClampNeg (a3 + s.1)))) 52 (by decide +kernel) rfl rfl ?_
    refine sim_bw (C := fun w5 => (52, [(0, vR 0), (1, vR 20), (3, vI a3), (4, vI s.1)], [], w5)) (fun w5 => ?_)
    refine sim_blk2 hC [(.aload_n 0, 0, 0, 0, 0), (.getfield 81, 0, 25, 17, 0), (.iload 4, 0, 0, 0, 0), (.aload_n 1, 0, 0, 0, 0), (.iload_n 3, 0, 0, 0, 0), (.bipush 8, 0, 0, 0, 8), (.iadd, 0, 0, 0, 0), (.iload 4, 0, 0, 0, 0), (.iadd, 0, 0, 0, 0), (.iaload, 20, 2120, 0, 0), (.iastore, 15, 8, 0, 0)] [(0, vR 0), (1, vR 20), (3, vI a3), (4, vI s.1)] [] (wup w5 15 (Int32.toNatClampNeg s.1) (w5 20 (Int32.toNatClampNeg ((a3 + (8 : Int32)) + s.1)))) 68 (by decide +kernel) rfl rfl ?_
    refine sim_bw (C := fun w6 => (68, [(0, vR 0), (1, vR 20), (3, vI a3), (4, vI s.1)], [], w6)) (fun w6 => ?_)
    refine sim_blk2 hC [(.aload_n 0, 0, 0, 0, 0), (.getfield 84, 0, 26, 18, 0), (.iload 4, 0, 0, 0, 0), (.aload_n 1, 0, 0, 0, 0), (.iload_n 3, 0, 0, 0, 0), (.bipush 16, 0, 0, 0, 16), (.iadd, 0, 0, 0, 0), (.iload 4, 0, 0, 0, 0), (.iadd, 0, 0, 0, 0), (.iaload, 20, 2120, 0, 0), (.iastore, 16, 8, 0, 0)] [(0, vR 0), (1, vR 20), (3, vI a3), (4, vI s.1)] [] (wup w6 16 (Int32.toNatClampNeg s.1) (w6 20 (Int32.toNatClampNeg ((a3 + (16 : Int32)) + s.1)))) 84 (by decide +kernel) rfl rfl ?_
    refine sim_bw (C := fun w7 => (84, [(0, vR 0), (1, vR 20), (3, vI a3), (4, vI s.1)], [], w7)) (fun w7 => ?_)
    refine sim_blk2 hC [(.aload_n 0, 0, 0, 0, 0), (.getfield 87, 0, 27, 19, 0), (.iload 4, 0, 0, 0, 0), (.aload_n 1, 0, 0, 0, 0), (.iload_n 3, 0, 0, 0, 0), (.bipush 24, 0, 0, 0, 24), (.iadd, 0, 0, 0, 0), (.iload 4, 0, 0, 0, 0), (.iadd, 0, 0, 0, 0), (.iaload, 20, 2120, 0, 0), (.iastore, 17, 8, 0, 0)] [(0, vR 0), (1, vR 20), (3, vI a3), (4, vI s.1)] [] (wup w7 17 (Int32.toNatClampNeg s.1) (w7 20 (Int32.toNatClampNeg ((a3 + (24 : Int32)) + s.1)))) 100 (by decide +kernel) rfl rfl ?_
    refine sim_bw (C := fun w8 => (100, [(0, vR 0), (1, vR 20), (3, vI a3), (4, vI s.1)], [], w8)) (fun w8 => ?_)
    refine sim_blk0 hC [(.iinc 4 1, 0, 0, 0, 1)] [(0, vR 0), (1, vR 20), (3, vI a3), (4, vI (s.1 + 1))] [] w8 103 (by decide +kernel) rfl rfl ?_
    refine sim_bi (C := fun i9 => (103, [(0, vR 0), (1, vR 20), (3, vI a3), (4, vI i9)], [], w8)) (fun i9 => ?_)
    refine sim_goto hC (-71) 32 (by decide +kernel) (by decide) ?_
    exact sim_back (V := (V_M_unpack_20_32 a3)) ((i9, w8))
def V_M_unpack_20_112 (a3 : Int32) : (Int32 × Wld) → Cfg := fun s => (112, [(0, vR 0), (1, vR 20), (3, vI a3), (4, vI s.1)], [], s.2)
def E_M_unpack_20_112 (a3 : Int32) : (Wld) → Cfg := fun s => (154, [], [], s)
noncomputable def B_M_unpack_20_112 (a3 : Int32) (s : Int32 × Wld) : Option ((Int32 × Wld) ⊕ (Wld)) :=
  br ((9 : Int32) ≤ s.1) (some (.inr s.2)) (gd (vp_in (a3 + s.1) 2120) (gd (vp_in s.1 9) (bw (wup s.2 18 (Int32.toNatClampNeg s.1) (s.2 20 (Int32.toNatClampNeg (a3 + s.1)))) (fun w12 => gd (vp_in ((a3 + (9 : Int32)) + s.1) 2120) (gd (vp_in s.1 9) (bw (wup w12 19 (Int32.toNatClampNeg s.1) (w12 20 (Int32.toNatClampNeg ((a3 + (9 : Int32)) + s.1)))) (fun w13 => bi (s.1 + 1) (fun i14 => some (.inl ((i14, w13)))))))))))
set_option maxRecDepth 10000 in
theorem s_B_M_unpack_20_112 {Z : ZT} {l : Launch} {o : Oc} {wo : Wld} {Ok : Cfg → Prop} (hC : Clo Z l 10 5 prog_13_method_39_code none 1 0 o wo Ok) (a3 : Int32) (s : Int32 × Wld) : SimK Ok (V_M_unpack_20_112 a3 s) (B_M_unpack_20_112 a3 s) (GLp Ok (V_M_unpack_20_112 a3) (GEp Ok (E_M_unpack_20_112 a3))) := by
  unfold B_M_unpack_20_112
  show SimK Ok (112, [(0, vR 0), (1, vR 20), (3, vI a3), (4, vI s.1)], [], s.2) _ _
  refine sim_blk0 hC [(.iload 4, 0, 0, 0, 0), (.bipush 9, 0, 0, 0, 9)] [(0, vR 0), (1, vR 20), (3, vI a3), (4, vI s.1)] [vI 9, vI s.1] s.2 116 (by decide +kernel) rfl rfl ?_
  refine sim_br hC (.if_icmp .ge 38) 154 (by decide +kernel) rfl (by decide) ?_ ?_
  · refine sim_sub hC [] ?_
    exact sim_exit (E := (E_M_unpack_20_112 a3)) s.2
  · refine sim_blk2 hC [(.aload_n 0, 0, 0, 0, 0), (.getfield 89, 0, 28, 20, 0), (.iload 4, 0, 0, 0, 0), (.aload_n 1, 0, 0, 0, 0), (.iload_n 3, 0, 0, 0, 0), (.iload 4, 0, 0, 0, 0), (.iadd, 0, 0, 0, 0), (.iaload, 20, 2120, 0, 0), (.iastore, 18, 9, 0, 0)] [(0, vR 0), (1, vR 20), (3, vI a3), (4, vI s.1)] [] (wup s.2 18 (Int32.toNatClampNeg s.1) (s.2 20 (Int32.toNatClampNeg (a3 + s.1)))) 132 (by decide +kernel) rfl rfl ?_
    refine sim_bw (C := fun w12 => (132, [(0, vR 0), (1, vR 20), (3, vI a3), (4, vI s.1)], [], w12)) (fun w12 => ?_)
    refine sim_blk2 hC [(.aload_n 0, 0, 0, 0, 0), (.getfield 92, 0, 29, 21, 0), (.iload 4, 0, 0, 0, 0), (.aload_n 1, 0, 0, 0, 0), (.iload_n 3, 0, 0, 0, 0), (.bipush 9, 0, 0, 0, 9), (.iadd, 0, 0, 0, 0), (.iload 4, 0, 0, 0, 0), (.iadd, 0, 0, 0, 0), (.iaload, 20, 2120, 0, 0), (.iastore, 19, 9, 0, 0)] [(0, vR 0), (1, vR 20), (3, vI a3), (4, vI s.1)] [] (wup w12 19 (Int32.toNatClampNeg s.1) (w12 20 (Int32.toNatClampNeg ((a3 + (9 : Int32)) + s.1)))) 148 (by decide +kernel) rfl rfl ?_
    refine sim_bw (C := fun w13 => (148, [(0, vR 0), (1, vR 20), (3, vI a3), (4, vI s.1)], [], w13)) (fun w13 => ?_)
    refine sim_blk0 hC [(.iinc 4 1, 0, 0, 0, 1)] [(0, vR 0), (1, vR 20), (3, vI a3), (4, vI (s.1 + 1))] [] w13 151 (by decide +kernel) rfl rfl ?_
    refine sim_bi (C := fun i14 => (151, [(0, vR 0), (1, vR 20), (3, vI a3), (4, vI i14)], [], w13)) (fun i14 => ?_)
    refine sim_goto hC (-39) 112 (by decide +kernel) (by decide) ?_
    exact sim_back (V := (V_M_unpack_20_112 a3)) ((i14, w13))
noncomputable def F_M_unpack_20 (w : Wld) (a2 : Int32) : Option (Wld) :=
  gd (vp_in a2 2120) (bw (wup w 0 31 (w 20 (Int32.toNatClampNeg a2))) (fun w1 => gd (vp_in (a2 + (1 : Int32)) 2120) (bw (wup w1 0 32 (w1 20 (Int32.toNatClampNeg (a2 + (1 : Int32))))) (fun w2 => gd (vp_in (a2 + (2 : Int32)) 2120) (bw (wup w2 0 33 (w2 20 (Int32.toNatClampNeg (a2 + (2 : Int32))))) (fun w3 => bi (a2 + (3 : Int32)) (fun i4 => bl (loop (B_M_unpack_20_32 i4) ((0, w3))) (fun r10 => bi (i4 + 32) (fun i11 => bl (loop (B_M_unpack_20_112 i11) ((0, r10))) (fun r15 => some r15))))))))))
set_option maxRecDepth 10000 in
theorem s_M_unpack_20 {Z : ZT} {l : Launch} {o : Oc} {wo : Wld} {Ok : Cfg → Prop} (hC : Clo Z l 10 5 prog_13_method_39_code none 1 0 o wo Ok) (w : Wld) (a2 : Int32) : SimK Ok (0, [(0, vR 0), (1, vR 20), (2, vI a2)], [], w) (F_M_unpack_20 w a2) (Gv o wo) := by
  unfold F_M_unpack_20
  refine sim_blk1 hC [(.aload_n 0, 0, 0, 0, 0), (.aload_n 1, 0, 0, 0, 0), (.iload_n 2, 0, 0, 0, 0), (.iaload, 20, 2120, 0, 0), (.putfield 305, 0, 31, 0, 0)] [(0, vR 0), (1, vR 20), (2, vI a2)] [] (wup w 0 31 (w 20 (Int32.toNatClampNeg a2))) 7 (by decide +kernel) rfl rfl ?_
  refine sim_bw (C := fun w1 => (7, [(0, vR 0), (1, vR 20), (2, vI a2)], [], w1)) (fun w1 => ?_)
  refine sim_blk1 hC [(.aload_n 0, 0, 0, 0, 0), (.aload_n 1, 0, 0, 0, 0), (.iload_n 2, 0, 0, 0, 0), (.iconst 1, 0, 0, 0, 1), (.iadd, 0, 0, 0, 0), (.iaload, 20, 2120, 0, 0), (.putfield 307, 0, 32, 0, 0)] [(0, vR 0), (1, vR 20), (2, vI a2)] [] (wup w1 0 32 (w1 20 (Int32.toNatClampNeg (a2 + (1 : Int32))))) 16 (by decide +kernel) rfl rfl ?_
  refine sim_bw (C := fun w2 => (16, [(0, vR 0), (1, vR 20), (2, vI a2)], [], w2)) (fun w2 => ?_)
  refine sim_blk1 hC [(.aload_n 0, 0, 0, 0, 0), (.aload_n 1, 0, 0, 0, 0), (.iload_n 2, 0, 0, 0, 0), (.iconst 2, 0, 0, 0, 2), (.iadd, 0, 0, 0, 0), (.iaload, 20, 2120, 0, 0), (.putfield 309, 0, 33, 0, 0)] [(0, vR 0), (1, vR 20), (2, vI a2)] [] (wup w2 0 33 (w2 20 (Int32.toNatClampNeg (a2 + (2 : Int32))))) 25 (by decide +kernel) rfl rfl ?_
  refine sim_bw (C := fun w3 => (25, [(0, vR 0), (1, vR 20), (2, vI a2)], [], w3)) (fun w3 => ?_)
  refine sim_blk0 hC [(.iload_n 2, 0, 0, 0, 0), (.iconst 3, 0, 0, 0, 3), (.iadd, 0, 0, 0, 0), (.istore_n 3, 0, 0, 0, 0)] [(0, vR 0), (1, vR 20), (2, vI a2), (3, vI (a2 + (3 : Int32)))] [] w3 29 (by decide +kernel) rfl rfl ?_
  refine sim_bi (C := fun i4 => (29, [(0, vR 0), (1, vR 20), (2, vI a2), (3, vI i4)], [], w3)) (fun i4 => ?_)
  refine sim_blk0 hC [(.iconst 0, 0, 0, 0, 0), (.istore 4, 0, 0, 0, 0)] [(0, vR 0), (1, vR 20), (2, vI a2), (3, vI i4), (4, vI 0)] [] w3 32 (by decide +kernel) rfl rfl ?_
  refine sim_bl (E := (E_M_unpack_20_32 i4)) ?_ (fun r10 => ?_)
  · refine sim_sub hC [0, 1, 3, 4] ?_
    exact sim_loop (V := (V_M_unpack_20_32 i4)) (fun sz => s_B_M_unpack_20_32 hC i4 sz) ((0, w3))
  · show SimK Ok (106, [(0, vR 0), (1, vR 20), (3, vI i4)], [], r10) _ _
    refine sim_blk0 hC [(.iinc 3 32, 0, 0, 0, 32)] [(0, vR 0), (1, vR 20), (3, vI (i4 + 32))] [] r10 109 (by decide +kernel) rfl rfl ?_
    refine sim_bi (C := fun i11 => (109, [(0, vR 0), (1, vR 20), (3, vI i11)], [], r10)) (fun i11 => ?_)
    refine sim_blk0 hC [(.iconst 0, 0, 0, 0, 0), (.istore 4, 0, 0, 0, 0)] [(0, vR 0), (1, vR 20), (3, vI i11), (4, vI 0)] [] r10 112 (by decide +kernel) rfl rfl ?_
    refine sim_bl (E := (E_M_unpack_20_112 i11)) ?_ (fun r15 => ?_)
    · exact sim_loop (V := (V_M_unpack_20_112 i11)) (fun sz => s_B_M_unpack_20_112 hC i11 sz) ((0, r10))
    · show SimK Ok (154, [], [], r15) _ _
      exact sim_retv hC (by decide +kernel)
theorem c_M_unpack_20 {Z : ZT} {l : Launch} (w : Wld) (a2 : Int32) (w1 : Wld) (h : F_M_unpack_20 w a2 = some w1) : Con Z l mX11_unpack 1 0 [vR 0, vR 20, vI a2] w (.inr none) w1 :=
  Con_of (oc := 10) (by decide +kernel) rfl rfl (fun Ok hC => s_M_unpack_20 hC w a2 w1 h ⟨rfl, rfl⟩)
noncomputable def F_M_undo (w : Wld) : Option (Int32 × Wld) :=
  bw (wup w 0 2 0) (fun w1 => br (¬ (w1 0 34) = 0) (bw (wup w1 0 34 ((w1 0 34) - (1 : Int32))) (fun w2 => bv (F_M_unpack_20 w2 ((53 : Int32) * (w2 0 34))) (fun w3 => some ((w3 0 34, w3))))) (some (((-1), w1))))
set_option maxRecDepth 10000 in
theorem s_M_undo {Z : ZT} {l : Launch} {o : Oc} {wo : Wld} {Ok : Cfg → Prop} (hC : Clo Z l 10 1 prog_13_method_62_code (some .int) 2 24 o wo Ok) (w : Wld) : SimK Ok (0, [(0, vR 0)], [], w) (F_M_undo w) (Gi o wo) := by
  unfold F_M_undo
  refine sim_blk0 hC [(.aload_n 0, 0, 0, 0, 0), (.iconst 0, 0, 0, 0, 0), (.putfield 159, 0, 2, 0, 0)] [(0, vR 0)] [] (wup w 0 2 0) 5 (by decide +kernel) rfl rfl ?_
  refine sim_bw (C := fun w1 => (5, [(0, vR 0)], [], w1)) (fun w1 => ?_)
  refine sim_blk0 hC [(.aload_n 0, 0, 0, 0, 0), (.getfield 312, 0, 34, 0, 0)] [(0, vR 0)] [vI (w1 0 34)] w1 9 (by decide +kernel) rfl rfl ?_
  refine sim_br hC (.ifCond .ne 5) 14 (by decide +kernel) rfl (by decide) ?_ ?_
  · refine sim_blk0 hC [(.aload_n 0, 0, 0, 0, 0), (.dup, 0, 0, 0, 0), (.getfield 312, 0, 34, 0, 0), (.iconst 1, 0, 0, 0, 1), (.isub, 0, 0, 0, 0), (.putfield 312, 0, 34, 0, 0)] [(0, vR 0)] [] (wup w1 0 34 ((w1 0 34) - (1 : Int32))) 24 (by decide +kernel) rfl rfl ?_
    refine sim_bw (C := fun w2 => (24, [(0, vR 0)], [], w2)) (fun w2 => ?_)
    refine sim_blk0 hC [(.aload_n 0, 0, 0, 0, 0), (.aload_n 0, 0, 0, 0, 0), (.getfield 95, 0, 30, 22, 0), (.bipush 53, 0, 0, 0, 53), (.aload_n 0, 0, 0, 0, 0), (.getfield 312, 0, 34, 0, 0), (.imul, 0, 0, 0, 0)] [(0, vR 0)] [vI ((53 : Int32) * (w2 0 34)), vR 20, vR 0] w2 36 (by decide +kernel) rfl rfl ?_
    refine sim_vv hC 401 mX11_unpack 1 0 0 [vR 20, vI ((53 : Int32) * (w2 0 34))] [] (by decide +kernel) ml_10_401 rfl rfl rfl rfl rfl rfl (fun wz hz => c_M_unpack_20 w2 ((53 : Int32) * (w2 0 34)) wz hz) (fun w3 => ?_)
    refine sim_blk0 hC [(.aload_n 0, 0, 0, 0, 0), (.getfield 312, 0, 34, 0, 0)] [(0, vR 0)] [vI (w3 0 34)] w3 43 (by decide +kernel) rfl rfl ?_
    exact sim_reti hC (by decide +kernel) trivial
  · refine sim_blk0 hC [(.iconst (-1), 0, 0, 0, (-1))] [(0, vR 0)] [vI (-1)] w1 13 (by decide +kernel) rfl rfl ?_
    exact sim_reti hC (by decide +kernel) trivial
theorem c_M_undo {Z : ZT} {l : Launch} (w : Wld) (r : Int32) (w1 : Wld) (h : F_M_undo w = some (r, w1)) : Con Z l mX11_undo 2 24 [vR 0] w (.inr (some r)) w1 :=
  Con_of (oc := 10) (by decide +kernel) rfl rfl (fun Ok hC => s_M_undo hC w (r, w1) h ⟨rfl, rfl⟩)
def V_M_pack_24_32 (a3 : Int32) : (Int32 × Wld) → Cfg := fun s => (32, [(0, vR 0), (1, vR 24), (3, vI a3), (4, vI s.1)], [], s.2)
def E_M_pack_24_32 (a3 : Int32) : (Wld) → Cfg := fun s => (106, [(0, vR 0), (1, vR 24), (3, vI a3)], [], s)
noncomputable def B_M_pack_24_32 (a3 : Int32) (s : Int32 × Wld) : Option ((Int32 × Wld) ⊕ (Wld)) :=
  br ((8 : Int32) ≤ s.1) (some (.inr s.2)) (gd (vp_in s.1 8) (gd (vp_in (a3 + s.1) 53) (bw (wup s.2 24 (Int32.toNatClampNeg (a3 + s.1)) (s.2 14 (Int32.toNatClampNeg s.1))) (fun w5 => gd (vp_in s.1 8) (gd (vp_in ((a3 + (8 : Int32)) + s.1) 53) (bw (wup w5 24 (Int32.toNatClampNeg ((a3 + (8 : Int32)) + s.1)) (w5 15 (Int32.toNatClampNeg s.1))) (fun w6 => gd (vp_in s.1 8) (gd (vp_in ((a3 + (16 : Int32)) + s.1) 53) (bw (wup w6 24 (Int32.toNatClampNeg ((a3 + (16 : Int32)) + s.1)) (w6 16 (Int32.toNatClampNeg s.1))) (fun w7 => gd (vp_in s.1 8) (gd (vp_in ((a3 + (24 : Int32)) + s.1) 53) (bw (wup w7 24 (Int32.toNatClampNeg ((a3 + (24 : Int32)) + s.1)) (w7 17 (Int32.toNatClampNeg s.1))) (fun w8 => bi (s.1 + 1) (fun i9 => some (.inl ((i9, w8)))))))))))))))))
set_option maxRecDepth 10000 in
theorem s_B_M_pack_24_32 {Z : ZT} {l : Launch} {o : Oc} {wo : Wld} {Ok : Cfg → Prop} (hC : Clo Z l 10 5 prog_13_method_38_code none 1 0 o wo Ok) (a3 : Int32) (s : Int32 × Wld) : SimK Ok (V_M_pack_24_32 a3 s) (B_M_pack_24_32 a3 s) (GLp Ok (V_M_pack_24_32 a3) (GEp Ok (E_M_pack_24_32 a3))) := by
  unfold B_M_pack_24_32
  show SimK Ok (32, [(0, vR 0), (1, vR 24), (3, vI a3), (4, vI s.1)], [], s.2) _ _
  refine sim_blk0 hC [(.iload 4, 0, 0, 0, 0), (.bipush 8, 0, 0, 0, 8)] [(0, vR 0), (1, vR 24), (3, vI a3), (4, vI s.1)] [vI 8, vI s.1] s.2 36 (by decide +kernel) rfl rfl ?_
  refine sim_br hC (.if_icmp .ge 70) 106 (by decide +kernel) rfl (by decide) ?_ ?_
  · refine sim_sub hC [0, 1, 2] ?_
    exact sim_exit (E := (E_M_pack_24_32 a3)) s.2
  · refine sim_blk2 hC [(.aload_n 1, 0, 0, 0, 0), (.iload_n 3, 0, 0, 0, 0), (.iload 4, 0, 0, 0, 0), (.iadd, 0, 0, 0, 0), (.aload_n 0, 0, 0, 0, 0), (.getfield 78, 0, 24, 16, 0), (.iload 4, 0, 0, 0, 0), (.iaload, 14, 8, 0, 0), (.iastore, 24, 53, 0, 0)] [(0, vR 0), (1, vR 24), (3, vI a3), (4, vI s.1)] [] (wup s.2 24 (Int32.toNatClampNeg (a3 + s.1)) (s.2 14 (Int32.toNatClampNeg s.1))) 52 (by decide +kernel) rfl rfl ?_
    refine sim_bw (C := fun w5 => (52, [(0, vR 0), (1, vR 24), (3, vI a3), (4, vI s.1)], [], w5)) (fun w5 => ?_)
    refine sim_blk2 hC [(.aload_n 1, 0, 0, 0, 0), (.iload_n 3, 0, 0, 0, 0), (.bipush 8, 0, 0, 0, 8), (.iadd, 0, 0, 0, 0), (.iload 4, 0, 0, 0, 0), (.iadd, 0, 0, 0, 0), (.aload_n 0, 0, 0, 0, 0), (.getfield 81, 0, 25, 17, 0), (.iload 4, 0, 0, 0, 0), (.iaload, 15, 8, 0, 0), (.iastore, 24, 53, 0, 0)] [(0, vR 0), (1, vR 24), (3, vI a3), (4, vI s.1)] [] (wup w5 24 (Int32.toNatClampNeg ((a3 + (8 : Int32)) + s.1)) (w5 15 (Int32.toNatClampNeg s.1))) 68 (by decide +kernel) rfl rfl ?_
    refine sim_bw (C := fun w6 => (68, [(0, vR 0), (1, vR 24), (3, vI a3), (4, vI s.1)], [], w6)) (fun w6 => ?_)
    refine sim_blk2 hC [(.aload_n 1, 0, 0, 0, 0), (.iload_n 3, 0, 0, 0, 0), (.bipush 16, 0, 0, 0, 16), (.iadd, 0, 0, 0, 0), (.iload 4, 0, 0, 0, 0), (.iadd, 0, 0, 0, 0), (.aload_n 0, 0, 0, 0, 0), (.getfield 84, 0, 26, 18, 0), (.iload 4, 0, 0, 0, 0), (.iaload, 16, 8, 0, 0), (.iastore, 24, 53, 0, 0)] [(0, vR 0), (1, vR 24), (3, vI a3), (4, vI s.1)] [] (wup w6 24 (Int32.toNatClampNeg ((a3 + (16 : Int32)) + s.1)) (w6 16 (Int32.toNatClampNeg s.1))) 84 (by decide +kernel) rfl rfl ?_
    refine sim_bw (C := fun w7 => (84, [(0, vR 0), (1, vR 24), (3, vI a3), (4, vI s.1)], [], w7)) (fun w7 => ?_)
    refine sim_blk2 hC [(.aload_n 1, 0, 0, 0, 0), (.iload_n 3, 0, 0, 0, 0), (.bipush 24, 0, 0, 0, 24), (.iadd, 0, 0, 0, 0), (.iload 4, 0, 0, 0, 0), (.iadd, 0, 0, 0, 0), (.aload_n 0, 0, 0, 0, 0), (.getfield 87, 0, 27, 19, 0), (.iload 4, 0, 0, 0, 0), (.iaload, 17, 8, 0, 0), (.iastore, 24, 53, 0, 0)] [(0, vR 0), (1, vR 24), (3, vI a3), (4, vI s.1)] [] (wup w7 24 (Int32.toNatClampNeg ((a3 + (24 : Int32)) + s.1)) (w7 17 (Int32.toNatClampNeg s.1))) 100 (by decide +kernel) rfl rfl ?_
    refine sim_bw (C := fun w8 => (100, [(0, vR 0), (1, vR 24), (3, vI a3), (4, vI s.1)], [], w8)) (fun w8 => ?_)
    refine sim_blk0 hC [(.iinc 4 1, 0, 0, 0, 1)] [(0, vR 0), (1, vR 24), (3, vI a3), (4, vI (s.1 + 1))] [] w8 103 (by decide +kernel) rfl rfl ?_
    refine sim_bi (C := fun i9 => (103, [(0, vR 0), (1, vR 24), (3, vI a3), (4, vI i9)], [], w8)) (fun i9 => ?_)
    refine sim_goto hC (-71) 32 (by decide +kernel) (by decide) ?_
    exact sim_back (V := (V_M_pack_24_32 a3)) ((i9, w8))
def V_M_pack_24_112 (a3 : Int32) : (Int32 × Wld) → Cfg := fun s => (112, [(0, vR 0), (1, vR 24), (3, vI a3), (4, vI s.1)], [], s.2)
def E_M_pack_24_112 (a3 : Int32) : (Wld) → Cfg := fun s => (154, [], [], s)
noncomputable def B_M_pack_24_112 (a3 : Int32) (s : Int32 × Wld) : Option ((Int32 × Wld) ⊕ (Wld)) :=
  br ((9 : Int32) ≤ s.1) (some (.inr s.2)) (gd (vp_in s.1 9) (gd (vp_in (a3 + s.1) 53) (bw (wup s.2 24 (Int32.toNatClampNeg (a3 + s.1)) (s.2 18 (Int32.toNatClampNeg s.1))) (fun w12 => gd (vp_in s.1 9) (gd (vp_in ((a3 + (9 : Int32)) + s.1) 53) (bw (wup w12 24 (Int32.toNatClampNeg ((a3 + (9 : Int32)) + s.1)) (w12 19 (Int32.toNatClampNeg s.1))) (fun w13 => bi (s.1 + 1) (fun i14 => some (.inl ((i14, w13)))))))))))
set_option maxRecDepth 10000 in
theorem s_B_M_pack_24_112 {Z : ZT} {l : Launch} {o : Oc} {wo : Wld} {Ok : Cfg → Prop} (hC : Clo Z l 10 5 prog_13_method_38_code none 1 0 o wo Ok) (a3 : Int32) (s : Int32 × Wld) : SimK Ok (V_M_pack_24_112 a3 s) (B_M_pack_24_112 a3 s) (GLp Ok (V_M_pack_24_112 a3) (GEp Ok (E_M_pack_24_112 a3))) := by
  unfold B_M_pack_24_112
  show SimK Ok (112, [(0, vR 0), (1, vR 24), (3, vI a3), (4, vI s.1)], [], s.2) _ _
  refine sim_blk0 hC [(.iload 4, 0, 0, 0, 0), (.bipush 9, 0, 0, 0, 9)] [(0, vR 0), (1, vR 24), (3, vI a3), (4, vI s.1)] [vI 9, vI s.1] s.2 116 (by decide +kernel) rfl rfl ?_
  refine sim_br hC (.if_icmp .ge 38) 154 (by decide +kernel) rfl (by decide) ?_ ?_
  · refine sim_sub hC [] ?_
    exact sim_exit (E := (E_M_pack_24_112 a3)) s.2
  · refine sim_blk2 hC [(.aload_n 1, 0, 0, 0, 0), (.iload_n 3, 0, 0, 0, 0), (.iload 4, 0, 0, 0, 0), (.iadd, 0, 0, 0, 0), (.aload_n 0, 0, 0, 0, 0), (.getfield 89, 0, 28, 20, 0), (.iload 4, 0, 0, 0, 0), (.iaload, 18, 9, 0, 0), (.iastore, 24, 53, 0, 0)] [(0, vR 0), (1, vR 24), (3, vI a3), (4, vI s.1)] [] (wup s.2 24 (Int32.toNatClampNeg (a3 + s.1)) (s.2 18 (Int32.toNatClampNeg s.1))) 132 (by decide +kernel) rfl rfl ?_
    refine sim_bw (C := fun w12 => (132, [(0, vR 0), (1, vR 24), (3, vI a3), (4, vI s.1)], [], w12)) (fun w12 => ?_)
    refine sim_blk2 hC [(.aload_n 1, 0, 0, 0, 0), (.iload_n 3, 0, 0, 0, 0), (.bipush 9, 0, 0, 0, 9), (.iadd, 0, 0, 0, 0), (.iload 4, 0, 0, 0, 0), (.iadd, 0, 0, 0, 0), (.aload_n 0, 0, 0, 0, 0), (.getfield 92, 0, 29, 21, 0), (.iload 4, 0, 0, 0, 0), (.iaload, 19, 9, 0, 0), (.iastore, 24, 53, 0, 0)] [(0, vR 0), (1, vR 24), (3, vI a3), (4, vI s.1)] [] (wup w12 24 (Int32.toNatClampNeg ((a3 + (9 : Int32)) + s.1)) (w12 19 (Int32.toNatClampNeg s.1))) 148 (by decide +kernel) rfl rfl ?_
    refine sim_bw (C := fun w13 => (148, [(0, vR 0), (1, vR 24), (3, vI a3), (4, vI s.1)], [], w13)) (fun w13 => ?_)
    refine sim_blk0 hC [(.iinc 4 1, 0, 0, 0, 1)] [(0, vR 0), (1, vR 24), (3, vI a3), (4, vI (s.1 + 1))] [] w13 151 (by decide +kernel) rfl rfl ?_
    refine sim_bi (C := fun i14 => (151, [(0, vR 0), (1, vR 24), (3, vI a3), (4, vI i14)], [], w13)) (fun i14 => ?_)
    refine sim_goto hC (-39) 112 (by decide +kernel) (by decide) ?_
    exact sim_back (V := (V_M_pack_24_112 a3)) ((i14, w13))
noncomputable def F_M_pack_24 (w : Wld) (a2 : Int32) : Option (Wld) :=
  gd (vp_in a2 53) (bw (wup w 24 (Int32.toNatClampNeg a2) (w 0 31)) (fun w1 => gd (vp_in (a2 + (1 : Int32)) 53) (bw (wup w1 24 (Int32.toNatClampNeg (a2 + (1 : Int32))) (w1 0 32)) (fun w2 => gd (vp_in (a2 + (2 : Int32)) 53) (bw (wup w2 24 (Int32.toNatClampNeg (a2 + (2 : Int32))) (w2 0 33)) (fun w3 => bi (a2 + (3 : Int32)) (fun i4 => bl (loop (B_M_pack_24_32 i4) ((0, w3))) (fun r10 => bi (i4 + 32) (fun i11 => bl (loop (B_M_pack_24_112 i11) ((0, r10))) (fun r15 => some r15))))))))))
set_option maxRecDepth 10000 in
theorem s_M_pack_24 {Z : ZT} {l : Launch} {o : Oc} {wo : Wld} {Ok : Cfg → Prop} (hC : Clo Z l 10 5 prog_13_method_38_code none 1 0 o wo Ok) (w : Wld) (a2 : Int32) : SimK Ok (0, [(0, vR 0), (1, vR 24), (2, vI a2)], [], w) (F_M_pack_24 w a2) (Gv o wo) := by
  unfold F_M_pack_24
  refine sim_blk1 hC [(.aload_n 1, 0, 0, 0, 0), (.iload_n 2, 0, 0, 0, 0), (.aload_n 0, 0, 0, 0, 0), (.getfield 305, 0, 31, 0, 0), (.iastore, 24, 53, 0, 0)] [(0, vR 0), (1, vR 24), (2, vI a2)] [] (wup w 24 (Int32.toNatClampNeg a2) (w 0 31)) 7 (by decide +kernel) rfl rfl ?_
  refine sim_bw (C := fun w1 => (7, [(0, vR 0), (1, vR 24), (2, vI a2)], [], w1)) (fun w1 => ?_)
  refine sim_blk1 hC [(.aload_n 1, 0, 0, 0, 0), (.iload_n 2, 0, 0, 0, 0), (.iconst 1, 0, 0, 0, 1), (.iadd, 0, 0, 0, 0), (.aload_n 0, 0, 0, 0, 0), (.getfield 307, 0, 32, 0, 0), (.iastore, 24, 53, 0, 0)] [(0, vR 0), (1, vR 24), (2, vI a2)] [] (wup w1 24 (Int32.toNatClampNeg (a2 + (1 : Int32))) (w1 0 32)) 16 (by decide +kernel) rfl rfl ?_
  refine sim_bw (C := fun w2 => (16, [(0, vR 0), (1, vR 24), (2, vI a2)], [], w2)) (fun w2 => ?_)
  refine sim_blk1 hC [(.aload_n 1, 0, 0, 0, 0), (.iload_n 2, 0, 0, 0, 0), (.iconst 2, 0, 0, 0, 2), (.iadd, 0, 0, 0, 0), (.aload_n 0, 0, 0, 0, 0), (.getfield 309, 0, 33, 0, 0), (.iastore, 24, 53, 0, 0)] [(0, vR 0), (1, vR 24), (2, vI a2)] [] (wup w2 24 (Int32.toNatClampNeg (a2 + (2 : Int32))) (w2 0 33)) 25 (by decide +kernel) rfl rfl ?_
  refine sim_bw (C := fun w3 => (25, [(0, vR 0), (1, vR 24), (2, vI a2)], [], w3)) (fun w3 => ?_)
  refine sim_blk0 hC [(.iload_n 2, 0, 0, 0, 0), (.iconst 3, 0, 0, 0, 3), (.iadd, 0, 0, 0, 0), (.istore_n 3, 0, 0, 0, 0)] [(0, vR 0), (1, vR 24), (2, vI a2), (3, vI (a2 + (3 : Int32)))] [] w3 29 (by decide +kernel) rfl rfl ?_
  refine sim_bi (C := fun i4 => (29, [(0, vR 0), (1, vR 24), (2, vI a2), (3, vI i4)], [], w3)) (fun i4 => ?_)
  refine sim_blk0 hC [(.iconst 0, 0, 0, 0, 0), (.istore 4, 0, 0, 0, 0)] [(0, vR 0), (1, vR 24), (2, vI a2), (3, vI i4), (4, vI 0)] [] w3 32 (by decide +kernel) rfl rfl ?_
  refine sim_bl (E := (E_M_pack_24_32 i4)) ?_ (fun r10 => ?_)
  · refine sim_sub hC [0, 1, 3, 4] ?_
    exact sim_loop (V := (V_M_pack_24_32 i4)) (fun sz => s_B_M_pack_24_32 hC i4 sz) ((0, w3))
  · show SimK Ok (106, [(0, vR 0), (1, vR 24), (3, vI i4)], [], r10) _ _
    refine sim_blk0 hC [(.iinc 3 32, 0, 0, 0, 32)] [(0, vR 0), (1, vR 24), (3, vI (i4 + 32))] [] r10 109 (by decide +kernel) rfl rfl ?_
    refine sim_bi (C := fun i11 => (109, [(0, vR 0), (1, vR 24), (3, vI i11)], [], r10)) (fun i11 => ?_)
    refine sim_blk0 hC [(.iconst 0, 0, 0, 0, 0), (.istore 4, 0, 0, 0, 0)] [(0, vR 0), (1, vR 24), (3, vI i11), (4, vI 0)] [] r10 112 (by decide +kernel) rfl rfl ?_
    refine sim_bl (E := (E_M_pack_24_112 i11)) ?_ (fun r15 => ?_)
    · exact sim_loop (V := (V_M_pack_24_112 i11)) (fun sz => s_B_M_pack_24_112 hC i11 sz) ((0, r10))
    · show SimK Ok (154, [], [], r15) _ _
      exact sim_retv hC (by decide +kernel)
theorem c_M_pack_24 {Z : ZT} {l : Launch} (w : Wld) (a2 : Int32) (w1 : Wld) (h : F_M_pack_24 w a2 = some w1) : Con Z l mX11_pack 1 0 [vR 0, vR 24, vI a2] w (.inr none) w1 :=
  Con_of (oc := 10) (by decide +kernel) rfl rfl (fun Ok hC => s_M_pack_24 hC w a2 w1 h ⟨rfl, rfl⟩)
def V_M_unpack_24_32 (a3 : Int32) : (Int32 × Wld) → Cfg := fun s => (32, [(0, vR 0), (1, vR 24), (3, vI a3), (4, vI s.1)], [], s.2)
def E_M_unpack_24_32 (a3 : Int32) : (Wld) → Cfg := fun s => (106, [(0, vR 0), (1, vR 24), (3, vI a3)], [], s)
noncomputable def B_M_unpack_24_32 (a3 : Int32) (s : Int32 × Wld) : Option ((Int32 × Wld) ⊕ (Wld)) :=
  br ((8 : Int32) ≤ s.1) (some (.inr s.2)) (gd (vp_in (a3 + s.1) 53) (gd (vp_in s.1 8) (bw (wup s.2 14 (Int32.toNatClampNeg s.1) (s.2 24 (Int32.toNatClampNeg (a3 + s.1)))) (fun w5 => gd (vp_in ((a3 + (8 : Int32)) + s.1) 53) (gd (vp_in s.1 8) (bw (wup w5 15 (Int32.toNatClampNeg s.1) (w5 24 (Int32.toNatClampNeg ((a3 + (8 : Int32)) + s.1)))) (fun w6 => gd (vp_in ((a3 + (16 : Int32)) + s.1) 53) (gd (vp_in s.1 8) (bw (wup w6 16 (Int32.toNatClampNeg s.1) (w6 24 (Int32.toNatClampNeg ((a3 + (16 : Int32)) + s.1)))) (fun w7 => gd (vp_in ((a3 + (24 : Int32)) + s.1) 53) (gd (vp_in s.1 8) (bw (wup w7 17 (Int32.toNatClampNeg s.1) (w7 24 (Int32.toNatClampNeg ((a3 + (24 : Int32)) + s.1)))) (fun w8 => bi (s.1 + 1) (fun i9 => some (.inl ((i9, w8)))))))))))))))))
set_option maxRecDepth 10000 in
theorem s_B_M_unpack_24_32 {Z : ZT} {l : Launch} {o : Oc} {wo : Wld} {Ok : Cfg → Prop} (hC : Clo Z l 10 5 prog_13_method_39_code none 1 0 o wo Ok) (a3 : Int32) (s : Int32 × Wld) : SimK Ok (V_M_unpack_24_32 a3 s) (B_M_unpack_24_32 a3 s) (GLp Ok (V_M_unpack_24_32 a3) (GEp Ok (E_M_unpack_24_32 a3))) := by
  unfold B_M_unpack_24_32
  show SimK Ok (32, [(0, vR 0), (1, vR 24), (3, vI a3), (4, vI s.1)], [], s.2) _ _
  refine sim_blk0 hC [(.iload 4, 0, 0, 0, 0), (.bipush 8, 0, 0, 0, 8)] [(0, vR 0), (1, vR 24), (3, vI a3), (4, vI s.1)] [vI 8, vI s.1] s.2 36 (by decide +kernel) rfl rfl ?_
  refine sim_br hC (.if_icmp .ge 70) 106 (by decide +kernel) rfl (by decide) ?_ ?_
  · refine sim_sub hC [0, 1, 2] ?_
    exact sim_exit (E := (E_M_unpack_24_32 a3)) s.2
  · refine sim_blk2 hC [(.aload_n 0, 0, 0, 0, 0), (.getfield 78, 0, 24, 16, 0), (.iload 4, 0, 0, 0, 0), (.aload_n 1, 0, 0, 0, 0), (.iload_n 3, 0, 0, 0, 0), (.iload 4, 0, 0, 0, 0), (.iadd, 0, 0, 0, 0), (.iaload, 24, 53, 0, 0), (.iastore, 14, 8, 0, 0)] [(0, vR 0), (1, vR 24), (3, vI a3), (4, vI s.1)] [] (wup s.2 14 (Int32.toNatClampNeg s.1) (s.2 24 (Int32.toNatClampNeg (a3 + s.1)))) 52 (by decide +kernel) rfl rfl ?_
    refine sim_bw (C := fun w5 => (52, [(0, vR 0), (1, vR 24), (3, vI a3), (4, vI s.1)], [], w5)) (fun w5 => ?_)
    refine sim_blk2 hC [(.aload_n 0, 0, 0, 0, 0), (.getfield 81, 0, 25, 17, 0), (.iload 4, 0, 0, 0, 0), (.aload_n 1, 0, 0, 0, 0), (.iload_n 3, 0, 0, 0, 0), (.bipush 8, 0, 0, 0, 8), (.iadd, 0, 0, 0, 0), (.iload 4, 0, 0, 0, 0), (.iadd, 0, 0, 0, 0), (.iaload, 24, 53, 0, 0), (.iastore, 15, 8, 0, 0)] [(0, vR 0), (1, vR 24), (3, vI a3), (4, vI s.1)] [] (wup w5 15 (Int32.toNatClampNeg s.1) (w5 24 (Int32.toNatClampNeg ((a3 + (8 : Int32)) + s.1)))) 68 (by decide +kernel) rfl rfl ?_
    refine sim_bw (C := fun w6 => (68, [(0, vR 0), (1, vR 24), (3, vI a3), (4, vI s.1)], [], w6)) (fun w6 => ?_)
    refine sim_blk2 hC [(.aload_n 0, 0, 0, 0, 0), (.getfield 84, 0, 26, 18, 0), (.iload 4, 0, 0, 0, 0), (.aload_n 1, 0, 0, 0, 0), (.iload_n 3, 0, 0, 0, 0), (.bipush 16, 0, 0, 0, 16), (.iadd, 0, 0, 0, 0), (.iload 4, 0, 0, 0, 0), (.iadd, 0, 0, 0, 0), (.iaload, 24, 53, 0, 0), (.iastore, 16, 8, 0, 0)] [(0, vR 0), (1, vR 24), (3, vI a3), (4, vI s.1)] [] (wup w6 16 (Int32.toNatClampNeg s.1) (w6 24 (Int32.toNatClampNeg ((a3 + (16 : Int32)) + s.1)))) 84 (by decide +kernel) rfl rfl ?_
    refine sim_bw (C := fun w7 => (84, [(0, vR 0), (1, vR 24), (3, vI a3), (4, vI s.1)], [], w7)) (fun w7 => ?_)
    refine sim_blk2 hC [(.aload_n 0, 0, 0, 0, 0), (.getfield 87, 0, 27, 19, 0), (.iload 4, 0, 0, 0, 0), (.aload_n 1, 0, 0, 0, 0), (.iload_n 3, 0, 0, 0, 0), (.bipush 24, 0, 0, 0, 24), (.iadd, 0, 0, 0, 0), (.iload 4, 0, 0, 0, 0), (.iadd, 0, 0, 0, 0), (.iaload, 24, 53, 0, 0), (.iastore, 17, 8, 0, 0)] [(0, vR 0), (1, vR 24), (3, vI a3), (4, vI s.1)] [] (wup w7 17 (Int32.toNatClampNeg s.1) (w7 24 (Int32.toNatClampNeg ((a3 + (24 : Int32)) + s.1)))) 100 (by decide +kernel) rfl rfl ?_
    refine sim_bw (C := fun w8 => (100, [(0, vR 0), (1, vR 24), (3, vI a3), (4, vI s.1)], [], w8)) (fun w8 => ?_)
    refine sim_blk0 hC [(.iinc 4 1, 0, 0, 0, 1)] [(0, vR 0), (1, vR 24), (3, vI a3), (4, vI (s.1 + 1))] [] w8 103 (by decide +kernel) rfl rfl ?_
    refine sim_bi (C := fun i9 => (103, [(0, vR 0), (1, vR 24), (3, vI a3), (4, vI i9)], [], w8)) (fun i9 => ?_)
    refine sim_goto hC (-71) 32 (by decide +kernel) (by decide) ?_
    exact sim_back (V := (V_M_unpack_24_32 a3)) ((i9, w8))
def V_M_unpack_24_112 (a3 : Int32) : (Int32 × Wld) → Cfg := fun s => (112, [(0, vR 0), (1, vR 24), (3, vI a3), (4, vI s.1)], [], s.2)
def E_M_unpack_24_112 (a3 : Int32) : (Wld) → Cfg := fun s => (154, [], [], s)
noncomputable def B_M_unpack_24_112 (a3 : Int32) (s : Int32 × Wld) : Option ((Int32 × Wld) ⊕ (Wld)) :=
  br ((9 : Int32) ≤ s.1) (some (.inr s.2)) (gd (vp_in (a3 + s.1) 53) (gd (vp_in s.1 9) (bw (wup s.2 18 (Int32.toNatClampNeg s.1) (s.2 24 (Int32.toNatClampNeg (a3 + s.1)))) (fun w12 => gd (vp_in ((a3 + (9 : Int32)) + s.1) 53) (gd (vp_in s.1 9) (bw (wup w12 19 (Int32.toNatClampNeg s.1) (w12 24 (Int32.toNatClampNeg ((a3 + (9 : Int32)) + s.1)))) (fun w13 => bi (s.1 + 1) (fun i14 => some (.inl ((i14, w13)))))))))))
set_option maxRecDepth 10000 in
theorem s_B_M_unpack_24_112 {Z : ZT} {l : Launch} {o : Oc} {wo : Wld} {Ok : Cfg → Prop} (hC : Clo Z l 10 5 prog_13_method_39_code none 1 0 o wo Ok) (a3 : Int32) (s : Int32 × Wld) : SimK Ok (V_M_unpack_24_112 a3 s) (B_M_unpack_24_112 a3 s) (GLp Ok (V_M_unpack_24_112 a3) (GEp Ok (E_M_unpack_24_112 a3))) := by
  unfold B_M_unpack_24_112
  show SimK Ok (112, [(0, vR 0), (1, vR 24), (3, vI a3), (4, vI s.1)], [], s.2) _ _
  refine sim_blk0 hC [(.iload 4, 0, 0, 0, 0), (.bipush 9, 0, 0, 0, 9)] [(0, vR 0), (1, vR 24), (3, vI a3), (4, vI s.1)] [vI 9, vI s.1] s.2 116 (by decide +kernel) rfl rfl ?_
  refine sim_br hC (.if_icmp .ge 38) 154 (by decide +kernel) rfl (by decide) ?_ ?_
  · refine sim_sub hC [] ?_
    exact sim_exit (E := (E_M_unpack_24_112 a3)) s.2
  · refine sim_blk2 hC [(.aload_n 0, 0, 0, 0, 0), (.getfield 89, 0, 28, 20, 0), (.iload 4, 0, 0, 0, 0), (.aload_n 1, 0, 0, 0, 0), (.iload_n 3, 0, 0, 0, 0), (.iload 4, 0, 0, 0, 0), (.iadd, 0, 0, 0, 0), (.iaload, 24, 53, 0, 0), (.iastore, 18, 9, 0, 0)] [(0, vR 0), (1, vR 24), (3, vI a3), (4, vI s.1)] [] (wup s.2 18 (Int32.toNatClampNeg s.1) (s.2 24 (Int32.toNatClampNeg (a3 + s.1)))) 132 (by decide +kernel) rfl rfl ?_
    refine sim_bw (C := fun w12 => (132, [(0, vR 0), (1, vR 24), (3, vI a3), (4, vI s.1)], [], w12)) (fun w12 => ?_)
    refine sim_blk2 hC [(.aload_n 0, 0, 0, 0, 0), (.getfield 92, 0, 29, 21, 0), (.iload 4, 0, 0, 0, 0), (.aload_n 1, 0, 0, 0, 0), (.iload_n 3, 0, 0, 0, 0), (.bipush 9, 0, 0, 0, 9), (.iadd, 0, 0, 0, 0), (.iload 4, 0, 0, 0, 0), (.iadd, 0, 0, 0, 0), (.iaload, 24, 53, 0, 0), (.iastore, 19, 9, 0, 0)] [(0, vR 0), (1, vR 24), (3, vI a3), (4, vI s.1)] [] (wup w12 19 (Int32.toNatClampNeg s.1) (w12 24 (Int32.toNatClampNeg ((a3 + (9 : Int32)) + s.1)))) 148 (by decide +kernel) rfl rfl ?_
    refine sim_bw (C := fun w13 => (148, [(0, vR 0), (1, vR 24), (3, vI a3), (4, vI s.1)], [], w13)) (fun w13 => ?_)
    refine sim_blk0 hC [(.iinc 4 1, 0, 0, 0, 1)] [(0, vR 0), (1, vR 24), (3, vI a3), (4, vI (s.1 + 1))] [] w13 151 (by decide +kernel) rfl rfl ?_
    refine sim_bi (C := fun i14 => (151, [(0, vR 0), (1, vR 24), (3, vI a3), (4, vI i14)], [], w13)) (fun i14 => ?_)
    refine sim_goto hC (-39) 112 (by decide +kernel) (by decide) ?_
    exact sim_back (V := (V_M_unpack_24_112 a3)) ((i14, w13))
noncomputable def F_M_unpack_24 (w : Wld) (a2 : Int32) : Option (Wld) :=
  gd (vp_in a2 53) (bw (wup w 0 31 (w 24 (Int32.toNatClampNeg a2))) (fun w1 => gd (vp_in (a2 + (1 : Int32)) 53) (bw (wup w1 0 32 (w1 24 (Int32.toNatClampNeg (a2 + (1 : Int32))))) (fun w2 => gd (vp_in (a2 + (2 : Int32)) 53) (bw (wup w2 0 33 (w2 24 (Int32.toNatClampNeg (a2 + (2 : Int32))))) (fun w3 => bi (a2 + (3 : Int32)) (fun i4 => bl (loop (B_M_unpack_24_32 i4) ((0, w3))) (fun r10 => bi (i4 + 32) (fun i11 => bl (loop (B_M_unpack_24_112 i11) ((0, r10))) (fun r15 => some r15))))))))))
set_option maxRecDepth 10000 in
theorem s_M_unpack_24 {Z : ZT} {l : Launch} {o : Oc} {wo : Wld} {Ok : Cfg → Prop} (hC : Clo Z l 10 5 prog_13_method_39_code none 1 0 o wo Ok) (w : Wld) (a2 : Int32) : SimK Ok (0, [(0, vR 0), (1, vR 24), (2, vI a2)], [], w) (F_M_unpack_24 w a2) (Gv o wo) := by
  unfold F_M_unpack_24
  refine sim_blk1 hC [(.aload_n 0, 0, 0, 0, 0), (.aload_n 1, 0, 0, 0, 0), (.iload_n 2, 0, 0, 0, 0), (.iaload, 24, 53, 0, 0), (.putfield 305, 0, 31, 0, 0)] [(0, vR 0), (1, vR 24), (2, vI a2)] [] (wup w 0 31 (w 24 (Int32.toNatClampNeg a2))) 7 (by decide +kernel) rfl rfl ?_
  refine sim_bw (C := fun w1 => (7, [(0, vR 0), (1, vR 24), (2, vI a2)], [], w1)) (fun w1 => ?_)
  refine sim_blk1 hC [(.aload_n 0, 0, 0, 0, 0), (.aload_n 1, 0, 0, 0, 0), (.iload_n 2, 0, 0, 0, 0), (.iconst 1, 0, 0, 0, 1), (.iadd, 0, 0, 0, 0), (.iaload, 24, 53, 0, 0), (.putfield 307, 0, 32, 0, 0)] [(0, vR 0), (1, vR 24), (2, vI a2)] [] (wup w1 0 32 (w1 24 (Int32.toNatClampNeg (a2 + (1 : Int32))))) 16 (by decide +kernel) rfl rfl ?_
  refine sim_bw (C := fun w2 => (16, [(0, vR 0), (1, vR 24), (2, vI a2)], [], w2)) (fun w2 => ?_)
  refine sim_blk1 hC [(.aload_n 0, 0, 0, 0, 0), (.aload_n 1, 0, 0, 0, 0), (.iload_n 2, 0, 0, 0, 0), (.iconst 2, 0, 0, 0, 2), (.iadd, 0, 0, 0, 0), (.iaload, 24, 53, 0, 0), (.putfield 309, 0, 33, 0, 0)] [(0, vR 0), (1, vR 24), (2, vI a2)] [] (wup w2 0 33 (w2 24 (Int32.toNatClampNeg (a2 + (2 : Int32))))) 25 (by decide +kernel) rfl rfl ?_
  refine sim_bw (C := fun w3 => (25, [(0, vR 0), (1, vR 24), (2, vI a2)], [], w3)) (fun w3 => ?_)
  refine sim_blk0 hC [(.iload_n 2, 0, 0, 0, 0), (.iconst 3, 0, 0, 0, 3), (.iadd, 0, 0, 0, 0), (.istore_n 3, 0, 0, 0, 0)] [(0, vR 0), (1, vR 24), (2, vI a2), (3, vI (a2 + (3 : Int32)))] [] w3 29 (by decide +kernel) rfl rfl ?_
  refine sim_bi (C := fun i4 => (29, [(0, vR 0), (1, vR 24), (2, vI a2), (3, vI i4)], [], w3)) (fun i4 => ?_)
  refine sim_blk0 hC [(.iconst 0, 0, 0, 0, 0), (.istore 4, 0, 0, 0, 0)] [(0, vR 0), (1, vR 24), (2, vI a2), (3, vI i4), (4, vI 0)] [] w3 32 (by decide +kernel) rfl rfl ?_
  refine sim_bl (E := (E_M_unpack_24_32 i4)) ?_ (fun r10 => ?_)
  · refine sim_sub hC [0, 1, 3, 4] ?_
    exact sim_loop (V := (V_M_unpack_24_32 i4)) (fun sz => s_B_M_unpack_24_32 hC i4 sz) ((0, w3))
  · show SimK Ok (106, [(0, vR 0), (1, vR 24), (3, vI i4)], [], r10) _ _
    refine sim_blk0 hC [(.iinc 3 32, 0, 0, 0, 32)] [(0, vR 0), (1, vR 24), (3, vI (i4 + 32))] [] r10 109 (by decide +kernel) rfl rfl ?_
    refine sim_bi (C := fun i11 => (109, [(0, vR 0), (1, vR 24), (3, vI i11)], [], r10)) (fun i11 => ?_)
    refine sim_blk0 hC [(.iconst 0, 0, 0, 0, 0), (.istore 4, 0, 0, 0, 0)] [(0, vR 0), (1, vR 24), (3, vI i11), (4, vI 0)] [] r10 112 (by decide +kernel) rfl rfl ?_
    refine sim_bl (E := (E_M_unpack_24_112 i11)) ?_ (fun r15 => ?_)
    · exact sim_loop (V := (V_M_unpack_24_112 i11)) (fun sz => s_B_M_unpack_24_112 hC i11 sz) ((0, r10))
    · show SimK Ok (154, [], [], r15) _ _
      exact sim_retv hC (by decide +kernel)
theorem c_M_unpack_24 {Z : ZT} {l : Launch} (w : Wld) (a2 : Int32) (w1 : Wld) (h : F_M_unpack_24 w a2 = some w1) : Con Z l mX11_unpack 1 0 [vR 0, vR 24, vI a2] w (.inr none) w1 :=
  Con_of (oc := 10) (by decide +kernel) rfl rfl (fun Ok hC => s_M_unpack_24 hC w a2 w1 h ⟨rfl, rfl⟩)
noncomputable def K_M_up_82 (t0 : Int32) (w : Wld) : Option (Int32 × Wld) :=
  bv (F_M_unpack_24 w 0) (fun w6 => some ((t0, w6)))
set_option maxRecDepth 10000 in
theorem s_K_M_up_82 {Z : ZT} {l : Launch} {o : Oc} {wo : Wld} {Ok : Cfg → Prop} (hC : Clo Z l 10 4 prog_13_method_63_code (some .int) 7 133 o wo Ok) (t0 : Int32) (w : Wld) : SimK Ok (82, [(0, vR 0)], [vI t0], w) (K_M_up_82 t0 w) (Gi o wo) := by
  unfold K_M_up_82
  refine sim_blk0 hC [(.istore_n 3, 0, 0, 0, 0), (.aload_n 0, 0, 0, 0, 0), (.aload_n 0, 0, 0, 0, 0), (.getfield 107, 0, 42, 26, 0), (.iconst 0, 0, 0, 0, 0)] [(0, vR 0), (3, vI t0)] [vI 0, vR 24, vR 0] w 89 (by decide +kernel) rfl rfl ?_
  refine sim_vv hC 401 mX11_unpack 1 0 0 [vR 24, vI 0] [] (by decide +kernel) ml_10_401 rfl rfl rfl rfl rfl rfl (fun wz hz => c_M_unpack_24 w 0 wz hz) (fun w6 => ?_)
  refine sim_blk0 hC [(.iload_n 3, 0, 0, 0, 0)] [(0, vR 0), (3, vI t0)] [vI t0] w6 93 (by decide +kernel) rfl rfl ?_
  exact sim_reti hC (by decide +kernel) trivial
noncomputable def F_M_up (w : Wld) (a1 : Int32) (a2 : Int32) : Option (Int32 × Wld) :=
  bw (wup w 0 2 0) (fun w1 => bp (F_M_isIn w1 (Int32.toInt64 a2) (Int32.toInt64 0) (Int32.toInt64 2)) (fun i2 => br (¬ i2 = 0) (bp (F_M_isIn w1 (Int32.toInt64 a1) (Int32.toInt64 1) (Int32.toInt64 60)) (fun i3 => br (¬ i3 = 0) (bv (F_M_pack_24 w1 0) (fun w4 => bv (F_M_goOn w4 a1) (fun w5 => br (¬ a2 = 0) (br (¬ a2 = 1) (K_M_up_82 (w5 0 39) w5) (K_M_up_82 (w5 0 38) w5)) (K_M_up_82 (w5 0 32) w5)))) (bd (F_M_fail w1 2) (fun i7 w8 => some ((i7, w8)))))) (bd (F_M_fail w1 1) (fun i9 w10 => some ((i9, w10))))))
set_option maxRecDepth 10000 in
theorem s_M_up {Z : ZT} {l : Launch} {o : Oc} {wo : Wld} {Ok : Cfg → Prop} (hC : Clo Z l 10 4 prog_13_method_63_code (some .int) 7 133 o wo Ok) (w : Wld) (a1 : Int32) (a2 : Int32) : SimK Ok (0, [(0, vR 0), (1, vI a1), (2, vI a2)], [], w) (F_M_up w a1 a2) (Gi o wo) := by
  unfold F_M_up
  refine sim_blk0 hC [(.aload_n 0, 0, 0, 0, 0), (.iconst 0, 0, 0, 0, 0), (.putfield 159, 0, 2, 0, 0)] [(0, vR 0), (1, vI a1), (2, vI a2)] [] (wup w 0 2 0) 5 (by decide +kernel) rfl rfl ?_
  refine sim_bw (C := fun w1 => (5, [(0, vR 0), (1, vI a1), (2, vI a2)], [], w1)) (fun w1 => ?_)
  refine sim_blk0 hC [(.iload_n 2, 0, 0, 0, 0), (.i2l, 0, 0, 0, 0), (.lconst 0, 0, 0, 0, 0), (.ldc2_w 404, 0, 0, 0, 2)] [(0, vR 0), (1, vI a1), (2, vI a2)] [vL (Int32.toInt64 2), vL (Int32.toInt64 0), vL (Int32.toInt64 a2)] w1 11 (by decide +kernel) rfl rfl ?_
  refine sim_sp hC 162 mX11_isIn 1 0 [vL (Int32.toInt64 a2), vL (Int32.toInt64 0), vL (Int32.toInt64 2)] [] (by decide +kernel) ml_10_162 rfl rfl rfl rfl rfl (fun rz hz => c_M_isIn w1 (Int32.toInt64 a2) (Int32.toInt64 0) (Int32.toInt64 2) rz hz) (fun i2 => ?_)
  refine sim_br hC (.ifCond .ne 9) 23 (by decide +kernel) rfl (by decide) ?_ ?_
  · refine sim_blk0 hC [(.iload_n 1, 0, 0, 0, 0), (.i2l, 0, 0, 0, 0), (.lconst 1, 0, 0, 0, 1), (.ldc2_w 406, 0, 0, 0, 60)] [(0, vR 0), (1, vI a1), (2, vI a2)] [vL (Int32.toInt64 60), vL (Int32.toInt64 1), vL (Int32.toInt64 a1)] w1 29 (by decide +kernel) rfl rfl ?_
    refine sim_sp hC 162 mX11_isIn 1 0 [vL (Int32.toInt64 a1), vL (Int32.toInt64 1), vL (Int32.toInt64 60)] [] (by decide +kernel) ml_10_162 rfl rfl rfl rfl rfl (fun rz hz => c_M_isIn w1 (Int32.toInt64 a1) (Int32.toInt64 1) (Int32.toInt64 60) rz hz) (fun i3 => ?_)
    refine sim_br hC (.ifCond .ne 9) 41 (by decide +kernel) rfl (by decide) ?_ ?_
    · refine sim_blk0 hC [(.aload_n 0, 0, 0, 0, 0), (.aload_n 0, 0, 0, 0, 0), (.getfield 107, 0, 42, 26, 0), (.iconst 0, 0, 0, 0, 0)] [(0, vR 0), (1, vI a1), (2, vI a2)] [vI 0, vR 24, vR 0] w1 47 (by decide +kernel) rfl rfl ?_
      refine sim_vv hC 379 mX11_pack 1 0 0 [vR 24, vI 0] [] (by decide +kernel) ml_10_379 rfl rfl rfl rfl rfl rfl (fun wz hz => c_M_pack_24 w1 0 wz hz) (fun w4 => ?_)
      refine sim_blk0 hC [(.aload_n 0, 0, 0, 0, 0), (.iload_n 1, 0, 0, 0, 0)] [(0, vR 0), (1, vI a1), (2, vI a2)] [vI a1, vR 0] w4 52 (by decide +kernel) rfl rfl ?_
      refine sim_vv hC 391 mX11_goOn 6 111 0 [vI a1] [] (by decide +kernel) ml_10_391 rfl rfl rfl rfl rfl rfl (fun wz hz => c_M_goOn w4 a1 wz hz) (fun w5 => ?_)
      refine sim_blk0 hC [(.iload_n 2, 0, 0, 0, 0)] [(0, vR 0), (1, vI a1), (2, vI a2)] [vI a2] w5 56 (by decide +kernel) rfl rfl ?_
      refine sim_br hC (.ifCond .ne 10) 66 (by decide +kernel) rfl (by decide) ?_ ?_
      · refine sim_blk0 hC [(.iload_n 2, 0, 0, 0, 0), (.iconst 1, 0, 0, 0, 1)] [(0, vR 0), (1, vI a1), (2, vI a2)] [vI 1, vI a2] w5 68 (by decide +kernel) rfl rfl ?_
        refine sim_br hC (.if_icmp .ne 10) 78 (by decide +kernel) rfl (by decide) ?_ ?_
        · refine sim_blk0 hC [(.aload_n 0, 0, 0, 0, 0), (.getfield 356, 0, 39, 0, 0)] [(0, vR 0), (1, vI a1), (2, vI a2)] [vI (w5 0 39)] w5 82 (by decide +kernel) rfl rfl ?_
          refine sim_sub hC [0] ?_
          exact s_K_M_up_82 hC (w5 0 39) w5
        · refine sim_blk0 hC [(.aload_n 0, 0, 0, 0, 0), (.getfield 344, 0, 38, 0, 0)] [(0, vR 0), (1, vI a1), (2, vI a2)] [vI (w5 0 38)] w5 75 (by decide +kernel) rfl rfl ?_
          refine sim_goto hC 7 82 (by decide +kernel) (by decide) ?_
          refine sim_sub hC [0] ?_
          exact s_K_M_up_82 hC (w5 0 38) w5
      · refine sim_blk0 hC [(.aload_n 0, 0, 0, 0, 0), (.getfield 307, 0, 32, 0, 0)] [(0, vR 0), (1, vI a1), (2, vI a2)] [vI (w5 0 32)] w5 63 (by decide +kernel) rfl rfl ?_
        refine sim_goto hC 19 82 (by decide +kernel) (by decide) ?_
        refine sim_sub hC [0] ?_
        exact s_K_M_up_82 hC (w5 0 32) w5
    · refine sim_blk0 hC [(.aload_n 0, 0, 0, 0, 0), (.iconst 2, 0, 0, 0, 2)] [(0, vR 0), (1, vI a1), (2, vI a2)] [vI 2, vR 0] w1 37 (by decide +kernel) rfl rfl ?_
      refine sim_vd hC 292 mX11_fail 1 0 0 [vI 2] [] (by decide +kernel) ml_10_292 rfl rfl rfl rfl rfl rfl (fun rz wz hz => c_M_fail w1 2 rz wz hz) (fun i7 w8 => ?_)
      exact sim_reti hC (by decide +kernel) trivial
  · refine sim_blk0 hC [(.aload_n 0, 0, 0, 0, 0), (.iconst 1, 0, 0, 0, 1)] [(0, vR 0), (1, vI a1), (2, vI a2)] [vI 1, vR 0] w1 19 (by decide +kernel) rfl rfl ?_
    refine sim_vd hC 292 mX11_fail 1 0 0 [vI 1] [] (by decide +kernel) ml_10_292 rfl rfl rfl rfl rfl rfl (fun rz wz hz => c_M_fail w1 1 rz wz hz) (fun i9 w10 => ?_)
    exact sim_reti hC (by decide +kernel) trivial
theorem c_M_up {Z : ZT} {l : Launch} (w : Wld) (a1 : Int32) (a2 : Int32) (r : Int32) (w1 : Wld) (h : F_M_up w a1 a2 = some (r, w1)) : Con Z l mX11_up 7 133 [vR 0, vI a1, vI a2] w (.inr (some r)) w1 :=
  Con_of (oc := 10) (by decide +kernel) rfl rfl (fun Ok hC => s_M_up hC w a1 a2 (r, w1) h ⟨rfl, rfl⟩)
noncomputable def K_M_then_22 (w : Wld) : Option (Int32 × Wld) :=
  bd (F_M_fail w 1) (fun i3 w4 => some ((i3, w4)))
set_option maxRecDepth 10000 in
theorem s_K_M_then_22 {Z : ZT} {l : Launch} {o : Oc} {wo : Wld} {Ok : Cfg → Prop} (hC : Clo Z l 10 5 prog_13_method_64_code (some .int) 7 133 o wo Ok) (w : Wld) : SimK Ok (22, [(0, vR 0)], [], w) (K_M_then_22 w) (Gi o wo) := by
  unfold K_M_then_22
  refine sim_blk0 hC [(.aload_n 0, 0, 0, 0, 0), (.iconst 1, 0, 0, 0, 1)] [(0, vR 0)] [vI 1, vR 0] w 24 (by decide +kernel) rfl rfl ?_
  refine sim_vd hC 292 mX11_fail 1 0 0 [vI 1] [] (by decide +kernel) ml_10_292 rfl rfl rfl rfl rfl rfl (fun rz wz hz => c_M_fail w 1 rz wz hz) (fun i3 w4 => ?_)
  exact sim_reti hC (by decide +kernel) trivial
noncomputable def K_M_then_79 (t0 : Int32) (w : Wld) : Option (Int32 × Wld) :=
  bv (F_M_unpack_24 w 0) (fun w8 => some ((t0, w8)))
set_option maxRecDepth 10000 in
theorem s_K_M_then_79 {Z : ZT} {l : Launch} {o : Oc} {wo : Wld} {Ok : Cfg → Prop} (hC : Clo Z l 10 5 prog_13_method_64_code (some .int) 7 133 o wo Ok) (t0 : Int32) (w : Wld) : SimK Ok (79, [(0, vR 0)], [vI t0], w) (K_M_then_79 t0 w) (Gi o wo) := by
  unfold K_M_then_79
  refine sim_blk0 hC [(.istore 4, 0, 0, 0, 0), (.aload_n 0, 0, 0, 0, 0), (.aload_n 0, 0, 0, 0, 0), (.getfield 107, 0, 42, 26, 0), (.iconst 0, 0, 0, 0, 0)] [(0, vR 0), (4, vI t0)] [vI 0, vR 24, vR 0] w 87 (by decide +kernel) rfl rfl ?_
  refine sim_vv hC 401 mX11_unpack 1 0 0 [vR 24, vI 0] [] (by decide +kernel) ml_10_401 rfl rfl rfl rfl rfl rfl (fun wz hz => c_M_unpack_24 w 0 wz hz) (fun w8 => ?_)
  refine sim_blk0 hC [(.iload 4, 0, 0, 0, 0)] [(0, vR 0), (4, vI t0)] [vI t0] w8 92 (by decide +kernel) rfl rfl ?_
  exact sim_reti hC (by decide +kernel) trivial
noncomputable def F_M_then (w : Wld) (a1 : Int32) (a2 : Int32) (a3 : Int32) : Option (Int32 × Wld) :=
  bw (wup w 0 2 0) (fun w1 => bp (F_M_isMonk w1 a1) (fun i2 => br (i2 = 0) (K_M_then_22 w1) (br (a3 < 0) (K_M_then_22 w1) (br (a3 ≤ 1) (bp (F_M_isIn w1 (Int32.toInt64 a2) (Int32.toInt64 0) (Int32.toInt64 60)) (fun i5 => br (¬ i5 = 0) (bv (F_M_pack_24 w1 0) (fun w6 => bv (F_M_goOn w6 a2) (fun w7 => br (¬ a3 = 0) (gd (vp_in a1 8) (K_M_then_79 (w7 14 (Int32.toNatClampNeg a1)) w7)) (gd (vp_in a1 8) (K_M_then_79 (w7 16 (Int32.toNatClampNeg a1)) w7))))) (bd (F_M_fail w1 2) (fun i9 w10 => some ((i9, w10)))))) (K_M_then_22 w1)))))
set_option maxRecDepth 10000 in
theorem s_M_then {Z : ZT} {l : Launch} {o : Oc} {wo : Wld} {Ok : Cfg → Prop} (hC : Clo Z l 10 5 prog_13_method_64_code (some .int) 7 133 o wo Ok) (w : Wld) (a1 : Int32) (a2 : Int32) (a3 : Int32) : SimK Ok (0, [(0, vR 0), (1, vI a1), (2, vI a2), (3, vI a3)], [], w) (F_M_then w a1 a2 a3) (Gi o wo) := by
  unfold F_M_then
  refine sim_blk0 hC [(.aload_n 0, 0, 0, 0, 0), (.iconst 0, 0, 0, 0, 0), (.putfield 159, 0, 2, 0, 0)] [(0, vR 0), (1, vI a1), (2, vI a2), (3, vI a3)] [] (wup w 0 2 0) 5 (by decide +kernel) rfl rfl ?_
  refine sim_bw (C := fun w1 => (5, [(0, vR 0), (1, vI a1), (2, vI a2), (3, vI a3)], [], w1)) (fun w1 => ?_)
  refine sim_blk0 hC [(.aload_n 0, 0, 0, 0, 0), (.iload_n 1, 0, 0, 0, 0)] [(0, vR 0), (1, vI a1), (2, vI a2), (3, vI a3)] [vI a1, vR 0] w1 7 (by decide +kernel) rfl rfl ?_
  refine sim_vp hC 376 mX11_isMonk 2 25 0 [vI a1] [] (by decide +kernel) ml_10_376 rfl rfl rfl rfl rfl rfl (fun rz hz => c_M_isMonk w1 a1 rz hz) (fun i2 => ?_)
  refine sim_br hC (.ifCond .eq 12) 22 (by decide +kernel) rfl (by decide) ?_ ?_
  · refine sim_sub hC [0] ?_
    exact s_K_M_then_22 hC w1
  · refine sim_blk0 hC [(.iload_n 3, 0, 0, 0, 0)] [(0, vR 0), (1, vI a1), (2, vI a2), (3, vI a3)] [vI a3] w1 14 (by decide +kernel) rfl rfl ?_
    refine sim_br hC (.ifCond .lt 8) 22 (by decide +kernel) rfl (by decide) ?_ ?_
    · refine sim_sub hC [0] ?_
      exact s_K_M_then_22 hC w1
    · refine sim_blk0 hC [(.iload_n 3, 0, 0, 0, 0), (.iconst 1, 0, 0, 0, 1)] [(0, vR 0), (1, vI a1), (2, vI a2), (3, vI a3)] [vI 1, vI a3] w1 19 (by decide +kernel) rfl rfl ?_
      refine sim_br hC (.if_icmp .le 9) 28 (by decide +kernel) rfl (by decide) ?_ ?_
      · refine sim_blk0 hC [(.iload_n 2, 0, 0, 0, 0), (.i2l, 0, 0, 0, 0), (.lconst 0, 0, 0, 0, 0), (.ldc2_w 406, 0, 0, 0, 60)] [(0, vR 0), (1, vI a1), (2, vI a2), (3, vI a3)] [vL (Int32.toInt64 60), vL (Int32.toInt64 0), vL (Int32.toInt64 a2)] w1 34 (by decide +kernel) rfl rfl ?_
        refine sim_sp hC 162 mX11_isIn 1 0 [vL (Int32.toInt64 a2), vL (Int32.toInt64 0), vL (Int32.toInt64 60)] [] (by decide +kernel) ml_10_162 rfl rfl rfl rfl rfl (fun rz hz => c_M_isIn w1 (Int32.toInt64 a2) (Int32.toInt64 0) (Int32.toInt64 60) rz hz) (fun i5 => ?_)
        refine sim_br hC (.ifCond .ne 9) 46 (by decide +kernel) rfl (by decide) ?_ ?_
        · refine sim_blk0 hC [(.aload_n 0, 0, 0, 0, 0), (.aload_n 0, 0, 0, 0, 0), (.getfield 107, 0, 42, 26, 0), (.iconst 0, 0, 0, 0, 0)] [(0, vR 0), (1, vI a1), (2, vI a2), (3, vI a3)] [vI 0, vR 24, vR 0] w1 52 (by decide +kernel) rfl rfl ?_
          refine sim_vv hC 379 mX11_pack 1 0 0 [vR 24, vI 0] [] (by decide +kernel) ml_10_379 rfl rfl rfl rfl rfl rfl (fun wz hz => c_M_pack_24 w1 0 wz hz) (fun w6 => ?_)
          refine sim_blk0 hC [(.aload_n 0, 0, 0, 0, 0), (.iload_n 2, 0, 0, 0, 0)] [(0, vR 0), (1, vI a1), (2, vI a2), (3, vI a3)] [vI a2, vR 0] w6 57 (by decide +kernel) rfl rfl ?_
          refine sim_vv hC 391 mX11_goOn 6 111 0 [vI a2] [] (by decide +kernel) ml_10_391 rfl rfl rfl rfl rfl rfl (fun wz hz => c_M_goOn w6 a2 wz hz) (fun w7 => ?_)
          refine sim_blk0 hC [(.iload_n 3, 0, 0, 0, 0)] [(0, vR 0), (1, vI a1), (2, vI a2), (3, vI a3)] [vI a3] w7 61 (by decide +kernel) rfl rfl ?_
          refine sim_br hC (.ifCond .ne 12) 73 (by decide +kernel) rfl (by decide) ?_ ?_
          · refine sim_blk1 hC [(.aload_n 0, 0, 0, 0, 0), (.getfield 78, 0, 24, 16, 0), (.iload_n 1, 0, 0, 0, 0), (.iaload, 14, 8, 0, 0)] [(0, vR 0), (1, vI a1), (2, vI a2), (3, vI a3)] [vI (w7 14 (Int32.toNatClampNeg a1))] w7 79 (by decide +kernel) rfl rfl ?_
            refine sim_sub hC [0] ?_
            exact s_K_M_then_79 hC (w7 14 (Int32.toNatClampNeg a1)) w7
          · refine sim_blk1 hC [(.aload_n 0, 0, 0, 0, 0), (.getfield 84, 0, 26, 18, 0), (.iload_n 1, 0, 0, 0, 0), (.iaload, 16, 8, 0, 0)] [(0, vR 0), (1, vI a1), (2, vI a2), (3, vI a3)] [vI (w7 16 (Int32.toNatClampNeg a1))] w7 70 (by decide +kernel) rfl rfl ?_
            refine sim_goto hC 9 79 (by decide +kernel) (by decide) ?_
            refine sim_sub hC [0] ?_
            exact s_K_M_then_79 hC (w7 16 (Int32.toNatClampNeg a1)) w7
        · refine sim_blk0 hC [(.aload_n 0, 0, 0, 0, 0), (.iconst 2, 0, 0, 0, 2)] [(0, vR 0), (1, vI a1), (2, vI a2), (3, vI a3)] [vI 2, vR 0] w1 42 (by decide +kernel) rfl rfl ?_
          refine sim_vd hC 292 mX11_fail 1 0 0 [vI 2] [] (by decide +kernel) ml_10_292 rfl rfl rfl rfl rfl rfl (fun rz wz hz => c_M_fail w1 2 rz wz hz) (fun i9 w10 => ?_)
          exact sim_reti hC (by decide +kernel) trivial
      · refine sim_sub hC [0] ?_
        exact s_K_M_then_22 hC w1
theorem c_M_then {Z : ZT} {l : Launch} (w : Wld) (a1 : Int32) (a2 : Int32) (a3 : Int32) (r : Int32) (w1 : Wld) (h : F_M_then w a1 a2 a3 = some (r, w1)) : Con Z l mX11_then 7 133 [vR 0, vI a1, vI a2, vI a3] w (.inr (some r)) w1 :=
  Con_of (oc := 10) (by decide +kernel) rfl rfl (fun Ok hC => s_M_then hC w a1 a2 a3 (r, w1) h ⟨rfl, rfl⟩)
def V_M_full_18 : (Int32 × Int32 × Wld) → Cfg := fun s => (18, [(0, vR 0), (1, vI s.1), (2, vI s.2.1)], [], s.2.2)
def E_M_full_18 : (Int32 × Wld) → Cfg := fun s => (48, [(0, vR 0), (1, vI s.1)], [], s.2)
noncomputable def K_M_full_42 (a1 : Int32) (a2 : Int32) (w : Wld) : Option ((Int32 × Int32 × Wld) ⊕ (Int32 × Wld)) :=
  bi (a2 + 1) (fun i4 => some (.inl ((a1, i4, w))))
set_option maxRecDepth 10000 in
theorem s_K_M_full_42 {Z : ZT} {l : Launch} {o : Oc} {wo : Wld} {Ok : Cfg → Prop} (hC : Clo Z l 10 3 prog_13_method_65_code (some .int) 6 111 o wo Ok) (a1 : Int32) (a2 : Int32) (w : Wld) : SimK Ok (42, [(0, vR 0), (1, vI a1), (2, vI a2)], [], w) (K_M_full_42 a1 a2 w) (GLp Ok (V_M_full_18) (GEp Ok (E_M_full_18))) := by
  unfold K_M_full_42
  refine sim_blk0 hC [(.iinc 2 1, 0, 0, 0, 1)] [(0, vR 0), (1, vI a1), (2, vI (a2 + 1))] [] w 45 (by decide +kernel) rfl rfl ?_
  refine sim_bi (C := fun i4 => (45, [(0, vR 0), (1, vI a1), (2, vI i4)], [], w)) (fun i4 => ?_)
  refine sim_goto hC (-27) 18 (by decide +kernel) (by decide) ?_
  exact sim_back (V := (V_M_full_18)) ((a1, i4, w))
noncomputable def B_M_full_18 (s : Int32 × Int32 × Wld) : Option ((Int32 × Int32 × Wld) ⊕ (Int32 × Wld)) :=
  br ((60 : Int32) < s.2.1) (some (.inr ((s.1, s.2.2)))) (br (¬ s.1 = (-1)) (some (.inr ((s.1, s.2.2)))) (bv (F_M_aNight s.2.2) (fun w3 => br (¬ (w3 0 39) = 0) (K_M_full_42 s.1 s.2.1 w3) (K_M_full_42 s.2.1 s.2.1 w3))))
set_option maxRecDepth 10000 in
theorem s_B_M_full_18 {Z : ZT} {l : Launch} {o : Oc} {wo : Wld} {Ok : Cfg → Prop} (hC : Clo Z l 10 3 prog_13_method_65_code (some .int) 6 111 o wo Ok) (s : Int32 × Int32 × Wld) : SimK Ok (V_M_full_18 s) (B_M_full_18 s) (GLp Ok (V_M_full_18) (GEp Ok (E_M_full_18))) := by
  unfold B_M_full_18
  show SimK Ok (18, [(0, vR 0), (1, vI s.1), (2, vI s.2.1)], [], s.2.2) _ _
  refine sim_blk0 hC [(.iload_n 2, 0, 0, 0, 0), (.bipush 60, 0, 0, 0, 60)] [(0, vR 0), (1, vI s.1), (2, vI s.2.1)] [vI 60, vI s.2.1] s.2.2 21 (by decide +kernel) rfl rfl ?_
  refine sim_br hC (.if_icmp .gt 27) 48 (by decide +kernel) rfl (by decide) ?_ ?_
  · refine sim_sub hC [0, 1] ?_
    exact sim_exit (E := (E_M_full_18)) ((s.1, s.2.2))
  · refine sim_blk0 hC [(.iload_n 1, 0, 0, 0, 0), (.iconst (-1), 0, 0, 0, (-1))] [(0, vR 0), (1, vI s.1), (2, vI s.2.1)] [vI (-1), vI s.1] s.2.2 26 (by decide +kernel) rfl rfl ?_
    refine sim_br hC (.if_icmp .ne 22) 48 (by decide +kernel) rfl (by decide) ?_ ?_
    · refine sim_sub hC [0, 1] ?_
      exact sim_exit (E := (E_M_full_18)) ((s.1, s.2.2))
    · refine sim_blk0 hC [(.aload_n 0, 0, 0, 0, 0)] [(0, vR 0), (1, vI s.1), (2, vI s.2.1)] [vR 0] s.2.2 30 (by decide +kernel) rfl rfl ?_
      refine sim_vv hC 362 mX11_aNight 5 88 0 [] [] (by decide +kernel) ml_10_362 rfl rfl rfl rfl rfl rfl (fun wz hz => c_M_aNight s.2.2 wz hz) (fun w3 => ?_)
      refine sim_blk0 hC [(.aload_n 0, 0, 0, 0, 0), (.getfield 356, 0, 39, 0, 0)] [(0, vR 0), (1, vI s.1), (2, vI s.2.1)] [vI (w3 0 39)] w3 37 (by decide +kernel) rfl rfl ?_
      refine sim_br hC (.ifCond .ne 5) 42 (by decide +kernel) rfl (by decide) ?_ ?_
      · exact s_K_M_full_42 hC s.1 s.2.1 w3
      · refine sim_blk0 hC [(.iload_n 2, 0, 0, 0, 0), (.istore_n 1, 0, 0, 0, 0)] [(0, vR 0), (1, vI s.2.1), (2, vI s.2.1)] [] w3 42 (by decide +kernel) rfl rfl ?_
        exact s_K_M_full_42 hC s.2.1 s.2.1 w3
noncomputable def F_M_full (w : Wld) : Option (Int32 × Wld) :=
  bw (wup w 0 2 0) (fun w1 => bv (F_M_pack_24 w1 0) (fun w2 => bl (loop (B_M_full_18) (((-1), 1, w2))) (fun r5 => bv (F_M_unpack_24 r5.2 0) (fun w6 => some ((r5.1, w6))))))
set_option maxRecDepth 10000 in
theorem s_M_full {Z : ZT} {l : Launch} {o : Oc} {wo : Wld} {Ok : Cfg → Prop} (hC : Clo Z l 10 3 prog_13_method_65_code (some .int) 6 111 o wo Ok) (w : Wld) : SimK Ok (0, [(0, vR 0)], [], w) (F_M_full w) (Gi o wo) := by
  unfold F_M_full
  refine sim_blk0 hC [(.aload_n 0, 0, 0, 0, 0), (.iconst 0, 0, 0, 0, 0), (.putfield 159, 0, 2, 0, 0)] [(0, vR 0)] [] (wup w 0 2 0) 5 (by decide +kernel) rfl rfl ?_
  refine sim_bw (C := fun w1 => (5, [(0, vR 0)], [], w1)) (fun w1 => ?_)
  refine sim_blk0 hC [(.aload_n 0, 0, 0, 0, 0), (.aload_n 0, 0, 0, 0, 0), (.getfield 107, 0, 42, 26, 0), (.iconst 0, 0, 0, 0, 0)] [(0, vR 0)] [vI 0, vR 24, vR 0] w1 11 (by decide +kernel) rfl rfl ?_
  refine sim_vv hC 379 mX11_pack 1 0 0 [vR 24, vI 0] [] (by decide +kernel) ml_10_379 rfl rfl rfl rfl rfl rfl (fun wz hz => c_M_pack_24 w1 0 wz hz) (fun w2 => ?_)
  refine sim_blk0 hC [(.iconst (-1), 0, 0, 0, (-1)), (.istore_n 1, 0, 0, 0, 0), (.iconst 1, 0, 0, 0, 1), (.istore_n 2, 0, 0, 0, 0)] [(0, vR 0), (1, vI (-1)), (2, vI 1)] [] w2 18 (by decide +kernel) rfl rfl ?_
  refine sim_bl (E := (E_M_full_18)) ?_ (fun r5 => ?_)
  · exact sim_loop (V := (V_M_full_18)) (fun sz => s_B_M_full_18 hC sz) (((-1), 1, w2))
  · show SimK Ok (48, [(0, vR 0), (1, vI r5.1)], [], r5.2) _ _
    refine sim_blk0 hC [(.aload_n 0, 0, 0, 0, 0), (.aload_n 0, 0, 0, 0, 0), (.getfield 107, 0, 42, 26, 0), (.iconst 0, 0, 0, 0, 0)] [(0, vR 0), (1, vI r5.1)] [vI 0, vR 24, vR 0] r5.2 54 (by decide +kernel) rfl rfl ?_
    refine sim_vv hC 401 mX11_unpack 1 0 0 [vR 24, vI 0] [] (by decide +kernel) ml_10_401 rfl rfl rfl rfl rfl rfl (fun wz hz => c_M_unpack_24 r5.2 0 wz hz) (fun w6 => ?_)
    refine sim_blk0 hC [(.iload_n 1, 0, 0, 0, 0)] [(0, vR 0), (1, vI r5.1)] [vI r5.1] w6 58 (by decide +kernel) rfl rfl ?_
    exact sim_reti hC (by decide +kernel) trivial
theorem c_M_full {Z : ZT} {l : Launch} (w : Wld) (r : Int32) (w1 : Wld) (h : F_M_full w = some (r, w1)) : Con Z l mX11_full 6 111 [vR 0] w (.inr (some r)) w1 :=
  Con_of (oc := 10) (by decide +kernel) rfl rfl (fun Ok hC => s_M_full hC w (r, w1) h ⟨rfl, rfl⟩)
noncomputable def K_M_meets_21 (w : Wld) : Option (Int32 × Wld) :=
  bd (F_M_fail w 1) (fun i3 w4 => some ((i3, w4)))
set_option maxRecDepth 10000 in
theorem s_K_M_meets_21 {Z : ZT} {l : Launch} {o : Oc} {wo : Wld} {Ok : Cfg → Prop} (hC : Clo Z l 10 5 prog_13_method_66_code (some .int) 6 111 o wo Ok) (w : Wld) : SimK Ok (21, [(0, vR 0)], [], w) (K_M_meets_21 w) (Gi o wo) := by
  unfold K_M_meets_21
  refine sim_blk0 hC [(.aload_n 0, 0, 0, 0, 0), (.iconst 1, 0, 0, 0, 1)] [(0, vR 0)] [vI 1, vR 0] w 23 (by decide +kernel) rfl rfl ?_
  refine sim_vd hC 292 mX11_fail 1 0 0 [vI 1] [] (by decide +kernel) ml_10_292 rfl rfl rfl rfl rfl rfl (fun rz wz hz => c_M_fail w 1 rz wz hz) (fun i3 w4 => ?_)
  exact sim_reti hC (by decide +kernel) trivial
def V_M_meets_48 (a1 : Int32) (a2 : Int32) : (Int32 × Int32 × Wld) → Cfg := fun s => (48, [(0, vR 0), (1, vI a1), (2, vI a2), (3, vI s.1), (4, vI s.2.1)], [], s.2.2)
def E_M_meets_48 (a1 : Int32) (a2 : Int32) : (Int32 × Wld) → Cfg := fun s => (86, [(0, vR 0), (3, vI s.1)], [], s.2)
noncomputable def K_M_meets_76 (a1 : Int32) (a2 : Int32) (a3 : Int32) (a4 : Int32) (w : Wld) : Option ((Int32 × Int32 × Wld) ⊕ (Int32 × Wld)) :=
  bv (F_M_aNight w) (fun w8 => bi (a4 + 1) (fun i9 => some (.inl ((a3, i9, w8)))))
set_option maxRecDepth 10000 in
theorem s_K_M_meets_76 {Z : ZT} {l : Launch} {o : Oc} {wo : Wld} {Ok : Cfg → Prop} (hC : Clo Z l 10 5 prog_13_method_66_code (some .int) 6 111 o wo Ok) (a1 : Int32) (a2 : Int32) (a3 : Int32) (a4 : Int32) (w : Wld) : SimK Ok (76, [(0, vR 0), (1, vI a1), (2, vI a2), (3, vI a3), (4, vI a4)], [], w) (K_M_meets_76 a1 a2 a3 a4 w) (GLp Ok (V_M_meets_48 a1 a2) (GEp Ok (E_M_meets_48 a1 a2))) := by
  unfold K_M_meets_76
  refine sim_blk0 hC [(.aload_n 0, 0, 0, 0, 0)] [(0, vR 0), (1, vI a1), (2, vI a2), (3, vI a3), (4, vI a4)] [vR 0] w 77 (by decide +kernel) rfl rfl ?_
  refine sim_vv hC 362 mX11_aNight 5 88 0 [] [] (by decide +kernel) ml_10_362 rfl rfl rfl rfl rfl rfl (fun wz hz => c_M_aNight w wz hz) (fun w8 => ?_)
  refine sim_blk0 hC [(.iinc 4 1, 0, 0, 0, 1)] [(0, vR 0), (1, vI a1), (2, vI a2), (3, vI a3), (4, vI (a4 + 1))] [] w8 83 (by decide +kernel) rfl rfl ?_
  refine sim_bi (C := fun i9 => (83, [(0, vR 0), (1, vI a1), (2, vI a2), (3, vI a3), (4, vI i9)], [], w8)) (fun i9 => ?_)
  refine sim_goto hC (-35) 48 (by decide +kernel) (by decide) ?_
  exact sim_back (V := (V_M_meets_48 a1 a2)) ((a3, i9, w8))
noncomputable def B_M_meets_48 (a1 : Int32) (a2 : Int32) (s : Int32 × Int32 × Wld) : Option ((Int32 × Int32 × Wld) ⊕ (Int32 × Wld)) :=
  br ((60 : Int32) < s.2.1) (some (.inr ((s.1, s.2.2)))) (br (¬ s.1 = (-1)) (some (.inr ((s.1, s.2.2)))) (gd (vp_in a1 8) (bp (F_M_isOf s.2.2 (s.2.2 17 (Int32.toNatClampNeg a1)) a2) (fun i7 => br (i7 = 0) (K_M_meets_76 a1 a2 s.1 s.2.1 s.2.2) (K_M_meets_76 a1 a2 s.2.1 s.2.1 s.2.2)))))
set_option maxRecDepth 10000 in
theorem s_B_M_meets_48 {Z : ZT} {l : Launch} {o : Oc} {wo : Wld} {Ok : Cfg → Prop} (hC : Clo Z l 10 5 prog_13_method_66_code (some .int) 6 111 o wo Ok) (a1 : Int32) (a2 : Int32) (s : Int32 × Int32 × Wld) : SimK Ok (V_M_meets_48 a1 a2 s) (B_M_meets_48 a1 a2 s) (GLp Ok (V_M_meets_48 a1 a2) (GEp Ok (E_M_meets_48 a1 a2))) := by
  unfold B_M_meets_48
  show SimK Ok (48, [(0, vR 0), (1, vI a1), (2, vI a2), (3, vI s.1), (4, vI s.2.1)], [], s.2.2) _ _
  refine sim_blk0 hC [(.iload 4, 0, 0, 0, 0), (.bipush 60, 0, 0, 0, 60)] [(0, vR 0), (1, vI a1), (2, vI a2), (3, vI s.1), (4, vI s.2.1)] [vI 60, vI s.2.1] s.2.2 52 (by decide +kernel) rfl rfl ?_
  refine sim_br hC (.if_icmp .gt 34) 86 (by decide +kernel) rfl (by decide) ?_ ?_
  · refine sim_sub hC [0, 3] ?_
    exact sim_exit (E := (E_M_meets_48 a1 a2)) ((s.1, s.2.2))
  · refine sim_blk0 hC [(.iload_n 3, 0, 0, 0, 0), (.iconst (-1), 0, 0, 0, (-1))] [(0, vR 0), (1, vI a1), (2, vI a2), (3, vI s.1), (4, vI s.2.1)] [vI (-1), vI s.1] s.2.2 57 (by decide +kernel) rfl rfl ?_
    refine sim_br hC (.if_icmp .ne 29) 86 (by decide +kernel) rfl (by decide) ?_ ?_
    · refine sim_sub hC [0, 3] ?_
      exact sim_exit (E := (E_M_meets_48 a1 a2)) ((s.1, s.2.2))
    · refine sim_blk1 hC [(.aload_n 0, 0, 0, 0, 0), (.getfield 87, 0, 27, 19, 0), (.iload_n 1, 0, 0, 0, 0), (.iaload, 17, 8, 0, 0), (.iload_n 2, 0, 0, 0, 0)] [(0, vR 0), (1, vI a1), (2, vI a2), (3, vI s.1), (4, vI s.2.1)] [vI a2, vI (s.2.2 17 (Int32.toNatClampNeg a1))] s.2.2 67 (by decide +kernel) rfl rfl ?_
      refine sim_sp hC 326 mX11_isOf 1 0 [vI (s.2.2 17 (Int32.toNatClampNeg a1)), vI a2] [] (by decide +kernel) ml_10_326 rfl rfl rfl rfl rfl (fun rz hz => c_M_isOf s.2.2 (s.2.2 17 (Int32.toNatClampNeg a1)) a2 rz hz) (fun i7 => ?_)
      refine sim_br hC (.ifCond .eq 6) 76 (by decide +kernel) rfl (by decide) ?_ ?_
      · exact s_K_M_meets_76 hC a1 a2 s.1 s.2.1 s.2.2
      · refine sim_blk0 hC [(.iload 4, 0, 0, 0, 0), (.istore_n 3, 0, 0, 0, 0)] [(0, vR 0), (1, vI a1), (2, vI a2), (3, vI s.2.1), (4, vI s.2.1)] [] s.2.2 76 (by decide +kernel) rfl rfl ?_
        exact s_K_M_meets_76 hC a1 a2 s.2.1 s.2.1 s.2.2
noncomputable def F_M_meets (w : Wld) (a1 : Int32) (a2 : Int32) : Option (Int32 × Wld) :=
  bw (wup w 0 2 0) (fun w1 => bp (F_M_isMonk w1 a1) (fun i2 => br (i2 = 0) (K_M_meets_21 w1) (bp (F_M_isMonk w1 a2) (fun i5 => br (¬ i5 = 0) (br (¬ a1 = a2) (bv (F_M_pack_24 w1 0) (fun w6 => bl (loop (B_M_meets_48 a1 a2) (((-1), 0, w6))) (fun r10 => bv (F_M_unpack_24 r10.2 0) (fun w11 => some ((r10.1, w11)))))) (some (((-1), w1)))) (K_M_meets_21 w1)))))
set_option maxRecDepth 10000 in
theorem s_M_meets {Z : ZT} {l : Launch} {o : Oc} {wo : Wld} {Ok : Cfg → Prop} (hC : Clo Z l 10 5 prog_13_method_66_code (some .int) 6 111 o wo Ok) (w : Wld) (a1 : Int32) (a2 : Int32) : SimK Ok (0, [(0, vR 0), (1, vI a1), (2, vI a2)], [], w) (F_M_meets w a1 a2) (Gi o wo) := by
  unfold F_M_meets
  refine sim_blk0 hC [(.aload_n 0, 0, 0, 0, 0), (.iconst 0, 0, 0, 0, 0), (.putfield 159, 0, 2, 0, 0)] [(0, vR 0), (1, vI a1), (2, vI a2)] [] (wup w 0 2 0) 5 (by decide +kernel) rfl rfl ?_
  refine sim_bw (C := fun w1 => (5, [(0, vR 0), (1, vI a1), (2, vI a2)], [], w1)) (fun w1 => ?_)
  refine sim_blk0 hC [(.aload_n 0, 0, 0, 0, 0), (.iload_n 1, 0, 0, 0, 0)] [(0, vR 0), (1, vI a1), (2, vI a2)] [vI a1, vR 0] w1 7 (by decide +kernel) rfl rfl ?_
  refine sim_vp hC 376 mX11_isMonk 2 25 0 [vI a1] [] (by decide +kernel) ml_10_376 rfl rfl rfl rfl rfl rfl (fun rz hz => c_M_isMonk w1 a1 rz hz) (fun i2 => ?_)
  refine sim_br hC (.ifCond .eq 11) 21 (by decide +kernel) rfl (by decide) ?_ ?_
  · refine sim_sub hC [0] ?_
    exact s_K_M_meets_21 hC w1
  · refine sim_blk0 hC [(.aload_n 0, 0, 0, 0, 0), (.iload_n 2, 0, 0, 0, 0)] [(0, vR 0), (1, vI a1), (2, vI a2)] [vI a2, vR 0] w1 15 (by decide +kernel) rfl rfl ?_
    refine sim_vp hC 376 mX11_isMonk 2 25 0 [vI a2] [] (by decide +kernel) ml_10_376 rfl rfl rfl rfl rfl rfl (fun rz hz => c_M_isMonk w1 a2 rz hz) (fun i5 => ?_)
    refine sim_br hC (.ifCond .ne 9) 27 (by decide +kernel) rfl (by decide) ?_ ?_
    · refine sim_blk0 hC [(.iload_n 1, 0, 0, 0, 0), (.iload_n 2, 0, 0, 0, 0)] [(0, vR 0), (1, vI a1), (2, vI a2)] [vI a2, vI a1] w1 29 (by decide +kernel) rfl rfl ?_
      refine sim_br hC (.if_icmp .ne 5) 34 (by decide +kernel) rfl (by decide) ?_ ?_
      · refine sim_blk0 hC [(.aload_n 0, 0, 0, 0, 0), (.aload_n 0, 0, 0, 0, 0), (.getfield 107, 0, 42, 26, 0), (.iconst 0, 0, 0, 0, 0)] [(0, vR 0), (1, vI a1), (2, vI a2)] [vI 0, vR 24, vR 0] w1 40 (by decide +kernel) rfl rfl ?_
        refine sim_vv hC 379 mX11_pack 1 0 0 [vR 24, vI 0] [] (by decide +kernel) ml_10_379 rfl rfl rfl rfl rfl rfl (fun wz hz => c_M_pack_24 w1 0 wz hz) (fun w6 => ?_)
        refine sim_blk0 hC [(.iconst (-1), 0, 0, 0, (-1)), (.istore_n 3, 0, 0, 0, 0), (.iconst 0, 0, 0, 0, 0), (.istore 4, 0, 0, 0, 0)] [(0, vR 0), (1, vI a1), (2, vI a2), (3, vI (-1)), (4, vI 0)] [] w6 48 (by decide +kernel) rfl rfl ?_
        refine sim_bl (E := (E_M_meets_48 a1 a2)) ?_ (fun r10 => ?_)
        · exact sim_loop (V := (V_M_meets_48 a1 a2)) (fun sz => s_B_M_meets_48 hC a1 a2 sz) (((-1), 0, w6))
        · show SimK Ok (86, [(0, vR 0), (3, vI r10.1)], [], r10.2) _ _
          refine sim_blk0 hC [(.aload_n 0, 0, 0, 0, 0), (.aload_n 0, 0, 0, 0, 0), (.getfield 107, 0, 42, 26, 0), (.iconst 0, 0, 0, 0, 0)] [(0, vR 0), (3, vI r10.1)] [vI 0, vR 24, vR 0] r10.2 92 (by decide +kernel) rfl rfl ?_
          refine sim_vv hC 401 mX11_unpack 1 0 0 [vR 24, vI 0] [] (by decide +kernel) ml_10_401 rfl rfl rfl rfl rfl rfl (fun wz hz => c_M_unpack_24 r10.2 0 wz hz) (fun w11 => ?_)
          refine sim_blk0 hC [(.iload_n 3, 0, 0, 0, 0)] [(0, vR 0), (3, vI r10.1)] [vI r10.1] w11 96 (by decide +kernel) rfl rfl ?_
          exact sim_reti hC (by decide +kernel) trivial
      · refine sim_blk0 hC [(.iconst (-1), 0, 0, 0, (-1))] [(0, vR 0), (1, vI a1), (2, vI a2)] [vI (-1)] w1 33 (by decide +kernel) rfl rfl ?_
        exact sim_reti hC (by decide +kernel) trivial
    · refine sim_sub hC [0] ?_
      exact s_K_M_meets_21 hC w1
theorem c_M_meets {Z : ZT} {l : Launch} (w : Wld) (a1 : Int32) (a2 : Int32) (r : Int32) (w1 : Wld) (h : F_M_meets w a1 a2 = some (r, w1)) : Con Z l mX11_meets 6 111 [vR 0, vI a1, vI a2] w (.inr (some r)) w1 :=
  Con_of (oc := 10) (by decide +kernel) rfl rfl (fun Ok hC => s_M_meets hC w a1 a2 (r, w1) h ⟨rfl, rfl⟩)
def V_M_often_51 (a1 : Int32) (a2 : Int32) : (Int32 × Int32 × Wld) → Cfg := fun s => (51, [(0, vR 0), (1, vI a1), (2, vI a2), (3, vI s.1), (4, vI s.2.1)], [], s.2.2)
def E_M_often_51 (a1 : Int32) (a2 : Int32) : (Int32 × Wld) → Cfg := fun s => (78, [(0, vR 0), (3, vI s.1)], [], s.2)
noncomputable def B_M_often_51 (a1 : Int32) (a2 : Int32) (s : Int32 × Int32 × Wld) : Option ((Int32 × Int32 × Wld) ⊕ (Int32 × Wld)) :=
  br (a2 ≤ s.2.1) (some (.inr ((s.1, s.2.2)))) (bv (F_M_aNight s.2.2) (fun w5 => bi (s.1 + (((w5 0 32) >>> (a1 &&& 31)) &&& (1 : Int32))) (fun i6 => bi (s.2.1 + 1) (fun i7 => some (.inl ((i6, i7, w5)))))))
set_option maxRecDepth 10000 in
theorem s_B_M_often_51 {Z : ZT} {l : Launch} {o : Oc} {wo : Wld} {Ok : Cfg → Prop} (hC : Clo Z l 10 5 prog_13_method_67_code (some .int) 6 111 o wo Ok) (a1 : Int32) (a2 : Int32) (s : Int32 × Int32 × Wld) : SimK Ok (V_M_often_51 a1 a2 s) (B_M_often_51 a1 a2 s) (GLp Ok (V_M_often_51 a1 a2) (GEp Ok (E_M_often_51 a1 a2))) := by
  unfold B_M_often_51
  show SimK Ok (51, [(0, vR 0), (1, vI a1), (2, vI a2), (3, vI s.1), (4, vI s.2.1)], [], s.2.2) _ _
  refine sim_blk0 hC [(.iload 4, 0, 0, 0, 0), (.iload_n 2, 0, 0, 0, 0)] [(0, vR 0), (1, vI a1), (2, vI a2), (3, vI s.1), (4, vI s.2.1)] [vI a2, vI s.2.1] s.2.2 54 (by decide +kernel) rfl rfl ?_
  refine sim_br hC (.if_icmp .ge 24) 78 (by decide +kernel) rfl (by decide) ?_ ?_
  · refine sim_sub hC [0, 3] ?_
    exact sim_exit (E := (E_M_often_51 a1 a2)) ((s.1, s.2.2))
  · refine sim_blk0 hC [(.aload_n 0, 0, 0, 0, 0)] [(0, vR 0), (1, vI a1), (2, vI a2), (3, vI s.1), (4, vI s.2.1)] [vR 0] s.2.2 58 (by decide +kernel) rfl rfl ?_
    refine sim_vv hC 362 mX11_aNight 5 88 0 [] [] (by decide +kernel) ml_10_362 rfl rfl rfl rfl rfl rfl (fun wz hz => c_M_aNight s.2.2 wz hz) (fun w5 => ?_)
    refine sim_blk0 hC [(.iload_n 3, 0, 0, 0, 0), (.aload_n 0, 0, 0, 0, 0), (.getfield 307, 0, 32, 0, 0), (.iload_n 1, 0, 0, 0, 0), (.ishr, 0, 0, 0, 0), (.iconst 1, 0, 0, 0, 1), (.iand, 0, 0, 0, 0), (.iadd, 0, 0, 0, 0), (.istore_n 3, 0, 0, 0, 0)] [(0, vR 0), (1, vI a1), (2, vI a2), (3, vI (s.1 + (((w5 0 32) >>> (a1 &&& 31)) &&& (1 : Int32)))), (4, vI s.2.1)] [] w5 72 (by decide +kernel) rfl rfl ?_
    refine sim_bi (C := fun i6 => (72, [(0, vR 0), (1, vI a1), (2, vI a2), (3, vI i6), (4, vI s.2.1)], [], w5)) (fun i6 => ?_)
    refine sim_blk0 hC [(.iinc 4 1, 0, 0, 0, 1)] [(0, vR 0), (1, vI a1), (2, vI a2), (3, vI i6), (4, vI (s.2.1 + 1))] [] w5 75 (by decide +kernel) rfl rfl ?_
    refine sim_bi (C := fun i7 => (75, [(0, vR 0), (1, vI a1), (2, vI a2), (3, vI i6), (4, vI i7)], [], w5)) (fun i7 => ?_)
    refine sim_goto hC (-24) 51 (by decide +kernel) (by decide) ?_
    exact sim_back (V := (V_M_often_51 a1 a2)) ((i6, i7, w5))
noncomputable def F_M_often (w : Wld) (a1 : Int32) (a2 : Int32) : Option (Int32 × Wld) :=
  bw (wup w 0 2 0) (fun w1 => bp (F_M_isMonk w1 a1) (fun i2 => br (¬ i2 = 0) (bp (F_M_isIn w1 (Int32.toInt64 a2) (Int32.toInt64 0) (Int32.toInt64 60)) (fun i3 => br (¬ i3 = 0) (bv (F_M_pack_24 w1 0) (fun w4 => bl (loop (B_M_often_51 a1 a2) ((0, 0, w4))) (fun r8 => bv (F_M_unpack_24 r8.2 0) (fun w9 => some ((r8.1, w9)))))) (bd (F_M_fail w1 2) (fun i10 w11 => some ((i10, w11)))))) (bd (F_M_fail w1 1) (fun i12 w13 => some ((i12, w13))))))
set_option maxRecDepth 10000 in
theorem s_M_often {Z : ZT} {l : Launch} {o : Oc} {wo : Wld} {Ok : Cfg → Prop} (hC : Clo Z l 10 5 prog_13_method_67_code (some .int) 6 111 o wo Ok) (w : Wld) (a1 : Int32) (a2 : Int32) : SimK Ok (0, [(0, vR 0), (1, vI a1), (2, vI a2)], [], w) (F_M_often w a1 a2) (Gi o wo) := by
  unfold F_M_often
  refine sim_blk0 hC [(.aload_n 0, 0, 0, 0, 0), (.iconst 0, 0, 0, 0, 0), (.putfield 159, 0, 2, 0, 0)] [(0, vR 0), (1, vI a1), (2, vI a2)] [] (wup w 0 2 0) 5 (by decide +kernel) rfl rfl ?_
  refine sim_bw (C := fun w1 => (5, [(0, vR 0), (1, vI a1), (2, vI a2)], [], w1)) (fun w1 => ?_)
  refine sim_blk0 hC [(.aload_n 0, 0, 0, 0, 0), (.iload_n 1, 0, 0, 0, 0)] [(0, vR 0), (1, vI a1), (2, vI a2)] [vI a1, vR 0] w1 7 (by decide +kernel) rfl rfl ?_
  refine sim_vp hC 376 mX11_isMonk 2 25 0 [vI a1] [] (by decide +kernel) ml_10_376 rfl rfl rfl rfl rfl rfl (fun rz hz => c_M_isMonk w1 a1 rz hz) (fun i2 => ?_)
  refine sim_br hC (.ifCond .ne 9) 19 (by decide +kernel) rfl (by decide) ?_ ?_
  · refine sim_blk0 hC [(.iload_n 2, 0, 0, 0, 0), (.i2l, 0, 0, 0, 0), (.lconst 0, 0, 0, 0, 0), (.ldc2_w 406, 0, 0, 0, 60)] [(0, vR 0), (1, vI a1), (2, vI a2)] [vL (Int32.toInt64 60), vL (Int32.toInt64 0), vL (Int32.toInt64 a2)] w1 25 (by decide +kernel) rfl rfl ?_
    refine sim_sp hC 162 mX11_isIn 1 0 [vL (Int32.toInt64 a2), vL (Int32.toInt64 0), vL (Int32.toInt64 60)] [] (by decide +kernel) ml_10_162 rfl rfl rfl rfl rfl (fun rz hz => c_M_isIn w1 (Int32.toInt64 a2) (Int32.toInt64 0) (Int32.toInt64 60) rz hz) (fun i3 => ?_)
    refine sim_br hC (.ifCond .ne 9) 37 (by decide +kernel) rfl (by decide) ?_ ?_
    · refine sim_blk0 hC [(.aload_n 0, 0, 0, 0, 0), (.aload_n 0, 0, 0, 0, 0), (.getfield 107, 0, 42, 26, 0), (.iconst 0, 0, 0, 0, 0)] [(0, vR 0), (1, vI a1), (2, vI a2)] [vI 0, vR 24, vR 0] w1 43 (by decide +kernel) rfl rfl ?_
      refine sim_vv hC 379 mX11_pack 1 0 0 [vR 24, vI 0] [] (by decide +kernel) ml_10_379 rfl rfl rfl rfl rfl rfl (fun wz hz => c_M_pack_24 w1 0 wz hz) (fun w4 => ?_)
      refine sim_blk0 hC [(.iconst 0, 0, 0, 0, 0), (.istore_n 3, 0, 0, 0, 0), (.iconst 0, 0, 0, 0, 0), (.istore 4, 0, 0, 0, 0)] [(0, vR 0), (1, vI a1), (2, vI a2), (3, vI 0), (4, vI 0)] [] w4 51 (by decide +kernel) rfl rfl ?_
      refine sim_bl (E := (E_M_often_51 a1 a2)) ?_ (fun r8 => ?_)
      · exact sim_loop (V := (V_M_often_51 a1 a2)) (fun sz => s_B_M_often_51 hC a1 a2 sz) ((0, 0, w4))
      · show SimK Ok (78, [(0, vR 0), (3, vI r8.1)], [], r8.2) _ _
        refine sim_blk0 hC [(.aload_n 0, 0, 0, 0, 0), (.aload_n 0, 0, 0, 0, 0), (.getfield 107, 0, 42, 26, 0), (.iconst 0, 0, 0, 0, 0)] [(0, vR 0), (3, vI r8.1)] [vI 0, vR 24, vR 0] r8.2 84 (by decide +kernel) rfl rfl ?_
        refine sim_vv hC 401 mX11_unpack 1 0 0 [vR 24, vI 0] [] (by decide +kernel) ml_10_401 rfl rfl rfl rfl rfl rfl (fun wz hz => c_M_unpack_24 r8.2 0 wz hz) (fun w9 => ?_)
        refine sim_blk0 hC [(.iload_n 3, 0, 0, 0, 0)] [(0, vR 0), (3, vI r8.1)] [vI r8.1] w9 88 (by decide +kernel) rfl rfl ?_
        exact sim_reti hC (by decide +kernel) trivial
    · refine sim_blk0 hC [(.aload_n 0, 0, 0, 0, 0), (.iconst 2, 0, 0, 0, 2)] [(0, vR 0), (1, vI a1), (2, vI a2)] [vI 2, vR 0] w1 33 (by decide +kernel) rfl rfl ?_
      refine sim_vd hC 292 mX11_fail 1 0 0 [vI 2] [] (by decide +kernel) ml_10_292 rfl rfl rfl rfl rfl rfl (fun rz wz hz => c_M_fail w1 2 rz wz hz) (fun i10 w11 => ?_)
      exact sim_reti hC (by decide +kernel) trivial
  · refine sim_blk0 hC [(.aload_n 0, 0, 0, 0, 0), (.iconst 1, 0, 0, 0, 1)] [(0, vR 0), (1, vI a1), (2, vI a2)] [vI 1, vR 0] w1 15 (by decide +kernel) rfl rfl ?_
    refine sim_vd hC 292 mX11_fail 1 0 0 [vI 1] [] (by decide +kernel) ml_10_292 rfl rfl rfl rfl rfl rfl (fun rz wz hz => c_M_fail w1 1 rz wz hz) (fun i12 w13 => ?_)
    exact sim_reti hC (by decide +kernel) trivial
theorem c_M_often {Z : ZT} {l : Launch} (w : Wld) (a1 : Int32) (a2 : Int32) (r : Int32) (w1 : Wld) (h : F_M_often w a1 a2 = some (r, w1)) : Con Z l mX11_often 6 111 [vR 0, vI a1, vI a2] w (.inr (some r)) w1 :=
  Con_of (oc := 10) (by decide +kernel) rfl rfl (fun Ok hC => s_M_often hC w a1 a2 (r, w1) h ⟨rfl, rfl⟩)
noncomputable def F_M_lonely (w : Wld) (a1 : Int32) : Option (Int32 × Wld) :=
  bw (wup w 0 2 0) (fun w1 => bp (F_M_isIn w1 (Int32.toInt64 a1) (Int32.toInt64 1) (Int32.toInt64 60)) (fun i2 => br (¬ i2 = 0) (bv (F_M_pack_24 w1 0) (fun w3 => bv (F_M_goOn w3 a1) (fun w4 => bv (F_M_unpack_24 w4 0) (fun w5 => some ((w5 0 40, w5)))))) (bd (F_M_fail w1 1) (fun i6 w7 => some ((i6, w7))))))
set_option maxRecDepth 10000 in
theorem s_M_lonely {Z : ZT} {l : Launch} {o : Oc} {wo : Wld} {Ok : Cfg → Prop} (hC : Clo Z l 10 2 prog_13_method_68_code (some .int) 7 133 o wo Ok) (w : Wld) (a1 : Int32) : SimK Ok (0, [(0, vR 0), (1, vI a1)], [], w) (F_M_lonely w a1) (Gi o wo) := by
  unfold F_M_lonely
  refine sim_blk0 hC [(.aload_n 0, 0, 0, 0, 0), (.iconst 0, 0, 0, 0, 0), (.putfield 159, 0, 2, 0, 0)] [(0, vR 0), (1, vI a1)] [] (wup w 0 2 0) 5 (by decide +kernel) rfl rfl ?_
  refine sim_bw (C := fun w1 => (5, [(0, vR 0), (1, vI a1)], [], w1)) (fun w1 => ?_)
  refine sim_blk0 hC [(.iload_n 1, 0, 0, 0, 0), (.i2l, 0, 0, 0, 0), (.lconst 1, 0, 0, 0, 1), (.ldc2_w 406, 0, 0, 0, 60)] [(0, vR 0), (1, vI a1)] [vL (Int32.toInt64 60), vL (Int32.toInt64 1), vL (Int32.toInt64 a1)] w1 11 (by decide +kernel) rfl rfl ?_
  refine sim_sp hC 162 mX11_isIn 1 0 [vL (Int32.toInt64 a1), vL (Int32.toInt64 1), vL (Int32.toInt64 60)] [] (by decide +kernel) ml_10_162 rfl rfl rfl rfl rfl (fun rz hz => c_M_isIn w1 (Int32.toInt64 a1) (Int32.toInt64 1) (Int32.toInt64 60) rz hz) (fun i2 => ?_)
  refine sim_br hC (.ifCond .ne 9) 23 (by decide +kernel) rfl (by decide) ?_ ?_
  · refine sim_blk0 hC [(.aload_n 0, 0, 0, 0, 0), (.aload_n 0, 0, 0, 0, 0), (.getfield 107, 0, 42, 26, 0), (.iconst 0, 0, 0, 0, 0)] [(0, vR 0), (1, vI a1)] [vI 0, vR 24, vR 0] w1 29 (by decide +kernel) rfl rfl ?_
    refine sim_vv hC 379 mX11_pack 1 0 0 [vR 24, vI 0] [] (by decide +kernel) ml_10_379 rfl rfl rfl rfl rfl rfl (fun wz hz => c_M_pack_24 w1 0 wz hz) (fun w3 => ?_)
    refine sim_blk0 hC [(.aload_n 0, 0, 0, 0, 0), (.iload_n 1, 0, 0, 0, 0)] [(0, vR 0), (1, vI a1)] [vI a1, vR 0] w3 34 (by decide +kernel) rfl rfl ?_
    refine sim_vv hC 391 mX11_goOn 6 111 0 [vI a1] [] (by decide +kernel) ml_10_391 rfl rfl rfl rfl rfl rfl (fun wz hz => c_M_goOn w3 a1 wz hz) (fun w4 => ?_)
    refine sim_blk0 hC [(.aload_n 0, 0, 0, 0, 0), (.aload_n 0, 0, 0, 0, 0), (.getfield 107, 0, 42, 26, 0), (.iconst 0, 0, 0, 0, 0)] [(0, vR 0), (1, vI a1)] [vI 0, vR 24, vR 0] w4 43 (by decide +kernel) rfl rfl ?_
    refine sim_vv hC 401 mX11_unpack 1 0 0 [vR 24, vI 0] [] (by decide +kernel) ml_10_401 rfl rfl rfl rfl rfl rfl (fun wz hz => c_M_unpack_24 w4 0 wz hz) (fun w5 => ?_)
    refine sim_blk0 hC [(.aload_n 0, 0, 0, 0, 0), (.getfield 347, 0, 40, 0, 0)] [(0, vR 0), (1, vI a1)] [vI (w5 0 40)] w5 50 (by decide +kernel) rfl rfl ?_
    exact sim_reti hC (by decide +kernel) trivial
  · refine sim_blk0 hC [(.aload_n 0, 0, 0, 0, 0), (.iconst 1, 0, 0, 0, 1)] [(0, vR 0), (1, vI a1)] [vI 1, vR 0] w1 19 (by decide +kernel) rfl rfl ?_
    refine sim_vd hC 292 mX11_fail 1 0 0 [vI 1] [] (by decide +kernel) ml_10_292 rfl rfl rfl rfl rfl rfl (fun rz wz hz => c_M_fail w1 1 rz wz hz) (fun i6 w7 => ?_)
    exact sim_reti hC (by decide +kernel) trivial
theorem c_M_lonely {Z : ZT} {l : Launch} (w : Wld) (a1 : Int32) (r : Int32) (w1 : Wld) (h : F_M_lonely w a1 = some (r, w1)) : Con Z l mX11_lonely 7 133 [vR 0, vI a1] w (.inr (some r)) w1 :=
  Con_of (oc := 10) (by decide +kernel) rfl rfl (fun Ok hC => s_M_lonely hC w a1 (r, w1) h ⟨rfl, rfl⟩)
def V_M_crowd_44 (w : Wld) : (Int32 × Int32 × Int32) → Cfg := fun s => (44, [(0, vR 0), (2, vI s.1), (3, vI s.2.1), (4, vI s.2.2)], [], w)
def E_M_crowd_44 (w : Wld) : (Int32) → Cfg := fun s => (87, [(0, vR 0), (2, vI s)], [], w)
noncomputable def K_M_crowd_81 (a2 : Int32) (a3 : Int32) (a4 : Int32) (w : Wld) : Option ((Int32 × Int32 × Int32) ⊕ (Int32)) :=
  bi (a4 + 1) (fun i7 => some (.inl ((a2, a3, i7))))
set_option maxRecDepth 10000 in
theorem s_K_M_crowd_81 {Z : ZT} {l : Launch} {o : Oc} {wo : Wld} {Ok : Cfg → Prop} (hC : Clo Z l 10 6 prog_13_method_69_code (some .int) 7 133 o wo Ok) (a2 : Int32) (a3 : Int32) (a4 : Int32) (w : Wld) : SimK Ok (81, [(0, vR 0), (2, vI a2), (3, vI a3), (4, vI a4)], [], w) (K_M_crowd_81 a2 a3 a4 w) (GLp Ok (V_M_crowd_44 w) (GEp Ok (E_M_crowd_44 w))) := by
  unfold K_M_crowd_81
  refine sim_blk0 hC [(.iinc 4 1, 0, 0, 0, 1)] [(0, vR 0), (2, vI a2), (3, vI a3), (4, vI (a4 + 1))] [] w 84 (by decide +kernel) rfl rfl ?_
  refine sim_bi (C := fun i7 => (84, [(0, vR 0), (2, vI a2), (3, vI a3), (4, vI i7)], [], w)) (fun i7 => ?_)
  refine sim_goto hC (-40) 44 (by decide +kernel) (by decide) ?_
  exact sim_back (V := (V_M_crowd_44 w)) ((a2, a3, i7))
noncomputable def B_M_crowd_44 (w : Wld) (s : Int32 × Int32 × Int32) : Option ((Int32 × Int32 × Int32) ⊕ (Int32)) :=
  gd (vp_in 0 10) (br ((w 3 (Int32.toNatClampNeg 0)) ≤ s.2.2) (some (.inr s.1)) (bp (F_M_those w s.2.2) (fun i5 => bp (F_M_bitsOf w i5) (fun i6 => br (s.2.1 < i6) (K_M_crowd_81 s.2.2 i6 s.2.2 w) (K_M_crowd_81 s.1 s.2.1 s.2.2 w)))))
set_option maxRecDepth 10000 in
theorem s_B_M_crowd_44 {Z : ZT} {l : Launch} {o : Oc} {wo : Wld} {Ok : Cfg → Prop} (hC : Clo Z l 10 6 prog_13_method_69_code (some .int) 7 133 o wo Ok) (w : Wld) (s : Int32 × Int32 × Int32) : SimK Ok (V_M_crowd_44 w s) (B_M_crowd_44 w s) (GLp Ok (V_M_crowd_44 w) (GEp Ok (E_M_crowd_44 w))) := by
  unfold B_M_crowd_44
  show SimK Ok (44, [(0, vR 0), (2, vI s.1), (3, vI s.2.1), (4, vI s.2.2)], [], w) _ _
  refine sim_blk1 hC [(.iload 4, 0, 0, 0, 0), (.aload_n 0, 0, 0, 0, 0), (.getfield 42, 0, 3, 5, 0), (.iconst 0, 0, 0, 0, 0), (.iaload, 3, 10, 0, 0)] [(0, vR 0), (2, vI s.1), (3, vI s.2.1), (4, vI s.2.2)] [vI (w 3 (Int32.toNatClampNeg 0)), vI s.2.2] w 52 (by decide +kernel) rfl rfl ?_
  refine sim_br hC (.if_icmp .ge 35) 87 (by decide +kernel) rfl (by decide) ?_ ?_
  · refine sim_sub hC [0, 1] ?_
    exact sim_exit (E := (E_M_crowd_44 w)) s.1
  · refine sim_blk0 hC [(.aload_n 0, 0, 0, 0, 0), (.iload 4, 0, 0, 0, 0)] [(0, vR 0), (2, vI s.1), (3, vI s.2.1), (4, vI s.2.2)] [vI s.2.2, vR 0] w 58 (by decide +kernel) rfl rfl ?_
    refine sim_vp hC 329 mX11_those 1 0 0 [vI s.2.2] [] (by decide +kernel) ml_10_329 rfl rfl rfl rfl rfl rfl (fun rz hz => c_M_those w s.2.2 rz hz) (fun i5 => ?_)
    refine sim_sp hC 332 mX11_bitsOf 1 0 [vI i5] [] (by decide +kernel) ml_10_332 rfl rfl rfl rfl rfl (fun rz hz => c_M_bitsOf w i5 rz hz) (fun i6 => ?_)
    refine sim_blk0 hC [(.istore 5, 0, 0, 0, 0), (.iload 5, 0, 0, 0, 0), (.iload_n 3, 0, 0, 0, 0)] [(0, vR 0), (2, vI s.1), (3, vI s.2.1), (4, vI s.2.2), (5, vI i6)] [vI s.2.1, vI i6] w 69 (by decide +kernel) rfl rfl ?_
    refine sim_br hC (.if_icmp .gt 6) 75 (by decide +kernel) rfl (by decide) ?_ ?_
    · refine sim_blk0 hC [(.iload 4, 0, 0, 0, 0), (.istore_n 2, 0, 0, 0, 0), (.iload 5, 0, 0, 0, 0), (.istore_n 3, 0, 0, 0, 0)] [(0, vR 0), (2, vI s.2.2), (3, vI i6), (4, vI s.2.2), (5, vI i6)] [] w 81 (by decide +kernel) rfl rfl ?_
      refine sim_sub hC [0, 1, 2, 3] ?_
      exact s_K_M_crowd_81 hC s.2.2 i6 s.2.2 w
    · refine sim_goto hC 9 81 (by decide +kernel) (by decide) ?_
      refine sim_sub hC [0, 1, 2, 3] ?_
      exact s_K_M_crowd_81 hC s.1 s.2.1 s.2.2 w
noncomputable def F_M_crowd (w : Wld) (a1 : Int32) : Option (Int32 × Wld) :=
  bw (wup w 0 2 0) (fun w1 => bp (F_M_isIn w1 (Int32.toInt64 a1) (Int32.toInt64 0) (Int32.toInt64 60)) (fun i2 => br (¬ i2 = 0) (bv (F_M_pack_24 w1 0) (fun w3 => bv (F_M_goOn w3 a1) (fun w4 => bl (loop (B_M_crowd_44 w4) (((-1), 0, 0))) (fun r8 => bv (F_M_unpack_24 w4 0) (fun w9 => some ((r8, w9))))))) (bd (F_M_fail w1 1) (fun i10 w11 => some ((i10, w11))))))
set_option maxRecDepth 10000 in
theorem s_M_crowd {Z : ZT} {l : Launch} {o : Oc} {wo : Wld} {Ok : Cfg → Prop} (hC : Clo Z l 10 6 prog_13_method_69_code (some .int) 7 133 o wo Ok) (w : Wld) (a1 : Int32) : SimK Ok (0, [(0, vR 0), (1, vI a1)], [], w) (F_M_crowd w a1) (Gi o wo) := by
  unfold F_M_crowd
  refine sim_blk0 hC [(.aload_n 0, 0, 0, 0, 0), (.iconst 0, 0, 0, 0, 0), (.putfield 159, 0, 2, 0, 0)] [(0, vR 0), (1, vI a1)] [] (wup w 0 2 0) 5 (by decide +kernel) rfl rfl ?_
  refine sim_bw (C := fun w1 => (5, [(0, vR 0), (1, vI a1)], [], w1)) (fun w1 => ?_)
  refine sim_blk0 hC [(.iload_n 1, 0, 0, 0, 0), (.i2l, 0, 0, 0, 0), (.lconst 0, 0, 0, 0, 0), (.ldc2_w 406, 0, 0, 0, 60)] [(0, vR 0), (1, vI a1)] [vL (Int32.toInt64 60), vL (Int32.toInt64 0), vL (Int32.toInt64 a1)] w1 11 (by decide +kernel) rfl rfl ?_
  refine sim_sp hC 162 mX11_isIn 1 0 [vL (Int32.toInt64 a1), vL (Int32.toInt64 0), vL (Int32.toInt64 60)] [] (by decide +kernel) ml_10_162 rfl rfl rfl rfl rfl (fun rz hz => c_M_isIn w1 (Int32.toInt64 a1) (Int32.toInt64 0) (Int32.toInt64 60) rz hz) (fun i2 => ?_)
  refine sim_br hC (.ifCond .ne 9) 23 (by decide +kernel) rfl (by decide) ?_ ?_
  · refine sim_blk0 hC [(.aload_n 0, 0, 0, 0, 0), (.aload_n 0, 0, 0, 0, 0), (.getfield 107, 0, 42, 26, 0), (.iconst 0, 0, 0, 0, 0)] [(0, vR 0), (1, vI a1)] [vI 0, vR 24, vR 0] w1 29 (by decide +kernel) rfl rfl ?_
    refine sim_vv hC 379 mX11_pack 1 0 0 [vR 24, vI 0] [] (by decide +kernel) ml_10_379 rfl rfl rfl rfl rfl rfl (fun wz hz => c_M_pack_24 w1 0 wz hz) (fun w3 => ?_)
    refine sim_blk0 hC [(.aload_n 0, 0, 0, 0, 0), (.iload_n 1, 0, 0, 0, 0)] [(0, vR 0), (1, vI a1)] [vI a1, vR 0] w3 34 (by decide +kernel) rfl rfl ?_
    refine sim_vv hC 391 mX11_goOn 6 111 0 [vI a1] [] (by decide +kernel) ml_10_391 rfl rfl rfl rfl rfl rfl (fun wz hz => c_M_goOn w3 a1 wz hz) (fun w4 => ?_)
    refine sim_blk0 hC [(.iconst (-1), 0, 0, 0, (-1)), (.istore_n 2, 0, 0, 0, 0), (.iconst 0, 0, 0, 0, 0), (.istore_n 3, 0, 0, 0, 0), (.iconst 0, 0, 0, 0, 0), (.istore 4, 0, 0, 0, 0)] [(0, vR 0), (1, vI a1), (2, vI (-1)), (3, vI 0), (4, vI 0)] [] w4 44 (by decide +kernel) rfl rfl ?_
    refine sim_bl (E := (E_M_crowd_44 w4)) ?_ (fun r8 => ?_)
    · refine sim_sub hC [0, 2, 3, 4] ?_
      exact sim_loop (V := (V_M_crowd_44 w4)) (fun sz => s_B_M_crowd_44 hC w4 sz) (((-1), 0, 0))
    · show SimK Ok (87, [(0, vR 0), (2, vI r8)], [], w4) _ _
      refine sim_blk0 hC [(.aload_n 0, 0, 0, 0, 0), (.aload_n 0, 0, 0, 0, 0), (.getfield 107, 0, 42, 26, 0), (.iconst 0, 0, 0, 0, 0)] [(0, vR 0), (2, vI r8)] [vI 0, vR 24, vR 0] w4 93 (by decide +kernel) rfl rfl ?_
      refine sim_vv hC 401 mX11_unpack 1 0 0 [vR 24, vI 0] [] (by decide +kernel) ml_10_401 rfl rfl rfl rfl rfl rfl (fun wz hz => c_M_unpack_24 w4 0 wz hz) (fun w9 => ?_)
      refine sim_blk0 hC [(.iload_n 2, 0, 0, 0, 0)] [(0, vR 0), (2, vI r8)] [vI r8] w9 97 (by decide +kernel) rfl rfl ?_
      exact sim_reti hC (by decide +kernel) trivial
  · refine sim_blk0 hC [(.aload_n 0, 0, 0, 0, 0), (.iconst 1, 0, 0, 0, 1)] [(0, vR 0), (1, vI a1)] [vI 1, vR 0] w1 19 (by decide +kernel) rfl rfl ?_
    refine sim_vd hC 292 mX11_fail 1 0 0 [vI 1] [] (by decide +kernel) ml_10_292 rfl rfl rfl rfl rfl rfl (fun rz wz hz => c_M_fail w1 1 rz wz hz) (fun i10 w11 => ?_)
    exact sim_reti hC (by decide +kernel) trivial
theorem c_M_crowd {Z : ZT} {l : Launch} (w : Wld) (a1 : Int32) (r : Int32) (w1 : Wld) (h : F_M_crowd w a1 = some (r, w1)) : Con Z l mX11_crowd 7 133 [vR 0, vI a1] w (.inr (some r)) w1 :=
  Con_of (oc := 10) (by decide +kernel) rfl rfl (fun Ok hC => s_M_crowd hC w a1 (r, w1) h ⟨rfl, rfl⟩)
def V_M_spread_41 (w : Wld) : (Int32 × Int32) → Cfg := fun s => (41, [(0, vR 0), (2, vI s.1), (3, vI s.2)], [], w)
def E_M_spread_41 (w : Wld) : (Int32) → Cfg := fun s => (73, [(0, vR 0), (2, vI s)], [], w)
noncomputable def K_M_spread_65 (a3 : Int32) (t0 : Int32) (t1 : Int32) (w : Wld) : Option ((Int32 × Int32) ⊕ (Int32)) :=
  bi (t0 + t1) (fun i6 => bi (a3 + 1) (fun i7 => some (.inl ((i6, i7)))))
set_option maxRecDepth 10000 in
theorem s_K_M_spread_65 {Z : ZT} {l : Launch} {o : Oc} {wo : Wld} {Ok : Cfg → Prop} (hC : Clo Z l 10 4 prog_13_method_70_code (some .int) 7 133 o wo Ok) (a3 : Int32) (t0 : Int32) (t1 : Int32) (w : Wld) : SimK Ok (65, [(0, vR 0), (3, vI a3)], [vI t1, vI t0], w) (K_M_spread_65 a3 t0 t1 w) (GLp Ok (V_M_spread_41 w) (GEp Ok (E_M_spread_41 w))) := by
  unfold K_M_spread_65
  refine sim_blk0 hC [(.iadd, 0, 0, 0, 0), (.istore_n 2, 0, 0, 0, 0)] [(0, vR 0), (2, vI (t0 + t1)), (3, vI a3)] [] w 67 (by decide +kernel) rfl rfl ?_
  refine sim_bi (C := fun i6 => (67, [(0, vR 0), (2, vI i6), (3, vI a3)], [], w)) (fun i6 => ?_)
  refine sim_blk0 hC [(.iinc 3 1, 0, 0, 0, 1)] [(0, vR 0), (2, vI i6), (3, vI (a3 + 1))] [] w 70 (by decide +kernel) rfl rfl ?_
  refine sim_bi (C := fun i7 => (70, [(0, vR 0), (2, vI i6), (3, vI i7)], [], w)) (fun i7 => ?_)
  refine sim_goto hC (-29) 41 (by decide +kernel) (by decide) ?_
  exact sim_back (V := (V_M_spread_41 w)) ((i6, i7))
noncomputable def B_M_spread_41 (w : Wld) (s : Int32 × Int32) : Option ((Int32 × Int32) ⊕ (Int32)) :=
  gd (vp_in 0 10) (br ((w 3 (Int32.toNatClampNeg 0)) ≤ s.2) (some (.inr s.1)) (bp (F_M_those w s.2) (fun i5 => br (i5 = 0) (K_M_spread_65 s.2 s.1 0 w) (K_M_spread_65 s.2 s.1 1 w))))
set_option maxRecDepth 10000 in
theorem s_B_M_spread_41 {Z : ZT} {l : Launch} {o : Oc} {wo : Wld} {Ok : Cfg → Prop} (hC : Clo Z l 10 4 prog_13_method_70_code (some .int) 7 133 o wo Ok) (w : Wld) (s : Int32 × Int32) : SimK Ok (V_M_spread_41 w s) (B_M_spread_41 w s) (GLp Ok (V_M_spread_41 w) (GEp Ok (E_M_spread_41 w))) := by
  unfold B_M_spread_41
  show SimK Ok (41, [(0, vR 0), (2, vI s.1), (3, vI s.2)], [], w) _ _
  refine sim_blk1 hC [(.iload_n 3, 0, 0, 0, 0), (.aload_n 0, 0, 0, 0, 0), (.getfield 42, 0, 3, 5, 0), (.iconst 0, 0, 0, 0, 0), (.iaload, 3, 10, 0, 0)] [(0, vR 0), (2, vI s.1), (3, vI s.2)] [vI (w 3 (Int32.toNatClampNeg 0)), vI s.2] w 48 (by decide +kernel) rfl rfl ?_
  refine sim_br hC (.if_icmp .ge 25) 73 (by decide +kernel) rfl (by decide) ?_ ?_
  · refine sim_sub hC [0, 1] ?_
    exact sim_exit (E := (E_M_spread_41 w)) s.1
  · refine sim_blk0 hC [(.iload_n 2, 0, 0, 0, 0), (.aload_n 0, 0, 0, 0, 0), (.iload_n 3, 0, 0, 0, 0)] [(0, vR 0), (2, vI s.1), (3, vI s.2)] [vI s.2, vR 0, vI s.1] w 54 (by decide +kernel) rfl rfl ?_
    refine sim_vp hC 329 mX11_those 1 0 0 [vI s.2] [vI s.1] (by decide +kernel) ml_10_329 rfl rfl rfl rfl rfl rfl (fun rz hz => c_M_those w s.2 rz hz) (fun i5 => ?_)
    refine sim_br hC (.ifCond .eq 7) 64 (by decide +kernel) rfl (by decide) ?_ ?_
    · refine sim_blk0 hC [(.iconst 0, 0, 0, 0, 0)] [(0, vR 0), (2, vI s.1), (3, vI s.2)] [vI 0, vI s.1] w 65 (by decide +kernel) rfl rfl ?_
      refine sim_sub hC [0, 2] ?_
      exact s_K_M_spread_65 hC s.2 s.1 0 w
    · refine sim_blk0 hC [(.iconst 1, 0, 0, 0, 1)] [(0, vR 0), (2, vI s.1), (3, vI s.2)] [vI 1, vI s.1] w 61 (by decide +kernel) rfl rfl ?_
      refine sim_goto hC 4 65 (by decide +kernel) (by decide) ?_
      refine sim_sub hC [0, 2] ?_
      exact s_K_M_spread_65 hC s.2 s.1 1 w
noncomputable def F_M_spread (w : Wld) (a1 : Int32) : Option (Int32 × Wld) :=
  bw (wup w 0 2 0) (fun w1 => bp (F_M_isIn w1 (Int32.toInt64 a1) (Int32.toInt64 0) (Int32.toInt64 60)) (fun i2 => br (¬ i2 = 0) (bv (F_M_pack_24 w1 0) (fun w3 => bv (F_M_goOn w3 a1) (fun w4 => bl (loop (B_M_spread_41 w4) ((0, 0))) (fun r8 => bv (F_M_unpack_24 w4 0) (fun w9 => some ((r8, w9))))))) (bd (F_M_fail w1 1) (fun i10 w11 => some ((i10, w11))))))
set_option maxRecDepth 10000 in
theorem s_M_spread {Z : ZT} {l : Launch} {o : Oc} {wo : Wld} {Ok : Cfg → Prop} (hC : Clo Z l 10 4 prog_13_method_70_code (some .int) 7 133 o wo Ok) (w : Wld) (a1 : Int32) : SimK Ok (0, [(0, vR 0), (1, vI a1)], [], w) (F_M_spread w a1) (Gi o wo) := by
  unfold F_M_spread
  refine sim_blk0 hC [(.aload_n 0, 0, 0, 0, 0), (.iconst 0, 0, 0, 0, 0), (.putfield 159, 0, 2, 0, 0)] [(0, vR 0), (1, vI a1)] [] (wup w 0 2 0) 5 (by decide +kernel) rfl rfl ?_
  refine sim_bw (C := fun w1 => (5, [(0, vR 0), (1, vI a1)], [], w1)) (fun w1 => ?_)
  refine sim_blk0 hC [(.iload_n 1, 0, 0, 0, 0), (.i2l, 0, 0, 0, 0), (.lconst 0, 0, 0, 0, 0), (.ldc2_w 406, 0, 0, 0, 60)] [(0, vR 0), (1, vI a1)] [vL (Int32.toInt64 60), vL (Int32.toInt64 0), vL (Int32.toInt64 a1)] w1 11 (by decide +kernel) rfl rfl ?_
  refine sim_sp hC 162 mX11_isIn 1 0 [vL (Int32.toInt64 a1), vL (Int32.toInt64 0), vL (Int32.toInt64 60)] [] (by decide +kernel) ml_10_162 rfl rfl rfl rfl rfl (fun rz hz => c_M_isIn w1 (Int32.toInt64 a1) (Int32.toInt64 0) (Int32.toInt64 60) rz hz) (fun i2 => ?_)
  refine sim_br hC (.ifCond .ne 9) 23 (by decide +kernel) rfl (by decide) ?_ ?_
  · refine sim_blk0 hC [(.aload_n 0, 0, 0, 0, 0), (.aload_n 0, 0, 0, 0, 0), (.getfield 107, 0, 42, 26, 0), (.iconst 0, 0, 0, 0, 0)] [(0, vR 0), (1, vI a1)] [vI 0, vR 24, vR 0] w1 29 (by decide +kernel) rfl rfl ?_
    refine sim_vv hC 379 mX11_pack 1 0 0 [vR 24, vI 0] [] (by decide +kernel) ml_10_379 rfl rfl rfl rfl rfl rfl (fun wz hz => c_M_pack_24 w1 0 wz hz) (fun w3 => ?_)
    refine sim_blk0 hC [(.aload_n 0, 0, 0, 0, 0), (.iload_n 1, 0, 0, 0, 0)] [(0, vR 0), (1, vI a1)] [vI a1, vR 0] w3 34 (by decide +kernel) rfl rfl ?_
    refine sim_vv hC 391 mX11_goOn 6 111 0 [vI a1] [] (by decide +kernel) ml_10_391 rfl rfl rfl rfl rfl rfl (fun wz hz => c_M_goOn w3 a1 wz hz) (fun w4 => ?_)
    refine sim_blk0 hC [(.iconst 0, 0, 0, 0, 0), (.istore_n 2, 0, 0, 0, 0), (.iconst 0, 0, 0, 0, 0), (.istore_n 3, 0, 0, 0, 0)] [(0, vR 0), (1, vI a1), (2, vI 0), (3, vI 0)] [] w4 41 (by decide +kernel) rfl rfl ?_
    refine sim_bl (E := (E_M_spread_41 w4)) ?_ (fun r8 => ?_)
    · refine sim_sub hC [0, 2, 3] ?_
      exact sim_loop (V := (V_M_spread_41 w4)) (fun sz => s_B_M_spread_41 hC w4 sz) ((0, 0))
    · show SimK Ok (73, [(0, vR 0), (2, vI r8)], [], w4) _ _
      refine sim_blk0 hC [(.aload_n 0, 0, 0, 0, 0), (.aload_n 0, 0, 0, 0, 0), (.getfield 107, 0, 42, 26, 0), (.iconst 0, 0, 0, 0, 0)] [(0, vR 0), (2, vI r8)] [vI 0, vR 24, vR 0] w4 79 (by decide +kernel) rfl rfl ?_
      refine sim_vv hC 401 mX11_unpack 1 0 0 [vR 24, vI 0] [] (by decide +kernel) ml_10_401 rfl rfl rfl rfl rfl rfl (fun wz hz => c_M_unpack_24 w4 0 wz hz) (fun w9 => ?_)
      refine sim_blk0 hC [(.iload_n 2, 0, 0, 0, 0)] [(0, vR 0), (2, vI r8)] [vI r8] w9 83 (by decide +kernel) rfl rfl ?_
      exact sim_reti hC (by decide +kernel) trivial
  · refine sim_blk0 hC [(.aload_n 0, 0, 0, 0, 0), (.iconst 1, 0, 0, 0, 1)] [(0, vR 0), (1, vI a1)] [vI 1, vR 0] w1 19 (by decide +kernel) rfl rfl ?_
    refine sim_vd hC 292 mX11_fail 1 0 0 [vI 1] [] (by decide +kernel) ml_10_292 rfl rfl rfl rfl rfl rfl (fun rz wz hz => c_M_fail w1 1 rz wz hz) (fun i10 w11 => ?_)
    exact sim_reti hC (by decide +kernel) trivial
theorem c_M_spread {Z : ZT} {l : Launch} (w : Wld) (a1 : Int32) (r : Int32) (w1 : Wld) (h : F_M_spread w a1 = some (r, w1)) : Con Z l mX11_spread 7 133 [vR 0, vI a1] w (.inr (some r)) w1 :=
  Con_of (oc := 10) (by decide +kernel) rfl rfl (fun Ok hC => s_M_spread hC w a1 (r, w1) h ⟨rfl, rfl⟩)
def V_M_toPray_51 (a1 : Int32) (a2 : Int32) : (Int32 × Int32 × Wld) → Cfg := fun s => (51, [(0, vR 0), (1, vI a1), (2, vI a2), (3, vI s.1), (4, vI s.2.1)], [], s.2.2)
def E_M_toPray_51 (a1 : Int32) (a2 : Int32) : (Int32 × Wld) → Cfg := fun s => (105, [(3, vI s.1)], [], s.2)
noncomputable def K_M_toPray_90 (a1 : Int32) (a2 : Int32) (a3 : Int32) (a4 : Int32) (w : Wld) : Option ((Int32 × Int32 × Wld) ⊕ (Int32 × Wld)) :=
  bv (F_M_unpack_24 w 0) (fun w8 => bi (a4 + 1) (fun i9 => some (.inl ((a3, i9, w8)))))
set_option maxRecDepth 10000 in
theorem s_K_M_toPray_90 {Z : ZT} {l : Launch} {o : Oc} {wo : Wld} {Ok : Cfg → Prop} (hC : Clo Z l 10 5 prog_13_method_71_code (some .int) 7 133 o wo Ok) (a1 : Int32) (a2 : Int32) (a3 : Int32) (a4 : Int32) (w : Wld) : SimK Ok (90, [(0, vR 0), (1, vI a1), (2, vI a2), (3, vI a3), (4, vI a4)], [], w) (K_M_toPray_90 a1 a2 a3 a4 w) (GLp Ok (V_M_toPray_51 a1 a2) (GEp Ok (E_M_toPray_51 a1 a2))) := by
  unfold K_M_toPray_90
  refine sim_blk0 hC [(.aload_n 0, 0, 0, 0, 0), (.aload_n 0, 0, 0, 0, 0), (.getfield 107, 0, 42, 26, 0), (.iconst 0, 0, 0, 0, 0)] [(0, vR 0), (1, vI a1), (2, vI a2), (3, vI a3), (4, vI a4)] [vI 0, vR 24, vR 0] w 96 (by decide +kernel) rfl rfl ?_
  refine sim_vv hC 401 mX11_unpack 1 0 0 [vR 24, vI 0] [] (by decide +kernel) ml_10_401 rfl rfl rfl rfl rfl rfl (fun wz hz => c_M_unpack_24 w 0 wz hz) (fun w8 => ?_)
  refine sim_blk0 hC [(.iinc 4 1, 0, 0, 0, 1)] [(0, vR 0), (1, vI a1), (2, vI a2), (3, vI a3), (4, vI (a4 + 1))] [] w8 102 (by decide +kernel) rfl rfl ?_
  refine sim_bi (C := fun i9 => (102, [(0, vR 0), (1, vI a1), (2, vI a2), (3, vI a3), (4, vI i9)], [], w8)) (fun i9 => ?_)
  refine sim_goto hC (-51) 51 (by decide +kernel) (by decide) ?_
  exact sim_back (V := (V_M_toPray_51 a1 a2)) ((a3, i9, w8))
noncomputable def B_M_toPray_51 (a1 : Int32) (a2 : Int32) (s : Int32 × Int32 × Wld) : Option ((Int32 × Int32 × Wld) ⊕ (Int32 × Wld)) :=
  br ((99 : Int32) < s.2.1) (some (.inr ((s.1, s.2.2)))) (br (¬ s.1 = (-1)) (some (.inr ((s.1, s.2.2)))) (gd (vp_in a1 8) (bw (wup s.2.2 14 (Int32.toNatClampNeg a1) s.2.1) (fun w5 => bv (F_M_goOn w5 a2) (fun w6 => bp (F_M_isOf w6 (w6 0 32) a1) (fun i7 => br (i7 = 0) (K_M_toPray_90 a1 a2 s.1 s.2.1 w6) (K_M_toPray_90 a1 a2 s.2.1 s.2.1 w6)))))))
set_option maxRecDepth 10000 in
theorem s_B_M_toPray_51 {Z : ZT} {l : Launch} {o : Oc} {wo : Wld} {Ok : Cfg → Prop} (hC : Clo Z l 10 5 prog_13_method_71_code (some .int) 7 133 o wo Ok) (a1 : Int32) (a2 : Int32) (s : Int32 × Int32 × Wld) : SimK Ok (V_M_toPray_51 a1 a2 s) (B_M_toPray_51 a1 a2 s) (GLp Ok (V_M_toPray_51 a1 a2) (GEp Ok (E_M_toPray_51 a1 a2))) := by
  unfold B_M_toPray_51
  show SimK Ok (51, [(0, vR 0), (1, vI a1), (2, vI a2), (3, vI s.1), (4, vI s.2.1)], [], s.2.2) _ _
  refine sim_blk0 hC [(.iload 4, 0, 0, 0, 0), (.bipush 99, 0, 0, 0, 99)] [(0, vR 0), (1, vI a1), (2, vI a2), (3, vI s.1), (4, vI s.2.1)] [vI 99, vI s.2.1] s.2.2 55 (by decide +kernel) rfl rfl ?_
  refine sim_br hC (.if_icmp .gt 50) 105 (by decide +kernel) rfl (by decide) ?_ ?_
  · refine sim_sub hC [3] ?_
    exact sim_exit (E := (E_M_toPray_51 a1 a2)) ((s.1, s.2.2))
  · refine sim_blk0 hC [(.iload_n 3, 0, 0, 0, 0), (.iconst (-1), 0, 0, 0, (-1))] [(0, vR 0), (1, vI a1), (2, vI a2), (3, vI s.1), (4, vI s.2.1)] [vI (-1), vI s.1] s.2.2 60 (by decide +kernel) rfl rfl ?_
    refine sim_br hC (.if_icmp .ne 45) 105 (by decide +kernel) rfl (by decide) ?_ ?_
    · refine sim_sub hC [3] ?_
      exact sim_exit (E := (E_M_toPray_51 a1 a2)) ((s.1, s.2.2))
    · refine sim_blk1 hC [(.aload_n 0, 0, 0, 0, 0), (.getfield 78, 0, 24, 16, 0), (.iload_n 1, 0, 0, 0, 0), (.iload 4, 0, 0, 0, 0), (.iastore, 14, 8, 0, 0)] [(0, vR 0), (1, vI a1), (2, vI a2), (3, vI s.1), (4, vI s.2.1)] [] (wup s.2.2 14 (Int32.toNatClampNeg a1) s.2.1) 71 (by decide +kernel) rfl rfl ?_
      refine sim_bw (C := fun w5 => (71, [(0, vR 0), (1, vI a1), (2, vI a2), (3, vI s.1), (4, vI s.2.1)], [], w5)) (fun w5 => ?_)
      refine sim_blk0 hC [(.aload_n 0, 0, 0, 0, 0), (.iload_n 2, 0, 0, 0, 0)] [(0, vR 0), (1, vI a1), (2, vI a2), (3, vI s.1), (4, vI s.2.1)] [vI a2, vR 0] w5 73 (by decide +kernel) rfl rfl ?_
      refine sim_vv hC 391 mX11_goOn 6 111 0 [vI a2] [] (by decide +kernel) ml_10_391 rfl rfl rfl rfl rfl rfl (fun wz hz => c_M_goOn w5 a2 wz hz) (fun w6 => ?_)
      refine sim_blk0 hC [(.aload_n 0, 0, 0, 0, 0), (.getfield 307, 0, 32, 0, 0), (.iload_n 1, 0, 0, 0, 0)] [(0, vR 0), (1, vI a1), (2, vI a2), (3, vI s.1), (4, vI s.2.1)] [vI a1, vI (w6 0 32)] w6 81 (by decide +kernel) rfl rfl ?_
      refine sim_sp hC 326 mX11_isOf 1 0 [vI (w6 0 32), vI a1] [] (by decide +kernel) ml_10_326 rfl rfl rfl rfl rfl (fun rz hz => c_M_isOf w6 (w6 0 32) a1 rz hz) (fun i7 => ?_)
      refine sim_br hC (.ifCond .eq 6) 90 (by decide +kernel) rfl (by decide) ?_ ?_
      · exact s_K_M_toPray_90 hC a1 a2 s.1 s.2.1 w6
      · refine sim_blk0 hC [(.iload 4, 0, 0, 0, 0), (.istore_n 3, 0, 0, 0, 0)] [(0, vR 0), (1, vI a1), (2, vI a2), (3, vI s.2.1), (4, vI s.2.1)] [] w6 90 (by decide +kernel) rfl rfl ?_
        exact s_K_M_toPray_90 hC a1 a2 s.2.1 s.2.1 w6
noncomputable def F_M_toPray (w : Wld) (a1 : Int32) (a2 : Int32) : Option (Int32 × Wld) :=
  bw (wup w 0 2 0) (fun w1 => bp (F_M_isMonk w1 a1) (fun i2 => br (¬ i2 = 0) (bp (F_M_isIn w1 (Int32.toInt64 a2) (Int32.toInt64 1) (Int32.toInt64 60)) (fun i3 => br (¬ i3 = 0) (bv (F_M_pack_24 w1 0) (fun w4 => bl (loop (B_M_toPray_51 a1 a2) (((-1), 0, w4))) (fun r10 => some ((r10.1, r10.2))))) (bd (F_M_fail w1 2) (fun i11 w12 => some ((i11, w12)))))) (bd (F_M_fail w1 1) (fun i13 w14 => some ((i13, w14))))))
set_option maxRecDepth 10000 in
theorem s_M_toPray {Z : ZT} {l : Launch} {o : Oc} {wo : Wld} {Ok : Cfg → Prop} (hC : Clo Z l 10 5 prog_13_method_71_code (some .int) 7 133 o wo Ok) (w : Wld) (a1 : Int32) (a2 : Int32) : SimK Ok (0, [(0, vR 0), (1, vI a1), (2, vI a2)], [], w) (F_M_toPray w a1 a2) (Gi o wo) := by
  unfold F_M_toPray
  refine sim_blk0 hC [(.aload_n 0, 0, 0, 0, 0), (.iconst 0, 0, 0, 0, 0), (.putfield 159, 0, 2, 0, 0)] [(0, vR 0), (1, vI a1), (2, vI a2)] [] (wup w 0 2 0) 5 (by decide +kernel) rfl rfl ?_
  refine sim_bw (C := fun w1 => (5, [(0, vR 0), (1, vI a1), (2, vI a2)], [], w1)) (fun w1 => ?_)
  refine sim_blk0 hC [(.aload_n 0, 0, 0, 0, 0), (.iload_n 1, 0, 0, 0, 0)] [(0, vR 0), (1, vI a1), (2, vI a2)] [vI a1, vR 0] w1 7 (by decide +kernel) rfl rfl ?_
  refine sim_vp hC 376 mX11_isMonk 2 25 0 [vI a1] [] (by decide +kernel) ml_10_376 rfl rfl rfl rfl rfl rfl (fun rz hz => c_M_isMonk w1 a1 rz hz) (fun i2 => ?_)
  refine sim_br hC (.ifCond .ne 9) 19 (by decide +kernel) rfl (by decide) ?_ ?_
  · refine sim_blk0 hC [(.iload_n 2, 0, 0, 0, 0), (.i2l, 0, 0, 0, 0), (.lconst 1, 0, 0, 0, 1), (.ldc2_w 406, 0, 0, 0, 60)] [(0, vR 0), (1, vI a1), (2, vI a2)] [vL (Int32.toInt64 60), vL (Int32.toInt64 1), vL (Int32.toInt64 a2)] w1 25 (by decide +kernel) rfl rfl ?_
    refine sim_sp hC 162 mX11_isIn 1 0 [vL (Int32.toInt64 a2), vL (Int32.toInt64 1), vL (Int32.toInt64 60)] [] (by decide +kernel) ml_10_162 rfl rfl rfl rfl rfl (fun rz hz => c_M_isIn w1 (Int32.toInt64 a2) (Int32.toInt64 1) (Int32.toInt64 60) rz hz) (fun i3 => ?_)
    refine sim_br hC (.ifCond .ne 9) 37 (by decide +kernel) rfl (by decide) ?_ ?_
    · refine sim_blk0 hC [(.aload_n 0, 0, 0, 0, 0), (.aload_n 0, 0, 0, 0, 0), (.getfield 107, 0, 42, 26, 0), (.iconst 0, 0, 0, 0, 0)] [(0, vR 0), (1, vI a1), (2, vI a2)] [vI 0, vR 24, vR 0] w1 43 (by decide +kernel) rfl rfl ?_
      refine sim_vv hC 379 mX11_pack 1 0 0 [vR 24, vI 0] [] (by decide +kernel) ml_10_379 rfl rfl rfl rfl rfl rfl (fun wz hz => c_M_pack_24 w1 0 wz hz) (fun w4 => ?_)
      refine sim_blk0 hC [(.iconst (-1), 0, 0, 0, (-1)), (.istore_n 3, 0, 0, 0, 0), (.iconst 0, 0, 0, 0, 0), (.istore 4, 0, 0, 0, 0)] [(0, vR 0), (1, vI a1), (2, vI a2), (3, vI (-1)), (4, vI 0)] [] w4 51 (by decide +kernel) rfl rfl ?_
      refine sim_bl (E := (E_M_toPray_51 a1 a2)) ?_ (fun r10 => ?_)
      · exact sim_loop (V := (V_M_toPray_51 a1 a2)) (fun sz => s_B_M_toPray_51 hC a1 a2 sz) (((-1), 0, w4))
      · show SimK Ok (105, [(3, vI r10.1)], [], r10.2) _ _
        refine sim_blk0 hC [(.iload_n 3, 0, 0, 0, 0)] [(3, vI r10.1)] [vI r10.1] r10.2 106 (by decide +kernel) rfl rfl ?_
        exact sim_reti hC (by decide +kernel) trivial
    · refine sim_blk0 hC [(.aload_n 0, 0, 0, 0, 0), (.iconst 2, 0, 0, 0, 2)] [(0, vR 0), (1, vI a1), (2, vI a2)] [vI 2, vR 0] w1 33 (by decide +kernel) rfl rfl ?_
      refine sim_vd hC 292 mX11_fail 1 0 0 [vI 2] [] (by decide +kernel) ml_10_292 rfl rfl rfl rfl rfl rfl (fun rz wz hz => c_M_fail w1 2 rz wz hz) (fun i11 w12 => ?_)
      exact sim_reti hC (by decide +kernel) trivial
  · refine sim_blk0 hC [(.aload_n 0, 0, 0, 0, 0), (.iconst 1, 0, 0, 0, 1)] [(0, vR 0), (1, vI a1), (2, vI a2)] [vI 1, vR 0] w1 15 (by decide +kernel) rfl rfl ?_
    refine sim_vd hC 292 mX11_fail 1 0 0 [vI 1] [] (by decide +kernel) ml_10_292 rfl rfl rfl rfl rfl rfl (fun rz wz hz => c_M_fail w1 1 rz wz hz) (fun i13 w14 => ?_)
    exact sim_reti hC (by decide +kernel) trivial
theorem c_M_toPray {Z : ZT} {l : Launch} (w : Wld) (a1 : Int32) (a2 : Int32) (r : Int32) (w1 : Wld) (h : F_M_toPray w a1 a2 = some (r, w1)) : Con Z l mX11_toPray 7 133 [vR 0, vI a1, vI a2] w (.inr (some r)) w1 :=
  Con_of (oc := 10) (by decide +kernel) rfl rfl (fun Ok hC => s_M_toPray hC w a1 a2 (r, w1) h ⟨rfl, rfl⟩)
def V_M_fullsIn_4 (a1 : Int32) : (Int32 × Int32 × Wld) → Cfg := fun s => (4, [(0, vR 0), (1, vI a1), (2, vI s.1), (3, vI s.2.1)], [], s.2.2)
def E_M_fullsIn_4 (a1 : Int32) : (Int32 × Wld) → Cfg := fun s => (34, [(2, vI s.1)], [], s.2)
noncomputable def K_M_fullsIn_26 (a1 : Int32) (a3 : Int32) (t0 : Int32) (t1 : Int32) (w : Wld) : Option ((Int32 × Int32 × Wld) ⊕ (Int32 × Wld)) :=
  bi (t0 + t1) (fun i2 => bi (a3 + 1) (fun i3 => some (.inl ((i2, i3, w)))))
set_option maxRecDepth 10000 in
theorem s_K_M_fullsIn_26 {Z : ZT} {l : Launch} {o : Oc} {wo : Wld} {Ok : Cfg → Prop} (hC : Clo Z l 10 4 prog_13_method_72_code (some .int) 6 111 o wo Ok) (a1 : Int32) (a3 : Int32) (t0 : Int32) (t1 : Int32) (w : Wld) : SimK Ok (26, [(0, vR 0), (1, vI a1), (3, vI a3)], [vI t1, vI t0], w) (K_M_fullsIn_26 a1 a3 t0 t1 w) (GLp Ok (V_M_fullsIn_4 a1) (GEp Ok (E_M_fullsIn_4 a1))) := by
  unfold K_M_fullsIn_26
  refine sim_blk0 hC [(.iadd, 0, 0, 0, 0), (.istore_n 2, 0, 0, 0, 0)] [(0, vR 0), (1, vI a1), (2, vI (t0 + t1)), (3, vI a3)] [] w 28 (by decide +kernel) rfl rfl ?_
  refine sim_bi (C := fun i2 => (28, [(0, vR 0), (1, vI a1), (2, vI i2), (3, vI a3)], [], w)) (fun i2 => ?_)
  refine sim_blk0 hC [(.iinc 3 1, 0, 0, 0, 1)] [(0, vR 0), (1, vI a1), (2, vI i2), (3, vI (a3 + 1))] [] w 31 (by decide +kernel) rfl rfl ?_
  refine sim_bi (C := fun i3 => (31, [(0, vR 0), (1, vI a1), (2, vI i2), (3, vI i3)], [], w)) (fun i3 => ?_)
  refine sim_goto hC (-27) 4 (by decide +kernel) (by decide) ?_
  exact sim_back (V := (V_M_fullsIn_4 a1)) ((i2, i3, w))
noncomputable def B_M_fullsIn_4 (a1 : Int32) (s : Int32 × Int32 × Wld) : Option ((Int32 × Int32 × Wld) ⊕ (Int32 × Wld)) :=
  br (a1 ≤ s.2.1) (some (.inr ((s.1, s.2.2)))) (bv (F_M_aNight s.2.2) (fun w1 => br (¬ (w1 0 39) = 0) (K_M_fullsIn_26 a1 s.2.1 s.1 0 w1) (K_M_fullsIn_26 a1 s.2.1 s.1 1 w1)))
set_option maxRecDepth 10000 in
theorem s_B_M_fullsIn_4 {Z : ZT} {l : Launch} {o : Oc} {wo : Wld} {Ok : Cfg → Prop} (hC : Clo Z l 10 4 prog_13_method_72_code (some .int) 6 111 o wo Ok) (a1 : Int32) (s : Int32 × Int32 × Wld) : SimK Ok (V_M_fullsIn_4 a1 s) (B_M_fullsIn_4 a1 s) (GLp Ok (V_M_fullsIn_4 a1) (GEp Ok (E_M_fullsIn_4 a1))) := by
  unfold B_M_fullsIn_4
  show SimK Ok (4, [(0, vR 0), (1, vI a1), (2, vI s.1), (3, vI s.2.1)], [], s.2.2) _ _
  refine sim_blk0 hC [(.iload_n 3, 0, 0, 0, 0), (.iload_n 1, 0, 0, 0, 0)] [(0, vR 0), (1, vI a1), (2, vI s.1), (3, vI s.2.1)] [vI a1, vI s.2.1] s.2.2 6 (by decide +kernel) rfl rfl ?_
  refine sim_br hC (.if_icmp .ge 28) 34 (by decide +kernel) rfl (by decide) ?_ ?_
  · refine sim_sub hC [2] ?_
    exact sim_exit (E := (E_M_fullsIn_4 a1)) ((s.1, s.2.2))
  · refine sim_blk0 hC [(.aload_n 0, 0, 0, 0, 0)] [(0, vR 0), (1, vI a1), (2, vI s.1), (3, vI s.2.1)] [vR 0] s.2.2 10 (by decide +kernel) rfl rfl ?_
    refine sim_vv hC 362 mX11_aNight 5 88 0 [] [] (by decide +kernel) ml_10_362 rfl rfl rfl rfl rfl rfl (fun wz hz => c_M_aNight s.2.2 wz hz) (fun w1 => ?_)
    refine sim_blk0 hC [(.iload_n 2, 0, 0, 0, 0), (.aload_n 0, 0, 0, 0, 0), (.getfield 356, 0, 39, 0, 0)] [(0, vR 0), (1, vI a1), (2, vI s.1), (3, vI s.2.1)] [vI (w1 0 39), vI s.1] w1 18 (by decide +kernel) rfl rfl ?_
    refine sim_br hC (.ifCond .ne 7) 25 (by decide +kernel) rfl (by decide) ?_ ?_
    · refine sim_blk0 hC [(.iconst 0, 0, 0, 0, 0)] [(0, vR 0), (1, vI a1), (2, vI s.1), (3, vI s.2.1)] [vI 0, vI s.1] w1 26 (by decide +kernel) rfl rfl ?_
      refine sim_sub hC [0, 1, 3] ?_
      exact s_K_M_fullsIn_26 hC a1 s.2.1 s.1 0 w1
    · refine sim_blk0 hC [(.iconst 1, 0, 0, 0, 1)] [(0, vR 0), (1, vI a1), (2, vI s.1), (3, vI s.2.1)] [vI 1, vI s.1] w1 22 (by decide +kernel) rfl rfl ?_
      refine sim_goto hC 4 26 (by decide +kernel) (by decide) ?_
      refine sim_sub hC [0, 1, 3] ?_
      exact s_K_M_fullsIn_26 hC a1 s.2.1 s.1 1 w1
noncomputable def F_M_fullsIn (w : Wld) (a1 : Int32) : Option (Int32 × Wld) :=
  bl (loop (B_M_fullsIn_4 a1) ((0, 0, w))) (fun r4 => some ((r4.1, r4.2)))
set_option maxRecDepth 10000 in
theorem s_M_fullsIn {Z : ZT} {l : Launch} {o : Oc} {wo : Wld} {Ok : Cfg → Prop} (hC : Clo Z l 10 4 prog_13_method_72_code (some .int) 6 111 o wo Ok) (w : Wld) (a1 : Int32) : SimK Ok (0, [(0, vR 0), (1, vI a1)], [], w) (F_M_fullsIn w a1) (Gi o wo) := by
  unfold F_M_fullsIn
  refine sim_blk0 hC [(.iconst 0, 0, 0, 0, 0), (.istore_n 2, 0, 0, 0, 0), (.iconst 0, 0, 0, 0, 0), (.istore_n 3, 0, 0, 0, 0)] [(0, vR 0), (1, vI a1), (2, vI 0), (3, vI 0)] [] w 4 (by decide +kernel) rfl rfl ?_
  refine sim_bl (E := (E_M_fullsIn_4 a1)) ?_ (fun r4 => ?_)
  · exact sim_loop (V := (V_M_fullsIn_4 a1)) (fun sz => s_B_M_fullsIn_4 hC a1 sz) ((0, 0, w))
  · show SimK Ok (34, [(2, vI r4.1)], [], r4.2) _ _
    refine sim_blk0 hC [(.iload_n 2, 0, 0, 0, 0)] [(2, vI r4.1)] [vI r4.1] r4.2 35 (by decide +kernel) rfl rfl ?_
    exact sim_reti hC (by decide +kernel) trivial
theorem c_M_fullsIn {Z : ZT} {l : Launch} (w : Wld) (a1 : Int32) (r : Int32) (w1 : Wld) (h : F_M_fullsIn w a1 = some (r, w1)) : Con Z l mX11_fullsIn 6 111 [vR 0, vI a1] w (.inr (some r)) w1 :=
  Con_of (oc := 10) (by decide +kernel) rfl rfl (fun Ok hC => s_M_fullsIn hC w a1 (r, w1) h ⟨rfl, rfl⟩)
def V_M_needless_52 (a1 : Int32) (a2 : Int32) : (Int32 × Int32 × Wld) → Cfg := fun s => (52, [(0, vR 0), (1, vI a1), (2, vI a2), (3, vI s.1), (4, vI s.2.1)], [], s.2.2)
def E_M_needless_52 (a1 : Int32) (a2 : Int32) : (Int32 × Wld) → Cfg := fun s => (126, [(3, vI s.1)], [], s.2)
noncomputable def K_M_needless_120 (a1 : Int32) (a2 : Int32) (a3 : Int32) (a4 : Int32) (w : Wld) : Option ((Int32 × Int32 × Wld) ⊕ (Int32 × Wld)) :=
  bi (a4 + 1) (fun i13 => some (.inl ((a3, i13, w))))
set_option maxRecDepth 10000 in
theorem s_K_M_needless_120 {Z : ZT} {l : Launch} {o : Oc} {wo : Wld} {Ok : Cfg → Prop} (hC : Clo Z l 10 5 prog_13_method_73_code (some .int) 7 134 o wo Ok) (a1 : Int32) (a2 : Int32) (a3 : Int32) (a4 : Int32) (w : Wld) : SimK Ok (120, [(0, vR 0), (1, vI a1), (2, vI a2), (3, vI a3), (4, vI a4)], [], w) (K_M_needless_120 a1 a2 a3 a4 w) (GLp Ok (V_M_needless_52 a1 a2) (GEp Ok (E_M_needless_52 a1 a2))) := by
  unfold K_M_needless_120
  refine sim_blk0 hC [(.iinc 4 1, 0, 0, 0, 1)] [(0, vR 0), (1, vI a1), (2, vI a2), (3, vI a3), (4, vI (a4 + 1))] [] w 123 (by decide +kernel) rfl rfl ?_
  refine sim_bi (C := fun i13 => (123, [(0, vR 0), (1, vI a1), (2, vI a2), (3, vI a3), (4, vI i13)], [], w)) (fun i13 => ?_)
  refine sim_goto hC (-71) 52 (by decide +kernel) (by decide) ?_
  exact sim_back (V := (V_M_needless_52 a1 a2)) ((a3, i13, w))
noncomputable def K_M_needless_109 (a1 : Int32) (a2 : Int32) (a4 : Int32) (t0 : Int32) (t1 : Int32) (w : Wld) : Option ((Int32 × Int32 × Wld) ⊕ (Int32 × Wld)) :=
  bi (t0 ||| t1) (fun i11 => bv (F_M_unpack_24 w 0) (fun w12 => K_M_needless_120 a1 a2 i11 a4 w12))
set_option maxRecDepth 10000 in
theorem s_K_M_needless_109 {Z : ZT} {l : Launch} {o : Oc} {wo : Wld} {Ok : Cfg → Prop} (hC : Clo Z l 10 5 prog_13_method_73_code (some .int) 7 134 o wo Ok) (a1 : Int32) (a2 : Int32) (a4 : Int32) (t0 : Int32) (t1 : Int32) (w : Wld) : SimK Ok (109, [(0, vR 0), (1, vI a1), (2, vI a2), (4, vI a4)], [vI t1, vI t0], w) (K_M_needless_109 a1 a2 a4 t0 t1 w) (GLp Ok (V_M_needless_52 a1 a2) (GEp Ok (E_M_needless_52 a1 a2))) := by
  unfold K_M_needless_109
  refine sim_blk0 hC [(.ior, 0, 0, 0, 0), (.istore_n 3, 0, 0, 0, 0)] [(0, vR 0), (1, vI a1), (2, vI a2), (3, vI (t0 ||| t1)), (4, vI a4)] [] w 111 (by decide +kernel) rfl rfl ?_
  refine sim_bi (C := fun i11 => (111, [(0, vR 0), (1, vI a1), (2, vI a2), (3, vI i11), (4, vI a4)], [], w)) (fun i11 => ?_)
  refine sim_blk0 hC [(.aload_n 0, 0, 0, 0, 0), (.aload_n 0, 0, 0, 0, 0), (.getfield 107, 0, 42, 26, 0), (.iconst 0, 0, 0, 0, 0)] [(0, vR 0), (1, vI a1), (2, vI a2), (3, vI i11), (4, vI a4)] [vI 0, vR 24, vR 0] w 117 (by decide +kernel) rfl rfl ?_
  refine sim_vv hC 401 mX11_unpack 1 0 0 [vR 24, vI 0] [] (by decide +kernel) ml_10_401 rfl rfl rfl rfl rfl rfl (fun wz hz => c_M_unpack_24 w 0 wz hz) (fun w12 => ?_)
  exact s_K_M_needless_120 hC a1 a2 i11 a4 w12
noncomputable def B_M_needless_52 (a1 : Int32) (a2 : Int32) (s : Int32 × Int32 × Wld) : Option ((Int32 × Int32 × Wld) ⊕ (Int32 × Wld)) :=
  gd (vp_in 1 10) (br ((s.2.2 3 (Int32.toNatClampNeg 1)) ≤ s.2.1) (some (.inr ((s.1, s.2.2)))) (bp (F_M_isOf s.2.2 (s.2.2 0 33) s.2.1) (fun i7 => br (i7 = 0) (bw (wup s.2.2 0 33 ((s.2.2 0 33) ||| ((1 : Int32) <<< (s.2.1 &&& 31)))) (fun w8 => bd (F_M_fullsIn w8 a1) (fun i9 w10 => br (i9 < a2) (K_M_needless_109 a1 a2 s.2.1 s.1 0 w10) (K_M_needless_109 a1 a2 s.2.1 s.1 ((1 : Int32) <<< (s.2.1 &&& 31)) w10)))) (K_M_needless_120 a1 a2 s.1 s.2.1 s.2.2))))
set_option maxRecDepth 10000 in
theorem s_B_M_needless_52 {Z : ZT} {l : Launch} {o : Oc} {wo : Wld} {Ok : Cfg → Prop} (hC : Clo Z l 10 5 prog_13_method_73_code (some .int) 7 134 o wo Ok) (a1 : Int32) (a2 : Int32) (s : Int32 × Int32 × Wld) : SimK Ok (V_M_needless_52 a1 a2 s) (B_M_needless_52 a1 a2 s) (GLp Ok (V_M_needless_52 a1 a2) (GEp Ok (E_M_needless_52 a1 a2))) := by
  unfold B_M_needless_52
  show SimK Ok (52, [(0, vR 0), (1, vI a1), (2, vI a2), (3, vI s.1), (4, vI s.2.1)], [], s.2.2) _ _
  refine sim_blk1 hC [(.iload 4, 0, 0, 0, 0), (.aload_n 0, 0, 0, 0, 0), (.getfield 42, 0, 3, 5, 0), (.iconst 1, 0, 0, 0, 1), (.iaload, 3, 10, 0, 0)] [(0, vR 0), (1, vI a1), (2, vI a2), (3, vI s.1), (4, vI s.2.1)] [vI (s.2.2 3 (Int32.toNatClampNeg 1)), vI s.2.1] s.2.2 60 (by decide +kernel) rfl rfl ?_
  refine sim_br hC (.if_icmp .ge 66) 126 (by decide +kernel) rfl (by decide) ?_ ?_
  · refine sim_sub hC [3] ?_
    exact sim_exit (E := (E_M_needless_52 a1 a2)) ((s.1, s.2.2))
  · refine sim_blk0 hC [(.aload_n 0, 0, 0, 0, 0), (.getfield 309, 0, 33, 0, 0), (.iload 4, 0, 0, 0, 0)] [(0, vR 0), (1, vI a1), (2, vI a2), (3, vI s.1), (4, vI s.2.1)] [vI s.2.1, vI (s.2.2 0 33)] s.2.2 69 (by decide +kernel) rfl rfl ?_
    refine sim_sp hC 326 mX11_isOf 1 0 [vI (s.2.2 0 33), vI s.2.1] [] (by decide +kernel) ml_10_326 rfl rfl rfl rfl rfl (fun rz hz => c_M_isOf s.2.2 (s.2.2 0 33) s.2.1 rz hz) (fun i7 => ?_)
    refine sim_br hC (.ifCond .eq 6) 78 (by decide +kernel) rfl (by decide) ?_ ?_
    · refine sim_blk0 hC [(.aload_n 0, 0, 0, 0, 0), (.dup, 0, 0, 0, 0), (.getfield 309, 0, 33, 0, 0), (.iconst 1, 0, 0, 0, 1), (.iload 4, 0, 0, 0, 0), (.ishl, 0, 0, 0, 0), (.ior, 0, 0, 0, 0), (.putfield 309, 0, 33, 0, 0)] [(0, vR 0), (1, vI a1), (2, vI a2), (3, vI s.1), (4, vI s.2.1)] [] (wup s.2.2 0 33 ((s.2.2 0 33) ||| ((1 : Int32) <<< (s.2.1 &&& 31)))) 91 (by decide +kernel) rfl rfl ?_
      refine sim_bw (C := fun w8 => (91, [(0, vR 0), (1, vI a1), (2, vI a2), (3, vI s.1), (4, vI s.2.1)], [], w8)) (fun w8 => ?_)
      refine sim_blk0 hC [(.iload_n 3, 0, 0, 0, 0), (.aload_n 0, 0, 0, 0, 0), (.iload_n 1, 0, 0, 0, 0)] [(0, vR 0), (1, vI a1), (2, vI a2), (3, vI s.1), (4, vI s.2.1)] [vI a1, vR 0, vI s.1] w8 94 (by decide +kernel) rfl rfl ?_
      refine sim_vd hC 408 mX11_fullsIn 6 111 0 [vI a1] [vI s.1] (by decide +kernel) ml_10_408 rfl rfl rfl rfl rfl rfl (fun rz wz hz => c_M_fullsIn w8 a1 rz wz hz) (fun i9 w10 => ?_)
      refine sim_blk0 hC [(.iload_n 2, 0, 0, 0, 0)] [(0, vR 0), (1, vI a1), (2, vI a2), (3, vI s.1), (4, vI s.2.1)] [vI a2, vI i9, vI s.1] w10 98 (by decide +kernel) rfl rfl ?_
      refine sim_br hC (.if_icmp .lt 10) 108 (by decide +kernel) rfl (by decide) ?_ ?_
      · refine sim_blk0 hC [(.iconst 0, 0, 0, 0, 0)] [(0, vR 0), (1, vI a1), (2, vI a2), (3, vI s.1), (4, vI s.2.1)] [vI 0, vI s.1] w10 109 (by decide +kernel) rfl rfl ?_
        refine sim_sub hC [0, 1, 2, 4] ?_
        exact s_K_M_needless_109 hC a1 a2 s.2.1 s.1 0 w10
      · refine sim_blk0 hC [(.iconst 1, 0, 0, 0, 1), (.iload 4, 0, 0, 0, 0), (.ishl, 0, 0, 0, 0)] [(0, vR 0), (1, vI a1), (2, vI a2), (3, vI s.1), (4, vI s.2.1)] [vI ((1 : Int32) <<< (s.2.1 &&& 31)), vI s.1] w10 105 (by decide +kernel) rfl rfl ?_
        refine sim_goto hC 4 109 (by decide +kernel) (by decide) ?_
        refine sim_sub hC [0, 1, 2, 4] ?_
        exact s_K_M_needless_109 hC a1 a2 s.2.1 s.1 ((1 : Int32) <<< (s.2.1 &&& 31)) w10
    · refine sim_goto hC 45 120 (by decide +kernel) (by decide) ?_
      exact s_K_M_needless_120 hC a1 a2 s.1 s.2.1 s.2.2
noncomputable def F_M_needless (w : Wld) (a1 : Int32) : Option (Int32 × Wld) :=
  bw (wup w 0 2 0) (fun w1 => bp (F_M_isIn w1 (Int32.toInt64 a1) (Int32.toInt64 0) (Int32.toInt64 60)) (fun i2 => br (¬ i2 = 0) (bv (F_M_pack_24 w1 0) (fun w3 => bd (F_M_fullsIn w3 a1) (fun i4 w5 => bv (F_M_unpack_24 w5 0) (fun w6 => bl (loop (B_M_needless_52 a1 i4) ((0, 0, w6))) (fun r14 => some ((r14.1, r14.2))))))) (bd (F_M_fail w1 1) (fun i15 w16 => some ((i15, w16))))))
set_option maxRecDepth 10000 in
theorem s_M_needless {Z : ZT} {l : Launch} {o : Oc} {wo : Wld} {Ok : Cfg → Prop} (hC : Clo Z l 10 5 prog_13_method_73_code (some .int) 7 134 o wo Ok) (w : Wld) (a1 : Int32) : SimK Ok (0, [(0, vR 0), (1, vI a1)], [], w) (F_M_needless w a1) (Gi o wo) := by
  unfold F_M_needless
  refine sim_blk0 hC [(.aload_n 0, 0, 0, 0, 0), (.iconst 0, 0, 0, 0, 0), (.putfield 159, 0, 2, 0, 0)] [(0, vR 0), (1, vI a1)] [] (wup w 0 2 0) 5 (by decide +kernel) rfl rfl ?_
  refine sim_bw (C := fun w1 => (5, [(0, vR 0), (1, vI a1)], [], w1)) (fun w1 => ?_)
  refine sim_blk0 hC [(.iload_n 1, 0, 0, 0, 0), (.i2l, 0, 0, 0, 0), (.lconst 0, 0, 0, 0, 0), (.ldc2_w 406, 0, 0, 0, 60)] [(0, vR 0), (1, vI a1)] [vL (Int32.toInt64 60), vL (Int32.toInt64 0), vL (Int32.toInt64 a1)] w1 11 (by decide +kernel) rfl rfl ?_
  refine sim_sp hC 162 mX11_isIn 1 0 [vL (Int32.toInt64 a1), vL (Int32.toInt64 0), vL (Int32.toInt64 60)] [] (by decide +kernel) ml_10_162 rfl rfl rfl rfl rfl (fun rz hz => c_M_isIn w1 (Int32.toInt64 a1) (Int32.toInt64 0) (Int32.toInt64 60) rz hz) (fun i2 => ?_)
  refine sim_br hC (.ifCond .ne 9) 23 (by decide +kernel) rfl (by decide) ?_ ?_
  · refine sim_blk0 hC [(.aload_n 0, 0, 0, 0, 0), (.aload_n 0, 0, 0, 0, 0), (.getfield 107, 0, 42, 26, 0), (.iconst 0, 0, 0, 0, 0)] [(0, vR 0), (1, vI a1)] [vI 0, vR 24, vR 0] w1 29 (by decide +kernel) rfl rfl ?_
    refine sim_vv hC 379 mX11_pack 1 0 0 [vR 24, vI 0] [] (by decide +kernel) ml_10_379 rfl rfl rfl rfl rfl rfl (fun wz hz => c_M_pack_24 w1 0 wz hz) (fun w3 => ?_)
    refine sim_blk0 hC [(.aload_n 0, 0, 0, 0, 0), (.iload_n 1, 0, 0, 0, 0)] [(0, vR 0), (1, vI a1)] [vI a1, vR 0] w3 34 (by decide +kernel) rfl rfl ?_
    refine sim_vd hC 408 mX11_fullsIn 6 111 0 [vI a1] [] (by decide +kernel) ml_10_408 rfl rfl rfl rfl rfl rfl (fun rz wz hz => c_M_fullsIn w3 a1 rz wz hz) (fun i4 w5 => ?_)
    refine sim_blk0 hC [(.istore_n 2, 0, 0, 0, 0), (.aload_n 0, 0, 0, 0, 0), (.aload_n 0, 0, 0, 0, 0), (.getfield 107, 0, 42, 26, 0), (.iconst 0, 0, 0, 0, 0)] [(0, vR 0), (1, vI a1), (2, vI i4)] [vI 0, vR 24, vR 0] w5 44 (by decide +kernel) rfl rfl ?_
    refine sim_vv hC 401 mX11_unpack 1 0 0 [vR 24, vI 0] [] (by decide +kernel) ml_10_401 rfl rfl rfl rfl rfl rfl (fun wz hz => c_M_unpack_24 w5 0 wz hz) (fun w6 => ?_)
    refine sim_blk0 hC [(.iconst 0, 0, 0, 0, 0), (.istore_n 3, 0, 0, 0, 0), (.iconst 0, 0, 0, 0, 0), (.istore 4, 0, 0, 0, 0)] [(0, vR 0), (1, vI a1), (2, vI i4), (3, vI 0), (4, vI 0)] [] w6 52 (by decide +kernel) rfl rfl ?_
    refine sim_bl (E := (E_M_needless_52 a1 i4)) ?_ (fun r14 => ?_)
    · exact sim_loop (V := (V_M_needless_52 a1 i4)) (fun sz => s_B_M_needless_52 hC a1 i4 sz) ((0, 0, w6))
    · show SimK Ok (126, [(3, vI r14.1)], [], r14.2) _ _
      refine sim_blk0 hC [(.iload_n 3, 0, 0, 0, 0)] [(3, vI r14.1)] [vI r14.1] r14.2 127 (by decide +kernel) rfl rfl ?_
      exact sim_reti hC (by decide +kernel) trivial
  · refine sim_blk0 hC [(.aload_n 0, 0, 0, 0, 0), (.iconst 1, 0, 0, 0, 1)] [(0, vR 0), (1, vI a1)] [vI 1, vR 0] w1 19 (by decide +kernel) rfl rfl ?_
    refine sim_vd hC 292 mX11_fail 1 0 0 [vI 1] [] (by decide +kernel) ml_10_292 rfl rfl rfl rfl rfl rfl (fun rz wz hz => c_M_fail w1 1 rz wz hz) (fun i15 w16 => ?_)
    exact sim_reti hC (by decide +kernel) trivial
theorem c_M_needless {Z : ZT} {l : Launch} (w : Wld) (a1 : Int32) (r : Int32) (w1 : Wld) (h : F_M_needless w a1 = some (r, w1)) : Con Z l mX11_needless 7 134 [vR 0, vI a1] w (.inr (some r)) w1 :=
  Con_of (oc := 10) (by decide +kernel) rfl rfl (fun Ok hC => s_M_needless hC w a1 (r, w1) h ⟨rfl, rfl⟩)
