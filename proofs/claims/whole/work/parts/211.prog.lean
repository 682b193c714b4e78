def V_M_unpack_35_32 (a3 : Int32) : (Int32 × Wld) → Cfg := fun s => (32, [(0, vR 0), (1, vR 35), (3, vI a3), (4, vI s.1)], [], s.2)
def E_M_unpack_35_32 (a3 : Int32) : (Wld) → Cfg := fun s => (106, [(0, vR 0), (1, vR 35), (3, vI a3)], [], s)
noncomputable def B_M_unpack_35_32 (a3 : Int32) (s : Int32 × Wld) : Option ((Int32 × Wld) ⊕ (Wld)) :=
  br ((8 : Int32) ≤ s.1) (some (.inr s.2)) (gd (vp_in (a3 + s.1) 53) (gd (vp_in s.1 8) (bw (wup s.2 14 (Int32.toNatClampNeg s.1) (s.2 35 (Int32.toNatClampNeg (a3 + s.1)))) (fun w5 => gd (vp_in ((a3 + (8 : Int32)) + s.1) 53) (gd (vp_in s.1 8) (bw (wup w5 15 (Int32.toNatClampNeg s.1) (w5 35 (Int32.toNatClampNeg ((a3 + (8 : Int32)) + s.1)))) (fun w6 => gd (vp_in ((a3 + (16 : Int32)) + s.1) 53) (gd (vp_in s.1 8) (bw (wup w6 16 (Int32.toNatClampNeg s.1) (w6 35 (Int32.toNatClampNeg ((a3 + (16 : Int32)) + s.1)))) (fun w7 => gd (vp_in ((a3 + (24 : Int32)) + s.1) 53) (gd (vp_in s.1 8) (bw (wup w7 17 (Int32.toNatClampNeg s.1) (w7 35 (Int32.toNatClampNeg ((a3 + (24 : Int32)) + s.1)))) (fun w8 => bi (s.1 + 1) (fun i9 => some (.inl ((i9, w8)))))))))))))))))
set_option maxRecDepth 10000 in
theorem s_B_M_unpack_35_32 {Z : ZT} {l : Launch} {o : Oc} {wo : Wld} {Ok : Cfg → Prop} (hC : Clo Z l 10 5 prog_13_method_39_code none 1 0 o wo Ok) (a3 : Int32) (s : Int32 × Wld) : SimK Ok (V_M_unpack_35_32 a3 s) (B_M_unpack_35_32 a3 s) (GLp Ok (V_M_unpack_35_32 a3) (GEp Ok (E_M_unpack_35_32 a3))) := by
  unfold B_M_unpack_35_32
  show SimK Ok (32, [(0, vR 0), (1, vR 35), (3, vI a3), (4, vI s.1)], [], s.2) _ _
  refine sim_blk0 hC [(.iload 4, 0, 0, 0, 0), (.bipush 8, 0, 0, 0, 8)] [(0, vR 0), (1, vR 35), (3, vI a3), (4, vI s.1)] [vI 8, vI s.1] s.2 36 (by decide +kernel) rfl rfl ?_
  refine sim_br hC (.if_icmp .ge 70) 106 (by decide +kernel) rfl (by decide) ?_ ?_
  · refine sim_sub hC [0, 1, 2] ?_
    exact sim_exit (E := (E_M_unpack_35_32 a3)) s.2
  · refine sim_blk2 hC [(.aload_n 0, 0, 0, 0, 0), (.getfield 78, 0, 24, 16, 0), (.iload 4, 0, 0, 0, 0), (.aload_n 1, 0, 0, 0, 0), (.iload_n 3, 0, 0, 0, 0), (.iload 4, 0, 0, 0, 0), (.iadd, 0, 0, 0, 0), (.iaload, 35, 53, 0, 0), (.iastore, 14, 8, 0, 0)] [(0, vR 0), (1, vR 35), (3, vI a3), (4, vI s.1)] [] (wup s.2 14 (Int32.toNatClampNeg s.1) (s.2 35 (Int32.toNatClampNeg (a3 + s.1)))) 52 (by decide +kernel) rfl rfl ?_
    refine sim_bw (C := fun w5 => (52, [(0, vR 0), (1, vR 35), (3, vI a3), (4, vI s.1)], [], w5)) (fun w5 => ?_)
    refine sim_blk2 hC [(.aload_n 0, 0, 0, 0, 0), (.getfield 81, 0, 25, 17, 0), (.iload 4, 0, 0, 0, 0), (.aload_n 1, 0, 0, 0, 0), (.iload_n 3, 0, 0, 0, 0), (.bipush 8, 0, 0, 0, 8), (.iadd, 0, 0, 0, 0), (.iload 4, 0, 0, 0, 0), (.iadd, 0, 0, 0, 0), (.iaload, 35, 53, 0, 0), (.iastore, 15, 8, 0, 0)] [(0, vR 0), (1, vR 35), (3, vI a3), (4, vI s.1)] [] (wup w5 15 (Int32.toNatClampNeg s.1) (w5 35 (Int32.toNatClampNeg ((a3 + (8 : Int32)) + s.1)))) 68 (by decide +kernel) rfl rfl ?_
    refine sim_bw (C := fun w6 => (68, [(0, vR 0), (1, vR 35), (3, vI a3), (4, vI s.1)], [], w6)) (fun w6 => ?_)
    refine sim_blk2 hC [(.aload_n 0, 0, 0, 0, 0), (.getfield 84, 0, 26, 18, 0), (.iload 4, 0, 0, 0, 0), (.aload_n 1, 0, 0, 0, 0), (.iload_n 3, 0, 0, 0, 0), (.bipush 16, 0, 0, 0, 16), (.iadd, 0, 0, 0, 0), (.iload 4, 0, 0, 0, 0), (.iadd, 0, 0, 0, 0), (.iaload, 35, 53, 0, 0), (.iastore, 16, 8, 0, 0)] [(0, vR 0), (1, vR 35), (3, vI a3), (4, vI s.1)] [] (wup w6 16 (Int32.toNatClampNeg s.1) (w6 35 (Int32.toNatClampNeg ((a3 + (16 : Int32)) + s.1)))) 84 (by decide +kernel) rfl rfl ?_
    refine sim_bw (C := fun w7 => (84, [(0, vR 0), (1, vR 35), (3, vI a3), (4, vI s.1)], [], w7)) (fun w7 => ?_)
    refine sim_blk2 hC [(.aload_n 0, 0, 0, 0, 0), (.getfield 87, 0, 27, 19, 0), (.iload 4, 0, 0, 0, 0), (.aload_n 1, 0, 0, 0, 0), (.iload_n 3, 0, 0, 0, 0), (.bipush 24, 0, 0, 0, 24), (.iadd, 0, 0, 0, 0), (.iload 4, 0, 0, 0, 0), (.iadd, 0, 0, 0, 0), (.iaload, 35, 53, 0, 0), (.iastore, 17, 8, 0, 0)] [(0, vR 0), (1, vR 35), (3, vI a3), (4, vI s.1)] [] (wup w7 17 (Int32.toNatClampNeg s.1) (w7 35 (Int32.toNatClampNeg ((a3 + (24 : Int32)) + s.1)))) 100 (by decide +kernel) rfl rfl ?_
    refine sim_bw (C := fun w8 => (100, [(0, vR 0), (1, vR 35), (3, vI a3), (4, vI s.1)], [], w8)) (fun w8 => ?_)
    refine sim_blk0 hC [(.iinc 4 1, 0, 0, 0, 1)] [(0, vR 0), (1, vR 35), (3, vI a3), (4, vI (s.1 + 1))] [] w8 103 (by decide +kernel) rfl rfl ?_
    refine sim_bi (C := fun i9 => (103, [(0, vR 0), (1, vR 35), (3, vI a3), (4, vI i9)], [], w8)) (fun i9 => ?_)
    refine sim_goto hC (-71) 32 (by decide +kernel) (by decide) ?_
    exact sim_back (V := (V_M_unpack_35_32 a3)) ((i9, w8))
def V_M_unpack_35_112 (a3 : Int32) : (Int32 × Wld) → Cfg := fun s => (112, [(0, vR 0), (1, vR 35), (3, vI a3), (4, vI s.1)], [], s.2)
def E_M_unpack_35_112 (a3 : Int32) : (Wld) → Cfg := fun s => (154, [], [], s)
noncomputable def B_M_unpack_35_112 (a3 : Int32) (s : Int32 × Wld) : Option ((Int32 × Wld) ⊕ (Wld)) :=
  br ((9 : Int32) ≤ s.1) (some (.inr s.2)) (gd (vp_in (a3 + s.1) 53) (gd (vp_in s.1 9) (bw (wup s.2 18 (Int32.toNatClampNeg s.1) (s.2 35 (Int32.toNatClampNeg (a3 + s.1)))) (fun w12 => gd (vp_in ((a3 + (9 : Int32)) + s.1) 53) (gd (vp_in s.1 9) (bw (wup w12 19 (Int32.toNatClampNeg s.1) (w12 35 (Int32.toNatClampNeg ((a3 + (9 : Int32)) + s.1)))) (fun w13 => bi (s.1 + 1) (fun i14 => some (.inl ((i14, w13)))))))))))
set_option maxRecDepth 10000 in
theorem s_B_M_unpack_35_112 {Z : ZT} {l : Launch} {o : Oc} {wo : Wld} {Ok : Cfg → Prop} (hC : Clo Z l 10 5 prog_13_method_39_code none 1 0 o wo Ok) (a3 : Int32) (s : Int32 × Wld) : SimK Ok (V_M_unpack_35_112 a3 s) (B_M_unpack_35_112 a3 s) (GLp Ok (V_M_unpack_35_112 a3) (GEp Ok (E_M_unpack_35_112 a3))) := by
  unfold B_M_unpack_35_112
  show SimK Ok (112, [(0, vR 0), (1, vR 35), (3, vI a3), (4, vI s.1)], [], s.2) _ _
  refine sim_blk0 hC [(.iload 4, 0, 0, 0, 0), (.bipush 9, 0, 0, 0, 9)] [(0, vR 0), (1, vR 35), (3, vI a3), (4, vI s.1)] [vI 9, vI s.1] s.2 116 (by decide +kernel) rfl rfl ?_
  refine sim_br hC (.if_icmp .ge 38) 154 (by decide +kernel) rfl (by decide) ?_ ?_
  · refine sim_sub hC [] ?_
    exact sim_exit (E := (E_M_unpack_35_112 a3)) s.2
  · refine sim_blk2 hC [(.aload_n 0, 0, 0, 0, 0), (.getfield 89, 0, 28, 20, 0), (.iload 4, 0, 0, 0, 0), (.aload_n 1, 0, 0, 0, 0), (.iload_n 3, 0, 0, 0, 0), (.iload 4, 0, 0, 0, 0), (.iadd, 0, 0, 0, 0), (.iaload, 35, 53, 0, 0), (.iastore, 18, 9, 0, 0)] [(0, vR 0), (1, vR 35), (3, vI a3), (4, vI s.1)] [] (wup s.2 18 (Int32.toNatClampNeg s.1) (s.2 35 (Int32.toNatClampNeg (a3 + s.1)))) 132 (by decide +kernel) rfl rfl ?_
    refine sim_bw (C := fun w12 => (132, [(0, vR 0), (1, vR 35), (3, vI a3), (4, vI s.1)], [], w12)) (fun w12 => ?_)
    refine sim_blk2 hC [(.aload_n 0, 0, 0, 0, 0), (.getfield 92, 0, 29, 21, 0), (.iload 4, 0, 0, 0, 0), (.aload_n 1, 0, 0, 0, 0), (.iload_n 3, 0, 0, 0, 0), (.bipush 9, 0, 0, 0, 9), (.iadd, 0, 0, 0, 0), (.iload 4, 0, 0, 0, 0), (.iadd, 0, 0, 0, 0), (.iaload, 35, 53, 0, 0), (.iastore, 19, 9, 0, 0)] [(0, vR 0), (1, vR 35), (3, vI a3), (4, vI s.1)] [] (wup w12 19 (Int32.toNatClampNeg s.1) (w12 35 (Int32.toNatClampNeg ((a3 + (9 : Int32)) + s.1)))) 148 (by decide +kernel) rfl rfl ?_
    refine sim_bw (C := fun w13 => (148, [(0, vR 0), (1, vR 35), (3, vI a3), (4, vI s.1)], [], w13)) (fun w13 => ?_)
    refine sim_blk0 hC [(.iinc 4 1, 0, 0, 0, 1)] [(0, vR 0), (1, vR 35), (3, vI a3), (4, vI (s.1 + 1))] [] w13 151 (by decide +kernel) rfl rfl ?_
    refine sim_bi (C := fun i14 => (151, [(0, vR 0), (1, vR 35), (3, vI a3), (4, vI i14)], [], w13)) (fun i14 => ?_)
    refine sim_goto hC (-39) 112 (by decide +kernel) (by decide) ?_
    exact sim_back (V := (V_M_unpack_35_112 a3)) ((i14, w13))
noncomputable def F_M_unpack_35 (w : Wld) (a2 : Int32) : Option (Wld) :=
  gd (vp_in a2 53) (bw (wup w 0 31 (w 35 (Int32.toNatClampNeg a2))) (fun w1 => gd (vp_in (a2 + (1 : Int32)) 53) (bw (wup w1 0 32 (w1 35 (Int32.toNatClampNeg (a2 + (1 : Int32))))) (fun w2 => gd (vp_in (a2 + (2 : Int32)) 53) (bw (wup w2 0 33 (w2 35 (Int32.toNatClampNeg (a2 + (2 : Int32))))) (fun w3 => bi (a2 + (3 : Int32)) (fun i4 => bl (loop (B_M_unpack_35_32 i4) ((0, w3))) (fun r10 => bi (i4 + 32) (fun i11 => bl (loop (B_M_unpack_35_112 i11) ((0, r10))) (fun r15 => some r15))))))))))
set_option maxRecDepth 10000 in
theorem s_M_unpack_35 {Z : ZT} {l : Launch} {o : Oc} {wo : Wld} {Ok : Cfg → Prop} (hC : Clo Z l 10 5 prog_13_method_39_code none 1 0 o wo Ok) (w : Wld) (a2 : Int32) : SimK Ok (0, [(0, vR 0), (1, vR 35), (2, vI a2)], [], w) (F_M_unpack_35 w a2) (Gv o wo) := by
  unfold F_M_unpack_35
  refine sim_blk1 hC [(.aload_n 0, 0, 0, 0, 0), (.aload_n 1, 0, 0, 0, 0), (.iload_n 2, 0, 0, 0, 0), (.iaload, 35, 53, 0, 0), (.putfield 305, 0, 31, 0, 0)] [(0, vR 0), (1, vR 35), (2, vI a2)] [] (wup w 0 31 (w 35 (Int32.toNatClampNeg a2))) 7 (by decide +kernel) rfl rfl ?_
  refine sim_bw (C := fun w1 => (7, [(0, vR 0), (1, vR 35), (2, vI a2)], [], w1)) (fun w1 => ?_)
  refine sim_blk1 hC [(.aload_n 0, 0, 0, 0, 0), (.aload_n 1, 0, 0, 0, 0), (.iload_n 2, 0, 0, 0, 0), (.iconst 1, 0, 0, 0, 1), (.iadd, 0, 0, 0, 0), (.iaload, 35, 53, 0, 0), (.putfield 307, 0, 32, 0, 0)] [(0, vR 0), (1, vR 35), (2, vI a2)] [] (wup w1 0 32 (w1 35 (Int32.toNatClampNeg (a2 + (1 : Int32))))) 16 (by decide +kernel) rfl rfl ?_
  refine sim_bw (C := fun w2 => (16, [(0, vR 0), (1, vR 35), (2, vI a2)], [], w2)) (fun w2 => ?_)
  refine sim_blk1 hC [(.aload_n 0, 0, 0, 0, 0), (.aload_n 1, 0, 0, 0, 0), (.iload_n 2, 0, 0, 0, 0), (.iconst 2, 0, 0, 0, 2), (.iadd, 0, 0, 0, 0), (.iaload, 35, 53, 0, 0), (.putfield 309, 0, 33, 0, 0)] [(0, vR 0), (1, vR 35), (2, vI a2)] [] (wup w2 0 33 (w2 35 (Int32.toNatClampNeg (a2 + (2 : Int32))))) 25 (by decide +kernel) rfl rfl ?_
  refine sim_bw (C := fun w3 => (25, [(0, vR 0), (1, vR 35), (2, vI a2)], [], w3)) (fun w3 => ?_)
  refine sim_blk0 hC [(.iload_n 2, 0, 0, 0, 0), (.iconst 3, 0, 0, 0, 3), (.iadd, 0, 0, 0, 0), (.istore_n 3, 0, 0, 0, 0)] [(0, vR 0), (1, vR 35), (2, vI a2), (3, vI (a2 + (3 : Int32)))] [] w3 29 (by decide +kernel) rfl rfl ?_
  refine sim_bi (C := fun i4 => (29, [(0, vR 0), (1, vR 35), (2, vI a2), (3, vI i4)], [], w3)) (fun i4 => ?_)
  refine sim_blk0 hC [(.iconst 0, 0, 0, 0, 0), (.istore 4, 0, 0, 0, 0)] [(0, vR 0), (1, vR 35), (2, vI a2), (3, vI i4), (4, vI 0)] [] w3 32 (by decide +kernel) rfl rfl ?_
  refine sim_bl (E := (E_M_unpack_35_32 i4)) ?_ (fun r10 => ?_)
  · refine sim_sub hC [0, 1, 3, 4] ?_
    exact sim_loop (V := (V_M_unpack_35_32 i4)) (fun sz => s_B_M_unpack_35_32 hC i4 sz) ((0, w3))
  · show SimK Ok (106, [(0, vR 0), (1, vR 35), (3, vI i4)], [], r10) _ _
    refine sim_blk0 hC [(.iinc 3 32, 0, 0, 0, 32)] [(0, vR 0), (1, vR 35), (3, vI (i4 + 32))] [] r10 109 (by decide +kernel) rfl rfl ?_
    refine sim_bi (C := fun i11 => (109, [(0, vR 0), (1, vR 35), (3, vI i11)], [], r10)) (fun i11 => ?_)
    refine sim_blk0 hC [(.iconst 0, 0, 0, 0, 0), (.istore 4, 0, 0, 0, 0)] [(0, vR 0), (1, vR 35), (3, vI i11), (4, vI 0)] [] r10 112 (by decide +kernel) rfl rfl ?_
    refine sim_bl (E := (E_M_unpack_35_112 i11)) ?_ (fun r15 => ?_)
    · exact sim_loop (V := (V_M_unpack_35_112 i11)) (fun sz => s_B_M_unpack_35_112 hC i11 sz) ((0, r10))
    · show SimK Ok (154, [], [], r15) _ _
      exact sim_retv hC (by decide +kernel)
theorem c_M_unpack_35 {Z : ZT} {l : Launch} (w : Wld) (a2 : Int32) (w1 : Wld) (h : F_M_unpack_35 w a2 = some w1) : Con Z l mX11_unpack 1 0 [vR 0, vR 35, vI a2] w (.inr none) w1 :=
  Con_of (oc := 10) (by decide +kernel) rfl rfl (fun Ok hC => s_M_unpack_35 hC w a2 w1 h ⟨rfl, rfl⟩)
def V_M_copyTo_20_36_2 : (Int32 × Wld) → Cfg := fun s => (2, [(0, vR 20), (1, vR 36), (2, vI s.1)], [], s.2)
def E_M_copyTo_20_36_2 : (Wld) → Cfg := fun s => (20, [], [], s)
noncomputable def B_M_copyTo_20_36_2 (s : Int32 × Wld) : Option ((Int32 × Wld) ⊕ (Wld)) :=
  br ((2120 : Int32) ≤ s.1) (some (.inr s.2)) (gd (vp_in s.1 2120) (gd (vp_in s.1 2120) (bw (wup s.2 20 (Int32.toNatClampNeg s.1) (s.2 36 (Int32.toNatClampNeg s.1))) (fun w1 => bi (s.1 + 1) (fun i2 => some (.inl ((i2, w1))))))))
set_option maxRecDepth 10000 in
theorem s_B_M_copyTo_20_36_2 {Z : ZT} {l : Launch} {o : Oc} {wo : Wld} {Ok : Cfg → Prop} (hC : Clo Z l 10 3 prog_13_method_100_code none 1 0 o wo Ok) (s : Int32 × Wld) : SimK Ok (V_M_copyTo_20_36_2 s) (B_M_copyTo_20_36_2 s) (GLp Ok (V_M_copyTo_20_36_2) (GEp Ok (E_M_copyTo_20_36_2))) := by
  unfold B_M_copyTo_20_36_2
  show SimK Ok (2, [(0, vR 20), (1, vR 36), (2, vI s.1)], [], s.2) _ _
  refine sim_blk0 hC [(.iload_n 2, 0, 0, 0, 0), (.aload_n 0, 0, 0, 0, 0), (.arraylength, 20, 2120, 0, 2120)] [(0, vR 20), (1, vR 36), (2, vI s.1)] [vI 2120, vI s.1] s.2 5 (by decide +kernel) rfl rfl ?_
  refine sim_br hC (.if_icmp .ge 15) 20 (by decide +kernel) rfl (by decide) ?_ ?_
  · refine sim_sub hC [] ?_
    exact sim_exit (E := (E_M_copyTo_20_36_2)) s.2
  · refine sim_blk2 hC [(.aload_n 0, 0, 0, 0, 0), (.iload_n 2, 0, 0, 0, 0), (.aload_n 1, 0, 0, 0, 0), (.iload_n 2, 0, 0, 0, 0), (.iaload, 36, 2120, 0, 0), (.iastore, 20, 2120, 0, 0)] [(0, vR 20), (1, vR 36), (2, vI s.1)] [] (wup s.2 20 (Int32.toNatClampNeg s.1) (s.2 36 (Int32.toNatClampNeg s.1))) 14 (by decide +kernel) rfl rfl ?_
    refine sim_bw (C := fun w1 => (14, [(0, vR 20), (1, vR 36), (2, vI s.1)], [], w1)) (fun w1 => ?_)
    refine sim_blk0 hC [(.iinc 2 1, 0, 0, 0, 1)] [(0, vR 20), (1, vR 36), (2, vI (s.1 + 1))] [] w1 17 (by decide +kernel) rfl rfl ?_
    refine sim_bi (C := fun i2 => (17, [(0, vR 20), (1, vR 36), (2, vI i2)], [], w1)) (fun i2 => ?_)
    refine sim_goto hC (-15) 2 (by decide +kernel) (by decide) ?_
    exact sim_back (V := (V_M_copyTo_20_36_2)) ((i2, w1))
noncomputable def F_M_copyTo_20_36 (w : Wld) : Option (Wld) :=
  bl (loop (B_M_copyTo_20_36_2) ((0, w))) (fun r3 => some r3)
set_option maxRecDepth 10000 in
theorem s_M_copyTo_20_36 {Z : ZT} {l : Launch} {o : Oc} {wo : Wld} {Ok : Cfg → Prop} (hC : Clo Z l 10 3 prog_13_method_100_code none 1 0 o wo Ok) (w : Wld) : SimK Ok (0, [(0, vR 20), (1, vR 36)], [], w) (F_M_copyTo_20_36 w) (Gv o wo) := by
  unfold F_M_copyTo_20_36
  refine sim_blk0 hC [(.iconst 0, 0, 0, 0, 0), (.istore_n 2, 0, 0, 0, 0)] [(0, vR 20), (1, vR 36), (2, vI 0)] [] w 2 (by decide +kernel) rfl rfl ?_
  refine sim_bl (E := (E_M_copyTo_20_36_2)) ?_ (fun r3 => ?_)
  · exact sim_loop (V := (V_M_copyTo_20_36_2)) (fun sz => s_B_M_copyTo_20_36_2 hC sz) ((0, w))
  · show SimK Ok (20, [], [], r3) _ _
    exact sim_retv hC (by decide +kernel)
theorem c_M_copyTo_20_36 {Z : ZT} {l : Launch} (w : Wld) (w1 : Wld) (h : F_M_copyTo_20_36 w = some w1) : Con Z l mX11_copyTo 1 0 [vR 20, vR 36] w (.inr none) w1 :=
  Con_of (oc := 10) (by decide +kernel) rfl rfl (fun Ok hC => s_M_copyTo_20_36 hC w w1 h ⟨rfl, rfl⟩)
def V_M_copyTo_28_37_2 : (Int32 × Wld) → Cfg := fun s => (2, [(0, vR 28), (1, vR 37), (2, vI s.1)], [], s.2)
def E_M_copyTo_28_37_2 : (Wld) → Cfg := fun s => (20, [], [], s)
noncomputable def B_M_copyTo_28_37_2 (s : Int32 × Wld) : Option ((Int32 × Wld) ⊕ (Wld)) :=
  br ((8 : Int32) ≤ s.1) (some (.inr s.2)) (gd (vp_in s.1 8) (gd (vp_in s.1 8) (bw (wup s.2 28 (Int32.toNatClampNeg s.1) (s.2 37 (Int32.toNatClampNeg s.1))) (fun w1 => bi (s.1 + 1) (fun i2 => some (.inl ((i2, w1))))))))
set_option maxRecDepth 10000 in
theorem s_B_M_copyTo_28_37_2 {Z : ZT} {l : Launch} {o : Oc} {wo : Wld} {Ok : Cfg → Prop} (hC : Clo Z l 10 3 prog_13_method_100_code none 1 0 o wo Ok) (s : Int32 × Wld) : SimK Ok (V_M_copyTo_28_37_2 s) (B_M_copyTo_28_37_2 s) (GLp Ok (V_M_copyTo_28_37_2) (GEp Ok (E_M_copyTo_28_37_2))) := by
  unfold B_M_copyTo_28_37_2
  show SimK Ok (2, [(0, vR 28), (1, vR 37), (2, vI s.1)], [], s.2) _ _
  refine sim_blk0 hC [(.iload_n 2, 0, 0, 0, 0), (.aload_n 0, 0, 0, 0, 0), (.arraylength, 28, 8, 0, 8)] [(0, vR 28), (1, vR 37), (2, vI s.1)] [vI 8, vI s.1] s.2 5 (by decide +kernel) rfl rfl ?_
  refine sim_br hC (.if_icmp .ge 15) 20 (by decide +kernel) rfl (by decide) ?_ ?_
  · refine sim_sub hC [] ?_
    exact sim_exit (E := (E_M_copyTo_28_37_2)) s.2
  · refine sim_blk2 hC [(.aload_n 0, 0, 0, 0, 0), (.iload_n 2, 0, 0, 0, 0), (.aload_n 1, 0, 0, 0, 0), (.iload_n 2, 0, 0, 0, 0), (.iaload, 37, 8, 0, 0), (.iastore, 28, 8, 0, 0)] [(0, vR 28), (1, vR 37), (2, vI s.1)] [] (wup s.2 28 (Int32.toNatClampNeg s.1) (s.2 37 (Int32.toNatClampNeg s.1))) 14 (by decide +kernel) rfl rfl ?_
    refine sim_bw (C := fun w1 => (14, [(0, vR 28), (1, vR 37), (2, vI s.1)], [], w1)) (fun w1 => ?_)
    refine sim_blk0 hC [(.iinc 2 1, 0, 0, 0, 1)] [(0, vR 28), (1, vR 37), (2, vI (s.1 + 1))] [] w1 17 (by decide +kernel) rfl rfl ?_
    refine sim_bi (C := fun i2 => (17, [(0, vR 28), (1, vR 37), (2, vI i2)], [], w1)) (fun i2 => ?_)
    refine sim_goto hC (-15) 2 (by decide +kernel) (by decide) ?_
    exact sim_back (V := (V_M_copyTo_28_37_2)) ((i2, w1))
noncomputable def F_M_copyTo_28_37 (w : Wld) : Option (Wld) :=
  bl (loop (B_M_copyTo_28_37_2) ((0, w))) (fun r3 => some r3)
set_option maxRecDepth 10000 in
theorem s_M_copyTo_28_37 {Z : ZT} {l : Launch} {o : Oc} {wo : Wld} {Ok : Cfg → Prop} (hC : Clo Z l 10 3 prog_13_method_100_code none 1 0 o wo Ok) (w : Wld) : SimK Ok (0, [(0, vR 28), (1, vR 37)], [], w) (F_M_copyTo_28_37 w) (Gv o wo) := by
  unfold F_M_copyTo_28_37
  refine sim_blk0 hC [(.iconst 0, 0, 0, 0, 0), (.istore_n 2, 0, 0, 0, 0)] [(0, vR 28), (1, vR 37), (2, vI 0)] [] w 2 (by decide +kernel) rfl rfl ?_
  refine sim_bl (E := (E_M_copyTo_28_37_2)) ?_ (fun r3 => ?_)
  · exact sim_loop (V := (V_M_copyTo_28_37_2)) (fun sz => s_B_M_copyTo_28_37_2 hC sz) ((0, w))
  · show SimK Ok (20, [], [], r3) _ _
    exact sim_retv hC (by decide +kernel)
theorem c_M_copyTo_28_37 {Z : ZT} {l : Launch} (w : Wld) (w1 : Wld) (h : F_M_copyTo_28_37 w = some w1) : Con Z l mX11_copyTo 1 0 [vR 28, vR 37] w (.inr none) w1 :=
  Con_of (oc := 10) (by decide +kernel) rfl rfl (fun Ok hC => s_M_copyTo_28_37 hC w w1 h ⟨rfl, rfl⟩)
def V_M_copyTo_29_38_2 : (Int32 × Wld) → Cfg := fun s => (2, [(0, vR 29), (1, vR 38), (2, vI s.1)], [], s.2)
def E_M_copyTo_29_38_2 : (Wld) → Cfg := fun s => (20, [], [], s)
noncomputable def B_M_copyTo_29_38_2 (s : Int32 × Wld) : Option ((Int32 × Wld) ⊕ (Wld)) :=
  br ((8 : Int32) ≤ s.1) (some (.inr s.2)) (gd (vp_in s.1 8) (gd (vp_in s.1 8) (bw (wup s.2 29 (Int32.toNatClampNeg s.1) (s.2 38 (Int32.toNatClampNeg s.1))) (fun w1 => bi (s.1 + 1) (fun i2 => some (.inl ((i2, w1))))))))
set_option maxRecDepth 10000 in
theorem s_B_M_copyTo_29_38_2 {Z : ZT} {l : Launch} {o : Oc} {wo : Wld} {Ok : Cfg → Prop} (hC : Clo Z l 10 3 prog_13_method_100_code none 1 0 o wo Ok) (s : Int32 × Wld) : SimK Ok (V_M_copyTo_29_38_2 s) (B_M_copyTo_29_38_2 s) (GLp Ok (V_M_copyTo_29_38_2) (GEp Ok (E_M_copyTo_29_38_2))) := by
  unfold B_M_copyTo_29_38_2
  show SimK Ok (2, [(0, vR 29), (1, vR 38), (2, vI s.1)], [], s.2) _ _
  refine sim_blk0 hC [(.iload_n 2, 0, 0, 0, 0), (.aload_n 0, 0, 0, 0, 0), (.arraylength, 29, 8, 0, 8)] [(0, vR 29), (1, vR 38), (2, vI s.1)] [vI 8, vI s.1] s.2 5 (by decide +kernel) rfl rfl ?_
  refine sim_br hC (.if_icmp .ge 15) 20 (by decide +kernel) rfl (by decide) ?_ ?_
  · refine sim_sub hC [] ?_
    exact sim_exit (E := (E_M_copyTo_29_38_2)) s.2
  · refine sim_blk2 hC [(.aload_n 0, 0, 0, 0, 0), (.iload_n 2, 0, 0, 0, 0), (.aload_n 1, 0, 0, 0, 0), (.iload_n 2, 0, 0, 0, 0), (.iaload, 38, 8, 0, 0), (.iastore, 29, 8, 0, 0)] [(0, vR 29), (1, vR 38), (2, vI s.1)] [] (wup s.2 29 (Int32.toNatClampNeg s.1) (s.2 38 (Int32.toNatClampNeg s.1))) 14 (by decide +kernel) rfl rfl ?_
    refine sim_bw (C := fun w1 => (14, [(0, vR 29), (1, vR 38), (2, vI s.1)], [], w1)) (fun w1 => ?_)
    refine sim_blk0 hC [(.iinc 2 1, 0, 0, 0, 1)] [(0, vR 29), (1, vR 38), (2, vI (s.1 + 1))] [] w1 17 (by decide +kernel) rfl rfl ?_
    refine sim_bi (C := fun i2 => (17, [(0, vR 29), (1, vR 38), (2, vI i2)], [], w1)) (fun i2 => ?_)
    refine sim_goto hC (-15) 2 (by decide +kernel) (by decide) ?_
    exact sim_back (V := (V_M_copyTo_29_38_2)) ((i2, w1))
noncomputable def F_M_copyTo_29_38 (w : Wld) : Option (Wld) :=
  bl (loop (B_M_copyTo_29_38_2) ((0, w))) (fun r3 => some r3)
set_option maxRecDepth 10000 in
theorem s_M_copyTo_29_38 {Z : ZT} {l : Launch} {o : Oc} {wo : Wld} {Ok : Cfg → Prop} (hC : Clo Z l 10 3 prog_13_method_100_code none 1 0 o wo Ok) (w : Wld) : SimK Ok (0, [(0, vR 29), (1, vR 38)], [], w) (F_M_copyTo_29_38 w) (Gv o wo) := by
  unfold F_M_copyTo_29_38
  refine sim_blk0 hC [(.iconst 0, 0, 0, 0, 0), (.istore_n 2, 0, 0, 0, 0)] [(0, vR 29), (1, vR 38), (2, vI 0)] [] w 2 (by decide +kernel) rfl rfl ?_
  refine sim_bl (E := (E_M_copyTo_29_38_2)) ?_ (fun r3 => ?_)
  · exact sim_loop (V := (V_M_copyTo_29_38_2)) (fun sz => s_B_M_copyTo_29_38_2 hC sz) ((0, w))
  · show SimK Ok (20, [], [], r3) _ _
    exact sim_retv hC (by decide +kernel)
theorem c_M_copyTo_29_38 {Z : ZT} {l : Launch} (w : Wld) (w1 : Wld) (h : F_M_copyTo_29_38 w = some w1) : Con Z l mX11_copyTo 1 0 [vR 29, vR 38] w (.inr none) w1 :=
  Con_of (oc := 10) (by decide +kernel) rfl rfl (fun Ok hC => s_M_copyTo_29_38 hC w w1 h ⟨rfl, rfl⟩)
def V_M_copyTo_12_39_2 : (Int32 × Wld) → Cfg := fun s => (2, [(0, vR 12), (1, vR 39), (2, vI s.1)], [], s.2)
def E_M_copyTo_12_39_2 : (Wld) → Cfg := fun s => (20, [], [], s)
noncomputable def B_M_copyTo_12_39_2 (s : Int32 × Wld) : Option ((Int32 × Wld) ⊕ (Wld)) :=
  br ((3 : Int32) ≤ s.1) (some (.inr s.2)) (gd (vp_in s.1 3) (gd (vp_in s.1 3) (bw (wup s.2 12 (Int32.toNatClampNeg s.1) (s.2 39 (Int32.toNatClampNeg s.1))) (fun w1 => bi (s.1 + 1) (fun i2 => some (.inl ((i2, w1))))))))
set_option maxRecDepth 10000 in
theorem s_B_M_copyTo_12_39_2 {Z : ZT} {l : Launch} {o : Oc} {wo : Wld} {Ok : Cfg → Prop} (hC : Clo Z l 10 3 prog_13_method_100_code none 1 0 o wo Ok) (s : Int32 × Wld) : SimK Ok (V_M_copyTo_12_39_2 s) (B_M_copyTo_12_39_2 s) (GLp Ok (V_M_copyTo_12_39_2) (GEp Ok (E_M_copyTo_12_39_2))) := by
  unfold B_M_copyTo_12_39_2
  show SimK Ok (2, [(0, vR 12), (1, vR 39), (2, vI s.1)], [], s.2) _ _
  refine sim_blk0 hC [(.iload_n 2, 0, 0, 0, 0), (.aload_n 0, 0, 0, 0, 0), (.arraylength, 12, 3, 0, 3)] [(0, vR 12), (1, vR 39), (2, vI s.1)] [vI 3, vI s.1] s.2 5 (by decide +kernel) rfl rfl ?_
  refine sim_br hC (.if_icmp .ge 15) 20 (by decide +kernel) rfl (by decide) ?_ ?_
  · refine sim_sub hC [] ?_
    exact sim_exit (E := (E_M_copyTo_12_39_2)) s.2
  · refine sim_blk2 hC [(.aload_n 0, 0, 0, 0, 0), (.iload_n 2, 0, 0, 0, 0), (.aload_n 1, 0, 0, 0, 0), (.iload_n 2, 0, 0, 0, 0), (.iaload, 39, 3, 0, 0), (.iastore, 12, 3, 0, 0)] [(0, vR 12), (1, vR 39), (2, vI s.1)] [] (wup s.2 12 (Int32.toNatClampNeg s.1) (s.2 39 (Int32.toNatClampNeg s.1))) 14 (by decide +kernel) rfl rfl ?_
    refine sim_bw (C := fun w1 => (14, [(0, vR 12), (1, vR 39), (2, vI s.1)], [], w1)) (fun w1 => ?_)
    refine sim_blk0 hC [(.iinc 2 1, 0, 0, 0, 1)] [(0, vR 12), (1, vR 39), (2, vI (s.1 + 1))] [] w1 17 (by decide +kernel) rfl rfl ?_
    refine sim_bi (C := fun i2 => (17, [(0, vR 12), (1, vR 39), (2, vI i2)], [], w1)) (fun i2 => ?_)
    refine sim_goto hC (-15) 2 (by decide +kernel) (by decide) ?_
    exact sim_back (V := (V_M_copyTo_12_39_2)) ((i2, w1))
noncomputable def F_M_copyTo_12_39 (w : Wld) : Option (Wld) :=
  bl (loop (B_M_copyTo_12_39_2) ((0, w))) (fun r3 => some r3)
set_option maxRecDepth 10000 in
theorem s_M_copyTo_12_39 {Z : ZT} {l : Launch} {o : Oc} {wo : Wld} {Ok : Cfg → Prop} (hC : Clo Z l 10 3 prog_13_method_100_code none 1 0 o wo Ok) (w : Wld) : SimK Ok (0, [(0, vR 12), (1, vR 39)], [], w) (F_M_copyTo_12_39 w) (Gv o wo) := by
  unfold F_M_copyTo_12_39
  refine sim_blk0 hC [(.iconst 0, 0, 0, 0, 0), (.istore_n 2, 0, 0, 0, 0)] [(0, vR 12), (1, vR 39), (2, vI 0)] [] w 2 (by decide +kernel) rfl rfl ?_
  refine sim_bl (E := (E_M_copyTo_12_39_2)) ?_ (fun r3 => ?_)
  · exact sim_loop (V := (V_M_copyTo_12_39_2)) (fun sz => s_B_M_copyTo_12_39_2 hC sz) ((0, w))
  · show SimK Ok (20, [], [], r3) _ _
    exact sim_retv hC (by decide +kernel)
theorem c_M_copyTo_12_39 {Z : ZT} {l : Launch} (w : Wld) (w1 : Wld) (h : F_M_copyTo_12_39 w = some w1) : Con Z l mX11_copyTo 1 0 [vR 12, vR 39] w (.inr none) w1 :=
  Con_of (oc := 10) (by decide +kernel) rfl rfl (fun Ok hC => s_M_copyTo_12_39 hC w w1 h ⟨rfl, rfl⟩)
def V_M_restore_74 : (Int32 × Wld) → Cfg := fun s => (74, [(0, vR 0), (1, vI s.1)], [], s.2)
def E_M_restore_74 : (Wld) → Cfg := fun s => (98, [(0, vR 0)], [], s)
noncomputable def B_M_restore_74 (s : Int32 × Wld) : Option ((Int32 × Wld) ⊕ (Wld)) :=
  br ((8 : Int32) ≤ s.1) (some (.inr s.2)) (gd (vp_in s.1 8) (gd (vp_in s.1 8) (bw (wup s.2 31 (Int32.toNatClampNeg s.1) (vp_nar .boolean (s.2 40 (Int32.toNatClampNeg s.1)))) (fun w8 => bi (s.1 + 1) (fun i9 => some (.inl ((i9, w8))))))))
set_option maxRecDepth 10000 in
theorem s_B_M_restore_74 {Z : ZT} {l : Launch} {o : Oc} {wo : Wld} {Ok : Cfg → Prop} (hC : Clo Z l 10 2 prog_13_method_102_code (some .boolean) 2 24 o wo Ok) (s : Int32 × Wld) : SimK Ok (V_M_restore_74 s) (B_M_restore_74 s) (GLp Ok (V_M_restore_74) (GEp Ok (E_M_restore_74))) := by
  unfold B_M_restore_74
  show SimK Ok (74, [(0, vR 0), (1, vI s.1)], [], s.2) _ _
  refine sim_blk0 hC [(.iload_n 1, 0, 0, 0, 0), (.bipush 8, 0, 0, 0, 8)] [(0, vR 0), (1, vI s.1)] [vI 8, vI s.1] s.2 77 (by decide +kernel) rfl rfl ?_
  refine sim_br hC (.if_icmp .ge 21) 98 (by decide +kernel) rfl (by decide) ?_ ?_
  · refine sim_sub hC [0] ?_
    exact sim_exit (E := (E_M_restore_74)) s.2
  · refine sim_blk2 hC [(.aload_n 0, 0, 0, 0, 0), (.getfield 128, 0, 49, 33, 0), (.iload_n 1, 0, 0, 0, 0), (.aload_n 0, 0, 0, 0, 0), (.getfield 156, 0, 63, 42, 0), (.iload_n 1, 0, 0, 0, 0), (.baload, 40, 8, 2, 0), (.bastore, 31, 8, 2, 0)] [(0, vR 0), (1, vI s.1)] [] (wup s.2 31 (Int32.toNatClampNeg s.1) (vp_nar .boolean (s.2 40 (Int32.toNatClampNeg s.1)))) 92 (by decide +kernel) rfl rfl ?_
    refine sim_bw (C := fun w8 => (92, [(0, vR 0), (1, vI s.1)], [], w8)) (fun w8 => ?_)
    refine sim_blk0 hC [(.iinc 1 1, 0, 0, 0, 1)] [(0, vR 0), (1, vI (s.1 + 1))] [] w8 95 (by decide +kernel) rfl rfl ?_
    refine sim_bi (C := fun i9 => (95, [(0, vR 0), (1, vI i9)], [], w8)) (fun i9 => ?_)
    refine sim_goto hC (-21) 74 (by decide +kernel) (by decide) ?_
    exact sim_back (V := (V_M_restore_74)) ((i9, w8))
noncomputable def F_M_restore (w : Wld) : Option (Int32 × Wld) :=
  bw (wup w 0 2 0) (fun w1 => br (¬ (w1 0 55) = 0) (bw (wup w1 0 34 (w1 0 56)) (fun w2 => bw (wup w2 0 35 (w2 0 57)) (fun w3 => bv (F_M_unpack_35 w3 0) (fun w4 => bv (F_M_copyTo_20_36 w4) (fun w5 => bv (F_M_copyTo_28_37 w5) (fun w6 => bv (F_M_copyTo_29_38 w6) (fun w7 => bl (loop (B_M_restore_74) ((0, w7))) (fun r10 => bv (F_M_copyTo_12_39 r10) (fun w11 => some ((1, w11))))))))))) (some ((0, w1))))
set_option maxRecDepth 10000 in
theorem s_M_restore {Z : ZT} {l : Launch} {o : Oc} {wo : Wld} {Ok : Cfg → Prop} (hC : Clo Z l 10 2 prog_13_method_102_code (some .boolean) 2 24 o wo Ok) (w : Wld) : SimK Ok (0, [(0, vR 0)], [], w) (F_M_restore w) (Gi o wo) := by
  unfold F_M_restore
  refine sim_blk0 hC [(.aload_n 0, 0, 0, 0, 0), (.iconst 0, 0, 0, 0, 0), (.putfield 159, 0, 2, 0, 0)] [(0, vR 0)] [] (wup w 0 2 0) 5 (by decide +kernel) rfl rfl ?_
  refine sim_bw (C := fun w1 => (5, [(0, vR 0)], [], w1)) (fun w1 => ?_)
  refine sim_blk0 hC [(.aload_n 0, 0, 0, 0, 0), (.getfield 318, 0, 55, 0, 0)] [(0, vR 0)] [vI (w1 0 55)] w1 9 (by decide +kernel) rfl rfl ?_
  refine sim_br hC (.ifCond .ne 5) 14 (by decide +kernel) rfl (by decide) ?_ ?_
  · refine sim_blk0 hC [(.aload_n 0, 0, 0, 0, 0), (.aload_n 0, 0, 0, 0, 0), (.getfield 459, 0, 56, 0, 0), (.putfield 312, 0, 34, 0, 0)] [(0, vR 0)] [] (wup w1 0 34 (w1 0 56)) 22 (by decide +kernel) rfl rfl ?_
    refine sim_bw (C := fun w2 => (22, [(0, vR 0)], [], w2)) (fun w2 => ?_)
    refine sim_blk0 hC [(.aload_n 0, 0, 0, 0, 0), (.aload_n 0, 0, 0, 0, 0), (.getfield 462, 0, 57, 0, 0), (.putfield 315, 0, 35, 0, 0)] [(0, vR 0)] [] (wup w2 0 35 (w2 0 57)) 30 (by decide +kernel) rfl rfl ?_
    refine sim_bw (C := fun w3 => (30, [(0, vR 0)], [], w3)) (fun w3 => ?_)
    refine sim_blk0 hC [(.aload_n 0, 0, 0, 0, 0), (.aload_n 0, 0, 0, 0, 0), (.getfield 141, 0, 58, 37, 0), (.iconst 0, 0, 0, 0, 0)] [(0, vR 0)] [vI 0, vR 35, vR 0] w3 36 (by decide +kernel) rfl rfl ?_
    refine sim_vv hC 401 mX11_unpack 1 0 0 [vR 35, vI 0] [] (by decide +kernel) ml_10_401 rfl rfl rfl rfl rfl rfl (fun wz hz => c_M_unpack_35 w3 0 wz hz) (fun w4 => ?_)
    refine sim_blk0 hC [(.aload_n 0, 0, 0, 0, 0), (.getfield 95, 0, 30, 22, 0), (.aload_n 0, 0, 0, 0, 0), (.getfield 144, 0, 59, 38, 0)] [(0, vR 0)] [vR 36, vR 20] w4 47 (by decide +kernel) rfl rfl ?_
    refine sim_sv hC 465 mX11_copyTo 1 0 [vR 20, vR 36] [] (by decide +kernel) ml_10_465 rfl rfl rfl rfl rfl (fun wz hz => c_M_copyTo_20_36 w4 wz hz) (fun w5 => ?_)
    refine sim_blk0 hC [(.aload_n 0, 0, 0, 0, 0), (.getfield 119, 0, 46, 30, 0), (.aload_n 0, 0, 0, 0, 0), (.getfield 147, 0, 60, 39, 0)] [(0, vR 0)] [vR 37, vR 28] w5 58 (by decide +kernel) rfl rfl ?_
    refine sim_sv hC 465 mX11_copyTo 1 0 [vR 28, vR 37] [] (by decide +kernel) ml_10_465 rfl rfl rfl rfl rfl (fun wz hz => c_M_copyTo_28_37 w5 wz hz) (fun w6 => ?_)
    refine sim_blk0 hC [(.aload_n 0, 0, 0, 0, 0), (.getfield 122, 0, 47, 31, 0), (.aload_n 0, 0, 0, 0, 0), (.getfield 150, 0, 61, 40, 0)] [(0, vR 0)] [vR 38, vR 29] w6 69 (by decide +kernel) rfl rfl ?_
    refine sim_sv hC 465 mX11_copyTo 1 0 [vR 29, vR 38] [] (by decide +kernel) ml_10_465 rfl rfl rfl rfl rfl (fun wz hz => c_M_copyTo_29_38 w6 wz hz) (fun w7 => ?_)
    refine sim_blk0 hC [(.iconst 0, 0, 0, 0, 0), (.istore_n 1, 0, 0, 0, 0)] [(0, vR 0), (1, vI 0)] [] w7 74 (by decide +kernel) rfl rfl ?_
    refine sim_bl (E := (E_M_restore_74)) ?_ (fun r10 => ?_)
    · exact sim_loop (V := (V_M_restore_74)) (fun sz => s_B_M_restore_74 hC sz) ((0, w7))
    · show SimK Ok (98, [(0, vR 0)], [], r10) _ _
      refine sim_blk0 hC [(.aload_n 0, 0, 0, 0, 0), (.getfield 68, 0, 12, 14, 0), (.aload_n 0, 0, 0, 0, 0), (.getfield 153, 0, 62, 41, 0)] [(0, vR 0)] [vR 39, vR 12] r10 106 (by decide +kernel) rfl rfl ?_
      refine sim_sv hC 465 mX11_copyTo 1 0 [vR 12, vR 39] [] (by decide +kernel) ml_10_465 rfl rfl rfl rfl rfl (fun wz hz => c_M_copyTo_12_39 r10 wz hz) (fun w11 => ?_)
      refine sim_blk0 hC [(.iconst 1, 0, 0, 0, 1)] [(0, vR 0)] [vI 1] w11 110 (by decide +kernel) rfl rfl ?_
      exact sim_reti hC (by decide +kernel) (Or.inr rfl)
  · refine sim_blk0 hC [(.iconst 0, 0, 0, 0, 0)] [(0, vR 0)] [vI 0] w1 13 (by decide +kernel) rfl rfl ?_
    exact sim_reti hC (by decide +kernel) (Or.inl rfl)
theorem c_M_restore {Z : ZT} {l : Launch} (w : Wld) (r : Int32) (w1 : Wld) (h : F_M_restore w = some (r, w1)) : Con Z l mX11_restore 2 24 [vR 0] w (.inr (some r)) w1 :=
  Con_of (oc := 10) (by decide +kernel) rfl rfl (fun Ok hC => s_M_restore hC w (r, w1) h ⟨rfl, rfl⟩)
