def V_M_psalm_25 (a1 : Int32) : (Int32 × Wld) → Cfg := fun s => (25, [(0, vR 0), (1, vI a1), (2, vI s.1)], [], s.2)
def E_M_psalm_25 (a1 : Int32) : (Wld) → Cfg := fun s => (44, [(0, vR 0), (1, vI a1)], [], s)
noncomputable def B_M_psalm_25 (a1 : Int32) (s : Int32 × Wld) : Option ((Int32 × Wld) ⊕ (Wld)) :=
  br ((99 : Int32) < s.1) (some (.inr s.2)) (gd (vp_in s.1 100) (bw (wup s.2 25 (Int32.toNatClampNeg s.1) 0) (fun w3 => bi (s.1 + 1) (fun i4 => some (.inl ((i4, w3)))))))
set_option maxRecDepth 10000 in
theorem s_B_M_psalm_25 {Z : ZT} {l : Launch} {o : Oc} {wo : Wld} {Ok : Cfg → Prop} (hC : Clo Z l 10 4 prog_13_method_74_code (some .int) 6 111 o wo Ok) (a1 : Int32) (s : Int32 × Wld) : SimK Ok (V_M_psalm_25 a1 s) (B_M_psalm_25 a1 s) (GLp Ok (V_M_psalm_25 a1) (GEp Ok (E_M_psalm_25 a1))) := by
  unfold B_M_psalm_25
  show SimK Ok (25, [(0, vR 0), (1, vI a1), (2, vI s.1)], [], s.2) _ _
  refine sim_blk0 hC [(.iload_n 2, 0, 0, 0, 0), (.bipush 99, 0, 0, 0, 99)] [(0, vR 0), (1, vI a1), (2, vI s.1)] [vI 99, vI s.1] s.2 28 (by decide +kernel) rfl rfl ?_
  refine sim_br hC (.if_icmp .gt 16) 44 (by decide +kernel) rfl (by decide) ?_ ?_
  · refine sim_sub hC [0, 1] ?_
    exact sim_exit (E := (E_M_psalm_25 a1)) s.2
  · refine sim_blk1 hC [(.aload_n 0, 0, 0, 0, 0), (.getfield 110, 0, 43, 27, 0), (.iload_n 2, 0, 0, 0, 0), (.iconst 0, 0, 0, 0, 0), (.iastore, 25, 100, 0, 0)] [(0, vR 0), (1, vI a1), (2, vI s.1)] [] (wup s.2 25 (Int32.toNatClampNeg s.1) 0) 38 (by decide +kernel) rfl rfl ?_
    refine sim_bw (C := fun w3 => (38, [(0, vR 0), (1, vI a1), (2, vI s.1)], [], w3)) (fun w3 => ?_)
    refine sim_blk0 hC [(.iinc 2 1, 0, 0, 0, 1)] [(0, vR 0), (1, vI a1), (2, vI (s.1 + 1))] [] w3 41 (by decide +kernel) rfl rfl ?_
    refine sim_bi (C := fun i4 => (41, [(0, vR 0), (1, vI a1), (2, vI i4)], [], w3)) (fun i4 => ?_)
    refine sim_goto hC (-16) 25 (by decide +kernel) (by decide) ?_
    exact sim_back (V := (V_M_psalm_25 a1)) ((i4, w3))
def V_M_psalm_55 (a1 : Int32) : (Int32 × Wld) → Cfg := fun s => (55, [(0, vR 0), (1, vI a1), (2, vI s.1)], [], s.2)
def E_M_psalm_55 (a1 : Int32) : (Wld) → Cfg := fun s => (99, [(0, vR 0)], [], s)
def V_M_psalm_66 (a1 : Int32) (a2 : Int32) : (Int32 × Wld) → Cfg := fun s => (66, [(0, vR 0), (1, vI a1), (2, vI a2), (3, vI s.1)], [], s.2)
def E_M_psalm_66 (a1 : Int32) (a2 : Int32) : (Wld) → Cfg := fun s => (93, [(0, vR 0), (1, vI a1), (2, vI a2)], [], s)
noncomputable def B_M_psalm_66 (a1 : Int32) (a2 : Int32) (s : Int32 × Wld) : Option ((Int32 × Wld) ⊕ (Wld)) :=
  br ((99 : Int32) < s.1) (some (.inr s.2)) (gd (vp_in s.1 100) (gd (vp_in s.1 100) (gd (vp_in s.1 100) (bw (wup s.2 25 (Int32.toNatClampNeg s.1) ((s.2 25 (Int32.toNatClampNeg s.1)) + (s.2 23 (Int32.toNatClampNeg s.1)))) (fun w8 => bi (s.1 + 1) (fun i9 => some (.inl ((i9, w8)))))))))
set_option maxRecDepth 10000 in
theorem s_B_M_psalm_66 {Z : ZT} {l : Launch} {o : Oc} {wo : Wld} {Ok : Cfg → Prop} (hC : Clo Z l 10 4 prog_13_method_74_code (some .int) 6 111 o wo Ok) (a1 : Int32) (a2 : Int32) (s : Int32 × Wld) : SimK Ok (V_M_psalm_66 a1 a2 s) (B_M_psalm_66 a1 a2 s) (GLp Ok (V_M_psalm_66 a1 a2) (GEp Ok (E_M_psalm_66 a1 a2))) := by
  unfold B_M_psalm_66
  show SimK Ok (66, [(0, vR 0), (1, vI a1), (2, vI a2), (3, vI s.1)], [], s.2) _ _
  refine sim_blk0 hC [(.iload_n 3, 0, 0, 0, 0), (.bipush 99, 0, 0, 0, 99)] [(0, vR 0), (1, vI a1), (2, vI a2), (3, vI s.1)] [vI 99, vI s.1] s.2 69 (by decide +kernel) rfl rfl ?_
  refine sim_br hC (.if_icmp .gt 24) 93 (by decide +kernel) rfl (by decide) ?_ ?_
  · refine sim_sub hC [0, 1, 2] ?_
    exact sim_exit (E := (E_M_psalm_66 a1 a2)) s.2
  · refine sim_blk3 hC [(.aload_n 0, 0, 0, 0, 0), (.getfield 110, 0, 43, 27, 0), (.iload_n 3, 0, 0, 0, 0), (.dup2, 0, 0, 0, 0), (.iaload, 25, 100, 0, 0), (.aload_n 0, 0, 0, 0, 0), (.getfield 104, 0, 41, 25, 0), (.iload_n 3, 0, 0, 0, 0), (.iaload, 23, 100, 0, 0), (.iadd, 0, 0, 0, 0), (.iastore, 25, 100, 0, 0)] [(0, vR 0), (1, vI a1), (2, vI a2), (3, vI s.1)] [] (wup s.2 25 (Int32.toNatClampNeg s.1) ((s.2 25 (Int32.toNatClampNeg s.1)) + (s.2 23 (Int32.toNatClampNeg s.1)))) 87 (by decide +kernel) rfl rfl ?_
    refine sim_bw (C := fun w8 => (87, [(0, vR 0), (1, vI a1), (2, vI a2), (3, vI s.1)], [], w8)) (fun w8 => ?_)
    refine sim_blk0 hC [(.iinc 3 1, 0, 0, 0, 1)] [(0, vR 0), (1, vI a1), (2, vI a2), (3, vI (s.1 + 1))] [] w8 90 (by decide +kernel) rfl rfl ?_
    refine sim_bi (C := fun i9 => (90, [(0, vR 0), (1, vI a1), (2, vI a2), (3, vI i9)], [], w8)) (fun i9 => ?_)
    refine sim_goto hC (-24) 66 (by decide +kernel) (by decide) ?_
    exact sim_back (V := (V_M_psalm_66 a1 a2)) ((i9, w8))
noncomputable def B_M_psalm_55 (a1 : Int32) (s : Int32 × Wld) : Option ((Int32 × Wld) ⊕ (Wld)) :=
  br (a1 ≤ s.1) (some (.inr s.2)) (bv (F_M_aNight s.2) (fun w7 => bl (loop (B_M_psalm_66 a1 s.1) ((0, w7))) (fun r10 => bi (s.1 + 1) (fun i11 => some (.inl ((i11, r10)))))))
set_option maxRecDepth 10000 in
theorem s_B_M_psalm_55 {Z : ZT} {l : Launch} {o : Oc} {wo : Wld} {Ok : Cfg → Prop} (hC : Clo Z l 10 4 prog_13_method_74_code (some .int) 6 111 o wo Ok) (a1 : Int32) (s : Int32 × Wld) : SimK Ok (V_M_psalm_55 a1 s) (B_M_psalm_55 a1 s) (GLp Ok (V_M_psalm_55 a1) (GEp Ok (E_M_psalm_55 a1))) := by
  unfold B_M_psalm_55
  show SimK Ok (55, [(0, vR 0), (1, vI a1), (2, vI s.1)], [], s.2) _ _
  refine sim_blk0 hC [(.iload_n 2, 0, 0, 0, 0), (.iload_n 1, 0, 0, 0, 0)] [(0, vR 0), (1, vI a1), (2, vI s.1)] [vI a1, vI s.1] s.2 57 (by decide +kernel) rfl rfl ?_
  refine sim_br hC (.if_icmp .ge 42) 99 (by decide +kernel) rfl (by decide) ?_ ?_
  · refine sim_sub hC [0] ?_
    exact sim_exit (E := (E_M_psalm_55 a1)) s.2
  · refine sim_blk0 hC [(.aload_n 0, 0, 0, 0, 0)] [(0, vR 0), (1, vI a1), (2, vI s.1)] [vR 0] s.2 61 (by decide +kernel) rfl rfl ?_
    refine sim_vv hC 362 mX11_aNight 5 88 0 [] [] (by decide +kernel) ml_10_362 rfl rfl rfl rfl rfl rfl (fun wz hz => c_M_aNight s.2 wz hz) (fun w7 => ?_)
    refine sim_blk0 hC [(.iconst 0, 0, 0, 0, 0), (.istore_n 3, 0, 0, 0, 0)] [(0, vR 0), (1, vI a1), (2, vI s.1), (3, vI 0)] [] w7 66 (by decide +kernel) rfl rfl ?_
    refine sim_bl (E := (E_M_psalm_66 a1 s.1)) ?_ (fun r10 => ?_)
    · exact sim_loop (V := (V_M_psalm_66 a1 s.1)) (fun sz => s_B_M_psalm_66 hC a1 s.1 sz) ((0, w7))
    · show SimK Ok (93, [(0, vR 0), (1, vI a1), (2, vI s.1)], [], r10) _ _
      refine sim_blk0 hC [(.iinc 2 1, 0, 0, 0, 1)] [(0, vR 0), (1, vI a1), (2, vI (s.1 + 1))] [] r10 96 (by decide +kernel) rfl rfl ?_
      refine sim_bi (C := fun i11 => (96, [(0, vR 0), (1, vI a1), (2, vI i11)], [], r10)) (fun i11 => ?_)
      refine sim_goto hC (-41) 55 (by decide +kernel) (by decide) ?_
      exact sim_back (V := (V_M_psalm_55 a1)) ((i11, r10))
def V_M_psalm_113 (w : Wld) : (Int32 × Int32) → Cfg := fun s => (113, [(0, vR 0), (2, vI s.1), (3, vI s.2)], [], w)
def E_M_psalm_113 (w : Wld) : (Int32) → Cfg := fun s => (154, [(2, vI s)], [], w)
noncomputable def K_M_psalm_148 (a2 : Int32) (a3 : Int32) (w : Wld) : Option ((Int32 × Int32) ⊕ (Int32)) :=
  bi (a3 + (-1)) (fun i14 => some (.inl ((a2, i14))))
set_option maxRecDepth 10000 in
theorem s_K_M_psalm_148 {Z : ZT} {l : Launch} {o : Oc} {wo : Wld} {Ok : Cfg → Prop} (hC : Clo Z l 10 4 prog_13_method_74_code (some .int) 6 111 o wo Ok) (a2 : Int32) (a3 : Int32) (w : Wld) : SimK Ok (148, [(0, vR 0), (2, vI a2), (3, vI a3)], [], w) (K_M_psalm_148 a2 a3 w) (GLp Ok (V_M_psalm_113 w) (GEp Ok (E_M_psalm_113 w))) := by
  unfold K_M_psalm_148
  refine sim_blk0 hC [(.iinc 3 (-1), 0, 0, 0, (-1))] [(0, vR 0), (2, vI a2), (3, vI (a3 + (-1)))] [] w 151 (by decide +kernel) rfl rfl ?_
  refine sim_bi (C := fun i14 => (151, [(0, vR 0), (2, vI a2), (3, vI i14)], [], w)) (fun i14 => ?_)
  refine sim_goto hC (-38) 113 (by decide +kernel) (by decide) ?_
  exact sim_back (V := (V_M_psalm_113 w)) ((a2, i14))
noncomputable def K_M_psalm_146 (a3 : Int32) (w : Wld) : Option ((Int32 × Int32) ⊕ (Int32)) :=
  K_M_psalm_148 a3 a3 w
set_option maxRecDepth 10000 in
theorem s_K_M_psalm_146 {Z : ZT} {l : Launch} {o : Oc} {wo : Wld} {Ok : Cfg → Prop} (hC : Clo Z l 10 4 prog_13_method_74_code (some .int) 6 111 o wo Ok) (a3 : Int32) (w : Wld) : SimK Ok (146, [(0, vR 0), (3, vI a3)], [], w) (K_M_psalm_146 a3 w) (GLp Ok (V_M_psalm_113 w) (GEp Ok (E_M_psalm_113 w))) := by
  unfold K_M_psalm_146
  refine sim_blk0 hC [(.iload_n 3, 0, 0, 0, 0), (.istore_n 2, 0, 0, 0, 0)] [(0, vR 0), (2, vI a3), (3, vI a3)] [] w 148 (by decide +kernel) rfl rfl ?_
  exact s_K_M_psalm_148 hC a3 a3 w
noncomputable def B_M_psalm_113 (w : Wld) (s : Int32 × Int32) : Option ((Int32 × Int32) ⊕ (Int32)) :=
  br (s.2 < 0) (some (.inr s.1)) (gd (vp_in s.2 100) (br ((w 25 (Int32.toNatClampNeg s.2)) ≤ 0) (K_M_psalm_148 s.1 s.2 w) (br (s.1 = (-1)) (K_M_psalm_146 s.2 w) (gd (vp_in s.2 100) (gd (vp_in s.1 100) (br ((w 25 (Int32.toNatClampNeg s.2)) < (w 25 (Int32.toNatClampNeg s.1))) (K_M_psalm_148 s.1 s.2 w) (K_M_psalm_146 s.2 w)))))))
set_option maxRecDepth 10000 in
theorem s_B_M_psalm_113 {Z : ZT} {l : Launch} {o : Oc} {wo : Wld} {Ok : Cfg → Prop} (hC : Clo Z l 10 4 prog_13_method_74_code (some .int) 6 111 o wo Ok) (w : Wld) (s : Int32 × Int32) : SimK Ok (V_M_psalm_113 w s) (B_M_psalm_113 w s) (GLp Ok (V_M_psalm_113 w) (GEp Ok (E_M_psalm_113 w))) := by
  unfold B_M_psalm_113
  show SimK Ok (113, [(0, vR 0), (2, vI s.1), (3, vI s.2)], [], w) _ _
  refine sim_blk0 hC [(.iload_n 3, 0, 0, 0, 0)] [(0, vR 0), (2, vI s.1), (3, vI s.2)] [vI s.2] w 114 (by decide +kernel) rfl rfl ?_
  refine sim_br hC (.ifCond .lt 40) 154 (by decide +kernel) rfl (by decide) ?_ ?_
  · refine sim_sub hC [1] ?_
    exact sim_exit (E := (E_M_psalm_113 w)) s.1
  · refine sim_blk1 hC [(.aload_n 0, 0, 0, 0, 0), (.getfield 110, 0, 43, 27, 0), (.iload_n 3, 0, 0, 0, 0), (.iaload, 25, 100, 0, 0)] [(0, vR 0), (2, vI s.1), (3, vI s.2)] [vI (w 25 (Int32.toNatClampNeg s.2))] w 123 (by decide +kernel) rfl rfl ?_
    refine sim_br hC (.ifCond .le 25) 148 (by decide +kernel) rfl (by decide) ?_ ?_
    · exact s_K_M_psalm_148 hC s.1 s.2 w
    · refine sim_blk0 hC [(.iload_n 2, 0, 0, 0, 0), (.iconst (-1), 0, 0, 0, (-1))] [(0, vR 0), (2, vI s.1), (3, vI s.2)] [vI (-1), vI s.1] w 128 (by decide +kernel) rfl rfl ?_
      refine sim_br hC (.if_icmp .eq 18) 146 (by decide +kernel) rfl (by decide) ?_ ?_
      · refine sim_sub hC [0, 2] ?_
        exact s_K_M_psalm_146 hC s.2 w
      · refine sim_blk2 hC [(.aload_n 0, 0, 0, 0, 0), (.getfield 110, 0, 43, 27, 0), (.iload_n 3, 0, 0, 0, 0), (.iaload, 25, 100, 0, 0), (.aload_n 0, 0, 0, 0, 0), (.getfield 110, 0, 43, 27, 0), (.iload_n 2, 0, 0, 0, 0), (.iaload, 25, 100, 0, 0)] [(0, vR 0), (2, vI s.1), (3, vI s.2)] [vI (w 25 (Int32.toNatClampNeg s.1)), vI (w 25 (Int32.toNatClampNeg s.2))] w 143 (by decide +kernel) rfl rfl ?_
        refine sim_br hC (.if_icmp .lt 5) 148 (by decide +kernel) rfl (by decide) ?_ ?_
        · exact s_K_M_psalm_148 hC s.1 s.2 w
        · refine sim_sub hC [0, 2] ?_
          exact s_K_M_psalm_146 hC s.2 w
noncomputable def F_M_psalm (w : Wld) (a1 : Int32) : Option (Int32 × Wld) :=
  bw (wup w 0 2 0) (fun w1 => bp (F_M_isIn w1 (Int32.toInt64 a1) (Int32.toInt64 0) (Int32.toInt64 60)) (fun i2 => br (¬ i2 = 0) (bl (loop (B_M_psalm_25 a1) ((0, w1))) (fun r5 => bv (F_M_pack_24 r5 0) (fun w6 => bl (loop (B_M_psalm_55 a1) ((0, w6))) (fun r12 => bv (F_M_unpack_24 r12 0) (fun w13 => bl (loop (B_M_psalm_113 w13) (((-1), 99))) (fun r15 => some ((r15, w13)))))))) (bd (F_M_fail w1 1) (fun i16 w17 => some ((i16, w17))))))
set_option maxRecDepth 10000 in
theorem s_M_psalm {Z : ZT} {l : Launch} {o : Oc} {wo : Wld} {Ok : Cfg → Prop} (hC : Clo Z l 10 4 prog_13_method_74_code (some .int) 6 111 o wo Ok) (w : Wld) (a1 : Int32) : SimK Ok (0, [(0, vR 0), (1, vI a1)], [], w) (F_M_psalm w a1) (Gi o wo) := by
  unfold F_M_psalm
  refine sim_blk0 hC [(.aload_n 0, 0, 0, 0, 0), (.iconst 0, 0, 0, 0, 0), (.putfield 159, 0, 2, 0, 0)] [(0, vR 0), (1, vI a1)] [] (wup w 0 2 0) 5 (by decide +kernel) rfl rfl ?_
  refine sim_bw (C := fun w1 => (5, [(0, vR 0), (1, vI a1)], [], w1)) (fun w1 => ?_)
  refine sim_blk0 hC [(.iload_n 1, 0, 0, 0, 0), (.i2l, 0, 0, 0, 0), (.lconst 0, 0, 0, 0, 0), (.ldc2_w 406, 0, 0, 0, 60)] [(0, vR 0), (1, vI a1)] [vL (Int32.toInt64 60), vL (Int32.toInt64 0), vL (Int32.toInt64 a1)] w1 11 (by decide +kernel) rfl rfl ?_
  refine sim_sp hC 162 mX11_isIn 1 0 [vL (Int32.toInt64 a1), vL (Int32.toInt64 0), vL (Int32.toInt64 60)] [] (by decide +kernel) ml_10_162 rfl rfl rfl rfl rfl (fun rz hz => c_M_isIn w1 (Int32.toInt64 a1) (Int32.toInt64 0) (Int32.toInt64 60) rz hz) (fun i2 => ?_)
  refine sim_br hC (.ifCond .ne 9) 23 (by decide +kernel) rfl (by decide) ?_ ?_
  · refine sim_blk0 hC [(.iconst 0, 0, 0, 0, 0), (.istore_n 2, 0, 0, 0, 0)] [(0, vR 0), (1, vI a1), (2, vI 0)] [] w1 25 (by decide +kernel) rfl rfl ?_
    refine sim_bl (E := (E_M_psalm_25 a1)) ?_ (fun r5 => ?_)
    · exact sim_loop (V := (V_M_psalm_25 a1)) (fun sz => s_B_M_psalm_25 hC a1 sz) ((0, w1))
    · show SimK Ok (44, [(0, vR 0), (1, vI a1)], [], r5) _ _
      refine sim_blk0 hC [(.aload_n 0, 0, 0, 0, 0), (.aload_n 0, 0, 0, 0, 0), (.getfield 107, 0, 42, 26, 0), (.iconst 0, 0, 0, 0, 0)] [(0, vR 0), (1, vI a1)] [vI 0, vR 24, vR 0] r5 50 (by decide +kernel) rfl rfl ?_
      refine sim_vv hC 379 mX11_pack 1 0 0 [vR 24, vI 0] [] (by decide +kernel) ml_10_379 rfl rfl rfl rfl rfl rfl (fun wz hz => c_M_pack_24 r5 0 wz hz) (fun w6 => ?_)
      refine sim_blk0 hC [(.iconst 0, 0, 0, 0, 0), (.istore_n 2, 0, 0, 0, 0)] [(0, vR 0), (1, vI a1), (2, vI 0)] [] w6 55 (by decide +kernel) rfl rfl ?_
      refine sim_bl (E := (E_M_psalm_55 a1)) ?_ (fun r12 => ?_)
      · exact sim_loop (V := (V_M_psalm_55 a1)) (fun sz => s_B_M_psalm_55 hC a1 sz) ((0, w6))
      · show SimK Ok (99, [(0, vR 0)], [], r12) _ _
        refine sim_blk0 hC [(.aload_n 0, 0, 0, 0, 0), (.aload_n 0, 0, 0, 0, 0), (.getfield 107, 0, 42, 26, 0), (.iconst 0, 0, 0, 0, 0)] [(0, vR 0)] [vI 0, vR 24, vR 0] r12 105 (by decide +kernel) rfl rfl ?_
        refine sim_vv hC 401 mX11_unpack 1 0 0 [vR 24, vI 0] [] (by decide +kernel) ml_10_401 rfl rfl rfl rfl rfl rfl (fun wz hz => c_M_unpack_24 r12 0 wz hz) (fun w13 => ?_)
        refine sim_blk0 hC [(.iconst (-1), 0, 0, 0, (-1)), (.istore_n 2, 0, 0, 0, 0), (.bipush 99, 0, 0, 0, 99), (.istore_n 3, 0, 0, 0, 0)] [(0, vR 0), (2, vI (-1)), (3, vI 99)] [] w13 113 (by decide +kernel) rfl rfl ?_
        refine sim_bl (E := (E_M_psalm_113 w13)) ?_ (fun r15 => ?_)
        · exact sim_loop (V := (V_M_psalm_113 w13)) (fun sz => s_B_M_psalm_113 hC w13 sz) (((-1), 99))
        · show SimK Ok (154, [(2, vI r15)], [], w13) _ _
          refine sim_blk0 hC [(.iload_n 2, 0, 0, 0, 0)] [(2, vI r15)] [vI r15] w13 155 (by decide +kernel) rfl rfl ?_
          exact sim_reti hC (by decide +kernel) trivial
  · refine sim_blk0 hC [(.aload_n 0, 0, 0, 0, 0), (.iconst 1, 0, 0, 0, 1)] [(0, vR 0), (1, vI a1)] [vI 1, vR 0] w1 19 (by decide +kernel) rfl rfl ?_
    refine sim_vd hC 292 mX11_fail 1 0 0 [vI 1] [] (by decide +kernel) ml_10_292 rfl rfl rfl rfl rfl rfl (fun rz wz hz => c_M_fail w1 1 rz wz hz) (fun i16 w17 => ?_)
    exact sim_reti hC (by decide +kernel) trivial
theorem c_M_psalm {Z : ZT} {l : Launch} (w : Wld) (a1 : Int32) (r : Int32) (w1 : Wld) (h : F_M_psalm w a1 = some (r, w1)) : Con Z l mX11_psalm 6 111 [vR 0, vI a1] w (.inr (some r)) w1 :=
  Con_of (oc := 10) (by decide +kernel) rfl rfl (fun Ok hC => s_M_psalm hC w a1 (r, w1) h ⟨rfl, rfl⟩)
def V_M_silent_18 : (Int32 × Int32 × Wld) → Cfg := fun s => (18, [(0, vR 0), (1, vI s.1), (2, vI s.2.1)], [], s.2.2)
def E_M_silent_18 : (Int32 × Wld) → Cfg := fun s => (48, [(0, vR 0), (1, vI s.1)], [], s.2)
noncomputable def K_M_silent_42 (a1 : Int32) (a2 : Int32) (w : Wld) : Option ((Int32 × Int32 × Wld) ⊕ (Int32 × Wld)) :=
  bi (a2 + 1) (fun i4 => some (.inl ((a1, i4, w))))
set_option maxRecDepth 10000 in
theorem s_K_M_silent_42 {Z : ZT} {l : Launch} {o : Oc} {wo : Wld} {Ok : Cfg → Prop} (hC : Clo Z l 10 3 prog_13_method_75_code (some .int) 6 111 o wo Ok) (a1 : Int32) (a2 : Int32) (w : Wld) : SimK Ok (42, [(0, vR 0), (1, vI a1), (2, vI a2)], [], w) (K_M_silent_42 a1 a2 w) (GLp Ok (V_M_silent_18) (GEp Ok (E_M_silent_18))) := by
  unfold K_M_silent_42
  refine sim_blk0 hC [(.iinc 2 1, 0, 0, 0, 1)] [(0, vR 0), (1, vI a1), (2, vI (a2 + 1))] [] w 45 (by decide +kernel) rfl rfl ?_
  refine sim_bi (C := fun i4 => (45, [(0, vR 0), (1, vI a1), (2, vI i4)], [], w)) (fun i4 => ?_)
  refine sim_goto hC (-27) 18 (by decide +kernel) (by decide) ?_
  exact sim_back (V := (V_M_silent_18)) ((a1, i4, w))
noncomputable def B_M_silent_18 (s : Int32 × Int32 × Wld) : Option ((Int32 × Int32 × Wld) ⊕ (Int32 × Wld)) :=
  br ((60 : Int32) < s.2.1) (some (.inr ((s.1, s.2.2)))) (br (¬ s.1 = (-1)) (some (.inr ((s.1, s.2.2)))) (bv (F_M_aNight s.2.2) (fun w3 => br (¬ (w3 0 32) = 0) (K_M_silent_42 s.1 s.2.1 w3) (K_M_silent_42 s.2.1 s.2.1 w3))))
set_option maxRecDepth 10000 in
theorem s_B_M_silent_18 {Z : ZT} {l : Launch} {o : Oc} {wo : Wld} {Ok : Cfg → Prop} (hC : Clo Z l 10 3 prog_13_method_75_code (some .int) 6 111 o wo Ok) (s : Int32 × Int32 × Wld) : SimK Ok (V_M_silent_18 s) (B_M_silent_18 s) (GLp Ok (V_M_silent_18) (GEp Ok (E_M_silent_18))) := by
  unfold B_M_silent_18
  show SimK Ok (18, [(0, vR 0), (1, vI s.1), (2, vI s.2.1)], [], s.2.2) _ _
  refine sim_blk0 hC [(.iload_n 2, 0, 0, 0, 0), (.bipush 60, 0, 0, 0, 60)] [(0, vR 0), (1, vI s.1), (2, vI s.2.1)] [vI 60, vI s.2.1] s.2.2 21 (by decide +kernel) rfl rfl ?_
  refine sim_br hC (.if_icmp .gt 27) 48 (by decide +kernel) rfl (by decide) ?_ ?_
  · refine sim_sub hC [0, 1] ?_
    exact sim_exit (E := (E_M_silent_18)) ((s.1, s.2.2))
  · refine sim_blk0 hC [(.iload_n 1, 0, 0, 0, 0), (.iconst (-1), 0, 0, 0, (-1))] [(0, vR 0), (1, vI s.1), (2, vI s.2.1)] [vI (-1), vI s.1] s.2.2 26 (by decide +kernel) rfl rfl ?_
    refine sim_br hC (.if_icmp .ne 22) 48 (by decide +kernel) rfl (by decide) ?_ ?_
    · refine sim_sub hC [0, 1] ?_
      exact sim_exit (E := (E_M_silent_18)) ((s.1, s.2.2))
    · refine sim_blk0 hC [(.aload_n 0, 0, 0, 0, 0)] [(0, vR 0), (1, vI s.1), (2, vI s.2.1)] [vR 0] s.2.2 30 (by decide +kernel) rfl rfl ?_
      refine sim_vv hC 362 mX11_aNight 5 88 0 [] [] (by decide +kernel) ml_10_362 rfl rfl rfl rfl rfl rfl (fun wz hz => c_M_aNight s.2.2 wz hz) (fun w3 => ?_)
      refine sim_blk0 hC [(.aload_n 0, 0, 0, 0, 0), (.getfield 307, 0, 32, 0, 0)] [(0, vR 0), (1, vI s.1), (2, vI s.2.1)] [vI (w3 0 32)] w3 37 (by decide +kernel) rfl rfl ?_
      refine sim_br hC (.ifCond .ne 5) 42 (by decide +kernel) rfl (by decide) ?_ ?_
      · exact s_K_M_silent_42 hC s.1 s.2.1 w3
      · refine sim_blk0 hC [(.iload_n 2, 0, 0, 0, 0), (.istore_n 1, 0, 0, 0, 0)] [(0, vR 0), (1, vI s.2.1), (2, vI s.2.1)] [] w3 42 (by decide +kernel) rfl rfl ?_
        exact s_K_M_silent_42 hC s.2.1 s.2.1 w3
noncomputable def F_M_silent (w : Wld) : Option (Int32 × Wld) :=
  bw (wup w 0 2 0) (fun w1 => bv (F_M_pack_24 w1 0) (fun w2 => bl (loop (B_M_silent_18) (((-1), 1, w2))) (fun r5 => bv (F_M_unpack_24 r5.2 0) (fun w6 => some ((r5.1, w6))))))
set_option maxRecDepth 10000 in
theorem s_M_silent {Z : ZT} {l : Launch} {o : Oc} {wo : Wld} {Ok : Cfg → Prop} (hC : Clo Z l 10 3 prog_13_method_75_code (some .int) 6 111 o wo Ok) (w : Wld) : SimK Ok (0, [(0, vR 0)], [], w) (F_M_silent w) (Gi o wo) := by
  unfold F_M_silent
  refine sim_blk0 hC [(.aload_n 0, 0, 0, 0, 0), (.iconst 0, 0, 0, 0, 0), (.putfield 159, 0, 2, 0, 0)] [(0, vR 0)] [] (wup w 0 2 0) 5 (by decide +kernel) rfl rfl ?_
  refine sim_bw (C := fun w1 => (5, [(0, vR 0)], [], w1)) (fun w1 => ?_)
  refine sim_blk0 hC [(.aload_n 0, 0, 0, 0, 0), (.aload_n 0, 0, 0, 0, 0), (.getfield 107, 0, 42, 26, 0), (.iconst 0, 0, 0, 0, 0)] [(0, vR 0)] [vI 0, vR 24, vR 0] w1 11 (by decide +kernel) rfl rfl ?_
  refine sim_vv hC 379 mX11_pack 1 0 0 [vR 24, vI 0] [] (by decide +kernel) ml_10_379 rfl rfl rfl rfl rfl rfl (fun wz hz => c_M_pack_24 w1 0 wz hz) (fun w2 => ?_)
  refine sim_blk0 hC [(.iconst (-1), 0, 0, 0, (-1)), (.istore_n 1, 0, 0, 0, 0), (.iconst 1, 0, 0, 0, 1), (.istore_n 2, 0, 0, 0, 0)] [(0, vR 0), (1, vI (-1)), (2, vI 1)] [] w2 18 (by decide +kernel) rfl rfl ?_
  refine sim_bl (E := (E_M_silent_18)) ?_ (fun r5 => ?_)
  · exact sim_loop (V := (V_M_silent_18)) (fun sz => s_B_M_silent_18 hC sz) (((-1), 1, w2))
  · show SimK Ok (48, [(0, vR 0), (1, vI r5.1)], [], r5.2) _ _
    refine sim_blk0 hC [(.aload_n 0, 0, 0, 0, 0), (.aload_n 0, 0, 0, 0, 0), (.getfield 107, 0, 42, 26, 0), (.iconst 0, 0, 0, 0, 0)] [(0, vR 0), (1, vI r5.1)] [vI 0, vR 24, vR 0] r5.2 54 (by decide +kernel) rfl rfl ?_
    refine sim_vv hC 401 mX11_unpack 1 0 0 [vR 24, vI 0] [] (by decide +kernel) ml_10_401 rfl rfl rfl rfl rfl rfl (fun wz hz => c_M_unpack_24 r5.2 0 wz hz) (fun w6 => ?_)
    refine sim_blk0 hC [(.iload_n 1, 0, 0, 0, 0)] [(0, vR 0), (1, vI r5.1)] [vI r5.1] w6 58 (by decide +kernel) rfl rfl ?_
    exact sim_reti hC (by decide +kernel) trivial
theorem c_M_silent {Z : ZT} {l : Launch} (w : Wld) (r : Int32) (w1 : Wld) (h : F_M_silent w = some (r, w1)) : Con Z l mX11_silent 6 111 [vR 0] w (.inr (some r)) w1 :=
  Con_of (oc := 10) (by decide +kernel) rfl rfl (fun Ok hC => s_M_silent hC w (r, w1) h ⟨rfl, rfl⟩)
noncomputable def K_M_by_19 (t0 : Int32) (w : Wld) : Option (Int32) :=
  some t0
set_option maxRecDepth 10000 in
theorem s_K_M_by_19 {Z : ZT} {l : Launch} {o : Oc} {wo : Wld} {Ok : Cfg → Prop} (hC : Clo Z l 10 3 prog_13_method_76_code (some .int) 1 0 o wo Ok) (t0 : Int32) (w : Wld) : SimK Ok (19, [], [vI t0], w) (K_M_by_19 t0 w) (Gp o wo w) := by
  unfold K_M_by_19
  exact sim_retp hC (by decide +kernel) trivial
noncomputable def F_M_by (w : Wld) (a1 : Int32) (a2 : Int32) : Option (Int32) :=
  br (a2 = 0) (gd (vp_in a1 9) (K_M_by_19 (w 18 (Int32.toNatClampNeg a1)) w)) (gd (vp_in a1 9) (K_M_by_19 (w 19 (Int32.toNatClampNeg a1)) w))
set_option maxRecDepth 10000 in
theorem s_M_by {Z : ZT} {l : Launch} {o : Oc} {wo : Wld} {Ok : Cfg → Prop} (hC : Clo Z l 10 3 prog_13_method_76_code (some .int) 1 0 o wo Ok) (w : Wld) (a1 : Int32) (a2 : Int32) : SimK Ok (0, [(0, vR 0), (1, vI a1), (2, vI a2)], [], w) (F_M_by w a1 a2) (Gp o wo w) := by
  unfold F_M_by
  refine sim_blk0 hC [(.iload_n 2, 0, 0, 0, 0)] [(0, vR 0), (1, vI a1), (2, vI a2)] [vI a2] w 1 (by decide +kernel) rfl rfl ?_
  refine sim_br hC (.ifCond .eq 12) 13 (by decide +kernel) rfl (by decide) ?_ ?_
  · refine sim_blk1 hC [(.aload_n 0, 0, 0, 0, 0), (.getfield 89, 0, 28, 20, 0), (.iload_n 1, 0, 0, 0, 0), (.iaload, 18, 9, 0, 0)] [(0, vR 0), (1, vI a1), (2, vI a2)] [vI (w 18 (Int32.toNatClampNeg a1))] w 19 (by decide +kernel) rfl rfl ?_
    refine sim_sub hC [] ?_
    exact s_K_M_by_19 hC (w 18 (Int32.toNatClampNeg a1)) w
  · refine sim_blk1 hC [(.aload_n 0, 0, 0, 0, 0), (.getfield 92, 0, 29, 21, 0), (.iload_n 1, 0, 0, 0, 0), (.iaload, 19, 9, 0, 0)] [(0, vR 0), (1, vI a1), (2, vI a2)] [vI (w 19 (Int32.toNatClampNeg a1))] w 10 (by decide +kernel) rfl rfl ?_
    refine sim_goto hC 9 19 (by decide +kernel) (by decide) ?_
    refine sim_sub hC [] ?_
    exact s_K_M_by_19 hC (w 19 (Int32.toNatClampNeg a1)) w
theorem c_M_by {Z : ZT} {l : Launch} (w : Wld) (a1 : Int32) (a2 : Int32) (r : Int32) (h : F_M_by w a1 a2 = some r) : Con Z l mX11_by 1 0 [vR 0, vI a1, vI a2] w (.inr (some r)) w :=
  Con_of (oc := 10) (by decide +kernel) rfl rfl (fun Ok hC => s_M_by hC w a1 a2 r h ⟨rfl, rfl⟩)
noncomputable def K_M_ring_22 (w : Wld) : Option (Int32 × Wld) :=
  bd (F_M_fail w 1) (fun i3 w4 => some ((i3, w4)))
set_option maxRecDepth 10000 in
theorem s_K_M_ring_22 {Z : ZT} {l : Launch} {o : Oc} {wo : Wld} {Ok : Cfg → Prop} (hC : Clo Z l 10 8 prog_13_method_77_code (some .int) 3 46 o wo Ok) (w : Wld) : SimK Ok (22, [(0, vR 0)], [], w) (K_M_ring_22 w) (Gi o wo) := by
  unfold K_M_ring_22
  refine sim_blk0 hC [(.aload_n 0, 0, 0, 0, 0), (.iconst 1, 0, 0, 0, 1)] [(0, vR 0)] [vI 1, vR 0] w 24 (by decide +kernel) rfl rfl ?_
  refine sim_vd hC 292 mX11_fail 1 0 0 [vI 1] [] (by decide +kernel) ml_10_292 rfl rfl rfl rfl rfl rfl (fun rz wz hz => c_M_fail w 1 rz wz hz) (fun i3 w4 => ?_)
  exact sim_reti hC (by decide +kernel) trivial
def V_M_ring_34 (a1 : Int32) (a2 : Int32) (a3 : Int32) (w : Wld) : (Int32 × Int32) → Cfg := fun s => (34, [(0, vR 0), (1, vI a1), (2, vI a2), (3, vI a3), (4, vI s.1), (5, vI s.2)], [], w)
def E_M_ring_34 (a1 : Int32) (a2 : Int32) (a3 : Int32) (w : Wld) : (Int32) → Cfg := fun s => (56, [(0, vR 0), (1, vI a1), (2, vI a2), (3, vI a3), (4, vI s)], [], w)
noncomputable def B_M_ring_34 (a1 : Int32) (a2 : Int32) (a3 : Int32) (w : Wld) (s : Int32 × Int32) : Option ((Int32 × Int32) ⊕ (Int32)) :=
  br ((9 : Int32) ≤ s.2) (some (.inr s.1)) (bp (F_M_by w s.1 a2) (fun i5 => bi (s.2 + 1) (fun i6 => some (.inl ((i5, i6))))))
set_option maxRecDepth 10000 in
theorem s_B_M_ring_34 {Z : ZT} {l : Launch} {o : Oc} {wo : Wld} {Ok : Cfg → Prop} (hC : Clo Z l 10 8 prog_13_method_77_code (some .int) 3 46 o wo Ok) (a1 : Int32) (a2 : Int32) (a3 : Int32) (w : Wld) (s : Int32 × Int32) : SimK Ok (V_M_ring_34 a1 a2 a3 w s) (B_M_ring_34 a1 a2 a3 w s) (GLp Ok (V_M_ring_34 a1 a2 a3 w) (GEp Ok (E_M_ring_34 a1 a2 a3 w))) := by
  unfold B_M_ring_34
  show SimK Ok (34, [(0, vR 0), (1, vI a1), (2, vI a2), (3, vI a3), (4, vI s.1), (5, vI s.2)], [], w) _ _
  refine sim_blk0 hC [(.iload 5, 0, 0, 0, 0), (.bipush 9, 0, 0, 0, 9)] [(0, vR 0), (1, vI a1), (2, vI a2), (3, vI a3), (4, vI s.1), (5, vI s.2)] [vI 9, vI s.2] w 38 (by decide +kernel) rfl rfl ?_
  refine sim_br hC (.if_icmp .ge 18) 56 (by decide +kernel) rfl (by decide) ?_ ?_
  · refine sim_sub hC [0, 1, 2, 3, 4] ?_
    exact sim_exit (E := (E_M_ring_34 a1 a2 a3 w)) s.1
  · refine sim_blk0 hC [(.aload_n 0, 0, 0, 0, 0), (.iload 4, 0, 0, 0, 0), (.iload_n 2, 0, 0, 0, 0)] [(0, vR 0), (1, vI a1), (2, vI a2), (3, vI a3), (4, vI s.1), (5, vI s.2)] [vI a2, vI s.1, vR 0] w 45 (by decide +kernel) rfl rfl ?_
    refine sim_vp hC 411 mX11_by 1 0 0 [vI s.1, vI a2] [] (by decide +kernel) ml_10_411 rfl rfl rfl rfl rfl rfl (fun rz hz => c_M_by w s.1 a2 rz hz) (fun i5 => ?_)
    refine sim_blk0 hC [(.istore 4, 0, 0, 0, 0), (.iinc 5 1, 0, 0, 0, 1)] [(0, vR 0), (1, vI a1), (2, vI a2), (3, vI a3), (4, vI i5), (5, vI (s.2 + 1))] [] w 53 (by decide +kernel) rfl rfl ?_
    refine sim_bi (C := fun i6 => (53, [(0, vR 0), (1, vI a1), (2, vI a2), (3, vI a3), (4, vI i5), (5, vI i6)], [], w)) (fun i6 => ?_)
    refine sim_goto hC (-19) 34 (by decide +kernel) (by decide) ?_
    exact sim_back (V := (V_M_ring_34 a1 a2 a3 w)) ((i5, i6))
def V_M_ring_59 (a1 : Int32) (a2 : Int32) (a3 : Int32) (w : Wld) : (Int32 × Int32) → Cfg := fun s => (59, [(0, vR 0), (1, vI a1), (2, vI a2), (3, vI a3), (4, vI s.1), (5, vI s.2)], [], w)
def E_M_ring_59 (a1 : Int32) (a2 : Int32) (a3 : Int32) (w : Wld) : (Int32) → Cfg := fun s => (90, [(0, vR 0), (1, vI a1), (2, vI a2), (3, vI a3), (5, vI s)], [], w)
noncomputable def B_M_ring_59 (a1 : Int32) (a2 : Int32) (a3 : Int32) (w : Wld) (s : Int32 × Int32) : Option ((Int32 × Int32) ⊕ (Int32)) :=
  bp (F_M_isOf w s.2 s.1) (fun i8 => br (¬ i8 = 0) (some (.inr s.2)) (bi (s.2 ||| ((1 : Int32) <<< (s.1 &&& 31))) (fun i9 => bp (F_M_by w s.1 a2) (fun i10 => some (.inl ((i10, i9)))))))
set_option maxRecDepth 10000 in
theorem s_B_M_ring_59 {Z : ZT} {l : Launch} {o : Oc} {wo : Wld} {Ok : Cfg → Prop} (hC : Clo Z l 10 8 prog_13_method_77_code (some .int) 3 46 o wo Ok) (a1 : Int32) (a2 : Int32) (a3 : Int32) (w : Wld) (s : Int32 × Int32) : SimK Ok (V_M_ring_59 a1 a2 a3 w s) (B_M_ring_59 a1 a2 a3 w s) (GLp Ok (V_M_ring_59 a1 a2 a3 w) (GEp Ok (E_M_ring_59 a1 a2 a3 w))) := by
  unfold B_M_ring_59
  show SimK Ok (59, [(0, vR 0), (1, vI a1), (2, vI a2), (3, vI a3), (4, vI s.1), (5, vI s.2)], [], w) _ _
  refine sim_blk0 hC [(.iload 5, 0, 0, 0, 0), (.iload 4, 0, 0, 0, 0)] [(0, vR 0), (1, vI a1), (2, vI a2), (3, vI a3), (4, vI s.1), (5, vI s.2)] [vI s.1, vI s.2] w 63 (by decide +kernel) rfl rfl ?_
  refine sim_sp hC 326 mX11_isOf 1 0 [vI s.2, vI s.1] [] (by decide +kernel) ml_10_326 rfl rfl rfl rfl rfl (fun rz hz => c_M_isOf w s.2 s.1 rz hz) (fun i8 => ?_)
  refine sim_br hC (.ifCond .ne 24) 90 (by decide +kernel) rfl (by decide) ?_ ?_
  · refine sim_sub hC [0, 1, 2, 3, 5] ?_
    exact sim_exit (E := (E_M_ring_59 a1 a2 a3 w)) s.2
  · refine sim_blk0 hC [(.iload 5, 0, 0, 0, 0), (.iconst 1, 0, 0, 0, 1), (.iload 4, 0, 0, 0, 0), (.ishl, 0, 0, 0, 0), (.ior, 0, 0, 0, 0), (.istore 5, 0, 0, 0, 0)] [(0, vR 0), (1, vI a1), (2, vI a2), (3, vI a3), (4, vI s.1), (5, vI (s.2 ||| ((1 : Int32) <<< (s.1 &&& 31))))] [] w 78 (by decide +kernel) rfl rfl ?_
    refine sim_bi (C := fun i9 => (78, [(0, vR 0), (1, vI a1), (2, vI a2), (3, vI a3), (4, vI s.1), (5, vI i9)], [], w)) (fun i9 => ?_)
    refine sim_blk0 hC [(.aload_n 0, 0, 0, 0, 0), (.iload 4, 0, 0, 0, 0), (.iload_n 2, 0, 0, 0, 0)] [(0, vR 0), (1, vI a1), (2, vI a2), (3, vI a3), (4, vI s.1), (5, vI i9)] [vI a2, vI s.1, vR 0] w 82 (by decide +kernel) rfl rfl ?_
    refine sim_vp hC 411 mX11_by 1 0 0 [vI s.1, vI a2] [] (by decide +kernel) ml_10_411 rfl rfl rfl rfl rfl rfl (fun rz hz => c_M_by w s.1 a2 rz hz) (fun i10 => ?_)
    refine sim_blk0 hC [(.istore 4, 0, 0, 0, 0)] [(0, vR 0), (1, vI a1), (2, vI a2), (3, vI a3), (4, vI i10), (5, vI i9)] [] w 87 (by decide +kernel) rfl rfl ?_
    refine sim_goto hC (-28) 59 (by decide +kernel) (by decide) ?_
    exact sim_back (V := (V_M_ring_59 a1 a2 a3 w)) ((i10, i9))
def V_M_ring_106 (a2 : Int32) (a5 : Int32) (w : Wld) : (Int32 × Int32) → Cfg := fun s => (106, [(0, vR 0), (2, vI a2), (5, vI a5), (6, vI s.1), (7, vI s.2)], [], w)
def E_M_ring_106 (a2 : Int32) (a5 : Int32) (w : Wld) : (Int32) → Cfg := fun s => (131, [(6, vI s)], [], w)
noncomputable def B_M_ring_106 (a2 : Int32) (a5 : Int32) (w : Wld) (s : Int32 × Int32) : Option ((Int32 × Int32) ⊕ (Int32)) :=
  bp (F_M_isOf w a5 s.2) (fun i12 => br (¬ i12 = 0) (some (.inr s.1)) (bi (s.1 + 1) (fun i13 => bp (F_M_by w s.2 a2) (fun i14 => some (.inl ((i13, i14)))))))
set_option maxRecDepth 10000 in
theorem s_B_M_ring_106 {Z : ZT} {l : Launch} {o : Oc} {wo : Wld} {Ok : Cfg → Prop} (hC : Clo Z l 10 8 prog_13_method_77_code (some .int) 3 46 o wo Ok) (a2 : Int32) (a5 : Int32) (w : Wld) (s : Int32 × Int32) : SimK Ok (V_M_ring_106 a2 a5 w s) (B_M_ring_106 a2 a5 w s) (GLp Ok (V_M_ring_106 a2 a5 w) (GEp Ok (E_M_ring_106 a2 a5 w))) := by
  unfold B_M_ring_106
  show SimK Ok (106, [(0, vR 0), (2, vI a2), (5, vI a5), (6, vI s.1), (7, vI s.2)], [], w) _ _
  refine sim_blk0 hC [(.iload 5, 0, 0, 0, 0), (.iload 7, 0, 0, 0, 0)] [(0, vR 0), (2, vI a2), (5, vI a5), (6, vI s.1), (7, vI s.2)] [vI s.2, vI a5] w 110 (by decide +kernel) rfl rfl ?_
  refine sim_sp hC 326 mX11_isOf 1 0 [vI a5, vI s.2] [] (by decide +kernel) ml_10_326 rfl rfl rfl rfl rfl (fun rz hz => c_M_isOf w a5 s.2 rz hz) (fun i12 => ?_)
  refine sim_br hC (.ifCond .ne 18) 131 (by decide +kernel) rfl (by decide) ?_ ?_
  · refine sim_sub hC [3] ?_
    exact sim_exit (E := (E_M_ring_106 a2 a5 w)) s.1
  · refine sim_blk0 hC [(.iinc 6 1, 0, 0, 0, 1)] [(0, vR 0), (2, vI a2), (5, vI a5), (6, vI (s.1 + 1)), (7, vI s.2)] [] w 119 (by decide +kernel) rfl rfl ?_
    refine sim_bi (C := fun i13 => (119, [(0, vR 0), (2, vI a2), (5, vI a5), (6, vI i13), (7, vI s.2)], [], w)) (fun i13 => ?_)
    refine sim_blk0 hC [(.aload_n 0, 0, 0, 0, 0), (.iload 7, 0, 0, 0, 0), (.iload_n 2, 0, 0, 0, 0)] [(0, vR 0), (2, vI a2), (5, vI a5), (6, vI i13), (7, vI s.2)] [vI a2, vI s.2, vR 0] w 123 (by decide +kernel) rfl rfl ?_
    refine sim_vp hC 411 mX11_by 1 0 0 [vI s.2, vI a2] [] (by decide +kernel) ml_10_411 rfl rfl rfl rfl rfl rfl (fun rz hz => c_M_by w s.2 a2 rz hz) (fun i14 => ?_)
    refine sim_blk0 hC [(.istore 7, 0, 0, 0, 0)] [(0, vR 0), (2, vI a2), (5, vI a5), (6, vI i13), (7, vI i14)] [] w 128 (by decide +kernel) rfl rfl ?_
    refine sim_goto hC (-22) 106 (by decide +kernel) (by decide) ?_
    exact sim_back (V := (V_M_ring_106 a2 a5 w)) ((i13, i14))
noncomputable def F_M_ring (w : Wld) (a1 : Int32) (a2 : Int32) (a3 : Int32) : Option (Int32 × Wld) :=
  bw (wup w 0 2 0) (fun w1 => bp (F_M_isRoom w1 a1) (fun i2 => br (i2 = 0) (K_M_ring_22 w1) (br (a3 < 0) (K_M_ring_22 w1) (br (a3 ≤ 1) (bl (loop (B_M_ring_34 a1 a2 a3 w1) ((a1, 0))) (fun r7 => bl (loop (B_M_ring_59 a1 a2 a3 w1) ((r7, 0))) (fun r11 => br (¬ a3 = 0) (bl (loop (B_M_ring_106 a2 r11 w1) ((0, a1))) (fun r15 => some ((r15, w1)))) (bp (F_M_bitsOf w1 r11) (fun i16 => some ((i16, w1))))))) (K_M_ring_22 w1)))))
set_option maxRecDepth 10000 in
theorem s_M_ring {Z : ZT} {l : Launch} {o : Oc} {wo : Wld} {Ok : Cfg → Prop} (hC : Clo Z l 10 8 prog_13_method_77_code (some .int) 3 46 o wo Ok) (w : Wld) (a1 : Int32) (a2 : Int32) (a3 : Int32) : SimK Ok (0, [(0, vR 0), (1, vI a1), (2, vI a2), (3, vI a3)], [], w) (F_M_ring w a1 a2 a3) (Gi o wo) := by
  unfold F_M_ring
  refine sim_blk0 hC [(.aload_n 0, 0, 0, 0, 0), (.iconst 0, 0, 0, 0, 0), (.putfield 159, 0, 2, 0, 0)] [(0, vR 0), (1, vI a1), (2, vI a2), (3, vI a3)] [] (wup w 0 2 0) 5 (by decide +kernel) rfl rfl ?_
  refine sim_bw (C := fun w1 => (5, [(0, vR 0), (1, vI a1), (2, vI a2), (3, vI a3)], [], w1)) (fun w1 => ?_)
  refine sim_blk0 hC [(.aload_n 0, 0, 0, 0, 0), (.iload_n 1, 0, 0, 0, 0)] [(0, vR 0), (1, vI a1), (2, vI a2), (3, vI a3)] [vI a1, vR 0] w1 7 (by decide +kernel) rfl rfl ?_
  refine sim_vp hC 371 mX11_isRoom 2 25 0 [vI a1] [] (by decide +kernel) ml_10_371 rfl rfl rfl rfl rfl rfl (fun rz hz => c_M_isRoom w1 a1 rz hz) (fun i2 => ?_)
  refine sim_br hC (.ifCond .eq 12) 22 (by decide +kernel) rfl (by decide) ?_ ?_
  · refine sim_sub hC [0] ?_
    exact s_K_M_ring_22 hC w1
  · refine sim_blk0 hC [(.iload_n 3, 0, 0, 0, 0)] [(0, vR 0), (1, vI a1), (2, vI a2), (3, vI a3)] [vI a3] w1 14 (by decide +kernel) rfl rfl ?_
    refine sim_br hC (.ifCond .lt 8) 22 (by decide +kernel) rfl (by decide) ?_ ?_
    · refine sim_sub hC [0] ?_
      exact s_K_M_ring_22 hC w1
    · refine sim_blk0 hC [(.iload_n 3, 0, 0, 0, 0), (.iconst 1, 0, 0, 0, 1)] [(0, vR 0), (1, vI a1), (2, vI a2), (3, vI a3)] [vI 1, vI a3] w1 19 (by decide +kernel) rfl rfl ?_
      refine sim_br hC (.if_icmp .le 9) 28 (by decide +kernel) rfl (by decide) ?_ ?_
      · refine sim_blk0 hC [(.iload_n 1, 0, 0, 0, 0), (.istore 4, 0, 0, 0, 0), (.iconst 0, 0, 0, 0, 0), (.istore 5, 0, 0, 0, 0)] [(0, vR 0), (1, vI a1), (2, vI a2), (3, vI a3), (4, vI a1), (5, vI 0)] [] w1 34 (by decide +kernel) rfl rfl ?_
        refine sim_bl (E := (E_M_ring_34 a1 a2 a3 w1)) ?_ (fun r7 => ?_)
        · exact sim_loop (V := (V_M_ring_34 a1 a2 a3 w1)) (fun sz => s_B_M_ring_34 hC a1 a2 a3 w1 sz) ((a1, 0))
        · show SimK Ok (56, [(0, vR 0), (1, vI a1), (2, vI a2), (3, vI a3), (4, vI r7)], [], w1) _ _
          refine sim_blk0 hC [(.iconst 0, 0, 0, 0, 0), (.istore 5, 0, 0, 0, 0)] [(0, vR 0), (1, vI a1), (2, vI a2), (3, vI a3), (4, vI r7), (5, vI 0)] [] w1 59 (by decide +kernel) rfl rfl ?_
          refine sim_bl (E := (E_M_ring_59 a1 a2 a3 w1)) ?_ (fun r11 => ?_)
          · exact sim_loop (V := (V_M_ring_59 a1 a2 a3 w1)) (fun sz => s_B_M_ring_59 hC a1 a2 a3 w1 sz) ((r7, 0))
          · show SimK Ok (90, [(0, vR 0), (1, vI a1), (2, vI a2), (3, vI a3), (5, vI r11)], [], w1) _ _
            refine sim_blk0 hC [(.iload_n 3, 0, 0, 0, 0)] [(0, vR 0), (1, vI a1), (2, vI a2), (3, vI a3), (5, vI r11)] [vI a3] w1 91 (by decide +kernel) rfl rfl ?_
            refine sim_br hC (.ifCond .ne 9) 100 (by decide +kernel) rfl (by decide) ?_ ?_
            · refine sim_blk0 hC [(.iconst 0, 0, 0, 0, 0), (.istore 6, 0, 0, 0, 0), (.iload_n 1, 0, 0, 0, 0), (.istore 7, 0, 0, 0, 0)] [(0, vR 0), (1, vI a1), (2, vI a2), (3, vI a3), (5, vI r11), (6, vI 0), (7, vI a1)] [] w1 106 (by decide +kernel) rfl rfl ?_
              refine sim_bl (E := (E_M_ring_106 a2 r11 w1)) ?_ (fun r15 => ?_)
              · refine sim_sub hC [0, 2, 4, 5, 6] ?_
                exact sim_loop (V := (V_M_ring_106 a2 r11 w1)) (fun sz => s_B_M_ring_106 hC a2 r11 w1 sz) ((0, a1))
              · show SimK Ok (131, [(6, vI r15)], [], w1) _ _
                refine sim_blk0 hC [(.iload 6, 0, 0, 0, 0)] [(6, vI r15)] [vI r15] w1 133 (by decide +kernel) rfl rfl ?_
                exact sim_reti hC (by decide +kernel) trivial
            · refine sim_blk0 hC [(.iload 5, 0, 0, 0, 0)] [(0, vR 0), (1, vI a1), (2, vI a2), (3, vI a3), (5, vI r11)] [vI r11] w1 96 (by decide +kernel) rfl rfl ?_
              refine sim_sp hC 332 mX11_bitsOf 1 0 [vI r11] [] (by decide +kernel) ml_10_332 rfl rfl rfl rfl rfl (fun rz hz => c_M_bitsOf w1 r11 rz hz) (fun i16 => ?_)
              exact sim_reti hC (by decide +kernel) trivial
      · refine sim_sub hC [0] ?_
        exact s_K_M_ring_22 hC w1
theorem c_M_ring {Z : ZT} {l : Launch} (w : Wld) (a1 : Int32) (a2 : Int32) (a3 : Int32) (r : Int32) (w1 : Wld) (h : F_M_ring w a1 a2 a3 = some (r, w1)) : Con Z l mX11_ring 3 46 [vR 0, vI a1, vI a2, vI a3] w (.inr (some r)) w1 :=
  Con_of (oc := 10) (by decide +kernel) rfl rfl (fun Ok hC => s_M_ring hC w a1 a2 a3 (r, w1) h ⟨rfl, rfl⟩)
def V_M_stepped_4 (a1 : Int32) (w : Wld) : (Int32 × Int32) → Cfg := fun s => (4, [(0, vR 0), (1, vI a1), (2, vI s.1), (3, vI s.2)], [], w)
def E_M_stepped_4 (a1 : Int32) (w : Wld) : (Int32) → Cfg := fun s => (52, [(2, vI s)], [], w)
noncomputable def K_M_stepped_44 (a1 : Int32) (a3 : Int32) (t0 : Int32) (t1 : Int32) (w : Wld) : Option ((Int32 × Int32) ⊕ (Int32)) :=
  bi (t0 ||| t1) (fun i2 => bi (a3 + 1) (fun i3 => some (.inl ((i2, i3)))))
set_option maxRecDepth 10000 in
theorem s_K_M_stepped_44 {Z : ZT} {l : Launch} {o : Oc} {wo : Wld} {Ok : Cfg → Prop} (hC : Clo Z l 10 4 prog_13_method_78_code (some .int) 2 21 o wo Ok) (a1 : Int32) (a3 : Int32) (t0 : Int32) (t1 : Int32) (w : Wld) : SimK Ok (44, [(0, vR 0), (1, vI a1), (3, vI a3)], [vI t1, vI t0], w) (K_M_stepped_44 a1 a3 t0 t1 w) (GLp Ok (V_M_stepped_4 a1 w) (GEp Ok (E_M_stepped_4 a1 w))) := by
  unfold K_M_stepped_44
  refine sim_blk0 hC [(.ior, 0, 0, 0, 0), (.istore_n 2, 0, 0, 0, 0)] [(0, vR 0), (1, vI a1), (2, vI (t0 ||| t1)), (3, vI a3)] [] w 46 (by decide +kernel) rfl rfl ?_
  refine sim_bi (C := fun i2 => (46, [(0, vR 0), (1, vI a1), (2, vI i2), (3, vI a3)], [], w)) (fun i2 => ?_)
  refine sim_blk0 hC [(.iinc 3 1, 0, 0, 0, 1)] [(0, vR 0), (1, vI a1), (2, vI i2), (3, vI (a3 + 1))] [] w 49 (by decide +kernel) rfl rfl ?_
  refine sim_bi (C := fun i3 => (49, [(0, vR 0), (1, vI a1), (2, vI i2), (3, vI i3)], [], w)) (fun i3 => ?_)
  refine sim_goto hC (-45) 4 (by decide +kernel) (by decide) ?_
  exact sim_back (V := (V_M_stepped_4 a1 w)) ((i2, i3))
noncomputable def B_M_stepped_4 (a1 : Int32) (w : Wld) (s : Int32 × Int32) : Option ((Int32 × Int32) ⊕ (Int32)) :=
  gd (vp_in 0 10) (br ((w 3 (Int32.toNatClampNeg 0)) ≤ s.2) (some (.inr s.1)) (bp (F_M_isOf w a1 s.2) (fun i1 => br (i1 = 0) (K_M_stepped_44 a1 s.2 s.1 0 w) (gd (vp_in s.2 9) (gd (vp_in s.2 9) (K_M_stepped_44 a1 s.2 s.1 (((1 : Int32) <<< ((w 18 (Int32.toNatClampNeg s.2)) &&& 31)) ||| ((1 : Int32) <<< ((w 19 (Int32.toNatClampNeg s.2)) &&& 31))) w))))))
set_option maxRecDepth 10000 in
theorem s_B_M_stepped_4 {Z : ZT} {l : Launch} {o : Oc} {wo : Wld} {Ok : Cfg → Prop} (hC : Clo Z l 10 4 prog_13_method_78_code (some .int) 2 21 o wo Ok) (a1 : Int32) (w : Wld) (s : Int32 × Int32) : SimK Ok (V_M_stepped_4 a1 w s) (B_M_stepped_4 a1 w s) (GLp Ok (V_M_stepped_4 a1 w) (GEp Ok (E_M_stepped_4 a1 w))) := by
  unfold B_M_stepped_4
  show SimK Ok (4, [(0, vR 0), (1, vI a1), (2, vI s.1), (3, vI s.2)], [], w) _ _
  refine sim_blk1 hC [(.iload_n 3, 0, 0, 0, 0), (.aload_n 0, 0, 0, 0, 0), (.getfield 42, 0, 3, 5, 0), (.iconst 0, 0, 0, 0, 0), (.iaload, 3, 10, 0, 0)] [(0, vR 0), (1, vI a1), (2, vI s.1), (3, vI s.2)] [vI (w 3 (Int32.toNatClampNeg 0)), vI s.2] w 11 (by decide +kernel) rfl rfl ?_
  refine sim_br hC (.if_icmp .ge 41) 52 (by decide +kernel) rfl (by decide) ?_ ?_
  · refine sim_sub hC [2] ?_
    exact sim_exit (E := (E_M_stepped_4 a1 w)) s.1
  · refine sim_blk0 hC [(.iload_n 2, 0, 0, 0, 0), (.iload_n 1, 0, 0, 0, 0), (.iload_n 3, 0, 0, 0, 0)] [(0, vR 0), (1, vI a1), (2, vI s.1), (3, vI s.2)] [vI s.2, vI a1, vI s.1] w 17 (by decide +kernel) rfl rfl ?_
    refine sim_sp hC 326 mX11_isOf 1 0 [vI a1, vI s.2] [vI s.1] (by decide +kernel) ml_10_326 rfl rfl rfl rfl rfl (fun rz hz => c_M_isOf w a1 s.2 rz hz) (fun i1 => ?_)
    refine sim_br hC (.ifCond .eq 23) 43 (by decide +kernel) rfl (by decide) ?_ ?_
    · refine sim_blk0 hC [(.iconst 0, 0, 0, 0, 0)] [(0, vR 0), (1, vI a1), (2, vI s.1), (3, vI s.2)] [vI 0, vI s.1] w 44 (by decide +kernel) rfl rfl ?_
      refine sim_sub hC [0, 1, 3] ?_
      exact s_K_M_stepped_44 hC a1 s.2 s.1 0 w
    · refine sim_blk2 hC [(.iconst 1, 0, 0, 0, 1), (.aload_n 0, 0, 0, 0, 0), (.getfield 89, 0, 28, 20, 0), (.iload_n 3, 0, 0, 0, 0), (.iaload, 18, 9, 0, 0), (.ishl, 0, 0, 0, 0), (.iconst 1, 0, 0, 0, 1), (.aload_n 0, 0, 0, 0, 0), (.getfield 92, 0, 29, 21, 0), (.iload_n 3, 0, 0, 0, 0), (.iaload, 19, 9, 0, 0), (.ishl, 0, 0, 0, 0), (.ior, 0, 0, 0, 0)] [(0, vR 0), (1, vI a1), (2, vI s.1), (3, vI s.2)] [vI (((1 : Int32) <<< ((w 18 (Int32.toNatClampNeg s.2)) &&& 31)) ||| ((1 : Int32) <<< ((w 19 (Int32.toNatClampNeg s.2)) &&& 31))), vI s.1] w 40 (by decide +kernel) rfl rfl ?_
      refine sim_goto hC 4 44 (by decide +kernel) (by decide) ?_
      refine sim_sub hC [0, 1, 3] ?_
      exact s_K_M_stepped_44 hC a1 s.2 s.1 (((1 : Int32) <<< ((w 18 (Int32.toNatClampNeg s.2)) &&& 31)) ||| ((1 : Int32) <<< ((w 19 (Int32.toNatClampNeg s.2)) &&& 31))) w
noncomputable def F_M_stepped (w : Wld) (a1 : Int32) : Option (Int32) :=
  bl (loop (B_M_stepped_4 a1 w) ((0, 0))) (fun r4 => some r4)
set_option maxRecDepth 10000 in
theorem s_M_stepped {Z : ZT} {l : Launch} {o : Oc} {wo : Wld} {Ok : Cfg → Prop} (hC : Clo Z l 10 4 prog_13_method_78_code (some .int) 2 21 o wo Ok) (w : Wld) (a1 : Int32) : SimK Ok (0, [(0, vR 0), (1, vI a1)], [], w) (F_M_stepped w a1) (Gp o wo w) := by
  unfold F_M_stepped
  refine sim_blk0 hC [(.iconst 0, 0, 0, 0, 0), (.istore_n 2, 0, 0, 0, 0), (.iconst 0, 0, 0, 0, 0), (.istore_n 3, 0, 0, 0, 0)] [(0, vR 0), (1, vI a1), (2, vI 0), (3, vI 0)] [] w 4 (by decide +kernel) rfl rfl ?_
  refine sim_bl (E := (E_M_stepped_4 a1 w)) ?_ (fun r4 => ?_)
  · exact sim_loop (V := (V_M_stepped_4 a1 w)) (fun sz => s_B_M_stepped_4 hC a1 w sz) ((0, 0))
  · show SimK Ok (52, [(2, vI r4)], [], w) _ _
    refine sim_blk0 hC [(.iload_n 2, 0, 0, 0, 0)] [(2, vI r4)] [vI r4] w 53 (by decide +kernel) rfl rfl ?_
    exact sim_retp hC (by decide +kernel) trivial
theorem c_M_stepped {Z : ZT} {l : Launch} (w : Wld) (a1 : Int32) (r : Int32) (h : F_M_stepped w a1 = some r) : Con Z l mX11_stepped 2 21 [vR 0, vI a1] w (.inr (some r)) w :=
  Con_of (oc := 10) (by decide +kernel) rfl rfl (fun Ok hC => s_M_stepped hC w a1 r h ⟨rfl, rfl⟩)
def V_M_from_25 (w : Wld) : (Int32 × Int32) → Cfg := fun s => (25, [(0, vR 0), (2, vI s.1), (3, vI s.2)], [], w)
def E_M_from_25 (w : Wld) : (Int32) → Cfg := fun s => (45, [(2, vI s)], [], w)
noncomputable def B_M_from_25 (w : Wld) (s : Int32 × Int32) : Option ((Int32 × Int32) ⊕ (Int32)) :=
  br ((9 : Int32) ≤ s.2) (some (.inr s.1)) (bp (F_M_stepped w s.1) (fun i4 => bi (s.1 ||| i4) (fun i5 => bi (s.2 + 1) (fun i6 => some (.inl ((i5, i6)))))))
set_option maxRecDepth 10000 in
theorem s_B_M_from_25 {Z : ZT} {l : Launch} {o : Oc} {wo : Wld} {Ok : Cfg → Prop} (hC : Clo Z l 10 4 prog_13_method_79_code (some .int) 3 46 o wo Ok) (w : Wld) (s : Int32 × Int32) : SimK Ok (V_M_from_25 w s) (B_M_from_25 w s) (GLp Ok (V_M_from_25 w) (GEp Ok (E_M_from_25 w))) := by
  unfold B_M_from_25
  show SimK Ok (25, [(0, vR 0), (2, vI s.1), (3, vI s.2)], [], w) _ _
  refine sim_blk0 hC [(.iload_n 3, 0, 0, 0, 0), (.bipush 9, 0, 0, 0, 9)] [(0, vR 0), (2, vI s.1), (3, vI s.2)] [vI 9, vI s.2] w 28 (by decide +kernel) rfl rfl ?_
  refine sim_br hC (.if_icmp .ge 17) 45 (by decide +kernel) rfl (by decide) ?_ ?_
  · refine sim_sub hC [1] ?_
    exact sim_exit (E := (E_M_from_25 w)) s.1
  · refine sim_blk0 hC [(.iload_n 2, 0, 0, 0, 0), (.aload_n 0, 0, 0, 0, 0), (.iload_n 2, 0, 0, 0, 0)] [(0, vR 0), (2, vI s.1), (3, vI s.2)] [vI s.1, vR 0, vI s.1] w 34 (by decide +kernel) rfl rfl ?_
    refine sim_vp hC 415 mX11_stepped 2 21 0 [vI s.1] [vI s.1] (by decide +kernel) ml_10_415 rfl rfl rfl rfl rfl rfl (fun rz hz => c_M_stepped w s.1 rz hz) (fun i4 => ?_)
    refine sim_blk0 hC [(.ior, 0, 0, 0, 0), (.istore_n 2, 0, 0, 0, 0)] [(0, vR 0), (2, vI (s.1 ||| i4)), (3, vI s.2)] [] w 39 (by decide +kernel) rfl rfl ?_
    refine sim_bi (C := fun i5 => (39, [(0, vR 0), (2, vI i5), (3, vI s.2)], [], w)) (fun i5 => ?_)
    refine sim_blk0 hC [(.iinc 3 1, 0, 0, 0, 1)] [(0, vR 0), (2, vI i5), (3, vI (s.2 + 1))] [] w 42 (by decide +kernel) rfl rfl ?_
    refine sim_bi (C := fun i6 => (42, [(0, vR 0), (2, vI i5), (3, vI i6)], [], w)) (fun i6 => ?_)
    refine sim_goto hC (-17) 25 (by decide +kernel) (by decide) ?_
    exact sim_back (V := (V_M_from_25 w)) ((i5, i6))
noncomputable def F_M_from (w : Wld) (a1 : Int32) : Option (Int32 × Wld) :=
  bw (wup w 0 2 0) (fun w1 => bp (F_M_isRoom w1 a1) (fun i2 => br (¬ i2 = 0) (bi ((1 : Int32) <<< (a1 &&& 31)) (fun i3 => bl (loop (B_M_from_25 w1) ((i3, 0))) (fun r7 => some ((r7, w1))))) (bd (F_M_fail w1 1) (fun i8 w9 => some ((i8, w9))))))
set_option maxRecDepth 10000 in
theorem s_M_from {Z : ZT} {l : Launch} {o : Oc} {wo : Wld} {Ok : Cfg → Prop} (hC : Clo Z l 10 4 prog_13_method_79_code (some .int) 3 46 o wo Ok) (w : Wld) (a1 : Int32) : SimK Ok (0, [(0, vR 0), (1, vI a1)], [], w) (F_M_from w a1) (Gi o wo) := by
  unfold F_M_from
  refine sim_blk0 hC [(.aload_n 0, 0, 0, 0, 0), (.iconst 0, 0, 0, 0, 0), (.putfield 159, 0, 2, 0, 0)] [(0, vR 0), (1, vI a1)] [] (wup w 0 2 0) 5 (by decide +kernel) rfl rfl ?_
  refine sim_bw (C := fun w1 => (5, [(0, vR 0), (1, vI a1)], [], w1)) (fun w1 => ?_)
  refine sim_blk0 hC [(.aload_n 0, 0, 0, 0, 0), (.iload_n 1, 0, 0, 0, 0)] [(0, vR 0), (1, vI a1)] [vI a1, vR 0] w1 7 (by decide +kernel) rfl rfl ?_
  refine sim_vp hC 371 mX11_isRoom 2 25 0 [vI a1] [] (by decide +kernel) ml_10_371 rfl rfl rfl rfl rfl rfl (fun rz hz => c_M_isRoom w1 a1 rz hz) (fun i2 => ?_)
  refine sim_br hC (.ifCond .ne 9) 19 (by decide +kernel) rfl (by decide) ?_ ?_
  · refine sim_blk0 hC [(.iconst 1, 0, 0, 0, 1), (.iload_n 1, 0, 0, 0, 0), (.ishl, 0, 0, 0, 0), (.istore_n 2, 0, 0, 0, 0)] [(0, vR 0), (1, vI a1), (2, vI ((1 : Int32) <<< (a1 &&& 31)))] [] w1 23 (by decide +kernel) rfl rfl ?_
    refine sim_bi (C := fun i3 => (23, [(0, vR 0), (1, vI a1), (2, vI i3)], [], w1)) (fun i3 => ?_)
    refine sim_blk0 hC [(.iconst 0, 0, 0, 0, 0), (.istore_n 3, 0, 0, 0, 0)] [(0, vR 0), (1, vI a1), (2, vI i3), (3, vI 0)] [] w1 25 (by decide +kernel) rfl rfl ?_
    refine sim_bl (E := (E_M_from_25 w1)) ?_ (fun r7 => ?_)
    · refine sim_sub hC [0, 2, 3] ?_
      exact sim_loop (V := (V_M_from_25 w1)) (fun sz => s_B_M_from_25 hC w1 sz) ((i3, 0))
    · show SimK Ok (45, [(2, vI r7)], [], w1) _ _
      refine sim_blk0 hC [(.iload_n 2, 0, 0, 0, 0)] [(2, vI r7)] [vI r7] w1 46 (by decide +kernel) rfl rfl ?_
      exact sim_reti hC (by decide +kernel) trivial
  · refine sim_blk0 hC [(.aload_n 0, 0, 0, 0, 0), (.iconst 1, 0, 0, 0, 1)] [(0, vR 0), (1, vI a1)] [vI 1, vR 0] w1 15 (by decide +kernel) rfl rfl ?_
    refine sim_vd hC 292 mX11_fail 1 0 0 [vI 1] [] (by decide +kernel) ml_10_292 rfl rfl rfl rfl rfl rfl (fun rz wz hz => c_M_fail w1 1 rz wz hz) (fun i8 w9 => ?_)
    exact sim_reti hC (by decide +kernel) trivial
theorem c_M_from {Z : ZT} {l : Launch} (w : Wld) (a1 : Int32) (r : Int32) (w1 : Wld) (h : F_M_from w a1 = some (r, w1)) : Con Z l mX11_from 3 46 [vR 0, vI a1] w (.inr (some r)) w1 :=
  Con_of (oc := 10) (by decide +kernel) rfl rfl (fun Ok hC => s_M_from hC w a1 (r, w1) h ⟨rfl, rfl⟩)
noncomputable def K_M_meeting_14 (w : Wld) : Option (Int32 × Wld) :=
  bd (F_M_fail w 1) (fun i2 w3 => some ((i2, w3)))
set_option maxRecDepth 10000 in
theorem s_K_M_meeting_14 {Z : ZT} {l : Launch} {o : Oc} {wo : Wld} {Ok : Cfg → Prop} (hC : Clo Z l 10 5 prog_13_method_80_code (some .int) 3 44 o wo Ok) (w : Wld) : SimK Ok (14, [(0, vR 0)], [], w) (K_M_meeting_14 w) (Gi o wo) := by
  unfold K_M_meeting_14
  refine sim_blk0 hC [(.aload_n 0, 0, 0, 0, 0), (.iconst 1, 0, 0, 0, 1)] [(0, vR 0)] [vI 1, vR 0] w 16 (by decide +kernel) rfl rfl ?_
  refine sim_vd hC 292 mX11_fail 1 0 0 [vI 1] [] (by decide +kernel) ml_10_292 rfl rfl rfl rfl rfl rfl (fun rz wz hz => c_M_fail w 1 rz wz hz) (fun i2 w3 => ?_)
  exact sim_reti hC (by decide +kernel) trivial
def V_M_meeting_22 (a1 : Int32) : (Int32 × Wld) → Cfg := fun s => (22, [(0, vR 0), (1, vI a1), (2, vI s.1)], [], s.2)
def E_M_meeting_22 (a1 : Int32) : (Wld) → Cfg := fun s => (52, [(0, vR 0), (1, vI a1)], [], s)
noncomputable def B_M_meeting_22 (a1 : Int32) (s : Int32 × Wld) : Option ((Int32 × Wld) ⊕ (Wld)) :=
  gd (vp_in 1 10) (br ((s.2 3 (Int32.toNatClampNeg 1)) ≤ s.1) (some (.inr s.2)) (gd (vp_in s.1 8) (gd (vp_in s.1 8) (bw (wup s.2 26 (Int32.toNatClampNeg s.1) ((1 : Int32) <<< ((s.2 16 (Int32.toNatClampNeg s.1)) &&& 31))) (fun w4 => bi (s.1 + 1) (fun i5 => some (.inl ((i5, w4)))))))))
set_option maxRecDepth 10000 in
theorem s_B_M_meeting_22 {Z : ZT} {l : Launch} {o : Oc} {wo : Wld} {Ok : Cfg → Prop} (hC : Clo Z l 10 5 prog_13_method_80_code (some .int) 3 44 o wo Ok) (a1 : Int32) (s : Int32 × Wld) : SimK Ok (V_M_meeting_22 a1 s) (B_M_meeting_22 a1 s) (GLp Ok (V_M_meeting_22 a1) (GEp Ok (E_M_meeting_22 a1))) := by
  unfold B_M_meeting_22
  show SimK Ok (22, [(0, vR 0), (1, vI a1), (2, vI s.1)], [], s.2) _ _
  refine sim_blk1 hC [(.iload_n 2, 0, 0, 0, 0), (.aload_n 0, 0, 0, 0, 0), (.getfield 42, 0, 3, 5, 0), (.iconst 1, 0, 0, 0, 1), (.iaload, 3, 10, 0, 0)] [(0, vR 0), (1, vI a1), (2, vI s.1)] [vI (s.2 3 (Int32.toNatClampNeg 1)), vI s.1] s.2 29 (by decide +kernel) rfl rfl ?_
  refine sim_br hC (.if_icmp .ge 23) 52 (by decide +kernel) rfl (by decide) ?_ ?_
  · refine sim_sub hC [0, 1] ?_
    exact sim_exit (E := (E_M_meeting_22 a1)) s.2
  · refine sim_blk2 hC [(.aload_n 0, 0, 0, 0, 0), (.getfield 113, 0, 44, 28, 0), (.iload_n 2, 0, 0, 0, 0), (.iconst 1, 0, 0, 0, 1), (.aload_n 0, 0, 0, 0, 0), (.getfield 84, 0, 26, 18, 0), (.iload_n 2, 0, 0, 0, 0), (.iaload, 16, 8, 0, 0), (.ishl, 0, 0, 0, 0), (.iastore, 26, 8, 0, 0)] [(0, vR 0), (1, vI a1), (2, vI s.1)] [] (wup s.2 26 (Int32.toNatClampNeg s.1) ((1 : Int32) <<< ((s.2 16 (Int32.toNatClampNeg s.1)) &&& 31))) 46 (by decide +kernel) rfl rfl ?_
    refine sim_bw (C := fun w4 => (46, [(0, vR 0), (1, vI a1), (2, vI s.1)], [], w4)) (fun w4 => ?_)
    refine sim_blk0 hC [(.iinc 2 1, 0, 0, 0, 1)] [(0, vR 0), (1, vI a1), (2, vI (s.1 + 1))] [] w4 49 (by decide +kernel) rfl rfl ?_
    refine sim_bi (C := fun i5 => (49, [(0, vR 0), (1, vI a1), (2, vI i5)], [], w4)) (fun i5 => ?_)
    refine sim_goto hC (-27) 22 (by decide +kernel) (by decide) ?_
    exact sim_back (V := (V_M_meeting_22 a1)) ((i5, w4))
def V_M_meeting_54 (a1 : Int32) : (Int32 × Wld) → Cfg := fun s => (54, [(0, vR 0), (1, vI a1), (2, vI s.1)], [], s.2)
def E_M_meeting_54 (a1 : Int32) : (Wld) → Cfg := fun s => (185, [], [], s)
def V_M_meeting_74 (a1 : Int32) (a2 : Int32) (w : Wld) : (Int32 × Int32) → Cfg := fun s => (74, [(0, vR 0), (1, vI a1), (2, vI a2), (3, vI s.1), (4, vI s.2)], [], w)
def E_M_meeting_74 (a1 : Int32) (a2 : Int32) (w : Wld) : (Int32) → Cfg := fun s => (101, [(0, vR 0), (1, vI a1), (2, vI a2), (3, vI s)], [], w)
noncomputable def B_M_meeting_74 (a1 : Int32) (a2 : Int32) (w : Wld) (s : Int32 × Int32) : Option ((Int32 × Int32) ⊕ (Int32)) :=
  gd (vp_in 1 10) (br ((w 3 (Int32.toNatClampNeg 1)) ≤ s.2) (some (.inr s.1)) (gd (vp_in s.2 8) (bi (s.1 &&& (w 26 (Int32.toNatClampNeg s.2))) (fun i8 => bi (s.2 + 1) (fun i9 => some (.inl ((i8, i9))))))))
set_option maxRecDepth 10000 in
theorem s_B_M_meeting_74 {Z : ZT} {l : Launch} {o : Oc} {wo : Wld} {Ok : Cfg → Prop} (hC : Clo Z l 10 5 prog_13_method_80_code (some .int) 3 44 o wo Ok) (a1 : Int32) (a2 : Int32) (w : Wld) (s : Int32 × Int32) : SimK Ok (V_M_meeting_74 a1 a2 w s) (B_M_meeting_74 a1 a2 w s) (GLp Ok (V_M_meeting_74 a1 a2 w) (GEp Ok (E_M_meeting_74 a1 a2 w))) := by
  unfold B_M_meeting_74
  show SimK Ok (74, [(0, vR 0), (1, vI a1), (2, vI a2), (3, vI s.1), (4, vI s.2)], [], w) _ _
  refine sim_blk1 hC [(.iload 4, 0, 0, 0, 0), (.aload_n 0, 0, 0, 0, 0), (.getfield 42, 0, 3, 5, 0), (.iconst 1, 0, 0, 0, 1), (.iaload, 3, 10, 0, 0)] [(0, vR 0), (1, vI a1), (2, vI a2), (3, vI s.1), (4, vI s.2)] [vI (w 3 (Int32.toNatClampNeg 1)), vI s.2] w 82 (by decide +kernel) rfl rfl ?_
  refine sim_br hC (.if_icmp .ge 19) 101 (by decide +kernel) rfl (by decide) ?_ ?_
  · refine sim_sub hC [0, 1, 2, 3] ?_
    exact sim_exit (E := (E_M_meeting_74 a1 a2 w)) s.1
  · refine sim_blk1 hC [(.iload_n 3, 0, 0, 0, 0), (.aload_n 0, 0, 0, 0, 0), (.getfield 113, 0, 44, 28, 0), (.iload 4, 0, 0, 0, 0), (.iaload, 26, 8, 0, 0), (.iand, 0, 0, 0, 0), (.istore_n 3, 0, 0, 0, 0)] [(0, vR 0), (1, vI a1), (2, vI a2), (3, vI (s.1 &&& (w 26 (Int32.toNatClampNeg s.2)))), (4, vI s.2)] [] w 95 (by decide +kernel) rfl rfl ?_
    refine sim_bi (C := fun i8 => (95, [(0, vR 0), (1, vI a1), (2, vI a2), (3, vI i8), (4, vI s.2)], [], w)) (fun i8 => ?_)
    refine sim_blk0 hC [(.iinc 4 1, 0, 0, 0, 1)] [(0, vR 0), (1, vI a1), (2, vI a2), (3, vI i8), (4, vI (s.2 + 1))] [] w 98 (by decide +kernel) rfl rfl ?_
    refine sim_bi (C := fun i9 => (98, [(0, vR 0), (1, vI a1), (2, vI a2), (3, vI i8), (4, vI i9)], [], w)) (fun i9 => ?_)
    refine sim_goto hC (-24) 74 (by decide +kernel) (by decide) ?_
    exact sim_back (V := (V_M_meeting_74 a1 a2 w)) ((i8, i9))
def V_M_meeting_104 (a1 : Int32) (a2 : Int32) (a3 : Int32) (w : Wld) : (Int32) → Cfg := fun s => (104, [(0, vR 0), (1, vI a1), (2, vI a2), (3, vI a3), (4, vI s)], [], w)
def E_M_meeting_104 (a1 : Int32) (a2 : Int32) (a3 : Int32) (w : Wld) : (Unit) → Cfg := fun s => (141, [(0, vR 0), (1, vI a1), (2, vI a2)], [], w)
noncomputable def K_M_meeting_134t (t0 : Int32) (w : Wld) : Option ((Int32) ⊕ ((Unit) ⊕ ((Int32 × Wld) ⊕ ((Wld) ⊕ (Int32 × Wld))))) :=
  some (.inr (.inr (.inr (.inr ((t0, w))))))
set_option maxRecDepth 10000 in
theorem s_K_M_meeting_134t {Z : ZT} {l : Launch} {o : Oc} {wo : Wld} {Ok : Cfg → Prop} {Vp104 : (Int32) → Cfg} {Ep104 : (Unit) → Cfg} {Vp54 : (Int32 × Wld) → Cfg} {Ep54 : (Wld) → Cfg} (hC : Clo Z l 10 5 prog_13_method_80_code (some .int) 3 44 o wo Ok) (t0 : Int32) (w : Wld) : SimK Ok (134, [], [vI t0], w) (K_M_meeting_134t t0 w) (GLp Ok Vp104 (GLp Ok Ep104 (GLp Ok Vp54 (GLp Ok Ep54 (Gi o wo))))) := by
  unfold K_M_meeting_134t
  refine sim_outx ?_
  refine sim_outx ?_
  exact sim_reti hC (by decide +kernel) trivial
noncomputable def B_M_meeting_104 (a1 : Int32) (a2 : Int32) (a3 : Int32) (w : Wld) (s : Int32) : Option ((Int32) ⊕ ((Unit) ⊕ ((Int32 × Wld) ⊕ ((Wld) ⊕ (Int32 × Wld))))) :=
  gd (vp_in 0 10) (br ((w 3 (Int32.toNatClampNeg 0)) ≤ s) (some (.inr (.inl (())))) (bp (F_M_isOf w a3 s) (fun i11 => br (i11 = 0) (bi (s + 1) (fun i12 => some (.inl i12))) (br (¬ a1 = 0) (K_M_meeting_134t a2 w) (K_M_meeting_134t s w)))))
set_option maxRecDepth 10000 in
theorem s_B_M_meeting_104 {Z : ZT} {l : Launch} {o : Oc} {wo : Wld} {Ok : Cfg → Prop} {Vp54 : (Int32 × Wld) → Cfg} {Ep54 : (Wld) → Cfg} (hC : Clo Z l 10 5 prog_13_method_80_code (some .int) 3 44 o wo Ok) (a1 : Int32) (a2 : Int32) (a3 : Int32) (w : Wld) (s : Int32) : SimK Ok (V_M_meeting_104 a1 a2 a3 w s) (B_M_meeting_104 a1 a2 a3 w s) (GLp Ok (V_M_meeting_104 a1 a2 a3 w) (GLp Ok (E_M_meeting_104 a1 a2 a3 w) (GLp Ok Vp54 (GLp Ok Ep54 (Gi o wo))))) := by
  unfold B_M_meeting_104
  show SimK Ok (104, [(0, vR 0), (1, vI a1), (2, vI a2), (3, vI a3), (4, vI s)], [], w) _ _
  refine sim_blk1 hC [(.iload 4, 0, 0, 0, 0), (.aload_n 0, 0, 0, 0, 0), (.getfield 42, 0, 3, 5, 0), (.iconst 0, 0, 0, 0, 0), (.iaload, 3, 10, 0, 0)] [(0, vR 0), (1, vI a1), (2, vI a2), (3, vI a3), (4, vI s)] [vI (w 3 (Int32.toNatClampNeg 0)), vI s] w 112 (by decide +kernel) rfl rfl ?_
  refine sim_br hC (.if_icmp .ge 29) 141 (by decide +kernel) rfl (by decide) ?_ ?_
  · refine sim_sub hC [0, 1, 2] ?_
    exact sim_exitx (E := (E_M_meeting_104 a1 a2 a3 w)) (())
  · refine sim_blk0 hC [(.iload_n 3, 0, 0, 0, 0), (.iload 4, 0, 0, 0, 0)] [(0, vR 0), (1, vI a1), (2, vI a2), (3, vI a3), (4, vI s)] [vI s, vI a3] w 118 (by decide +kernel) rfl rfl ?_
    refine sim_sp hC 326 mX11_isOf 1 0 [vI a3, vI s] [] (by decide +kernel) ml_10_326 rfl rfl rfl rfl rfl (fun rz hz => c_M_isOf w a3 s rz hz) (fun i11 => ?_)
    refine sim_br hC (.ifCond .eq 14) 135 (by decide +kernel) rfl (by decide) ?_ ?_
    · refine sim_blk0 hC [(.iinc 4 1, 0, 0, 0, 1)] [(0, vR 0), (1, vI a1), (2, vI a2), (3, vI a3), (4, vI (s + 1))] [] w 138 (by decide +kernel) rfl rfl ?_
      refine sim_bi (C := fun i12 => (138, [(0, vR 0), (1, vI a1), (2, vI a2), (3, vI a3), (4, vI i12)], [], w)) (fun i12 => ?_)
      refine sim_goto hC (-34) 104 (by decide +kernel) (by decide) ?_
      exact sim_back (V := (V_M_meeting_104 a1 a2 a3 w)) i12
    · refine sim_blk0 hC [(.iload_n 1, 0, 0, 0, 0)] [(0, vR 0), (1, vI a1), (2, vI a2), (3, vI a3), (4, vI s)] [vI a1] w 125 (by decide +kernel) rfl rfl ?_
      refine sim_br hC (.ifCond .ne 8) 133 (by decide +kernel) rfl (by decide) ?_ ?_
      · refine sim_blk0 hC [(.iload_n 2, 0, 0, 0, 0)] [(0, vR 0), (1, vI a1), (2, vI a2), (3, vI a3), (4, vI s)] [vI a2] w 134 (by decide +kernel) rfl rfl ?_
        refine sim_sub hC [] ?_
        exact s_K_M_meeting_134t hC a2 w
      · refine sim_blk0 hC [(.iload 4, 0, 0, 0, 0)] [(0, vR 0), (1, vI a1), (2, vI a2), (3, vI a3), (4, vI s)] [vI s] w 130 (by decide +kernel) rfl rfl ?_
        refine sim_goto hC 4 134 (by decide +kernel) (by decide) ?_
        refine sim_sub hC [] ?_
        exact s_K_M_meeting_134t hC s w
def V_M_meeting_144 (a1 : Int32) (a2 : Int32) : (Int32 × Wld) → Cfg := fun s => (144, [(0, vR 0), (1, vI a1), (2, vI a2), (4, vI s.1)], [], s.2)
def E_M_meeting_144 (a1 : Int32) (a2 : Int32) : (Wld) → Cfg := fun s => (179, [(0, vR 0), (1, vI a1), (2, vI a2)], [], s)
noncomputable def B_M_meeting_144 (a1 : Int32) (a2 : Int32) (s : Int32 × Wld) : Option ((Int32 × Wld) ⊕ (Wld)) :=
  gd (vp_in 1 10) (br ((s.2 3 (Int32.toNatClampNeg 1)) ≤ s.1) (some (.inr s.2)) (gd (vp_in s.1 8) (bp (F_M_stepped s.2 (s.2 26 (Int32.toNatClampNeg s.1))) (fun i14 => gd (vp_in s.1 8) (bw (wup s.2 26 (Int32.toNatClampNeg s.1) i14) (fun w15 => bi (s.1 + 1) (fun i16 => some (.inl ((i16, w15))))))))))
set_option maxRecDepth 10000 in
theorem s_B_M_meeting_144 {Z : ZT} {l : Launch} {o : Oc} {wo : Wld} {Ok : Cfg → Prop} (hC : Clo Z l 10 5 prog_13_method_80_code (some .int) 3 44 o wo Ok) (a1 : Int32) (a2 : Int32) (s : Int32 × Wld) : SimK Ok (V_M_meeting_144 a1 a2 s) (B_M_meeting_144 a1 a2 s) (GLp Ok (V_M_meeting_144 a1 a2) (GEp Ok (E_M_meeting_144 a1 a2))) := by
  unfold B_M_meeting_144
  show SimK Ok (144, [(0, vR 0), (1, vI a1), (2, vI a2), (4, vI s.1)], [], s.2) _ _
  refine sim_blk1 hC [(.iload 4, 0, 0, 0, 0), (.aload_n 0, 0, 0, 0, 0), (.getfield 42, 0, 3, 5, 0), (.iconst 1, 0, 0, 0, 1), (.iaload, 3, 10, 0, 0)] [(0, vR 0), (1, vI a1), (2, vI a2), (4, vI s.1)] [vI (s.2 3 (Int32.toNatClampNeg 1)), vI s.1] s.2 152 (by decide +kernel) rfl rfl ?_
  refine sim_br hC (.if_icmp .ge 27) 179 (by decide +kernel) rfl (by decide) ?_ ?_
  · refine sim_sub hC [0, 1, 2] ?_
    exact sim_exit (E := (E_M_meeting_144 a1 a2)) s.2
  · refine sim_blk1 hC [(.aload_n 0, 0, 0, 0, 0), (.getfield 113, 0, 44, 28, 0), (.iload 4, 0, 0, 0, 0), (.aload_n 0, 0, 0, 0, 0), (.aload_n 0, 0, 0, 0, 0), (.getfield 113, 0, 44, 28, 0), (.iload 4, 0, 0, 0, 0), (.iaload, 26, 8, 0, 0)] [(0, vR 0), (1, vI a1), (2, vI a2), (4, vI s.1)] [vI (s.2 26 (Int32.toNatClampNeg s.1)), vR 0, vI s.1, vR 26] s.2 169 (by decide +kernel) rfl rfl ?_
    refine sim_vp hC 415 mX11_stepped 2 21 0 [vI (s.2 26 (Int32.toNatClampNeg s.1))] [vI s.1, vR 26] (by decide +kernel) ml_10_415 rfl rfl rfl rfl rfl rfl (fun rz hz => c_M_stepped s.2 (s.2 26 (Int32.toNatClampNeg s.1)) rz hz) (fun i14 => ?_)
    refine sim_blk1 hC [(.iastore, 26, 8, 0, 0)] [(0, vR 0), (1, vI a1), (2, vI a2), (4, vI s.1)] [] (wup s.2 26 (Int32.toNatClampNeg s.1) i14) 173 (by decide +kernel) rfl rfl ?_
    refine sim_bw (C := fun w15 => (173, [(0, vR 0), (1, vI a1), (2, vI a2), (4, vI s.1)], [], w15)) (fun w15 => ?_)
    refine sim_blk0 hC [(.iinc 4 1, 0, 0, 0, 1)] [(0, vR 0), (1, vI a1), (2, vI a2), (4, vI (s.1 + 1))] [] w15 176 (by decide +kernel) rfl rfl ?_
    refine sim_bi (C := fun i16 => (176, [(0, vR 0), (1, vI a1), (2, vI a2), (4, vI i16)], [], w15)) (fun i16 => ?_)
    refine sim_goto hC (-32) 144 (by decide +kernel) (by decide) ?_
    exact sim_back (V := (V_M_meeting_144 a1 a2)) ((i16, w15))
noncomputable def B_M_meeting_54 (a1 : Int32) (s : Int32 × Wld) : Option ((Int32 × Wld) ⊕ ((Wld) ⊕ (Int32 × Wld))) :=
  br ((80 : Int32) < s.1) (some (.inr (.inl s.2))) (gd (vp_in 0 10) (bi (((1 : Int32) <<< ((s.2 3 (Int32.toNatClampNeg 0)) &&& 31)) - (1 : Int32)) (fun i7 => bl (loop (B_M_meeting_74 a1 s.1 s.2) ((i7, 0))) (fun r10 => bx (loop (B_M_meeting_104 a1 s.1 r10 s.2) 0) (fun r13 => bl (loop (B_M_meeting_144 a1 s.1) ((0, s.2))) (fun r17 => bi (s.1 + 1) (fun i18 => some (.inl ((i18, r17))))))))))
set_option maxRecDepth 10000 in
theorem s_B_M_meeting_54 {Z : ZT} {l : Launch} {o : Oc} {wo : Wld} {Ok : Cfg → Prop} (hC : Clo Z l 10 5 prog_13_method_80_code (some .int) 3 44 o wo Ok) (a1 : Int32) (s : Int32 × Wld) : SimK Ok (V_M_meeting_54 a1 s) (B_M_meeting_54 a1 s) (GLp Ok (V_M_meeting_54 a1) (GLp Ok (E_M_meeting_54 a1) (Gi o wo))) := by
  unfold B_M_meeting_54
  show SimK Ok (54, [(0, vR 0), (1, vI a1), (2, vI s.1)], [], s.2) _ _
  refine sim_blk0 hC [(.iload_n 2, 0, 0, 0, 0), (.bipush 80, 0, 0, 0, 80)] [(0, vR 0), (1, vI a1), (2, vI s.1)] [vI 80, vI s.1] s.2 57 (by decide +kernel) rfl rfl ?_
  refine sim_br hC (.if_icmp .gt 128) 185 (by decide +kernel) rfl (by decide) ?_ ?_
  · refine sim_sub hC [] ?_
    exact sim_exitx (E := (E_M_meeting_54 a1)) s.2
  · refine sim_blk1 hC [(.iconst 1, 0, 0, 0, 1), (.aload_n 0, 0, 0, 0, 0), (.getfield 42, 0, 3, 5, 0), (.iconst 0, 0, 0, 0, 0), (.iaload, 3, 10, 0, 0), (.ishl, 0, 0, 0, 0), (.iconst 1, 0, 0, 0, 1), (.isub, 0, 0, 0, 0), (.istore_n 3, 0, 0, 0, 0)] [(0, vR 0), (1, vI a1), (2, vI s.1), (3, vI (((1 : Int32) <<< ((s.2 3 (Int32.toNatClampNeg 0)) &&& 31)) - (1 : Int32)))] [] s.2 71 (by decide +kernel) rfl rfl ?_
    refine sim_bi (C := fun i7 => (71, [(0, vR 0), (1, vI a1), (2, vI s.1), (3, vI i7)], [], s.2)) (fun i7 => ?_)
    refine sim_blk0 hC [(.iconst 0, 0, 0, 0, 0), (.istore 4, 0, 0, 0, 0)] [(0, vR 0), (1, vI a1), (2, vI s.1), (3, vI i7), (4, vI 0)] [] s.2 74 (by decide +kernel) rfl rfl ?_
    refine sim_bl (E := (E_M_meeting_74 a1 s.1 s.2)) ?_ (fun r10 => ?_)
    · exact sim_loop (V := (V_M_meeting_74 a1 s.1 s.2)) (fun sz => s_B_M_meeting_74 hC a1 s.1 s.2 sz) ((i7, 0))
    · show SimK Ok (101, [(0, vR 0), (1, vI a1), (2, vI s.1), (3, vI r10)], [], s.2) _ _
      refine sim_blk0 hC [(.iconst 0, 0, 0, 0, 0), (.istore 4, 0, 0, 0, 0)] [(0, vR 0), (1, vI a1), (2, vI s.1), (3, vI r10), (4, vI 0)] [] s.2 104 (by decide +kernel) rfl rfl ?_
      refine sim_bx (E := (E_M_meeting_104 a1 s.1 r10 s.2)) ?_ (fun r13 => ?_)
      · exact sim_loop (V := (V_M_meeting_104 a1 s.1 r10 s.2)) (fun sz => s_B_M_meeting_104 hC a1 s.1 r10 s.2 sz) 0
      · show SimK Ok (141, [(0, vR 0), (1, vI a1), (2, vI s.1)], [], s.2) _ _
        refine sim_blk0 hC [(.iconst 0, 0, 0, 0, 0), (.istore 4, 0, 0, 0, 0)] [(0, vR 0), (1, vI a1), (2, vI s.1), (4, vI 0)] [] s.2 144 (by decide +kernel) rfl rfl ?_
        refine sim_bl (E := (E_M_meeting_144 a1 s.1)) ?_ (fun r17 => ?_)
        · exact sim_loop (V := (V_M_meeting_144 a1 s.1)) (fun sz => s_B_M_meeting_144 hC a1 s.1 sz) ((0, s.2))
        · show SimK Ok (179, [(0, vR 0), (1, vI a1), (2, vI s.1)], [], r17) _ _
          refine sim_blk0 hC [(.iinc 2 1, 0, 0, 0, 1)] [(0, vR 0), (1, vI a1), (2, vI (s.1 + 1))] [] r17 182 (by decide +kernel) rfl rfl ?_
          refine sim_bi (C := fun i18 => (182, [(0, vR 0), (1, vI a1), (2, vI i18)], [], r17)) (fun i18 => ?_)
          refine sim_goto hC (-128) 54 (by decide +kernel) (by decide) ?_
          exact sim_back (V := (V_M_meeting_54 a1)) ((i18, r17))
noncomputable def F_M_meeting (w : Wld) (a1 : Int32) : Option (Int32 × Wld) :=
  bw (wup w 0 2 0) (fun w1 => br (a1 < 0) (K_M_meeting_14 w1) (br (a1 ≤ 1) (bl (loop (B_M_meeting_22 a1) ((0, w1))) (fun r6 => bx (loop (B_M_meeting_54 a1) ((0, r6))) (fun r19 => some (((-1), r19))))) (K_M_meeting_14 w1)))
set_option maxRecDepth 10000 in
theorem s_M_meeting {Z : ZT} {l : Launch} {o : Oc} {wo : Wld} {Ok : Cfg → Prop} (hC : Clo Z l 10 5 prog_13_method_80_code (some .int) 3 44 o wo Ok) (w : Wld) (a1 : Int32) : SimK Ok (0, [(0, vR 0), (1, vI a1)], [], w) (F_M_meeting w a1) (Gi o wo) := by
  unfold F_M_meeting
  refine sim_blk0 hC [(.aload_n 0, 0, 0, 0, 0), (.iconst 0, 0, 0, 0, 0), (.putfield 159, 0, 2, 0, 0)] [(0, vR 0), (1, vI a1)] [] (wup w 0 2 0) 5 (by decide +kernel) rfl rfl ?_
  refine sim_bw (C := fun w1 => (5, [(0, vR 0), (1, vI a1)], [], w1)) (fun w1 => ?_)
  refine sim_blk0 hC [(.iload_n 1, 0, 0, 0, 0)] [(0, vR 0), (1, vI a1)] [vI a1] w1 6 (by decide +kernel) rfl rfl ?_
  refine sim_br hC (.ifCond .lt 8) 14 (by decide +kernel) rfl (by decide) ?_ ?_
  · refine sim_sub hC [0] ?_
    exact s_K_M_meeting_14 hC w1
  · refine sim_blk0 hC [(.iload_n 1, 0, 0, 0, 0), (.iconst 1, 0, 0, 0, 1)] [(0, vR 0), (1, vI a1)] [vI 1, vI a1] w1 11 (by decide +kernel) rfl rfl ?_
    refine sim_br hC (.if_icmp .le 9) 20 (by decide +kernel) rfl (by decide) ?_ ?_
    · refine sim_blk0 hC [(.iconst 0, 0, 0, 0, 0), (.istore_n 2, 0, 0, 0, 0)] [(0, vR 0), (1, vI a1), (2, vI 0)] [] w1 22 (by decide +kernel) rfl rfl ?_
      refine sim_bl (E := (E_M_meeting_22 a1)) ?_ (fun r6 => ?_)
      · exact sim_loop (V := (V_M_meeting_22 a1)) (fun sz => s_B_M_meeting_22 hC a1 sz) ((0, w1))
      · show SimK Ok (52, [(0, vR 0), (1, vI a1)], [], r6) _ _
        refine sim_blk0 hC [(.iconst 0, 0, 0, 0, 0), (.istore_n 2, 0, 0, 0, 0)] [(0, vR 0), (1, vI a1), (2, vI 0)] [] r6 54 (by decide +kernel) rfl rfl ?_
        refine sim_bx (E := (E_M_meeting_54 a1)) ?_ (fun r19 => ?_)
        · exact sim_loop (V := (V_M_meeting_54 a1)) (fun sz => s_B_M_meeting_54 hC a1 sz) ((0, r6))
        · show SimK Ok (185, [], [], r19) _ _
          refine sim_blk0 hC [(.iconst (-1), 0, 0, 0, (-1))] [] [vI (-1)] r19 186 (by decide +kernel) rfl rfl ?_
          exact sim_reti hC (by decide +kernel) trivial
    · refine sim_sub hC [0] ?_
      exact s_K_M_meeting_14 hC w1
theorem c_M_meeting {Z : ZT} {l : Launch} (w : Wld) (a1 : Int32) (r : Int32) (w1 : Wld) (h : F_M_meeting w a1 = some (r, w1)) : Con Z l mX11_meeting 3 44 [vR 0, vI a1] w (.inr (some r)) w1 :=
  Con_of (oc := 10) (by decide +kernel) rfl rfl (fun Ok hC => s_M_meeting hC w a1 (r, w1) h ⟨rfl, rfl⟩)
def V_M_fishFor_12 (a1 : Int32) (a2 : Int32) : (Int32 × Int32 × Wld) → Cfg := fun s => (12, [(0, vR 0), (1, vI a1), (2, vI a2), (3, vI s.1), (4, vI s.2.1)], [], s.2.2)
def E_M_fishFor_12 (a1 : Int32) (a2 : Int32) : (Int32 × Wld) → Cfg := fun s => (53, [(0, vR 0), (1, vI a1), (2, vI a2), (3, vI s.1)], [], s.2)
noncomputable def K_M_fishFor_47 (a1 : Int32) (a2 : Int32) (a3 : Int32) (a4 : Int32) (w : Wld) : Option ((Int32 × Int32 × Wld) ⊕ (Int32 × Wld)) :=
  bi (a4 + 1) (fun i5 => some (.inl ((a3, i5, w))))
set_option maxRecDepth 10000 in
theorem s_K_M_fishFor_47 {Z : ZT} {l : Launch} {o : Oc} {wo : Wld} {Ok : Cfg → Prop} (hC : Clo Z l 10 5 prog_13_method_81_code (some .int) 4 66 o wo Ok) (a1 : Int32) (a2 : Int32) (a3 : Int32) (a4 : Int32) (w : Wld) : SimK Ok (47, [(0, vR 0), (1, vI a1), (2, vI a2), (3, vI a3), (4, vI a4)], [], w) (K_M_fishFor_47 a1 a2 a3 a4 w) (GLp Ok (V_M_fishFor_12 a1 a2) (GEp Ok (E_M_fishFor_12 a1 a2))) := by
  unfold K_M_fishFor_47
  refine sim_blk0 hC [(.iinc 4 1, 0, 0, 0, 1)] [(0, vR 0), (1, vI a1), (2, vI a2), (3, vI a3), (4, vI (a4 + 1))] [] w 50 (by decide +kernel) rfl rfl ?_
  refine sim_bi (C := fun i5 => (50, [(0, vR 0), (1, vI a1), (2, vI a2), (3, vI a3), (4, vI i5)], [], w)) (fun i5 => ?_)
  refine sim_goto hC (-38) 12 (by decide +kernel) (by decide) ?_
  exact sim_back (V := (V_M_fishFor_12 a1 a2)) ((a3, i5, w))
noncomputable def B_M_fishFor_12 (a1 : Int32) (a2 : Int32) (s : Int32 × Int32 × Wld) : Option ((Int32 × Int32 × Wld) ⊕ (Int32 × Wld)) :=
  br ((9 : Int32) < (a2 + s.2.1)) (some (.inr ((s.1, s.2.2)))) (br (¬ s.1 = (-1)) (some (.inr ((s.1, s.2.2)))) (gd (vp_in a1 8) (bw (wup s.2.2 15 (Int32.toNatClampNeg a1) (a2 + s.2.1)) (fun w2 => bd (F_M_getsUp w2 a1) (fun i3 w4 => br (i3 = 0) (K_M_fishFor_47 a1 a2 s.1 s.2.1 w4) (K_M_fishFor_47 a1 a2 s.2.1 s.2.1 w4))))))
set_option maxRecDepth 10000 in
theorem s_B_M_fishFor_12 {Z : ZT} {l : Launch} {o : Oc} {wo : Wld} {Ok : Cfg → Prop} (hC : Clo Z l 10 5 prog_13_method_81_code (some .int) 4 66 o wo Ok) (a1 : Int32) (a2 : Int32) (s : Int32 × Int32 × Wld) : SimK Ok (V_M_fishFor_12 a1 a2 s) (B_M_fishFor_12 a1 a2 s) (GLp Ok (V_M_fishFor_12 a1 a2) (GEp Ok (E_M_fishFor_12 a1 a2))) := by
  unfold B_M_fishFor_12
  show SimK Ok (12, [(0, vR 0), (1, vI a1), (2, vI a2), (3, vI s.1), (4, vI s.2.1)], [], s.2.2) _ _
  refine sim_blk0 hC [(.iload_n 2, 0, 0, 0, 0), (.iload 4, 0, 0, 0, 0), (.iadd, 0, 0, 0, 0), (.bipush 9, 0, 0, 0, 9)] [(0, vR 0), (1, vI a1), (2, vI a2), (3, vI s.1), (4, vI s.2.1)] [vI 9, vI (a2 + s.2.1)] s.2.2 18 (by decide +kernel) rfl rfl ?_
  refine sim_br hC (.if_icmp .gt 35) 53 (by decide +kernel) rfl (by decide) ?_ ?_
  · refine sim_sub hC [0, 1, 2, 3] ?_
    exact sim_exit (E := (E_M_fishFor_12 a1 a2)) ((s.1, s.2.2))
  · refine sim_blk0 hC [(.iload_n 3, 0, 0, 0, 0), (.iconst (-1), 0, 0, 0, (-1))] [(0, vR 0), (1, vI a1), (2, vI a2), (3, vI s.1), (4, vI s.2.1)] [vI (-1), vI s.1] s.2.2 23 (by decide +kernel) rfl rfl ?_
    refine sim_br hC (.if_icmp .ne 30) 53 (by decide +kernel) rfl (by decide) ?_ ?_
    · refine sim_sub hC [0, 1, 2, 3] ?_
      exact sim_exit (E := (E_M_fishFor_12 a1 a2)) ((s.1, s.2.2))
    · refine sim_blk1 hC [(.aload_n 0, 0, 0, 0, 0), (.getfield 81, 0, 25, 17, 0), (.iload_n 1, 0, 0, 0, 0), (.iload_n 2, 0, 0, 0, 0), (.iload 4, 0, 0, 0, 0), (.iadd, 0, 0, 0, 0), (.iastore, 15, 8, 0, 0)] [(0, vR 0), (1, vI a1), (2, vI a2), (3, vI s.1), (4, vI s.2.1)] [] (wup s.2.2 15 (Int32.toNatClampNeg a1) (a2 + s.2.1)) 36 (by decide +kernel) rfl rfl ?_
      refine sim_bw (C := fun w2 => (36, [(0, vR 0), (1, vI a1), (2, vI a2), (3, vI s.1), (4, vI s.2.1)], [], w2)) (fun w2 => ?_)
      refine sim_blk0 hC [(.aload_n 0, 0, 0, 0, 0), (.iload_n 1, 0, 0, 0, 0)] [(0, vR 0), (1, vI a1), (2, vI a2), (3, vI s.1), (4, vI s.2.1)] [vI a1, vR 0] w2 38 (by decide +kernel) rfl rfl ?_
      refine sim_vd hC 338 mX11_getsUp 3 45 0 [vI a1] [] (by decide +kernel) ml_10_338 rfl rfl rfl rfl rfl rfl (fun rz wz hz => c_M_getsUp w2 a1 rz wz hz) (fun i3 w4 => ?_)
      refine sim_br hC (.ifCond .eq 6) 47 (by decide +kernel) rfl (by decide) ?_ ?_
      · exact s_K_M_fishFor_47 hC a1 a2 s.1 s.2.1 w4
      · refine sim_blk0 hC [(.iload 4, 0, 0, 0, 0), (.istore_n 3, 0, 0, 0, 0)] [(0, vR 0), (1, vI a1), (2, vI a2), (3, vI s.2.1), (4, vI s.2.1)] [] w4 47 (by decide +kernel) rfl rfl ?_
        exact s_K_M_fishFor_47 hC a1 a2 s.2.1 s.2.1 w4
noncomputable def F_M_fishFor (w : Wld) (a1 : Int32) : Option (Int32 × Wld) :=
  gd (vp_in a1 8) (bi (w 15 (Int32.toNatClampNeg a1)) (fun i1 => bl (loop (B_M_fishFor_12 a1 i1) (((-1), 0, w))) (fun r6 => gd (vp_in a1 8) (bw (wup r6.2 15 (Int32.toNatClampNeg a1) i1) (fun w7 => some ((r6.1, w7)))))))
set_option maxRecDepth 10000 in
theorem s_M_fishFor {Z : ZT} {l : Launch} {o : Oc} {wo : Wld} {Ok : Cfg → Prop} (hC : Clo Z l 10 5 prog_13_method_81_code (some .int) 4 66 o wo Ok) (w : Wld) (a1 : Int32) : SimK Ok (0, [(0, vR 0), (1, vI a1)], [], w) (F_M_fishFor w a1) (Gi o wo) := by
  unfold F_M_fishFor
  refine sim_blk1 hC [(.aload_n 0, 0, 0, 0, 0), (.getfield 81, 0, 25, 17, 0), (.iload_n 1, 0, 0, 0, 0), (.iaload, 15, 8, 0, 0), (.istore_n 2, 0, 0, 0, 0)] [(0, vR 0), (1, vI a1), (2, vI (w 15 (Int32.toNatClampNeg a1)))] [] w 7 (by decide +kernel) rfl rfl ?_
  refine sim_bi (C := fun i1 => (7, [(0, vR 0), (1, vI a1), (2, vI i1)], [], w)) (fun i1 => ?_)
  refine sim_blk0 hC [(.iconst (-1), 0, 0, 0, (-1)), (.istore_n 3, 0, 0, 0, 0), (.iconst 0, 0, 0, 0, 0), (.istore 4, 0, 0, 0, 0)] [(0, vR 0), (1, vI a1), (2, vI i1), (3, vI (-1)), (4, vI 0)] [] w 12 (by decide +kernel) rfl rfl ?_
  refine sim_bl (E := (E_M_fishFor_12 a1 i1)) ?_ (fun r6 => ?_)
  · exact sim_loop (V := (V_M_fishFor_12 a1 i1)) (fun sz => s_B_M_fishFor_12 hC a1 i1 sz) (((-1), 0, w))
  · show SimK Ok (53, [(0, vR 0), (1, vI a1), (2, vI i1), (3, vI r6.1)], [], r6.2) _ _
    refine sim_blk1 hC [(.aload_n 0, 0, 0, 0, 0), (.getfield 81, 0, 25, 17, 0), (.iload_n 1, 0, 0, 0, 0), (.iload_n 2, 0, 0, 0, 0), (.iastore, 15, 8, 0, 0)] [(0, vR 0), (1, vI a1), (2, vI i1), (3, vI r6.1)] [] (wup r6.2 15 (Int32.toNatClampNeg a1) i1) 60 (by decide +kernel) rfl rfl ?_
    refine sim_bw (C := fun w7 => (60, [(0, vR 0), (1, vI a1), (2, vI i1), (3, vI r6.1)], [], w7)) (fun w7 => ?_)
    refine sim_blk0 hC [(.iload_n 3, 0, 0, 0, 0)] [(0, vR 0), (1, vI a1), (2, vI i1), (3, vI r6.1)] [vI r6.1] w7 61 (by decide +kernel) rfl rfl ?_
    exact sim_reti hC (by decide +kernel) trivial
theorem c_M_fishFor {Z : ZT} {l : Launch} (w : Wld) (a1 : Int32) (r : Int32) (w1 : Wld) (h : F_M_fishFor w a1 = some (r, w1)) : Con Z l mX11_fishFor 4 66 [vR 0, vI a1] w (.inr (some r)) w1 :=
  Con_of (oc := 10) (by decide +kernel) rfl rfl (fun Ok hC => s_M_fishFor hC w a1 (r, w1) h ⟨rfl, rfl⟩)
def V_M_shares_4 (a1 : Int32) : (Int32 × Wld) → Cfg := fun s => (4, [(0, vR 0), (1, vI a1), (2, vI s.1)], [], s.2)
def E_M_shares_4 (a1 : Int32) : (Wld) → Cfg := fun s => (27, [(0, vR 0), (1, vI a1)], [], s)
noncomputable def B_M_shares_4 (a1 : Int32) (s : Int32 × Wld) : Option ((Int32 × Wld) ⊕ (Wld)) :=
  gd (vp_in 1 10) (br ((s.2 3 (Int32.toNatClampNeg 1)) ≤ s.1) (some (.inr s.2)) (gd (vp_in s.1 8) (bw (wup s.2 27 (Int32.toNatClampNeg s.1) 0) (fun w1 => bi (s.1 + 1) (fun i2 => some (.inl ((i2, w1))))))))
set_option maxRecDepth 10000 in
theorem s_B_M_shares_4 {Z : ZT} {l : Launch} {o : Oc} {wo : Wld} {Ok : Cfg → Prop} (hC : Clo Z l 10 7 prog_13_method_82_code (some .boolean) 5 90 o wo Ok) (a1 : Int32) (s : Int32 × Wld) : SimK Ok (V_M_shares_4 a1 s) (B_M_shares_4 a1 s) (GLp Ok (V_M_shares_4 a1) (GEp Ok (E_M_shares_4 a1))) := by
  unfold B_M_shares_4
  show SimK Ok (4, [(0, vR 0), (1, vI a1), (2, vI s.1)], [], s.2) _ _
  refine sim_blk1 hC [(.iload_n 2, 0, 0, 0, 0), (.aload_n 0, 0, 0, 0, 0), (.getfield 42, 0, 3, 5, 0), (.iconst 1, 0, 0, 0, 1), (.iaload, 3, 10, 0, 0)] [(0, vR 0), (1, vI a1), (2, vI s.1)] [vI (s.2 3 (Int32.toNatClampNeg 1)), vI s.1] s.2 11 (by decide +kernel) rfl rfl ?_
  refine sim_br hC (.if_icmp .ge 16) 27 (by decide +kernel) rfl (by decide) ?_ ?_
  · refine sim_sub hC [0, 1] ?_
    exact sim_exit (E := (E_M_shares_4 a1)) s.2
  · refine sim_blk1 hC [(.aload_n 0, 0, 0, 0, 0), (.getfield 116, 0, 45, 29, 0), (.iload_n 2, 0, 0, 0, 0), (.iconst 0, 0, 0, 0, 0), (.iastore, 27, 8, 0, 0)] [(0, vR 0), (1, vI a1), (2, vI s.1)] [] (wup s.2 27 (Int32.toNatClampNeg s.1) 0) 21 (by decide +kernel) rfl rfl ?_
    refine sim_bw (C := fun w1 => (21, [(0, vR 0), (1, vI a1), (2, vI s.1)], [], w1)) (fun w1 => ?_)
    refine sim_blk0 hC [(.iinc 2 1, 0, 0, 0, 1)] [(0, vR 0), (1, vI a1), (2, vI (s.1 + 1))] [] w1 24 (by decide +kernel) rfl rfl ?_
    refine sim_bi (C := fun i2 => (24, [(0, vR 0), (1, vI a1), (2, vI i2)], [], w1)) (fun i2 => ?_)
    refine sim_goto hC (-20) 4 (by decide +kernel) (by decide) ?_
    exact sim_back (V := (V_M_shares_4 a1)) ((i2, w1))
def V_M_shares_29 : (Int32 × Int32 × Wld) → Cfg := fun s => (29, [(0, vR 0), (1, vI s.1), (2, vI s.2.1)], [], s.2.2)
def E_M_shares_29 : (Int32 × Wld) → Cfg := fun s => (159, [(1, vI s.1)], [], s.2)
def V_M_shares_42 (a1 : Int32) (a2 : Int32) : (Int32 × Int32 × Int32 × Wld) → Cfg := fun s => (42, [(0, vR 0), (1, vI a1), (2, vI a2), (3, vI s.1), (4, vI s.2.1), (5, vI s.2.2.1)], [], s.2.2.2)
def E_M_shares_42 (a1 : Int32) (a2 : Int32) : (Int32 × Int32 × Wld) → Cfg := fun s => (110, [(0, vR 0), (1, vI a1), (2, vI a2), (3, vI s.1), (4, vI s.2.1)], [], s.2.2)
noncomputable def K_M_shares_104 (a1 : Int32) (a2 : Int32) (a3 : Int32) (a4 : Int32) (a5 : Int32) (w : Wld) : Option ((Int32 × Int32 × Int32 × Wld) ⊕ (Int32 × Int32 × Wld)) :=
  bi (a5 + 1) (fun i4 => some (.inl ((a3, a4, i4, w))))
set_option maxRecDepth 10000 in
theorem s_K_M_shares_104 {Z : ZT} {l : Launch} {o : Oc} {wo : Wld} {Ok : Cfg → Prop} (hC : Clo Z l 10 7 prog_13_method_82_code (some .boolean) 5 90 o wo Ok) (a1 : Int32) (a2 : Int32) (a3 : Int32) (a4 : Int32) (a5 : Int32) (w : Wld) : SimK Ok (104, [(0, vR 0), (1, vI a1), (2, vI a2), (3, vI a3), (4, vI a4), (5, vI a5)], [], w) (K_M_shares_104 a1 a2 a3 a4 a5 w) (GLp Ok (V_M_shares_42 a1 a2) (GEp Ok (E_M_shares_42 a1 a2))) := by
  unfold K_M_shares_104
  refine sim_blk0 hC [(.iinc 5 1, 0, 0, 0, 1)] [(0, vR 0), (1, vI a1), (2, vI a2), (3, vI a3), (4, vI a4), (5, vI (a5 + 1))] [] w 107 (by decide +kernel) rfl rfl ?_
  refine sim_bi (C := fun i4 => (107, [(0, vR 0), (1, vI a1), (2, vI a2), (3, vI a3), (4, vI a4), (5, vI i4)], [], w)) (fun i4 => ?_)
  refine sim_goto hC (-65) 42 (by decide +kernel) (by decide) ?_
  exact sim_back (V := (V_M_shares_42 a1 a2)) ((a3, a4, i4, w))
noncomputable def K_M_shares_97 (a1 : Int32) (a2 : Int32) (a5 : Int32) (a6 : Int32) (w : Wld) : Option ((Int32 × Int32 × Int32 × Wld) ⊕ (Int32 × Int32 × Wld)) :=
  K_M_shares_104 a1 a2 a5 a6 a5 w
set_option maxRecDepth 10000 in
theorem s_K_M_shares_97 {Z : ZT} {l : Launch} {o : Oc} {wo : Wld} {Ok : Cfg → Prop} (hC : Clo Z l 10 7 prog_13_method_82_code (some .boolean) 5 90 o wo Ok) (a1 : Int32) (a2 : Int32) (a5 : Int32) (a6 : Int32) (w : Wld) : SimK Ok (97, [(0, vR 0), (1, vI a1), (2, vI a2), (5, vI a5), (6, vI a6)], [], w) (K_M_shares_97 a1 a2 a5 a6 w) (GLp Ok (V_M_shares_42 a1 a2) (GEp Ok (E_M_shares_42 a1 a2))) := by
  unfold K_M_shares_97
  refine sim_blk0 hC [(.iload 5, 0, 0, 0, 0), (.istore_n 3, 0, 0, 0, 0), (.iload 6, 0, 0, 0, 0), (.istore 4, 0, 0, 0, 0)] [(0, vR 0), (1, vI a1), (2, vI a2), (3, vI a5), (4, vI a6), (5, vI a5), (6, vI a6)] [] w 104 (by decide +kernel) rfl rfl ?_
  refine sim_sub hC [0, 1, 2, 3, 4, 5] ?_
  exact s_K_M_shares_104 hC a1 a2 a5 a6 a5 w
noncomputable def K_M_shares_74 (a1 : Int32) (a2 : Int32) (a3 : Int32) (a4 : Int32) (a5 : Int32) (t0 : Int32) (w : Wld) : Option ((Int32 × Int32 × Int32 × Wld) ⊕ (Int32 × Int32 × Wld)) :=
  br (t0 = (-1)) (K_M_shares_104 a1 a2 a3 a4 a5 w) (br (a3 = (-1)) (K_M_shares_97 a1 a2 a5 t0 w) (br (t0 ≤ a4) (K_M_shares_97 a1 a2 a5 t0 w) (K_M_shares_104 a1 a2 a3 a4 a5 w)))
set_option maxRecDepth 10000 in
theorem s_K_M_shares_74 {Z : ZT} {l : Launch} {o : Oc} {wo : Wld} {Ok : Cfg → Prop} (hC : Clo Z l 10 7 prog_13_method_82_code (some .boolean) 5 90 o wo Ok) (a1 : Int32) (a2 : Int32) (a3 : Int32) (a4 : Int32) (a5 : Int32) (t0 : Int32) (w : Wld) : SimK Ok (74, [(0, vR 0), (1, vI a1), (2, vI a2), (3, vI a3), (4, vI a4), (5, vI a5)], [vI t0], w) (K_M_shares_74 a1 a2 a3 a4 a5 t0 w) (GLp Ok (V_M_shares_42 a1 a2) (GEp Ok (E_M_shares_42 a1 a2))) := by
  unfold K_M_shares_74
  refine sim_blk0 hC [(.istore 6, 0, 0, 0, 0), (.iload 6, 0, 0, 0, 0), (.iconst (-1), 0, 0, 0, (-1))] [(0, vR 0), (1, vI a1), (2, vI a2), (3, vI a3), (4, vI a4), (5, vI a5), (6, vI t0)] [vI (-1), vI t0] w 79 (by decide +kernel) rfl rfl ?_
  refine sim_br hC (.if_icmp .eq 25) 104 (by decide +kernel) rfl (by decide) ?_ ?_
  · refine sim_sub hC [0, 1, 2, 3, 4, 5] ?_
    exact s_K_M_shares_104 hC a1 a2 a3 a4 a5 w
  · refine sim_blk0 hC [(.iload_n 3, 0, 0, 0, 0), (.iconst (-1), 0, 0, 0, (-1))] [(0, vR 0), (1, vI a1), (2, vI a2), (3, vI a3), (4, vI a4), (5, vI a5), (6, vI t0)] [vI (-1), vI a3] w 84 (by decide +kernel) rfl rfl ?_
    refine sim_br hC (.if_icmp .eq 13) 97 (by decide +kernel) rfl (by decide) ?_ ?_
    · refine sim_sub hC [0, 1, 2, 5, 6] ?_
      exact s_K_M_shares_97 hC a1 a2 a5 t0 w
    · refine sim_blk0 hC [(.iload 6, 0, 0, 0, 0), (.iload 4, 0, 0, 0, 0)] [(0, vR 0), (1, vI a1), (2, vI a2), (3, vI a3), (4, vI a4), (5, vI a5), (6, vI t0)] [vI a4, vI t0] w 91 (by decide +kernel) rfl rfl ?_
      refine sim_br hC (.if_icmp .le 6) 97 (by decide +kernel) rfl (by decide) ?_ ?_
      · refine sim_sub hC [0, 1, 2, 5, 6] ?_
        exact s_K_M_shares_97 hC a1 a2 a5 t0 w
      · refine sim_goto hC 10 104 (by decide +kernel) (by decide) ?_
        refine sim_sub hC [0, 1, 2, 3, 4, 5] ?_
        exact s_K_M_shares_104 hC a1 a2 a3 a4 a5 w
noncomputable def B_M_shares_42 (a1 : Int32) (a2 : Int32) (s : Int32 × Int32 × Int32 × Wld) : Option ((Int32 × Int32 × Int32 × Wld) ⊕ (Int32 × Int32 × Wld)) :=
  gd (vp_in 1 10) (br ((s.2.2.2 3 (Int32.toNatClampNeg 1)) ≤ s.2.2.1) (some (.inr ((s.1, s.2.1, s.2.2.2)))) (gd (vp_in s.2.2.1 16) (br (¬ (s.2.2.2 7 (Int32.toNatClampNeg s.2.2.1)) = a2) (K_M_shares_74 a1 a2 s.1 s.2.1 s.2.2.1 (-1) s.2.2.2) (bd (F_M_fishFor s.2.2.2 s.2.2.1) (fun i5 w6 => K_M_shares_74 a1 a2 s.1 s.2.1 s.2.2.1 i5 w6)))))
set_option maxRecDepth 10000 in
theorem s_B_M_shares_42 {Z : ZT} {l : Launch} {o : Oc} {wo : Wld} {Ok : Cfg → Prop} (hC : Clo Z l 10 7 prog_13_method_82_code (some .boolean) 5 90 o wo Ok) (a1 : Int32) (a2 : Int32) (s : Int32 × Int32 × Int32 × Wld) : SimK Ok (V_M_shares_42 a1 a2 s) (B_M_shares_42 a1 a2 s) (GLp Ok (V_M_shares_42 a1 a2) (GEp Ok (E_M_shares_42 a1 a2))) := by
  unfold B_M_shares_42
  show SimK Ok (42, [(0, vR 0), (1, vI a1), (2, vI a2), (3, vI s.1), (4, vI s.2.1), (5, vI s.2.2.1)], [], s.2.2.2) _ _
  refine sim_blk1 hC [(.iload 5, 0, 0, 0, 0), (.aload_n 0, 0, 0, 0, 0), (.getfield 42, 0, 3, 5, 0), (.iconst 1, 0, 0, 0, 1), (.iaload, 3, 10, 0, 0)] [(0, vR 0), (1, vI a1), (2, vI a2), (3, vI s.1), (4, vI s.2.1), (5, vI s.2.2.1)] [vI (s.2.2.2 3 (Int32.toNatClampNeg 1)), vI s.2.2.1] s.2.2.2 50 (by decide +kernel) rfl rfl ?_
  refine sim_br hC (.if_icmp .ge 60) 110 (by decide +kernel) rfl (by decide) ?_ ?_
  · refine sim_sub hC [0, 1, 2, 3, 4] ?_
    exact sim_exit (E := (E_M_shares_42 a1 a2)) ((s.1, s.2.1, s.2.2.2))
  · refine sim_blk1 hC [(.aload_n 0, 0, 0, 0, 0), (.getfield 54, 0, 7, 9, 0), (.iload 5, 0, 0, 0, 0), (.iaload, 7, 16, 0, 0), (.iload_n 2, 0, 0, 0, 0)] [(0, vR 0), (1, vI a1), (2, vI a2), (3, vI s.1), (4, vI s.2.1), (5, vI s.2.2.1)] [vI a2, vI (s.2.2.2 7 (Int32.toNatClampNeg s.2.2.1))] s.2.2.2 61 (by decide +kernel) rfl rfl ?_
    refine sim_br hC (.if_icmp .ne 12) 73 (by decide +kernel) rfl (by decide) ?_ ?_
    · refine sim_blk0 hC [(.iconst (-1), 0, 0, 0, (-1))] [(0, vR 0), (1, vI a1), (2, vI a2), (3, vI s.1), (4, vI s.2.1), (5, vI s.2.2.1)] [vI (-1)] s.2.2.2 74 (by decide +kernel) rfl rfl ?_
      exact s_K_M_shares_74 hC a1 a2 s.1 s.2.1 s.2.2.1 (-1) s.2.2.2
    · refine sim_blk0 hC [(.aload_n 0, 0, 0, 0, 0), (.iload 5, 0, 0, 0, 0)] [(0, vR 0), (1, vI a1), (2, vI a2), (3, vI s.1), (4, vI s.2.1), (5, vI s.2.2.1)] [vI s.2.2.1, vR 0] s.2.2.2 67 (by decide +kernel) rfl rfl ?_
      refine sim_vd hC 418 mX11_fishFor 4 66 0 [vI s.2.2.1] [] (by decide +kernel) ml_10_418 rfl rfl rfl rfl rfl rfl (fun rz wz hz => c_M_fishFor s.2.2.2 s.2.2.1 rz wz hz) (fun i5 w6 => ?_)
      refine sim_goto hC 4 74 (by decide +kernel) (by decide) ?_
      exact s_K_M_shares_74 hC a1 a2 s.1 s.2.1 s.2.2.1 i5 w6
noncomputable def K_M_shares_152 (a2 : Int32) (t0 : Int32) (w : Wld) : Option ((Int32 × Int32 × Wld) ⊕ (Int32 × Wld)) :=
  bi (a2 + 1) (fun i8 => some (.inl ((t0, i8, w))))
set_option maxRecDepth 10000 in
theorem s_K_M_shares_152 {Z : ZT} {l : Launch} {o : Oc} {wo : Wld} {Ok : Cfg → Prop} (hC : Clo Z l 10 7 prog_13_method_82_code (some .boolean) 5 90 o wo Ok) (a2 : Int32) (t0 : Int32) (w : Wld) : SimK Ok (152, [(0, vR 0), (2, vI a2)], [vI t0], w) (K_M_shares_152 a2 t0 w) (GLp Ok (V_M_shares_29) (GEp Ok (E_M_shares_29))) := by
  unfold K_M_shares_152
  refine sim_blk0 hC [(.istore_n 1, 0, 0, 0, 0), (.iinc 2 1, 0, 0, 0, 1)] [(0, vR 0), (1, vI t0), (2, vI (a2 + 1))] [] w 156 (by decide +kernel) rfl rfl ?_
  refine sim_bi (C := fun i8 => (156, [(0, vR 0), (1, vI t0), (2, vI i8)], [], w)) (fun i8 => ?_)
  refine sim_goto hC (-127) 29 (by decide +kernel) (by decide) ?_
  exact sim_back (V := (V_M_shares_29)) ((t0, i8, w))
noncomputable def K_M_shares_151 (a2 : Int32) (w : Wld) : Option ((Int32 × Int32 × Wld) ⊕ (Int32 × Wld)) :=
  K_M_shares_152 a2 0 w
set_option maxRecDepth 10000 in
theorem s_K_M_shares_151 {Z : ZT} {l : Launch} {o : Oc} {wo : Wld} {Ok : Cfg → Prop} (hC : Clo Z l 10 7 prog_13_method_82_code (some .boolean) 5 90 o wo Ok) (a2 : Int32) (w : Wld) : SimK Ok (151, [(0, vR 0), (2, vI a2)], [], w) (K_M_shares_151 a2 w) (GLp Ok (V_M_shares_29) (GEp Ok (E_M_shares_29))) := by
  unfold K_M_shares_151
  refine sim_blk0 hC [(.iconst 0, 0, 0, 0, 0)] [(0, vR 0), (2, vI a2)] [vI 0] w 152 (by decide +kernel) rfl rfl ?_
  exact s_K_M_shares_152 hC a2 0 w
noncomputable def K_M_shares_147 (a2 : Int32) (w : Wld) : Option ((Int32 × Int32 × Wld) ⊕ (Int32 × Wld)) :=
  K_M_shares_152 a2 1 w
set_option maxRecDepth 10000 in
theorem s_K_M_shares_147 {Z : ZT} {l : Launch} {o : Oc} {wo : Wld} {Ok : Cfg → Prop} (hC : Clo Z l 10 7 prog_13_method_82_code (some .boolean) 5 90 o wo Ok) (a2 : Int32) (w : Wld) : SimK Ok (147, [(0, vR 0), (2, vI a2)], [], w) (K_M_shares_147 a2 w) (GLp Ok (V_M_shares_29) (GEp Ok (E_M_shares_29))) := by
  unfold K_M_shares_147
  refine sim_blk0 hC [(.iconst 1, 0, 0, 0, 1)] [(0, vR 0), (2, vI a2)] [vI 1] w 148 (by decide +kernel) rfl rfl ?_
  refine sim_goto hC 4 152 (by decide +kernel) (by decide) ?_
  exact s_K_M_shares_152 hC a2 1 w
noncomputable def K_M_shares_123 (a1 : Int32) (a2 : Int32) (a3 : Int32) (w : Wld) : Option ((Int32 × Int32 × Wld) ⊕ (Int32 × Wld)) :=
  br (a1 = 0) (K_M_shares_151 a2 w) (br (¬ a3 = (-1)) (K_M_shares_147 a2 w) (bp (F_M_everybody w) (fun i9 => bp (F_M_voicesOf w i9) (fun i10 => bp (F_M_isOf w i10 a2) (fun i11 => br (¬ i11 = 0) (K_M_shares_151 a2 w) (K_M_shares_147 a2 w))))))
set_option maxRecDepth 10000 in
theorem s_K_M_shares_123 {Z : ZT} {l : Launch} {o : Oc} {wo : Wld} {Ok : Cfg → Prop} (hC : Clo Z l 10 7 prog_13_method_82_code (some .boolean) 5 90 o wo Ok) (a1 : Int32) (a2 : Int32) (a3 : Int32) (w : Wld) : SimK Ok (123, [(0, vR 0), (1, vI a1), (2, vI a2), (3, vI a3)], [], w) (K_M_shares_123 a1 a2 a3 w) (GLp Ok (V_M_shares_29) (GEp Ok (E_M_shares_29))) := by
  unfold K_M_shares_123
  refine sim_blk0 hC [(.iload_n 1, 0, 0, 0, 0)] [(0, vR 0), (1, vI a1), (2, vI a2), (3, vI a3)] [vI a1] w 124 (by decide +kernel) rfl rfl ?_
  refine sim_br hC (.ifCond .eq 27) 151 (by decide +kernel) rfl (by decide) ?_ ?_
  · refine sim_sub hC [0, 2] ?_
    exact s_K_M_shares_151 hC a2 w
  · refine sim_blk0 hC [(.iload_n 3, 0, 0, 0, 0), (.iconst (-1), 0, 0, 0, (-1))] [(0, vR 0), (1, vI a1), (2, vI a2), (3, vI a3)] [vI (-1), vI a3] w 129 (by decide +kernel) rfl rfl ?_
    refine sim_br hC (.if_icmp .ne 18) 147 (by decide +kernel) rfl (by decide) ?_ ?_
    · refine sim_sub hC [0, 2] ?_
      exact s_K_M_shares_147 hC a2 w
    · refine sim_blk0 hC [(.aload_n 0, 0, 0, 0, 0), (.aload_n 0, 0, 0, 0, 0)] [(0, vR 0), (1, vI a1), (2, vI a2), (3, vI a3)] [vR 0, vR 0] w 134 (by decide +kernel) rfl rfl ?_
      refine sim_vp hC 350 mX11_everybody 1 0 0 [] [vR 0] (by decide +kernel) ml_10_350 rfl rfl rfl rfl rfl rfl (fun rz hz => c_M_everybody w rz hz) (fun i9 => ?_)
      refine sim_vp hC 353 mX11_voicesOf 2 21 0 [vI i9] [] (by decide +kernel) ml_10_353 rfl rfl rfl rfl rfl rfl (fun rz hz => c_M_voicesOf w i9 rz hz) (fun i10 => ?_)
      refine sim_blk0 hC [(.iload_n 2, 0, 0, 0, 0)] [(0, vR 0), (1, vI a1), (2, vI a2), (3, vI a3)] [vI a2, vI i10] w 141 (by decide +kernel) rfl rfl ?_
      refine sim_sp hC 326 mX11_isOf 1 0 [vI i10, vI a2] [] (by decide +kernel) ml_10_326 rfl rfl rfl rfl rfl (fun rz hz => c_M_isOf w i10 a2 rz hz) (fun i11 => ?_)
      refine sim_br hC (.ifCond .ne 7) 151 (by decide +kernel) rfl (by decide) ?_ ?_
      · refine sim_sub hC [0, 2] ?_
        exact s_K_M_shares_151 hC a2 w
      · refine sim_sub hC [0, 2] ?_
        exact s_K_M_shares_147 hC a2 w
noncomputable def B_M_shares_29 (s : Int32 × Int32 × Wld) : Option ((Int32 × Int32 × Wld) ⊕ (Int32 × Wld)) :=
  br ((4 : Int32) ≤ s.2.1) (some (.inr ((s.1, s.2.2)))) (bl (loop (B_M_shares_42 s.1 s.2.1) (((-1), 0, 0, s.2.2))) (fun r7 => br (r7.1 = (-1)) (K_M_shares_123 s.1 s.2.1 r7.1 r7.2.2) (gd (vp_in r7.1 8) (bw (wup r7.2.2 27 (Int32.toNatClampNeg r7.1) r7.2.1) (fun w12 => K_M_shares_123 s.1 s.2.1 r7.1 w12)))))
set_option maxRecDepth 10000 in
theorem s_B_M_shares_29 {Z : ZT} {l : Launch} {o : Oc} {wo : Wld} {Ok : Cfg → Prop} (hC : Clo Z l 10 7 prog_13_method_82_code (some .boolean) 5 90 o wo Ok) (s : Int32 × Int32 × Wld) : SimK Ok (V_M_shares_29 s) (B_M_shares_29 s) (GLp Ok (V_M_shares_29) (GEp Ok (E_M_shares_29))) := by
  unfold B_M_shares_29
  show SimK Ok (29, [(0, vR 0), (1, vI s.1), (2, vI s.2.1)], [], s.2.2) _ _
  refine sim_blk0 hC [(.iload_n 2, 0, 0, 0, 0), (.iconst 4, 0, 0, 0, 4)] [(0, vR 0), (1, vI s.1), (2, vI s.2.1)] [vI 4, vI s.2.1] s.2.2 31 (by decide +kernel) rfl rfl ?_
  refine sim_br hC (.if_icmp .ge 128) 159 (by decide +kernel) rfl (by decide) ?_ ?_
  · refine sim_sub hC [1] ?_
    exact sim_exit (E := (E_M_shares_29)) ((s.1, s.2.2))
  · refine sim_blk0 hC [(.iconst (-1), 0, 0, 0, (-1)), (.istore_n 3, 0, 0, 0, 0), (.iconst 0, 0, 0, 0, 0), (.istore 4, 0, 0, 0, 0), (.iconst 0, 0, 0, 0, 0), (.istore 5, 0, 0, 0, 0)] [(0, vR 0), (1, vI s.1), (2, vI s.2.1), (3, vI (-1)), (4, vI 0), (5, vI 0)] [] s.2.2 42 (by decide +kernel) rfl rfl ?_
    refine sim_bl (E := (E_M_shares_42 s.1 s.2.1)) ?_ (fun r7 => ?_)
    · exact sim_loop (V := (V_M_shares_42 s.1 s.2.1)) (fun sz => s_B_M_shares_42 hC s.1 s.2.1 sz) (((-1), 0, 0, s.2.2))
    · show SimK Ok (110, [(0, vR 0), (1, vI s.1), (2, vI s.2.1), (3, vI r7.1), (4, vI r7.2.1)], [], r7.2.2) _ _
      refine sim_blk0 hC [(.iload_n 3, 0, 0, 0, 0), (.iconst (-1), 0, 0, 0, (-1))] [(0, vR 0), (1, vI s.1), (2, vI s.2.1), (3, vI r7.1), (4, vI r7.2.1)] [vI (-1), vI r7.1] r7.2.2 112 (by decide +kernel) rfl rfl ?_
      refine sim_br hC (.if_icmp .eq 11) 123 (by decide +kernel) rfl (by decide) ?_ ?_
      · refine sim_sub hC [0, 1, 2, 3] ?_
        exact s_K_M_shares_123 hC s.1 s.2.1 r7.1 r7.2.2
      · refine sim_blk1 hC [(.aload_n 0, 0, 0, 0, 0), (.getfield 116, 0, 45, 29, 0), (.iload_n 3, 0, 0, 0, 0), (.iload 4, 0, 0, 0, 0), (.iastore, 27, 8, 0, 0)] [(0, vR 0), (1, vI s.1), (2, vI s.2.1), (3, vI r7.1), (4, vI r7.2.1)] [] (wup r7.2.2 27 (Int32.toNatClampNeg r7.1) r7.2.1) 123 (by decide +kernel) rfl rfl ?_
        refine sim_bw (C := fun w12 => (123, [(0, vR 0), (1, vI s.1), (2, vI s.2.1), (3, vI r7.1), (4, vI r7.2.1)], [], w12)) (fun w12 => ?_)
        refine sim_sub hC [0, 1, 2, 3] ?_
        exact s_K_M_shares_123 hC s.1 s.2.1 r7.1 w12
noncomputable def F_M_shares (w : Wld) : Option (Int32 × Wld) :=
  bl (loop (B_M_shares_4 1) ((0, w))) (fun r3 => bl (loop (B_M_shares_29) ((1, 0, r3))) (fun r13 => gd (r13.1 = 0 ∨ r13.1 = 1) (some ((r13.1, r13.2)))))
set_option maxRecDepth 10000 in
theorem s_M_shares {Z : ZT} {l : Launch} {o : Oc} {wo : Wld} {Ok : Cfg → Prop} (hC : Clo Z l 10 7 prog_13_method_82_code (some .boolean) 5 90 o wo Ok) (w : Wld) : SimK Ok (0, [(0, vR 0)], [], w) (F_M_shares w) (Gi o wo) := by
  unfold F_M_shares
  refine sim_blk0 hC [(.iconst 1, 0, 0, 0, 1), (.istore_n 1, 0, 0, 0, 0), (.iconst 0, 0, 0, 0, 0), (.istore_n 2, 0, 0, 0, 0)] [(0, vR 0), (1, vI 1), (2, vI 0)] [] w 4 (by decide +kernel) rfl rfl ?_
  refine sim_bl (E := (E_M_shares_4 1)) ?_ (fun r3 => ?_)
  · exact sim_loop (V := (V_M_shares_4 1)) (fun sz => s_B_M_shares_4 hC 1 sz) ((0, w))
  · show SimK Ok (27, [(0, vR 0), (1, vI 1)], [], r3) _ _
    refine sim_blk0 hC [(.iconst 0, 0, 0, 0, 0), (.istore_n 2, 0, 0, 0, 0)] [(0, vR 0), (1, vI 1), (2, vI 0)] [] r3 29 (by decide +kernel) rfl rfl ?_
    refine sim_bl (E := (E_M_shares_29)) ?_ (fun r13 => ?_)
    · exact sim_loop (V := (V_M_shares_29)) (fun sz => s_B_M_shares_29 hC sz) ((1, 0, r3))
    · show SimK Ok (159, [(1, vI r13.1)], [], r13.2) _ _
      refine sim_blk0 hC [(.iload_n 1, 0, 0, 0, 0)] [(1, vI r13.1)] [vI r13.1] r13.2 160 (by decide +kernel) rfl rfl ?_
      exact sim_retiz hC (by decide +kernel) rfl
theorem c_M_shares {Z : ZT} {l : Launch} (w : Wld) (r : Int32) (w1 : Wld) (h : F_M_shares w = some (r, w1)) : Con Z l mX11_shares 5 90 [vR 0] w (.inr (some r)) w1 :=
  Con_of (oc := 10) (by decide +kernel) rfl rfl (fun Ok hC => s_M_shares hC w (r, w1) h ⟨rfl, rfl⟩)
def V_M_leastFish_44 (a1 : Int32) (w : Wld) : (Int32 × Int32) → Cfg := fun s => (44, [(0, vR 0), (1, vI a1), (2, vI s.1), (3, vI s.2)], [], w)
def E_M_leastFish_44 (a1 : Int32) (w : Wld) : (Int32) → Cfg := fun s => (83, [(2, vI s)], [], w)
noncomputable def K_M_leastFish_75 (a1 : Int32) (a3 : Int32) (t0 : Int32) (t1 : Int32) (w : Wld) : Option ((Int32 × Int32) ⊕ (Int32)) :=
  bi (t0 + t1) (fun i5 => bi (a3 + 1) (fun i6 => some (.inl ((i5, i6)))))
set_option maxRecDepth 10000 in
theorem s_K_M_leastFish_75 {Z : ZT} {l : Launch} {o : Oc} {wo : Wld} {Ok : Cfg → Prop} (hC : Clo Z l 10 4 prog_13_method_83_code (some .int) 6 116 o wo Ok) (a1 : Int32) (a3 : Int32) (t0 : Int32) (t1 : Int32) (w : Wld) : SimK Ok (75, [(0, vR 0), (1, vI a1), (3, vI a3)], [vI t1, vI t0], w) (K_M_leastFish_75 a1 a3 t0 t1 w) (GLp Ok (V_M_leastFish_44 a1 w) (GEp Ok (E_M_leastFish_44 a1 w))) := by
  unfold K_M_leastFish_75
  refine sim_blk0 hC [(.iadd, 0, 0, 0, 0), (.istore_n 2, 0, 0, 0, 0)] [(0, vR 0), (1, vI a1), (2, vI (t0 + t1)), (3, vI a3)] [] w 77 (by decide +kernel) rfl rfl ?_
  refine sim_bi (C := fun i5 => (77, [(0, vR 0), (1, vI a1), (2, vI i5), (3, vI a3)], [], w)) (fun i5 => ?_)
  refine sim_blk0 hC [(.iinc 3 1, 0, 0, 0, 1)] [(0, vR 0), (1, vI a1), (2, vI i5), (3, vI (a3 + 1))] [] w 80 (by decide +kernel) rfl rfl ?_
  refine sim_bi (C := fun i6 => (80, [(0, vR 0), (1, vI a1), (2, vI i5), (3, vI i6)], [], w)) (fun i6 => ?_)
  refine sim_goto hC (-36) 44 (by decide +kernel) (by decide) ?_
  exact sim_back (V := (V_M_leastFish_44 a1 w)) ((i5, i6))
noncomputable def K_M_leastFish_65 (a1 : Int32) (a3 : Int32) (t0 : Int32) (w : Wld) : Option ((Int32 × Int32) ⊕ (Int32)) :=
  gd (vp_in a3 8) (K_M_leastFish_75 a1 a3 t0 (w 27 (Int32.toNatClampNeg a3)) w)
set_option maxRecDepth 10000 in
theorem s_K_M_leastFish_65 {Z : ZT} {l : Launch} {o : Oc} {wo : Wld} {Ok : Cfg → Prop} (hC : Clo Z l 10 4 prog_13_method_83_code (some .int) 6 116 o wo Ok) (a1 : Int32) (a3 : Int32) (t0 : Int32) (w : Wld) : SimK Ok (65, [(0, vR 0), (1, vI a1), (3, vI a3)], [vI t0], w) (K_M_leastFish_65 a1 a3 t0 w) (GLp Ok (V_M_leastFish_44 a1 w) (GEp Ok (E_M_leastFish_44 a1 w))) := by
  unfold K_M_leastFish_65
  refine sim_blk1 hC [(.aload_n 0, 0, 0, 0, 0), (.getfield 116, 0, 45, 29, 0), (.iload_n 3, 0, 0, 0, 0), (.iaload, 27, 8, 0, 0)] [(0, vR 0), (1, vI a1), (3, vI a3)] [vI (w 27 (Int32.toNatClampNeg a3)), vI t0] w 71 (by decide +kernel) rfl rfl ?_
  refine sim_goto hC 4 75 (by decide +kernel) (by decide) ?_
  exact s_K_M_leastFish_75 hC a1 a3 t0 (w 27 (Int32.toNatClampNeg a3)) w
noncomputable def B_M_leastFish_44 (a1 : Int32) (w : Wld) (s : Int32 × Int32) : Option ((Int32 × Int32) ⊕ (Int32)) :=
  gd (vp_in 1 10) (br ((w 3 (Int32.toNatClampNeg 1)) ≤ s.2) (some (.inr s.1)) (br (a1 = (-1)) (K_M_leastFish_65 a1 s.2 s.1 w) (br (¬ s.2 = a1) (K_M_leastFish_75 a1 s.2 s.1 0 w) (K_M_leastFish_65 a1 s.2 s.1 w))))
set_option maxRecDepth 10000 in
theorem s_B_M_leastFish_44 {Z : ZT} {l : Launch} {o : Oc} {wo : Wld} {Ok : Cfg → Prop} (hC : Clo Z l 10 4 prog_13_method_83_code (some .int) 6 116 o wo Ok) (a1 : Int32) (w : Wld) (s : Int32 × Int32) : SimK Ok (V_M_leastFish_44 a1 w s) (B_M_leastFish_44 a1 w s) (GLp Ok (V_M_leastFish_44 a1 w) (GEp Ok (E_M_leastFish_44 a1 w))) := by
  unfold B_M_leastFish_44
  show SimK Ok (44, [(0, vR 0), (1, vI a1), (2, vI s.1), (3, vI s.2)], [], w) _ _
  refine sim_blk1 hC [(.iload_n 3, 0, 0, 0, 0), (.aload_n 0, 0, 0, 0, 0), (.getfield 42, 0, 3, 5, 0), (.iconst 1, 0, 0, 0, 1), (.iaload, 3, 10, 0, 0)] [(0, vR 0), (1, vI a1), (2, vI s.1), (3, vI s.2)] [vI (w 3 (Int32.toNatClampNeg 1)), vI s.2] w 51 (by decide +kernel) rfl rfl ?_
  refine sim_br hC (.if_icmp .ge 32) 83 (by decide +kernel) rfl (by decide) ?_ ?_
  · refine sim_sub hC [2] ?_
    exact sim_exit (E := (E_M_leastFish_44 a1 w)) s.1
  · refine sim_blk0 hC [(.iload_n 2, 0, 0, 0, 0), (.iload_n 1, 0, 0, 0, 0), (.iconst (-1), 0, 0, 0, (-1))] [(0, vR 0), (1, vI a1), (2, vI s.1), (3, vI s.2)] [vI (-1), vI a1, vI s.1] w 57 (by decide +kernel) rfl rfl ?_
    refine sim_br hC (.if_icmp .eq 8) 65 (by decide +kernel) rfl (by decide) ?_ ?_
    · refine sim_sub hC [0, 1, 3] ?_
      exact s_K_M_leastFish_65 hC a1 s.2 s.1 w
    · refine sim_blk0 hC [(.iload_n 3, 0, 0, 0, 0), (.iload_n 1, 0, 0, 0, 0)] [(0, vR 0), (1, vI a1), (2, vI s.1), (3, vI s.2)] [vI a1, vI s.2, vI s.1] w 62 (by decide +kernel) rfl rfl ?_
      refine sim_br hC (.if_icmp .ne 12) 74 (by decide +kernel) rfl (by decide) ?_ ?_
      · refine sim_blk0 hC [(.iconst 0, 0, 0, 0, 0)] [(0, vR 0), (1, vI a1), (2, vI s.1), (3, vI s.2)] [vI 0, vI s.1] w 75 (by decide +kernel) rfl rfl ?_
        refine sim_sub hC [0, 1, 3] ?_
        exact s_K_M_leastFish_75 hC a1 s.2 s.1 0 w
      · refine sim_sub hC [0, 1, 3] ?_
        exact s_K_M_leastFish_65 hC a1 s.2 s.1 w
noncomputable def F_M_leastFish (w : Wld) (a1 : Int32) : Option (Int32 × Wld) :=
  bw (wup w 0 2 0) (fun w1 => gd (vp_in 1 10) (bp (F_M_isIn w1 (Int32.toInt64 a1) (Int32.toInt64 (-1)) (Int32.toInt64 ((w1 3 (Int32.toNatClampNeg 1)) - (1 : Int32)))) (fun i2 => br (¬ i2 = 0) (bd (F_M_shares w1) (fun i3 w4 => br (¬ i3 = 0) (bl (loop (B_M_leastFish_44 a1 w4) ((0, 0))) (fun r7 => some ((r7, w4)))) (some (((-1), w4))))) (bd (F_M_fail w1 1) (fun i8 w9 => some ((i8, w9)))))))
set_option maxRecDepth 10000 in
theorem s_M_leastFish {Z : ZT} {l : Launch} {o : Oc} {wo : Wld} {Ok : Cfg → Prop} (hC : Clo Z l 10 4 prog_13_method_83_code (some .int) 6 116 o wo Ok) (w : Wld) (a1 : Int32) : SimK Ok (0, [(0, vR 0), (1, vI a1)], [], w) (F_M_leastFish w a1) (Gi o wo) := by
  unfold F_M_leastFish
  refine sim_blk0 hC [(.aload_n 0, 0, 0, 0, 0), (.iconst 0, 0, 0, 0, 0), (.putfield 159, 0, 2, 0, 0)] [(0, vR 0), (1, vI a1)] [] (wup w 0 2 0) 5 (by decide +kernel) rfl rfl ?_
  refine sim_bw (C := fun w1 => (5, [(0, vR 0), (1, vI a1)], [], w1)) (fun w1 => ?_)
  refine sim_blk1 hC [(.iload_n 1, 0, 0, 0, 0), (.i2l, 0, 0, 0, 0), (.ldc2_w 421, 0, 0, 0, (-1)), (.aload_n 0, 0, 0, 0, 0), (.getfield 42, 0, 3, 5, 0), (.iconst 1, 0, 0, 0, 1), (.iaload, 3, 10, 0, 0), (.iconst 1, 0, 0, 0, 1), (.isub, 0, 0, 0, 0), (.i2l, 0, 0, 0, 0)] [(0, vR 0), (1, vI a1)] [vL (Int32.toInt64 ((w1 3 (Int32.toNatClampNeg 1)) - (1 : Int32))), vL (Int32.toInt64 (-1)), vL (Int32.toInt64 a1)] w1 19 (by decide +kernel) rfl rfl ?_
  refine sim_sp hC 162 mX11_isIn 1 0 [vL (Int32.toInt64 a1), vL (Int32.toInt64 (-1)), vL (Int32.toInt64 ((w1 3 (Int32.toNatClampNeg 1)) - (1 : Int32)))] [] (by decide +kernel) ml_10_162 rfl rfl rfl rfl rfl (fun rz hz => c_M_isIn w1 (Int32.toInt64 a1) (Int32.toInt64 (-1)) (Int32.toInt64 ((w1 3 (Int32.toNatClampNeg 1)) - (1 : Int32))) rz hz) (fun i2 => ?_)
  refine sim_br hC (.ifCond .ne 9) 31 (by decide +kernel) rfl (by decide) ?_ ?_
  · refine sim_blk0 hC [(.aload_n 0, 0, 0, 0, 0)] [(0, vR 0), (1, vI a1)] [vR 0] w1 32 (by decide +kernel) rfl rfl ?_
    refine sim_vd hC 423 mX11_shares 5 90 0 [] [] (by decide +kernel) ml_10_423 rfl rfl rfl rfl rfl rfl (fun rz wz hz => c_M_shares w1 rz wz hz) (fun i3 w4 => ?_)
    refine sim_br hC (.ifCond .ne 5) 40 (by decide +kernel) rfl (by decide) ?_ ?_
    · refine sim_blk0 hC [(.iconst 0, 0, 0, 0, 0), (.istore_n 2, 0, 0, 0, 0), (.iconst 0, 0, 0, 0, 0), (.istore_n 3, 0, 0, 0, 0)] [(0, vR 0), (1, vI a1), (2, vI 0), (3, vI 0)] [] w4 44 (by decide +kernel) rfl rfl ?_
      refine sim_bl (E := (E_M_leastFish_44 a1 w4)) ?_ (fun r7 => ?_)
      · exact sim_loop (V := (V_M_leastFish_44 a1 w4)) (fun sz => s_B_M_leastFish_44 hC a1 w4 sz) ((0, 0))
      · show SimK Ok (83, [(2, vI r7)], [], w4) _ _
        refine sim_blk0 hC [(.iload_n 2, 0, 0, 0, 0)] [(2, vI r7)] [vI r7] w4 84 (by decide +kernel) rfl rfl ?_
        exact sim_reti hC (by decide +kernel) trivial
    · refine sim_blk0 hC [(.iconst (-1), 0, 0, 0, (-1))] [(0, vR 0), (1, vI a1)] [vI (-1)] w4 39 (by decide +kernel) rfl rfl ?_
      exact sim_reti hC (by decide +kernel) trivial
  · refine sim_blk0 hC [(.aload_n 0, 0, 0, 0, 0), (.iconst 1, 0, 0, 0, 1)] [(0, vR 0), (1, vI a1)] [vI 1, vR 0] w1 27 (by decide +kernel) rfl rfl ?_
    refine sim_vd hC 292 mX11_fail 1 0 0 [vI 1] [] (by decide +kernel) ml_10_292 rfl rfl rfl rfl rfl rfl (fun rz wz hz => c_M_fail w1 1 rz wz hz) (fun i8 w9 => ?_)
    exact sim_reti hC (by decide +kernel) trivial
theorem c_M_leastFish {Z : ZT} {l : Launch} (w : Wld) (a1 : Int32) (r : Int32) (w1 : Wld) (h : F_M_leastFish w a1 = some (r, w1)) : Con Z l mX11_leastFish 6 116 [vR 0, vI a1] w (.inr (some r)) w1 :=
  Con_of (oc := 10) (by decide +kernel) rfl rfl (fun Ok hC => s_M_leastFish hC w a1 (r, w1) h ⟨rfl, rfl⟩)
def V_M_choir_9 (w : Wld) : (Int32 × Int32) → Cfg := fun s => (9, [(0, vR 0), (1, vI s.1), (2, vI s.2)], [], w)
def E_M_choir_9 (w : Wld) : (Int32) → Cfg := fun s => (52, [(1, vI s)], [], w)
noncomputable def K_M_choir_44 (a2 : Int32) (t0 : Int32) (t1 : Int32) (w : Wld) : Option ((Int32 × Int32) ⊕ (Int32)) :=
  bi (t0 ||| t1) (fun i4 => bi (a2 + 1) (fun i5 => some (.inl ((i4, i5)))))
set_option maxRecDepth 10000 in
theorem s_K_M_choir_44 {Z : ZT} {l : Launch} {o : Oc} {wo : Wld} {Ok : Cfg → Prop} (hC : Clo Z l 10 3 prog_13_method_84_code (some .int) 3 44 o wo Ok) (a2 : Int32) (t0 : Int32) (t1 : Int32) (w : Wld) : SimK Ok (44, [(0, vR 0), (2, vI a2)], [vI t1, vI t0], w) (K_M_choir_44 a2 t0 t1 w) (GLp Ok (V_M_choir_9 w) (GEp Ok (E_M_choir_9 w))) := by
  unfold K_M_choir_44
  refine sim_blk0 hC [(.ior, 0, 0, 0, 0), (.istore_n 1, 0, 0, 0, 0)] [(0, vR 0), (1, vI (t0 ||| t1)), (2, vI a2)] [] w 46 (by decide +kernel) rfl rfl ?_
  refine sim_bi (C := fun i4 => (46, [(0, vR 0), (1, vI i4), (2, vI a2)], [], w)) (fun i4 => ?_)
  refine sim_blk0 hC [(.iinc 2 1, 0, 0, 0, 1)] [(0, vR 0), (1, vI i4), (2, vI (a2 + 1))] [] w 49 (by decide +kernel) rfl rfl ?_
  refine sim_bi (C := fun i5 => (49, [(0, vR 0), (1, vI i4), (2, vI i5)], [], w)) (fun i5 => ?_)
  refine sim_goto hC (-40) 9 (by decide +kernel) (by decide) ?_
  exact sim_back (V := (V_M_choir_9 w)) ((i4, i5))
noncomputable def B_M_choir_9 (w : Wld) (s : Int32 × Int32) : Option ((Int32 × Int32) ⊕ (Int32)) :=
  gd (vp_in 1 10) (br ((w 3 (Int32.toNatClampNeg 1)) ≤ s.2) (some (.inr s.1)) (bp (F_M_voicesOf w s.1) (fun i2 => gd (vp_in s.2 16) (bp (F_M_isOf w i2 (w 7 (Int32.toNatClampNeg s.2))) (fun i3 => br (i3 = 0) (K_M_choir_44 s.2 s.1 ((1 : Int32) <<< (s.2 &&& 31)) w) (K_M_choir_44 s.2 s.1 0 w))))))
set_option maxRecDepth 10000 in
theorem s_B_M_choir_9 {Z : ZT} {l : Launch} {o : Oc} {wo : Wld} {Ok : Cfg → Prop} (hC : Clo Z l 10 3 prog_13_method_84_code (some .int) 3 44 o wo Ok) (w : Wld) (s : Int32 × Int32) : SimK Ok (V_M_choir_9 w s) (B_M_choir_9 w s) (GLp Ok (V_M_choir_9 w) (GEp Ok (E_M_choir_9 w))) := by
  unfold B_M_choir_9
  show SimK Ok (9, [(0, vR 0), (1, vI s.1), (2, vI s.2)], [], w) _ _
  refine sim_blk1 hC [(.iload_n 2, 0, 0, 0, 0), (.aload_n 0, 0, 0, 0, 0), (.getfield 42, 0, 3, 5, 0), (.iconst 1, 0, 0, 0, 1), (.iaload, 3, 10, 0, 0)] [(0, vR 0), (1, vI s.1), (2, vI s.2)] [vI (w 3 (Int32.toNatClampNeg 1)), vI s.2] w 16 (by decide +kernel) rfl rfl ?_
  refine sim_br hC (.if_icmp .ge 36) 52 (by decide +kernel) rfl (by decide) ?_ ?_
  · refine sim_sub hC [1] ?_
    exact sim_exit (E := (E_M_choir_9 w)) s.1
  · refine sim_blk0 hC [(.iload_n 1, 0, 0, 0, 0), (.aload_n 0, 0, 0, 0, 0), (.iload_n 1, 0, 0, 0, 0)] [(0, vR 0), (1, vI s.1), (2, vI s.2)] [vI s.1, vR 0, vI s.1] w 22 (by decide +kernel) rfl rfl ?_
    refine sim_vp hC 353 mX11_voicesOf 2 21 0 [vI s.1] [vI s.1] (by decide +kernel) ml_10_353 rfl rfl rfl rfl rfl rfl (fun rz hz => c_M_voicesOf w s.1 rz hz) (fun i2 => ?_)
    refine sim_blk1 hC [(.aload_n 0, 0, 0, 0, 0), (.getfield 54, 0, 7, 9, 0), (.iload_n 2, 0, 0, 0, 0), (.iaload, 7, 16, 0, 0)] [(0, vR 0), (1, vI s.1), (2, vI s.2)] [vI (w 7 (Int32.toNatClampNeg s.2)), vI i2, vI s.1] w 31 (by decide +kernel) rfl rfl ?_
    refine sim_sp hC 326 mX11_isOf 1 0 [vI i2, vI (w 7 (Int32.toNatClampNeg s.2))] [vI s.1] (by decide +kernel) ml_10_326 rfl rfl rfl rfl rfl (fun rz hz => c_M_isOf w i2 (w 7 (Int32.toNatClampNeg s.2)) rz hz) (fun i3 => ?_)
    refine sim_br hC (.ifCond .eq 7) 41 (by decide +kernel) rfl (by decide) ?_ ?_
    · refine sim_blk0 hC [(.iconst 1, 0, 0, 0, 1), (.iload_n 2, 0, 0, 0, 0), (.ishl, 0, 0, 0, 0)] [(0, vR 0), (1, vI s.1), (2, vI s.2)] [vI ((1 : Int32) <<< (s.2 &&& 31)), vI s.1] w 44 (by decide +kernel) rfl rfl ?_
      refine sim_sub hC [0, 2] ?_
      exact s_K_M_choir_44 hC s.2 s.1 ((1 : Int32) <<< (s.2 &&& 31)) w
    · refine sim_blk0 hC [(.iconst 0, 0, 0, 0, 0)] [(0, vR 0), (1, vI s.1), (2, vI s.2)] [vI 0, vI s.1] w 38 (by decide +kernel) rfl rfl ?_
      refine sim_goto hC 6 44 (by decide +kernel) (by decide) ?_
      refine sim_sub hC [0, 2] ?_
      exact s_K_M_choir_44 hC s.2 s.1 0 w
noncomputable def F_M_choir (w : Wld) : Option (Int32 × Wld) :=
  bw (wup w 0 2 0) (fun w1 => bl (loop (B_M_choir_9 w1) ((0, 0))) (fun r6 => some ((r6, w1))))
set_option maxRecDepth 10000 in
theorem s_M_choir {Z : ZT} {l : Launch} {o : Oc} {wo : Wld} {Ok : Cfg → Prop} (hC : Clo Z l 10 3 prog_13_method_84_code (some .int) 3 44 o wo Ok) (w : Wld) : SimK Ok (0, [(0, vR 0)], [], w) (F_M_choir w) (Gi o wo) := by
  unfold F_M_choir
  refine sim_blk0 hC [(.aload_n 0, 0, 0, 0, 0), (.iconst 0, 0, 0, 0, 0), (.putfield 159, 0, 2, 0, 0)] [(0, vR 0)] [] (wup w 0 2 0) 5 (by decide +kernel) rfl rfl ?_
  refine sim_bw (C := fun w1 => (5, [(0, vR 0)], [], w1)) (fun w1 => ?_)
  refine sim_blk0 hC [(.iconst 0, 0, 0, 0, 0), (.istore_n 1, 0, 0, 0, 0), (.iconst 0, 0, 0, 0, 0), (.istore_n 2, 0, 0, 0, 0)] [(0, vR 0), (1, vI 0), (2, vI 0)] [] w1 9 (by decide +kernel) rfl rfl ?_
  refine sim_bl (E := (E_M_choir_9 w1)) ?_ (fun r6 => ?_)
  · exact sim_loop (V := (V_M_choir_9 w1)) (fun sz => s_B_M_choir_9 hC w1 sz) ((0, 0))
  · show SimK Ok (52, [(1, vI r6)], [], w1) _ _
    refine sim_blk0 hC [(.iload_n 1, 0, 0, 0, 0)] [(1, vI r6)] [vI r6] w1 53 (by decide +kernel) rfl rfl ?_
    exact sim_reti hC (by decide +kernel) trivial
theorem c_M_choir {Z : ZT} {l : Launch} (w : Wld) (r : Int32) (w1 : Wld) (h : F_M_choir w = some (r, w1)) : Con Z l mX11_choir 3 44 [vR 0] w (.inr (some r)) w1 :=
  Con_of (oc := 10) (by decide +kernel) rfl rfl (fun Ok hC => s_M_choir hC w (r, w1) h ⟨rfl, rfl⟩)
def V_M_couplesOf_2 (a1 : Int32) (w : Wld) : (Int32) → Cfg := fun s => (2, [(0, vR 0), (1, vI a1), (2, vI s)], [], w)
def E_M_couplesOf_2 (a1 : Int32) (w : Wld) : (Int32) → Cfg := fun s => (26, [(0, vR 0), (1, vI a1), (2, vI s)], [], w)
noncomputable def B_M_couplesOf_2 (rx : Wld → Int32 → Option (Int32)) (a1 : Int32) (w : Wld) (s : Int32) : Option ((Int32) ⊕ (Int32)) :=
  gd (vp_in 1 10) (br ((w 3 (Int32.toNatClampNeg 1)) ≤ s) (some (.inr s)) (bp (F_M_isOf w a1 s) (fun i1 => br (¬ i1 = 0) (some (.inr s)) (bi (s + 1) (fun i2 => some (.inl i2))))))
set_option maxRecDepth 10000 in
theorem s_B_M_couplesOf_2 {Z : ZT} {l : Launch} {o : Oc} {wo : Wld} {Ok : Cfg → Prop} {rx : Wld → Int32 → Option (Int32)} {d : Nat} (hC : Clo Z l 10 6 prog_13_method_85_code (some .int) (40 + 1 * d + 1) (600 + 25 * d + 25) o wo Ok) (hrx : ∀ (w : Wld) (a : Int32) (r : Int32), rx w a = some r → Con Z l mX11_couplesOf (40 + 1 * d) (600 + 25 * d) [vR 0, vI a] w (.inr (some r)) w) (a1 : Int32) (w : Wld) (s : Int32) : SimK Ok (V_M_couplesOf_2 a1 w s) (B_M_couplesOf_2 rx a1 w s) (GLp Ok (V_M_couplesOf_2 a1 w) (GEp Ok (E_M_couplesOf_2 a1 w))) := by
  unfold B_M_couplesOf_2
  show SimK Ok (2, [(0, vR 0), (1, vI a1), (2, vI s)], [], w) _ _
  refine sim_blk1 hC [(.iload_n 2, 0, 0, 0, 0), (.aload_n 0, 0, 0, 0, 0), (.getfield 42, 0, 3, 5, 0), (.iconst 1, 0, 0, 0, 1), (.iaload, 3, 10, 0, 0)] [(0, vR 0), (1, vI a1), (2, vI s)] [vI (w 3 (Int32.toNatClampNeg 1)), vI s] w 9 (by decide +kernel) rfl rfl ?_
  refine sim_br hC (.if_icmp .ge 17) 26 (by decide +kernel) rfl (by decide) ?_ ?_
  · exact sim_exit (E := (E_M_couplesOf_2 a1 w)) s
  · refine sim_blk0 hC [(.iload_n 1, 0, 0, 0, 0), (.iload_n 2, 0, 0, 0, 0)] [(0, vR 0), (1, vI a1), (2, vI s)] [vI s, vI a1] w 14 (by decide +kernel) rfl rfl ?_
    refine sim_sp hC 326 mX11_isOf 1 0 [vI a1, vI s] [] (by decide +kernel) ml_10_326 rfl rfl rfl (ble_of (by omega)) (ble_of (by show 8 + (2 + 11) + _ ≤ _; omega)) (fun rz hz => c_M_isOf w a1 s rz hz) (fun i1 => ?_)
    refine sim_br hC (.ifCond .ne 9) 26 (by decide +kernel) rfl (by decide) ?_ ?_
    · exact sim_exit (E := (E_M_couplesOf_2 a1 w)) s
    · refine sim_blk0 hC [(.iinc 2 1, 0, 0, 0, 1)] [(0, vR 0), (1, vI a1), (2, vI (s + 1))] [] w 23 (by decide +kernel) rfl rfl ?_
      refine sim_bi (C := fun i2 => (23, [(0, vR 0), (1, vI a1), (2, vI i2)], [], w)) (fun i2 => ?_)
      refine sim_goto hC (-21) 2 (by decide +kernel) (by decide) ?_
      exact sim_back (V := (V_M_couplesOf_2 a1 w)) i2
def V_M_couplesOf_56 (a2 : Int32) (a3 : Int32) (w : Wld) : (Int32 × Int32) → Cfg := fun s => (56, [(0, vR 0), (2, vI a2), (3, vI a3), (4, vI s.1), (5, vI s.2)], [], w)
def E_M_couplesOf_56 (a2 : Int32) (a3 : Int32) (w : Wld) : (Int32) → Cfg := fun s => (110, [(4, vI s)], [], w)
noncomputable def K_M_couplesOf_104 (rx : Wld → Int32 → Option (Int32)) (a2 : Int32) (a3 : Int32) (a4 : Int32) (a5 : Int32) (w : Wld) : Option ((Int32 × Int32) ⊕ (Int32)) :=
  bi (a5 + 1) (fun i7 => some (.inl ((a4, i7))))
set_option maxRecDepth 10000 in
theorem s_K_M_couplesOf_104 {Z : ZT} {l : Launch} {o : Oc} {wo : Wld} {Ok : Cfg → Prop} {rx : Wld → Int32 → Option (Int32)} {d : Nat} (hC : Clo Z l 10 6 prog_13_method_85_code (some .int) (40 + 1 * d + 1) (600 + 25 * d + 25) o wo Ok) (hrx : ∀ (w : Wld) (a : Int32) (r : Int32), rx w a = some r → Con Z l mX11_couplesOf (40 + 1 * d) (600 + 25 * d) [vR 0, vI a] w (.inr (some r)) w) (a2 : Int32) (a3 : Int32) (a4 : Int32) (a5 : Int32) (w : Wld) : SimK Ok (104, [(0, vR 0), (2, vI a2), (3, vI a3), (4, vI a4), (5, vI a5)], [], w) (K_M_couplesOf_104 rx a2 a3 a4 a5 w) (GLp Ok (V_M_couplesOf_56 a2 a3 w) (GEp Ok (E_M_couplesOf_56 a2 a3 w))) := by
  unfold K_M_couplesOf_104
  refine sim_blk0 hC [(.iinc 5 1, 0, 0, 0, 1)] [(0, vR 0), (2, vI a2), (3, vI a3), (4, vI a4), (5, vI (a5 + 1))] [] w 107 (by decide +kernel) rfl rfl ?_
  refine sim_bi (C := fun i7 => (107, [(0, vR 0), (2, vI a2), (3, vI a3), (4, vI a4), (5, vI i7)], [], w)) (fun i7 => ?_)
  refine sim_goto hC (-51) 56 (by decide +kernel) (by decide) ?_
  exact sim_back (V := (V_M_couplesOf_56 a2 a3 w)) ((a4, i7))
noncomputable def B_M_couplesOf_56 (rx : Wld → Int32 → Option (Int32)) (a2 : Int32) (a3 : Int32) (w : Wld) (s : Int32 × Int32) : Option ((Int32 × Int32) ⊕ (Int32)) :=
  gd (vp_in 1 10) (br ((w 3 (Int32.toNatClampNeg 1)) ≤ s.2) (some (.inr s.1)) (gd (vp_in a2 8) (bp (F_M_isOf w (a3 &&& (w 17 (Int32.toNatClampNeg a2))) s.2) (fun i6 => br (i6 = 0) (K_M_couplesOf_104 rx a2 a3 s.1 s.2 w) (bp (rx w (a3 &&& (((1 : Int32) <<< (s.2 &&& 31)) ^^^ (-1 : Int32)))) (fun i8 => bi (imax s.1 ((1 : Int32) + i8)) (fun i9 => K_M_couplesOf_104 rx a2 a3 i9 s.2 w)))))))
set_option maxRecDepth 10000 in
theorem s_B_M_couplesOf_56 {Z : ZT} {l : Launch} {o : Oc} {wo : Wld} {Ok : Cfg → Prop} {rx : Wld → Int32 → Option (Int32)} {d : Nat} (hC : Clo Z l 10 6 prog_13_method_85_code (some .int) (40 + 1 * d + 1) (600 + 25 * d + 25) o wo Ok) (hrx : ∀ (w : Wld) (a : Int32) (r : Int32), rx w a = some r → Con Z l mX11_couplesOf (40 + 1 * d) (600 + 25 * d) [vR 0, vI a] w (.inr (some r)) w) (a2 : Int32) (a3 : Int32) (w : Wld) (s : Int32 × Int32) : SimK Ok (V_M_couplesOf_56 a2 a3 w s) (B_M_couplesOf_56 rx a2 a3 w s) (GLp Ok (V_M_couplesOf_56 a2 a3 w) (GEp Ok (E_M_couplesOf_56 a2 a3 w))) := by
  unfold B_M_couplesOf_56
  show SimK Ok (56, [(0, vR 0), (2, vI a2), (3, vI a3), (4, vI s.1), (5, vI s.2)], [], w) _ _
  refine sim_blk1 hC [(.iload 5, 0, 0, 0, 0), (.aload_n 0, 0, 0, 0, 0), (.getfield 42, 0, 3, 5, 0), (.iconst 1, 0, 0, 0, 1), (.iaload, 3, 10, 0, 0)] [(0, vR 0), (2, vI a2), (3, vI a3), (4, vI s.1), (5, vI s.2)] [vI (w 3 (Int32.toNatClampNeg 1)), vI s.2] w 64 (by decide +kernel) rfl rfl ?_
  refine sim_br hC (.if_icmp .ge 46) 110 (by decide +kernel) rfl (by decide) ?_ ?_
  · refine sim_sub hC [3] ?_
    exact sim_exit (E := (E_M_couplesOf_56 a2 a3 w)) s.1
  · refine sim_blk1 hC [(.iload_n 3, 0, 0, 0, 0), (.aload_n 0, 0, 0, 0, 0), (.getfield 87, 0, 27, 19, 0), (.iload_n 2, 0, 0, 0, 0), (.iaload, 17, 8, 0, 0), (.iand, 0, 0, 0, 0), (.iload 5, 0, 0, 0, 0)] [(0, vR 0), (2, vI a2), (3, vI a3), (4, vI s.1), (5, vI s.2)] [vI s.2, vI (a3 &&& (w 17 (Int32.toNatClampNeg a2)))] w 77 (by decide +kernel) rfl rfl ?_
    refine sim_sp hC 326 mX11_isOf 1 0 [vI (a3 &&& (w 17 (Int32.toNatClampNeg a2))), vI s.2] [] (by decide +kernel) ml_10_326 rfl rfl rfl (ble_of (by omega)) (ble_of (by show 8 + (2 + 11) + _ ≤ _; omega)) (fun rz hz => c_M_isOf w (a3 &&& (w 17 (Int32.toNatClampNeg a2))) s.2 rz hz) (fun i6 => ?_)
    refine sim_br hC (.ifCond .eq 24) 104 (by decide +kernel) rfl (by decide) ?_ ?_
    · exact s_K_M_couplesOf_104 hC hrx a2 a3 s.1 s.2 w
    · refine sim_blk0 hC [(.iload 4, 0, 0, 0, 0), (.iconst 1, 0, 0, 0, 1), (.aload_n 0, 0, 0, 0, 0), (.iload_n 3, 0, 0, 0, 0), (.iconst 1, 0, 0, 0, 1), (.iload 5, 0, 0, 0, 0), (.ishl, 0, 0, 0, 0), (.iconst (-1), 0, 0, 0, (-1)), (.ixor, 0, 0, 0, 0), (.iand, 0, 0, 0, 0)] [(0, vR 0), (2, vI a2), (3, vI a3), (4, vI s.1), (5, vI s.2)] [vI (a3 &&& (((1 : Int32) <<< (s.2 &&& 31)) ^^^ (-1 : Int32))), vR 0, vI 1, vI s.1] w 95 (by decide +kernel) rfl rfl ?_
      refine sim_vp hC 427 mX11_couplesOf (40 + 1 * d) (600 + 25 * d) 0 [vI (a3 &&& (((1 : Int32) <<< (s.2 &&& 31)) ^^^ (-1 : Int32)))] [vI 1, vI s.1] (by decide +kernel) ml_10_427 rfl rfl rfl rfl (ble_of (by omega)) (ble_of (by show 8 + (6 + 11) + _ ≤ _; omega)) (fun rz hz => hrx w (a3 &&& (((1 : Int32) <<< (s.2 &&& 31)) ^^^ (-1 : Int32))) rz hz) (fun i8 => ?_)
      refine sim_blk0 hC [(.iadd, 0, 0, 0, 0)] [(0, vR 0), (2, vI a2), (3, vI a3), (4, vI s.1), (5, vI s.2)] [vI ((1 : Int32) + i8), vI s.1] w 99 (by decide +kernel) rfl rfl ?_
      refine sim_max hC 359 (by decide +kernel) ml_10_359 rfl rfl rfl ?_
      refine sim_blk0 hC [(.istore 4, 0, 0, 0, 0)] [(0, vR 0), (2, vI a2), (3, vI a3), (4, vI (imax s.1 ((1 : Int32) + i8))), (5, vI s.2)] [] w 104 (by decide +kernel) rfl rfl ?_
      refine sim_bi (C := fun i9 => (104, [(0, vR 0), (2, vI a2), (3, vI a3), (4, vI i9), (5, vI s.2)], [], w)) (fun i9 => ?_)
      exact s_K_M_couplesOf_104 hC hrx a2 a3 i9 s.2 w
noncomputable def F_M_couplesOf (rx : Wld → Int32 → Option (Int32)) (w : Wld) (a1 : Int32) : Option (Int32) :=
  bl (loop (B_M_couplesOf_2 rx a1 w) 0) (fun r3 => gd (vp_in 1 10) (br (¬ r3 = (w 3 (Int32.toNatClampNeg 1))) (bi (a1 &&& (((1 : Int32) <<< (r3 &&& 31)) ^^^ (-1 : Int32))) (fun i4 => bp (rx w i4) (fun i5 => bl (loop (B_M_couplesOf_56 rx r3 i4 w) ((i5, 0))) (fun r10 => some r10)))) (some 0)))
set_option maxRecDepth 10000 in
theorem s_M_couplesOf {Z : ZT} {l : Launch} {o : Oc} {wo : Wld} {Ok : Cfg → Prop} {rx : Wld → Int32 → Option (Int32)} {d : Nat} (hC : Clo Z l 10 6 prog_13_method_85_code (some .int) (40 + 1 * d + 1) (600 + 25 * d + 25) o wo Ok) (hrx : ∀ (w : Wld) (a : Int32) (r : Int32), rx w a = some r → Con Z l mX11_couplesOf (40 + 1 * d) (600 + 25 * d) [vR 0, vI a] w (.inr (some r)) w) (w : Wld) (a1 : Int32) : SimK Ok (0, [(0, vR 0), (1, vI a1)], [], w) (F_M_couplesOf rx w a1) (Gp o wo w) := by
  unfold F_M_couplesOf
  refine sim_blk0 hC [(.iconst 0, 0, 0, 0, 0), (.istore_n 2, 0, 0, 0, 0)] [(0, vR 0), (1, vI a1), (2, vI 0)] [] w 2 (by decide +kernel) rfl rfl ?_
  refine sim_bl (E := (E_M_couplesOf_2 a1 w)) ?_ (fun r3 => ?_)
  · exact sim_loop (V := (V_M_couplesOf_2 a1 w)) (fun sz => s_B_M_couplesOf_2 hC hrx a1 w sz) 0
  · show SimK Ok (26, [(0, vR 0), (1, vI a1), (2, vI r3)], [], w) _ _
    refine sim_blk1 hC [(.iload_n 2, 0, 0, 0, 0), (.aload_n 0, 0, 0, 0, 0), (.getfield 42, 0, 3, 5, 0), (.iconst 1, 0, 0, 0, 1), (.iaload, 3, 10, 0, 0)] [(0, vR 0), (1, vI a1), (2, vI r3)] [vI (w 3 (Int32.toNatClampNeg 1)), vI r3] w 33 (by decide +kernel) rfl rfl ?_
    refine sim_br hC (.if_icmp .ne 5) 38 (by decide +kernel) rfl (by decide) ?_ ?_
    · refine sim_blk0 hC [(.iload_n 1, 0, 0, 0, 0), (.iconst 1, 0, 0, 0, 1), (.iload_n 2, 0, 0, 0, 0), (.ishl, 0, 0, 0, 0), (.iconst (-1), 0, 0, 0, (-1)), (.ixor, 0, 0, 0, 0), (.iand, 0, 0, 0, 0), (.istore_n 3, 0, 0, 0, 0)] [(0, vR 0), (1, vI a1), (2, vI r3), (3, vI (a1 &&& (((1 : Int32) <<< (r3 &&& 31)) ^^^ (-1 : Int32))))] [] w 46 (by decide +kernel) rfl rfl ?_
      refine sim_bi (C := fun i4 => (46, [(0, vR 0), (1, vI a1), (2, vI r3), (3, vI i4)], [], w)) (fun i4 => ?_)
      refine sim_blk0 hC [(.aload_n 0, 0, 0, 0, 0), (.iload_n 3, 0, 0, 0, 0)] [(0, vR 0), (1, vI a1), (2, vI r3), (3, vI i4)] [vI i4, vR 0] w 48 (by decide +kernel) rfl rfl ?_
      refine sim_vp hC 427 mX11_couplesOf (40 + 1 * d) (600 + 25 * d) 0 [vI i4] [] (by decide +kernel) ml_10_427 rfl rfl rfl rfl (ble_of (by omega)) (ble_of (by show 8 + (6 + 11) + _ ≤ _; omega)) (fun rz hz => hrx w i4 rz hz) (fun i5 => ?_)
      refine sim_blk0 hC [(.istore 4, 0, 0, 0, 0), (.iconst 0, 0, 0, 0, 0), (.istore 5, 0, 0, 0, 0)] [(0, vR 0), (1, vI a1), (2, vI r3), (3, vI i4), (4, vI i5), (5, vI 0)] [] w 56 (by decide +kernel) rfl rfl ?_
      refine sim_bl (E := (E_M_couplesOf_56 r3 i4 w)) ?_ (fun r10 => ?_)
      · refine sim_sub hC [0, 2, 3, 4, 5] ?_
        exact sim_loop (V := (V_M_couplesOf_56 r3 i4 w)) (fun sz => s_B_M_couplesOf_56 hC hrx r3 i4 w sz) ((i5, 0))
      · show SimK Ok (110, [(4, vI r10)], [], w) _ _
        refine sim_blk0 hC [(.iload 4, 0, 0, 0, 0)] [(4, vI r10)] [vI r10] w 112 (by decide +kernel) rfl rfl ?_
        exact sim_retp hC (by decide +kernel) trivial
    · refine sim_blk0 hC [(.iconst 0, 0, 0, 0, 0)] [(0, vR 0), (1, vI a1), (2, vI r3)] [vI 0] w 37 (by decide +kernel) rfl rfl ?_
      exact sim_retp hC (by decide +kernel) trivial
theorem c_M_couplesOf {Z : ZT} {l : Launch} {rx : Wld → Int32 → Option (Int32)} {d : Nat} (hrx : ∀ (w : Wld) (a : Int32) (r : Int32), rx w a = some r → Con Z l mX11_couplesOf (40 + 1 * d) (600 + 25 * d) [vR 0, vI a] w (.inr (some r)) w) (w : Wld) (a1 : Int32) (r : Int32) (h : F_M_couplesOf rx w a1 = some r) : Con Z l mX11_couplesOf (40 + 1 * d + 1) (600 + 25 * d + 25) [vR 0, vI a1] w (.inr (some r)) w :=
  Con_of (oc := 10) (by decide +kernel) rfl rfl (fun Ok hC => s_M_couplesOf hC hrx w a1 r h ⟨rfl, rfl⟩)
noncomputable def X_M_couplesOf : Nat → Wld → Int32 → Option (Int32)
  | 0 => fun _ _ => none
  | d + 1 => fun w a => F_M_couplesOf (X_M_couplesOf d) w a
theorem cX_M_couplesOf {Z : ZT} {l : Launch} : ∀ (d : Nat) (w : Wld) (a : Int32) (r : Int32), X_M_couplesOf d w a = some r → Con Z l mX11_couplesOf (40 + 1 * d) (600 + 25 * d) [vR 0, vI a] w (.inr (some r)) w := by
  intro d
  induction d with
  | zero => intro w a r h; exact nomatch h
  | succ d ih =>
    intro w a r h
    have h9 := c_M_couplesOf (Z := Z) (l := l) (rx := X_M_couplesOf d) (d := d) ih w a r h
    rw [Nat.mul_succ, Nat.mul_succ, ← Nat.add_assoc, ← Nat.add_assoc]
    exact h9

noncomputable def F_M_couples (w : Wld) : Option (Int32 × Wld) :=
  bw (wup w 0 2 0) (fun w1 => bp (F_M_everybody w1) (fun i2 => bp (X_M_couplesOf 10 w1 i2) (fun i3 => some ((i3, w1)))))
set_option maxRecDepth 10000 in
theorem s_M_couples {Z : ZT} {l : Launch} {o : Oc} {wo : Wld} {Ok : Cfg → Prop} (hC : Clo Z l 10 1 prog_13_method_86_code (some .int) 51 875 o wo Ok) (w : Wld) : SimK Ok (0, [(0, vR 0)], [], w) (F_M_couples w) (Gi o wo) := by
  unfold F_M_couples
  refine sim_blk0 hC [(.aload_n 0, 0, 0, 0, 0), (.iconst 0, 0, 0, 0, 0), (.putfield 159, 0, 2, 0, 0)] [(0, vR 0)] [] (wup w 0 2 0) 5 (by decide +kernel) rfl rfl ?_
  refine sim_bw (C := fun w1 => (5, [(0, vR 0)], [], w1)) (fun w1 => ?_)
  refine sim_blk0 hC [(.aload_n 0, 0, 0, 0, 0), (.aload_n 0, 0, 0, 0, 0)] [(0, vR 0)] [vR 0, vR 0] w1 7 (by decide +kernel) rfl rfl ?_
  refine sim_vp hC 350 mX11_everybody 1 0 0 [] [vR 0] (by decide +kernel) ml_10_350 rfl rfl rfl rfl rfl rfl (fun rz hz => c_M_everybody w1 rz hz) (fun i2 => ?_)
  refine sim_vp hC 427 mX11_couplesOf (40 + 1 * 10) (600 + 25 * 10) 0 [vI i2] [] (by decide +kernel) ml_10_427 rfl rfl rfl rfl rfl rfl (fun rz hz => cX_M_couplesOf 10 w1 i2 rz hz) (fun i3 => ?_)
  exact sim_reti hC (by decide +kernel) trivial
theorem c_M_couples {Z : ZT} {l : Launch} (w : Wld) (r : Int32) (w1 : Wld) (h : F_M_couples w = some (r, w1)) : Con Z l mX11_couples 51 875 [vR 0] w (.inr (some r)) w1 :=
  Con_of (oc := 10) (by decide +kernel) rfl rfl (fun Ok hC => s_M_couples hC w (r, w1) h ⟨rfl, rfl⟩)
noncomputable def K_M_hear_38 (w : Wld) : Option (Int32 × Wld) :=
  bd (F_M_refuse w 2) (fun i2 w3 => some ((i2, w3)))
set_option maxRecDepth 10000 in
theorem s_K_M_hear_38 {Z : ZT} {l : Launch} {o : Oc} {wo : Wld} {Ok : Cfg → Prop} (hC : Clo Z l 10 4 prog_13_method_87_code (some .int) 2 25 o wo Ok) (w : Wld) : SimK Ok (38, [(0, vR 0)], [], w) (K_M_hear_38 w) (Gi o wo) := by
  unfold K_M_hear_38
  refine sim_blk0 hC [(.aload_n 0, 0, 0, 0, 0), (.iconst 2, 0, 0, 0, 2)] [(0, vR 0)] [vI 2, vR 0] w 40 (by decide +kernel) rfl rfl ?_
  refine sim_vd hC 385 mX11_refuse 1 0 0 [vI 2] [] (by decide +kernel) ml_10_385 rfl rfl rfl rfl rfl rfl (fun rz wz hz => c_M_refuse w 2 rz wz hz) (fun i2 w3 => ?_)
  exact sim_reti hC (by decide +kernel) trivial
noncomputable def F_M_hear (w : Wld) (a1 : Int32) (a2 : Int32) (a3 : Int32) : Option (Int32 × Wld) :=
  bw (wup w 0 2 0) (fun w1 => br ((w1 0 35) = 8) (K_M_hear_38 w1) (bp (F_M_isIn w1 (Int32.toInt64 a1) (Int32.toInt64 1) (Int32.toInt64 20)) (fun i4 => br (i4 = 0) (K_M_hear_38 w1) (bp (F_M_isIn w1 (Int32.toInt64 a2) (Int32.toInt64 0) (Int32.toInt64 99)) (fun i5 => br (¬ i5 = 0) (gd (vp_in (w1 0 35) 8) (bw (wup w1 28 (Int32.toNatClampNeg (w1 0 35)) a1) (fun w6 => gd (vp_in (w6 0 35) 8) (bw (wup w6 29 (Int32.toNatClampNeg (w6 0 35)) a2) (fun w7 => gd (vp_in (w7 0 35) 8) (bw (wup w7 31 (Int32.toNatClampNeg (w7 0 35)) (vp_nar .boolean a3)) (fun w8 => bw (wup w8 0 35 ((w8 0 35) + (1 : Int32))) (fun w9 => some ((w9 0 35, w9)))))))))) (K_M_hear_38 w1))))))
set_option maxRecDepth 10000 in
theorem s_M_hear {Z : ZT} {l : Launch} {o : Oc} {wo : Wld} {Ok : Cfg → Prop} (hC : Clo Z l 10 4 prog_13_method_87_code (some .int) 2 25 o wo Ok) (w : Wld) (a1 : Int32) (a2 : Int32) (a3 : Int32) : SimK Ok (0, [(0, vR 0), (1, vI a1), (2, vI a2), (3, vI a3)], [], w) (F_M_hear w a1 a2 a3) (Gi o wo) := by
  unfold F_M_hear
  refine sim_blk0 hC [(.aload_n 0, 0, 0, 0, 0), (.iconst 0, 0, 0, 0, 0), (.putfield 159, 0, 2, 0, 0)] [(0, vR 0), (1, vI a1), (2, vI a2), (3, vI a3)] [] (wup w 0 2 0) 5 (by decide +kernel) rfl rfl ?_
  refine sim_bw (C := fun w1 => (5, [(0, vR 0), (1, vI a1), (2, vI a2), (3, vI a3)], [], w1)) (fun w1 => ?_)
  refine sim_blk0 hC [(.aload_n 0, 0, 0, 0, 0), (.getfield 315, 0, 35, 0, 0), (.bipush 8, 0, 0, 0, 8)] [(0, vR 0), (1, vI a1), (2, vI a2), (3, vI a3)] [vI 8, vI (w1 0 35)] w1 11 (by decide +kernel) rfl rfl ?_
  refine sim_br hC (.if_icmp .eq 27) 38 (by decide +kernel) rfl (by decide) ?_ ?_
  · refine sim_sub hC [0] ?_
    exact s_K_M_hear_38 hC w1
  · refine sim_blk0 hC [(.iload_n 1, 0, 0, 0, 0), (.i2l, 0, 0, 0, 0), (.lconst 1, 0, 0, 0, 1), (.ldc2_w 383, 0, 0, 0, 20)] [(0, vR 0), (1, vI a1), (2, vI a2), (3, vI a3)] [vL (Int32.toInt64 20), vL (Int32.toInt64 1), vL (Int32.toInt64 a1)] w1 20 (by decide +kernel) rfl rfl ?_
    refine sim_sp hC 162 mX11_isIn 1 0 [vL (Int32.toInt64 a1), vL (Int32.toInt64 1), vL (Int32.toInt64 20)] [] (by decide +kernel) ml_10_162 rfl rfl rfl rfl rfl (fun rz hz => c_M_isIn w1 (Int32.toInt64 a1) (Int32.toInt64 1) (Int32.toInt64 20) rz hz) (fun i4 => ?_)
    refine sim_br hC (.ifCond .eq 15) 38 (by decide +kernel) rfl (by decide) ?_ ?_
    · refine sim_sub hC [0] ?_
      exact s_K_M_hear_38 hC w1
    · refine sim_blk0 hC [(.iload_n 2, 0, 0, 0, 0), (.i2l, 0, 0, 0, 0), (.lconst 0, 0, 0, 0, 0), (.ldc2_w 396, 0, 0, 0, 99)] [(0, vR 0), (1, vI a1), (2, vI a2), (3, vI a3)] [vL (Int32.toInt64 99), vL (Int32.toInt64 0), vL (Int32.toInt64 a2)] w1 32 (by decide +kernel) rfl rfl ?_
      refine sim_sp hC 162 mX11_isIn 1 0 [vL (Int32.toInt64 a2), vL (Int32.toInt64 0), vL (Int32.toInt64 99)] [] (by decide +kernel) ml_10_162 rfl rfl rfl rfl rfl (fun rz hz => c_M_isIn w1 (Int32.toInt64 a2) (Int32.toInt64 0) (Int32.toInt64 99) rz hz) (fun i5 => ?_)
      refine sim_br hC (.ifCond .ne 9) 44 (by decide +kernel) rfl (by decide) ?_ ?_
      · refine sim_blk1 hC [(.aload_n 0, 0, 0, 0, 0), (.getfield 119, 0, 46, 30, 0), (.aload_n 0, 0, 0, 0, 0), (.getfield 315, 0, 35, 0, 0), (.iload_n 1, 0, 0, 0, 0), (.iastore, 28, 8, 0, 0)] [(0, vR 0), (1, vI a1), (2, vI a2), (3, vI a3)] [] (wup w1 28 (Int32.toNatClampNeg (w1 0 35)) a1) 54 (by decide +kernel) rfl rfl ?_
        refine sim_bw (C := fun w6 => (54, [(0, vR 0), (1, vI a1), (2, vI a2), (3, vI a3)], [], w6)) (fun w6 => ?_)
        refine sim_blk1 hC [(.aload_n 0, 0, 0, 0, 0), (.getfield 122, 0, 47, 31, 0), (.aload_n 0, 0, 0, 0, 0), (.getfield 315, 0, 35, 0, 0), (.iload_n 2, 0, 0, 0, 0), (.iastore, 29, 8, 0, 0)] [(0, vR 0), (1, vI a1), (2, vI a2), (3, vI a3)] [] (wup w6 29 (Int32.toNatClampNeg (w6 0 35)) a2) 64 (by decide +kernel) rfl rfl ?_
        refine sim_bw (C := fun w7 => (64, [(0, vR 0), (1, vI a1), (2, vI a2), (3, vI a3)], [], w7)) (fun w7 => ?_)
        refine sim_blk1 hC [(.aload_n 0, 0, 0, 0, 0), (.getfield 128, 0, 49, 33, 0), (.aload_n 0, 0, 0, 0, 0), (.getfield 315, 0, 35, 0, 0), (.iload_n 3, 0, 0, 0, 0), (.bastore, 31, 8, 2, 0)] [(0, vR 0), (1, vI a1), (2, vI a2), (3, vI a3)] [] (wup w7 31 (Int32.toNatClampNeg (w7 0 35)) (vp_nar .boolean a3)) 74 (by decide +kernel) rfl rfl ?_
        refine sim_bw (C := fun w8 => (74, [(0, vR 0), (1, vI a1), (2, vI a2), (3, vI a3)], [], w8)) (fun w8 => ?_)
        refine sim_blk0 hC [(.aload_n 0, 0, 0, 0, 0), (.dup, 0, 0, 0, 0), (.getfield 315, 0, 35, 0, 0), (.iconst 1, 0, 0, 0, 1), (.iadd, 0, 0, 0, 0), (.putfield 315, 0, 35, 0, 0)] [(0, vR 0), (1, vI a1), (2, vI a2), (3, vI a3)] [] (wup w8 0 35 ((w8 0 35) + (1 : Int32))) 84 (by decide +kernel) rfl rfl ?_
        refine sim_bw (C := fun w9 => (84, [(0, vR 0), (1, vI a1), (2, vI a2), (3, vI a3)], [], w9)) (fun w9 => ?_)
        refine sim_blk0 hC [(.aload_n 0, 0, 0, 0, 0), (.getfield 315, 0, 35, 0, 0)] [(0, vR 0), (1, vI a1), (2, vI a2), (3, vI a3)] [vI (w9 0 35)] w9 88 (by decide +kernel) rfl rfl ?_
        exact sim_reti hC (by decide +kernel) trivial
      · refine sim_sub hC [0] ?_
        exact s_K_M_hear_38 hC w1
theorem c_M_hear {Z : ZT} {l : Launch} (w : Wld) (a1 : Int32) (a2 : Int32) (a3 : Int32) (r : Int32) (w1 : Wld) (h : F_M_hear w a1 a2 a3 = some (r, w1)) : Con Z l mX11_hear 2 25 [vR 0, vI a1, vI a2, vI a3] w (.inr (some r)) w1 :=
  Con_of (oc := 10) (by decide +kernel) rfl rfl (fun Ok hC => s_M_hear hC w a1 a2 a3 (r, w1) h ⟨rfl, rfl⟩)
def V_M_pack_30_32 (a3 : Int32) : (Int32 × Wld) → Cfg := fun s => (32, [(0, vR 0), (1, vR 30), (3, vI a3), (4, vI s.1)], [], s.2)
def E_M_pack_30_32 (a3 : Int32) : (Wld) → Cfg := fun s => (106, [(0, vR 0), (1, vR 30), (3, vI a3)], [], s)
noncomputable def B_M_pack_30_32 (a3 : Int32) (s : Int32 × Wld) : Option ((Int32 × Wld) ⊕ (Wld)) :=
  br ((8 : Int32) ≤ s.1) (some (.inr s.2)) (gd (vp_in s.1 8) (gd (vp_in (a3 + s.1) 53) (bw (wup s.2 30 (Int32.toNatClampNeg (a3 + s.1)) (s.2 14 (Int32.toNatClampNeg s.1))) (fun w5 => gd (vp_in s.1 8) (gd (vp_in ((a3 + (8 : Int32)) + s.1) 53) (bw (wup w5 30 (Int32.toNatClampNeg ((a3 + (8 : Int32)) + s.1)) (w5 15 (Int32.toNatClampNeg s.1))) (fun w6 => gd (vp_in s.1 8) (gd (vp_in ((a3 + (16 : Int32)) + s.1) 53) (bw (wup w6 30 (Int32.toNatClampNeg ((a3 + (16 : Int32)) + s.1)) (w6 16 (Int32.toNatClampNeg s.1))) (fun w7 => gd (vp_in s.1 8) (gd (vp_in ((a3 + (24 : Int32)) + s.1) 53) (bw (wup w7 30 (Int32.toNatClampNeg ((a3 + (24 : Int32)) + s.1)) (w7 17 (Int32.toNatClampNeg s.1))) (fun w8 => bi (s.1 + 1) (fun i9 => some (.inl ((i9, w8)))))))))))))))))
set_option maxRecDepth 10000 in
theorem s_B_M_pack_30_32 {Z : ZT} {l : Launch} {o : Oc} {wo : Wld} {Ok : Cfg → Prop} (hC : Clo Z l 10 5 prog_13_method_38_code none 1 0 o wo Ok) (a3 : Int32) (s : Int32 × Wld) : SimK Ok (V_M_pack_30_32 a3 s) (B_M_pack_30_32 a3 s) (GLp Ok (V_M_pack_30_32 a3) (GEp Ok (E_M_pack_30_32 a3))) := by
  unfold B_M_pack_30_32
  show SimK Ok (32, [(0, vR 0), (1, vR 30), (3, vI a3), (4, vI s.1)], [], s.2) _ _
  refine sim_blk0 hC [(.iload 4, 0, 0, 0, 0), (.bipush 8, 0, 0, 0, 8)] [(0, vR 0), (1, vR 30), (3, vI a3), (4, vI s.1)] [vI 8, vI s.1] s.2 36 (by decide +kernel) rfl rfl ?_
  refine sim_br hC (.if_icmp .ge 70) 106 (by decide +kernel) rfl (by decide) ?_ ?_
  · refine sim_sub hC [0, 1, 2] ?_
    exact sim_exit (E := (E_M_pack_30_32 a3)) s.2
  · refine sim_blk2 hC [(.aload_n 1, 0, 0, 0, 0), (.iload_n 3, 0, 0, 0, 0), (.iload 4, 0, 0, 0, 0), (.iadd, 0, 0, 0, 0), (.aload_n 0, 0, 0, 0, 0), (.getfield 78, 0, 24, 16, 0), (.iload 4, 0, 0, 0, 0), (.iaload, 14, 8, 0, 0), (.iastore, 30, 53, 0, 0)] [(0, vR 0), (1, vR 30), (3, vI a3), (4, vI s.1)] [] (wup s.2 30 (Int32.toNatClampNeg (a3 + s.1)) (s.2 14 (Int32.toNatClampNeg s.1))) 52 (by decide +kernel) rfl rfl ?_
    refine sim_bw (C := fun w5 => (52, [(0, vR 0), (1, vR 30), (3, vI a3), (4, vI s.1)], [], w5)) (fun w5 => ?_)
    refine sim_blk2 hC [(.aload_n 1, 0, 0, 0, 0), (.iload_n 3, 0, 0, 0, 0), (.bipush 8, 0, 0, 0, 8), (.iadd, 0, 0, 0, 0), (.iload 4, 0, 0, 0, 0), (.iadd, 0, 0, 0, 0), (.aload_n 0, 0, 0, 0, 0), (.getfield 81, 0, 25, 17, 0), (.iload 4, 0, 0, 0, 0), (.iaload, 15, 8, 0, 0), (.iastore, 30, 53, 0, 0)] [(0, vR 0), (1, vR 30), (3, vI a3), (4, vI s.1)] [] (wup w5 30 (Int32.toNatClampNeg ((a3 + (8 : Int32)) + s.1)) (w5 15 (Int32.toNatClampNeg s.1))) 68 (by decide +kernel) rfl rfl ?_
    refine sim_bw (C := fun w6 => (68, [(0, vR 0), (1, vR 30), (3, vI a3), (4, vI s.1)], [], w6)) (fun w6 => ?_)
    refine sim_blk2 hC [(.aload_n 1, 0, 0, 0, 0), (.iload_n 3, 0, 0, 0, 0), (.bipush 16, 0, 0, 0, 16), (.iadd, 0, 0, 0, 0), (.iload 4, 0, 0, 0, 0), (.iadd, 0, 0, 0, 0), (.aload_n 0, 0, 0, 0, 0), (.getfield 84, 0, 26, 18, 0), (.iload 4, 0, 0, 0, 0), (.iaload, 16, 8, 0, 0), (.iastore, 30, 53, 0, 0)] [(0, vR 0), (1, vR 30), (3, vI a3), (4, vI s.1)] [] (wup w6 30 (Int32.toNatClampNeg ((a3 + (16 : Int32)) + s.1)) (w6 16 (Int32.toNatClampNeg s.1))) 84 (by decide +kernel) rfl rfl ?_
    refine sim_bw (C := fun w7 => (84, [(0, vR 0), (1, vR 30), (3, vI a3), (4, vI s.1)], [], w7)) (fun w7 => ?_)
    refine sim_blk2 hC [(.aload_n 1, 0, 0, 0, 0), (.iload_n 3, 0, 0, 0, 0), (.bipush 24, 0, 0, 0, 24), (.iadd, 0, 0, 0, 0), (.iload 4, 0, 0, 0, 0), (.iadd, 0, 0, 0, 0), (.aload_n 0, 0, 0, 0, 0), (.getfield 87, 0, 27, 19, 0), (.iload 4, 0, 0, 0, 0), (.iaload, 17, 8, 0, 0), (.iastore, 30, 53, 0, 0)] [(0, vR 0), (1, vR 30), (3, vI a3), (4, vI s.1)] [] (wup w7 30 (Int32.toNatClampNeg ((a3 + (24 : Int32)) + s.1)) (w7 17 (Int32.toNatClampNeg s.1))) 100 (by decide +kernel) rfl rfl ?_
    refine sim_bw (C := fun w8 => (100, [(0, vR 0), (1, vR 30), (3, vI a3), (4, vI s.1)], [], w8)) (fun w8 => ?_)
    refine sim_blk0 hC [(.iinc 4 1, 0, 0, 0, 1)] [(0, vR 0), (1, vR 30), (3, vI a3), (4, vI (s.1 + 1))] [] w8 103 (by decide +kernel) rfl rfl ?_
    refine sim_bi (C := fun i9 => (103, [(0, vR 0), (1, vR 30), (3, vI a3), (4, vI i9)], [], w8)) (fun i9 => ?_)
    refine sim_goto hC (-71) 32 (by decide +kernel) (by decide) ?_
    exact sim_back (V := (V_M_pack_30_32 a3)) ((i9, w8))
def V_M_pack_30_112 (a3 : Int32) : (Int32 × Wld) → Cfg := fun s => (112, [(0, vR 0), (1, vR 30), (3, vI a3), (4, vI s.1)], [], s.2)
def E_M_pack_30_112 (a3 : Int32) : (Wld) → Cfg := fun s => (154, [], [], s)
noncomputable def B_M_pack_30_112 (a3 : Int32) (s : Int32 × Wld) : Option ((Int32 × Wld) ⊕ (Wld)) :=
  br ((9 : Int32) ≤ s.1) (some (.inr s.2)) (gd (vp_in s.1 9) (gd (vp_in (a3 + s.1) 53) (bw (wup s.2 30 (Int32.toNatClampNeg (a3 + s.1)) (s.2 18 (Int32.toNatClampNeg s.1))) (fun w12 => gd (vp_in s.1 9) (gd (vp_in ((a3 + (9 : Int32)) + s.1) 53) (bw (wup w12 30 (Int32.toNatClampNeg ((a3 + (9 : Int32)) + s.1)) (w12 19 (Int32.toNatClampNeg s.1))) (fun w13 => bi (s.1 + 1) (fun i14 => some (.inl ((i14, w13)))))))))))
set_option maxRecDepth 10000 in
theorem s_B_M_pack_30_112 {Z : ZT} {l : Launch} {o : Oc} {wo : Wld} {Ok : Cfg → Prop} (hC : Clo Z l 10 5 prog_13_method_38_code none 1 0 o wo Ok) (a3 : Int32) (s : Int32 × Wld) : SimK Ok (V_M_pack_30_112 a3 s) (B_M_pack_30_112 a3 s) (GLp Ok (V_M_pack_30_112 a3) (GEp Ok (E_M_pack_30_112 a3))) := by
  unfold B_M_pack_30_112
  show SimK Ok (112, [(0, vR 0), (1, vR 30), (3, vI a3), (4, vI s.1)], [], s.2) _ _
  refine sim_blk0 hC [(.iload 4, 0, 0, 0, 0), (.bipush 9, 0, 0, 0, 9)] [(0, vR 0), (1, vR 30), (3, vI a3), (4, vI s.1)] [vI 9, vI s.1] s.2 116 (by decide +kernel) rfl rfl ?_
  refine sim_br hC (.if_icmp .ge 38) 154 (by decide +kernel) rfl (by decide) ?_ ?_
  · refine sim_sub hC [] ?_
    exact sim_exit (E := (E_M_pack_30_112 a3)) s.2
  · refine sim_blk2 hC [(.aload_n 1, 0, 0, 0, 0), (.iload_n 3, 0, 0, 0, 0), (.iload 4, 0, 0, 0, 0), (.iadd, 0, 0, 0, 0), (.aload_n 0, 0, 0, 0, 0), (.getfield 89, 0, 28, 20, 0), (.iload 4, 0, 0, 0, 0), (.iaload, 18, 9, 0, 0), (.iastore, 30, 53, 0, 0)] [(0, vR 0), (1, vR 30), (3, vI a3), (4, vI s.1)] [] (wup s.2 30 (Int32.toNatClampNeg (a3 + s.1)) (s.2 18 (Int32.toNatClampNeg s.1))) 132 (by decide +kernel) rfl rfl ?_
    refine sim_bw (C := fun w12 => (132, [(0, vR 0), (1, vR 30), (3, vI a3), (4, vI s.1)], [], w12)) (fun w12 => ?_)
    refine sim_blk2 hC [(.aload_n 1, 0, 0, 0, 0), (.iload_n 3, 0, 0, 0, 0), (.bipush 9, 0, 0, 0, 9), (.iadd, 0, 0, 0, 0), (.iload 4, 0, 0, 0, 0), (.iadd, 0, 0, 0, 0), (.aload_n 0, 0, 0, 0, 0), (.getfield 92, 0, 29, 21, 0), (.iload 4, 0, 0, 0, 0), (.iaload, 19, 9, 0, 0), (.iastore, 30, 53, 0, 0)] [(0, vR 0), (1, vR 30), (3, vI a3), (4, vI s.1)] [] (wup w12 30 (Int32.toNatClampNeg ((a3 + (9 : Int32)) + s.1)) (w12 19 (Int32.toNatClampNeg s.1))) 148 (by decide +kernel) rfl rfl ?_
    refine sim_bw (C := fun w13 => (148, [(0, vR 0), (1, vR 30), (3, vI a3), (4, vI s.1)], [], w13)) (fun w13 => ?_)
    refine sim_blk0 hC [(.iinc 4 1, 0, 0, 0, 1)] [(0, vR 0), (1, vR 30), (3, vI a3), (4, vI (s.1 + 1))] [] w13 151 (by decide +kernel) rfl rfl ?_
    refine sim_bi (C := fun i14 => (151, [(0, vR 0), (1, vR 30), (3, vI a3), (4, vI i14)], [], w13)) (fun i14 => ?_)
    refine sim_goto hC (-39) 112 (by decide +kernel) (by decide) ?_
    exact sim_back (V := (V_M_pack_30_112 a3)) ((i14, w13))
noncomputable def F_M_pack_30 (w : Wld) (a2 : Int32) : Option (Wld) :=
  gd (vp_in a2 53) (bw (wup w 30 (Int32.toNatClampNeg a2) (w 0 31)) (fun w1 => gd (vp_in (a2 + (1 : Int32)) 53) (bw (wup w1 30 (Int32.toNatClampNeg (a2 + (1 : Int32))) (w1 0 32)) (fun w2 => gd (vp_in (a2 + (2 : Int32)) 53) (bw (wup w2 30 (Int32.toNatClampNeg (a2 + (2 : Int32))) (w2 0 33)) (fun w3 => bi (a2 + (3 : Int32)) (fun i4 => bl (loop (B_M_pack_30_32 i4) ((0, w3))) (fun r10 => bi (i4 + 32) (fun i11 => bl (loop (B_M_pack_30_112 i11) ((0, r10))) (fun r15 => some r15))))))))))
set_option maxRecDepth 10000 in
theorem s_M_pack_30 {Z : ZT} {l : Launch} {o : Oc} {wo : Wld} {Ok : Cfg → Prop} (hC : Clo Z l 10 5 prog_13_method_38_code none 1 0 o wo Ok) (w : Wld) (a2 : Int32) : SimK Ok (0, [(0, vR 0), (1, vR 30), (2, vI a2)], [], w) (F_M_pack_30 w a2) (Gv o wo) := by
  unfold F_M_pack_30
  refine sim_blk1 hC [(.aload_n 1, 0, 0, 0, 0), (.iload_n 2, 0, 0, 0, 0), (.aload_n 0, 0, 0, 0, 0), (.getfield 305, 0, 31, 0, 0), (.iastore, 30, 53, 0, 0)] [(0, vR 0), (1, vR 30), (2, vI a2)] [] (wup w 30 (Int32.toNatClampNeg a2) (w 0 31)) 7 (by decide +kernel) rfl rfl ?_
  refine sim_bw (C := fun w1 => (7, [(0, vR 0), (1, vR 30), (2, vI a2)], [], w1)) (fun w1 => ?_)
  refine sim_blk1 hC [(.aload_n 1, 0, 0, 0, 0), (.iload_n 2, 0, 0, 0, 0), (.iconst 1, 0, 0, 0, 1), (.iadd, 0, 0, 0, 0), (.aload_n 0, 0, 0, 0, 0), (.getfield 307, 0, 32, 0, 0), (.iastore, 30, 53, 0, 0)] [(0, vR 0), (1, vR 30), (2, vI a2)] [] (wup w1 30 (Int32.toNatClampNeg (a2 + (1 : Int32))) (w1 0 32)) 16 (by decide +kernel) rfl rfl ?_
  refine sim_bw (C := fun w2 => (16, [(0, vR 0), (1, vR 30), (2, vI a2)], [], w2)) (fun w2 => ?_)
  refine sim_blk1 hC [(.aload_n 1, 0, 0, 0, 0), (.iload_n 2, 0, 0, 0, 0), (.iconst 2, 0, 0, 0, 2), (.iadd, 0, 0, 0, 0), (.aload_n 0, 0, 0, 0, 0), (.getfield 309, 0, 33, 0, 0), (.iastore, 30, 53, 0, 0)] [(0, vR 0), (1, vR 30), (2, vI a2)] [] (wup w2 30 (Int32.toNatClampNeg (a2 + (2 : Int32))) (w2 0 33)) 25 (by decide +kernel) rfl rfl ?_
  refine sim_bw (C := fun w3 => (25, [(0, vR 0), (1, vR 30), (2, vI a2)], [], w3)) (fun w3 => ?_)
  refine sim_blk0 hC [(.iload_n 2, 0, 0, 0, 0), (.iconst 3, 0, 0, 0, 3), (.iadd, 0, 0, 0, 0), (.istore_n 3, 0, 0, 0, 0)] [(0, vR 0), (1, vR 30), (2, vI a2), (3, vI (a2 + (3 : Int32)))] [] w3 29 (by decide +kernel) rfl rfl ?_
  refine sim_bi (C := fun i4 => (29, [(0, vR 0), (1, vR 30), (2, vI a2), (3, vI i4)], [], w3)) (fun i4 => ?_)
  refine sim_blk0 hC [(.iconst 0, 0, 0, 0, 0), (.istore 4, 0, 0, 0, 0)] [(0, vR 0), (1, vR 30), (2, vI a2), (3, vI i4), (4, vI 0)] [] w3 32 (by decide +kernel) rfl rfl ?_
  refine sim_bl (E := (E_M_pack_30_32 i4)) ?_ (fun r10 => ?_)
  · refine sim_sub hC [0, 1, 3, 4] ?_
    exact sim_loop (V := (V_M_pack_30_32 i4)) (fun sz => s_B_M_pack_30_32 hC i4 sz) ((0, w3))
  · show SimK Ok (106, [(0, vR 0), (1, vR 30), (3, vI i4)], [], r10) _ _
    refine sim_blk0 hC [(.iinc 3 32, 0, 0, 0, 32)] [(0, vR 0), (1, vR 30), (3, vI (i4 + 32))] [] r10 109 (by decide +kernel) rfl rfl ?_
    refine sim_bi (C := fun i11 => (109, [(0, vR 0), (1, vR 30), (3, vI i11)], [], r10)) (fun i11 => ?_)
    refine sim_blk0 hC [(.iconst 0, 0, 0, 0, 0), (.istore 4, 0, 0, 0, 0)] [(0, vR 0), (1, vR 30), (3, vI i11), (4, vI 0)] [] r10 112 (by decide +kernel) rfl rfl ?_
    refine sim_bl (E := (E_M_pack_30_112 i11)) ?_ (fun r15 => ?_)
    · exact sim_loop (V := (V_M_pack_30_112 i11)) (fun sz => s_B_M_pack_30_112 hC i11 sz) ((0, r10))
    · show SimK Ok (154, [], [], r15) _ _
      exact sim_retv hC (by decide +kernel)
theorem c_M_pack_30 {Z : ZT} {l : Launch} (w : Wld) (a2 : Int32) (w1 : Wld) (h : F_M_pack_30 w a2 = some w1) : Con Z l mX11_pack 1 0 [vR 0, vR 30, vI a2] w (.inr none) w1 :=
  Con_of (oc := 10) (by decide +kernel) rfl rfl (fun Ok hC => s_M_pack_30 hC w a2 w1 h ⟨rfl, rfl⟩)
def V_M_unpack_30_32 (a3 : Int32) : (Int32 × Wld) → Cfg := fun s => (32, [(0, vR 0), (1, vR 30), (3, vI a3), (4, vI s.1)], [], s.2)
def E_M_unpack_30_32 (a3 : Int32) : (Wld) → Cfg := fun s => (106, [(0, vR 0), (1, vR 30), (3, vI a3)], [], s)
noncomputable def B_M_unpack_30_32 (a3 : Int32) (s : Int32 × Wld) : Option ((Int32 × Wld) ⊕ (Wld)) :=
  br ((8 : Int32) ≤ s.1) (some (.inr s.2)) (gd (vp_in (a3 + s.1) 53) (gd (vp_in s.1 8) (bw (wup s.2 14 (Int32.toNatClampNeg s.1) (s.2 30 (Int32.toNatClampNeg (a3 + s.1)))) (fun w5 => gd (vp_in ((a3 + (8 : Int32)) + s.1) 53) (gd (vp_in s.1 8) (bw (wup w5 15 (Int32.toNatClampNeg s.1) (w5 30 (Int32.toNatClampNeg ((a3 + (8 : Int32)) + s.1)))) (fun w6 => gd (vp_in ((a3 + (16 : Int32)) + s.1) 53) (gd (vp_in s.1 8) (bw (wup w6 16 (Int32.toNatClampNeg s.1) (w6 30 (Int32.toNatClampNeg ((a3 + (16 : Int32)) + s.1)))) (fun w7 => gd (vp_in ((a3 + (24 : Int32)) + s.1) 53) (gd (vp_in s.1 8) (bw (wup w7 17 (Int32.toNatClampNeg s.1) (w7 30 (Int32.toNatClampNeg ((a3 + (24 : Int32)) + s.1)))) (fun w8 => bi (s.1 + 1) (fun i9 => some (.inl ((i9, w8)))))))))))))))))
set_option maxRecDepth 10000 in
theorem s_B_M_unpack_30_32 {Z : ZT} {l : Launch} {o : Oc} {wo : Wld} {Ok : Cfg → Prop} (hC : Clo Z l 10 5 prog_13_method_39_code none 1 0 o wo Ok) (a3 : Int32) (s : Int32 × Wld) : SimK Ok (V_M_unpack_30_32 a3 s) (B_M_unpack_30_32 a3 s) (GLp Ok (V_M_unpack_30_32 a3) (GEp Ok (E_M_unpack_30_32 a3))) := by
  unfold B_M_unpack_30_32
  show SimK Ok (32, [(0, vR 0), (1, vR 30), (3, vI a3), (4, vI s.1)], [], s.2) _ _
  refine sim_blk0 hC [(.iload 4, 0, 0, 0, 0), (.bipush 8, 0, 0, 0, 8)] [(0, vR 0), (1, vR 30), (3, vI a3), (4, vI s.1)] [vI 8, vI s.1] s.2 36 (by decide +kernel) rfl rfl ?_
  refine sim_br hC (.if_icmp .ge 70) 106 (by decide +kernel) rfl (by decide) ?_ ?_
  · refine sim_sub hC [0, 1, 2] ?_
    exact sim_exit (E := (E_M_unpack_30_32 a3)) s.2
  · refine sim_blk2 hC [(.aload_n 0, 0, 0, 0, 0), (.getfield 78, 0, 24, 16, 0), (.iload 4, 0, 0, 0, 0), (.aload_n 1, 0, 0, 0, 0), (.iload_n 3, 0, 0, 0, 0), (.iload 4, 0, 0, 0, 0), (.iadd, 0, 0, 0, 0), (.iaload, 30, 53, 0, 0), (.iastore, 14, 8, 0, 0)] [(0, vR 0), (1, vR 30), (3, vI a3), (4, vI s.1)] [] (wup s.2 14 (Int32.toNatClampNeg s.1) (s.2 30 (Int32.toNatClampNeg (a3 + s.1)))) 52 (by decide +kernel) rfl rfl ?_
    refine sim_bw (C := fun w5 => (52, [(0, vR 0), (1, vR 30), (3, vI a3), (4, vI s.1)], [], w5)) (fun w5 => ?_)
    refine sim_blk2 hC [(.aload_n 0, 0, 0, 0, 0), (.getfield 81, 0, 25, 17, 0), (.iload 4, 0, 0, 0, 0), (.aload_n 1, 0, 0, 0, 0), (.iload_n 3, 0, 0, 0, 0), (.bipush 8, 0, 0, 0, 8), (.iadd, 0, 0, 0, 0), (.iload 4, 0, 0, 0, 0), (.iadd, 0, 0, 0, 0), (.iaload, 30, 53, 0, 0), (.iastore, 15, 8, 0, 0)] [(0, vR 0), (1, vR 30), (3, vI a3), (4, vI s.1)] [] (wup w5 15 (Int32.toNatClampNeg s.1) (w5 30 (Int32.toNatClampNeg ((a3 + (8 : Int32)) + s.1)))) 68 (by decide +kernel) rfl rfl ?_
    refine sim_bw (C := fun w6 => (68, [(0, vR 0), (1, vR 30), (3, vI a3), (4, vI s.1)], [], w6)) (fun w6 => ?_)
    refine sim_blk2 hC [(.aload_n 0, 0, 0, 0, 0), (.getfield 84, 0, 26, 18, 0), (.iload 4, 0, 0, 0, 0), (.aload_n 1, 0, 0, 0, 0), (.iload_n 3, 0, 0, 0, 0), (.bipush 16, 0, 0, 0, 16), (.iadd, 0, 0, 0, 0), (.iload 4, 0, 0, 0, 0), (.iadd, 0, 0, 0, 0), (.iaload, 30, 53, 0, 0), (.iastore, 16, 8, 0, 0)] [(0, vR 0), (1, vR 30), (3, vI a3), (4, vI s.1)] [] (wup w6 16 (Int32.toNatClampNeg s.1) (w6 30 (Int32.toNatClampNeg ((a3 + (16 : Int32)) + s.1)))) 84 (by decide +kernel) rfl rfl ?_
    refine sim_bw (C := fun w7 => (84, [(0, vR 0), (1, vR 30), (3, vI a3), (4, vI s.1)], [], w7)) (fun w7 => ?_)
    refine sim_blk2 hC [(.aload_n 0, 0, 0, 0, 0), (.getfield 87, 0, 27, 19, 0), (.iload 4, 0, 0, 0, 0), (.aload_n 1, 0, 0, 0, 0), (.iload_n 3, 0, 0, 0, 0), (.bipush 24, 0, 0, 0, 24), (.iadd, 0, 0, 0, 0), (.iload 4, 0, 0, 0, 0), (.iadd, 0, 0, 0, 0), (.iaload, 30, 53, 0, 0), (.iastore, 17, 8, 0, 0)] [(0, vR 0), (1, vR 30), (3, vI a3), (4, vI s.1)] [] (wup w7 17 (Int32.toNatClampNeg s.1) (w7 30 (Int32.toNatClampNeg ((a3 + (24 : Int32)) + s.1)))) 100 (by decide +kernel) rfl rfl ?_
    refine sim_bw (C := fun w8 => (100, [(0, vR 0), (1, vR 30), (3, vI a3), (4, vI s.1)], [], w8)) (fun w8 => ?_)
    refine sim_blk0 hC [(.iinc 4 1, 0, 0, 0, 1)] [(0, vR 0), (1, vR 30), (3, vI a3), (4, vI (s.1 + 1))] [] w8 103 (by decide +kernel) rfl rfl ?_
    refine sim_bi (C := fun i9 => (103, [(0, vR 0), (1, vR 30), (3, vI a3), (4, vI i9)], [], w8)) (fun i9 => ?_)
    refine sim_goto hC (-71) 32 (by decide +kernel) (by decide) ?_
    exact sim_back (V := (V_M_unpack_30_32 a3)) ((i9, w8))
def V_M_unpack_30_112 (a3 : Int32) : (Int32 × Wld) → Cfg := fun s => (112, [(0, vR 0), (1, vR 30), (3, vI a3), (4, vI s.1)], [], s.2)
def E_M_unpack_30_112 (a3 : Int32) : (Wld) → Cfg := fun s => (154, [], [], s)
noncomputable def B_M_unpack_30_112 (a3 : Int32) (s : Int32 × Wld) : Option ((Int32 × Wld) ⊕ (Wld)) :=
  br ((9 : Int32) ≤ s.1) (some (.inr s.2)) (gd (vp_in (a3 + s.1) 53) (gd (vp_in s.1 9) (bw (wup s.2 18 (Int32.toNatClampNeg s.1) (s.2 30 (Int32.toNatClampNeg (a3 + s.1)))) (fun w12 => gd (vp_in ((a3 + (9 : Int32)) + s.1) 53) (gd (vp_in s.1 9) (bw (wup w12 19 (Int32.toNatClampNeg s.1) (w12 30 (Int32.toNatClampNeg ((a3 + (9 : Int32)) + s.1)))) (fun w13 => bi (s.1 + 1) (fun i14 => some (.inl ((i14, w13)))))))))))
set_option maxRecDepth 10000 in
theorem s_B_M_unpack_30_112 {Z : ZT} {l : Launch} {o : Oc} {wo : Wld} {Ok : Cfg → Prop} (hC : Clo Z l 10 5 prog_13_method_39_code none 1 0 o wo Ok) (a3 : Int32) (s : Int32 × Wld) : SimK Ok (V_M_unpack_30_112 a3 s) (B_M_unpack_30_112 a3 s) (GLp Ok (V_M_unpack_30_112 a3) (GEp Ok (E_M_unpack_30_112 a3))) := by
  unfold B_M_unpack_30_112
  show SimK Ok (112, [(0, vR 0), (1, vR 30), (3, vI a3), (4, vI s.1)], [], s.2) _ _
  refine sim_blk0 hC [(.iload 4, 0, 0, 0, 0), (.bipush 9, 0, 0, 0, 9)] [(0, vR 0), (1, vR 30), (3, vI a3), (4, vI s.1)] [vI 9, vI s.1] s.2 116 (by decide +kernel) rfl rfl ?_
  refine sim_br hC (.if_icmp .ge 38) 154 (by decide +kernel) rfl (by decide) ?_ ?_
  · refine sim_sub hC [] ?_
    exact sim_exit (E := (E_M_unpack_30_112 a3)) s.2
  · refine sim_blk2 hC [(.aload_n 0, 0, 0, 0, 0), (.getfield 89, 0, 28, 20, 0), (.iload 4, 0, 0, 0, 0), (.aload_n 1, 0, 0, 0, 0), (.iload_n 3, 0, 0, 0, 0), (.iload 4, 0, 0, 0, 0), (.iadd, 0, 0, 0, 0), (.iaload, 30, 53, 0, 0), (.iastore, 18, 9, 0, 0)] [(0, vR 0), (1, vR 30), (3, vI a3), (4, vI s.1)] [] (wup s.2 18 (Int32.toNatClampNeg s.1) (s.2 30 (Int32.toNatClampNeg (a3 + s.1)))) 132 (by decide +kernel) rfl rfl ?_
    refine sim_bw (C := fun w12 => (132, [(0, vR 0), (1, vR 30), (3, vI a3), (4, vI s.1)], [], w12)) (fun w12 => ?_)
    refine sim_blk2 hC [(.aload_n 0, 0, 0, 0, 0), (.getfield 92, 0, 29, 21, 0), (.iload 4, 0, 0, 0, 0), (.aload_n 1, 0, 0, 0, 0), (.iload_n 3, 0, 0, 0, 0), (.bipush 9, 0, 0, 0, 9), (.iadd, 0, 0, 0, 0), (.iload 4, 0, 0, 0, 0), (.iadd, 0, 0, 0, 0), (.iaload, 30, 53, 0, 0), (.iastore, 19, 9, 0, 0)] [(0, vR 0), (1, vR 30), (3, vI a3), (4, vI s.1)] [] (wup w12 19 (Int32.toNatClampNeg s.1) (w12 30 (Int32.toNatClampNeg ((a3 + (9 : Int32)) + s.1)))) 148 (by decide +kernel) rfl rfl ?_
    refine sim_bw (C := fun w13 => (148, [(0, vR 0), (1, vR 30), (3, vI a3), (4, vI s.1)], [], w13)) (fun w13 => ?_)
    refine sim_blk0 hC [(.iinc 4 1, 0, 0, 0, 1)] [(0, vR 0), (1, vR 30), (3, vI a3), (4, vI (s.1 + 1))] [] w13 151 (by decide +kernel) rfl rfl ?_
    refine sim_bi (C := fun i14 => (151, [(0, vR 0), (1, vR 30), (3, vI a3), (4, vI i14)], [], w13)) (fun i14 => ?_)
    refine sim_goto hC (-39) 112 (by decide +kernel) (by decide) ?_
    exact sim_back (V := (V_M_unpack_30_112 a3)) ((i14, w13))
noncomputable def F_M_unpack_30 (w : Wld) (a2 : Int32) : Option (Wld) :=
  gd (vp_in a2 53) (bw (wup w 0 31 (w 30 (Int32.toNatClampNeg a2))) (fun w1 => gd (vp_in (a2 + (1 : Int32)) 53) (bw (wup w1 0 32 (w1 30 (Int32.toNatClampNeg (a2 + (1 : Int32))))) (fun w2 => gd (vp_in (a2 + (2 : Int32)) 53) (bw (wup w2 0 33 (w2 30 (Int32.toNatClampNeg (a2 + (2 : Int32))))) (fun w3 => bi (a2 + (3 : Int32)) (fun i4 => bl (loop (B_M_unpack_30_32 i4) ((0, w3))) (fun r10 => bi (i4 + 32) (fun i11 => bl (loop (B_M_unpack_30_112 i11) ((0, r10))) (fun r15 => some r15))))))))))
set_option maxRecDepth 10000 in
theorem s_M_unpack_30 {Z : ZT} {l : Launch} {o : Oc} {wo : Wld} {Ok : Cfg → Prop} (hC : Clo Z l 10 5 prog_13_method_39_code none 1 0 o wo Ok) (w : Wld) (a2 : Int32) : SimK Ok (0, [(0, vR 0), (1, vR 30), (2, vI a2)], [], w) (F_M_unpack_30 w a2) (Gv o wo) := by
  unfold F_M_unpack_30
  refine sim_blk1 hC [(.aload_n 0, 0, 0, 0, 0), (.aload_n 1, 0, 0, 0, 0), (.iload_n 2, 0, 0, 0, 0), (.iaload, 30, 53, 0, 0), (.putfield 305, 0, 31, 0, 0)] [(0, vR 0), (1, vR 30), (2, vI a2)] [] (wup w 0 31 (w 30 (Int32.toNatClampNeg a2))) 7 (by decide +kernel) rfl rfl ?_
  refine sim_bw (C := fun w1 => (7, [(0, vR 0), (1, vR 30), (2, vI a2)], [], w1)) (fun w1 => ?_)
  refine sim_blk1 hC [(.aload_n 0, 0, 0, 0, 0), (.aload_n 1, 0, 0, 0, 0), (.iload_n 2, 0, 0, 0, 0), (.iconst 1, 0, 0, 0, 1), (.iadd, 0, 0, 0, 0), (.iaload, 30, 53, 0, 0), (.putfield 307, 0, 32, 0, 0)] [(0, vR 0), (1, vR 30), (2, vI a2)] [] (wup w1 0 32 (w1 30 (Int32.toNatClampNeg (a2 + (1 : Int32))))) 16 (by decide +kernel) rfl rfl ?_
  refine sim_bw (C := fun w2 => (16, [(0, vR 0), (1, vR 30), (2, vI a2)], [], w2)) (fun w2 => ?_)
  refine sim_blk1 hC [(.aload_n 0, 0, 0, 0, 0), (.aload_n 1, 0, 0, 0, 0), (.iload_n 2, 0, 0, 0, 0), (.iconst 2, 0, 0, 0, 2), (.iadd, 0, 0, 0, 0), (.iaload, 30, 53, 0, 0), (.putfield 309, 0, 33, 0, 0)] [(0, vR 0), (1, vR 30), (2, vI a2)] [] (wup w2 0 33 (w2 30 (Int32.toNatClampNeg (a2 + (2 : Int32))))) 25 (by decide +kernel) rfl rfl ?_
  refine sim_bw (C := fun w3 => (25, [(0, vR 0), (1, vR 30), (2, vI a2)], [], w3)) (fun w3 => ?_)
  refine sim_blk0 hC [(.iload_n 2, 0, 0, 0, 0), (.iconst 3, 0, 0, 0, 3), (.iadd, 0, 0, 0, 0), (.istore_n 3, 0, 0, 0, 0)] [(0, vR 0), (1, vR 30), (2, vI a2), (3, vI (a2 + (3 : Int32)))] [] w3 29 (by decide +kernel) rfl rfl ?_
  refine sim_bi (C := fun i4 => (29, [(0, vR 0), (1, vR 30), (2, vI a2), (3, vI i4)], [], w3)) (fun i4 => ?_)
  refine sim_blk0 hC [(.iconst 0, 0, 0, 0, 0), (.istore 4, 0, 0, 0, 0)] [(0, vR 0), (1, vR 30), (2, vI a2), (3, vI i4), (4, vI 0)] [] w3 32 (by decide +kernel) rfl rfl ?_
  refine sim_bl (E := (E_M_unpack_30_32 i4)) ?_ (fun r10 => ?_)
  · refine sim_sub hC [0, 1, 3, 4] ?_
    exact sim_loop (V := (V_M_unpack_30_32 i4)) (fun sz => s_B_M_unpack_30_32 hC i4 sz) ((0, w3))
  · show SimK Ok (106, [(0, vR 0), (1, vR 30), (3, vI i4)], [], r10) _ _
    refine sim_blk0 hC [(.iinc 3 32, 0, 0, 0, 32)] [(0, vR 0), (1, vR 30), (3, vI (i4 + 32))] [] r10 109 (by decide +kernel) rfl rfl ?_
    refine sim_bi (C := fun i11 => (109, [(0, vR 0), (1, vR 30), (3, vI i11)], [], r10)) (fun i11 => ?_)
    refine sim_blk0 hC [(.iconst 0, 0, 0, 0, 0), (.istore 4, 0, 0, 0, 0)] [(0, vR 0), (1, vR 30), (3, vI i11), (4, vI 0)] [] r10 112 (by decide +kernel) rfl rfl ?_
    refine sim_bl (E := (E_M_unpack_30_112 i11)) ?_ (fun r15 => ?_)
    · exact sim_loop (V := (V_M_unpack_30_112 i11)) (fun sz => s_B_M_unpack_30_112 hC i11 sz) ((0, r10))
    · show SimK Ok (154, [], [], r15) _ _
      exact sim_retv hC (by decide +kernel)
theorem c_M_unpack_30 {Z : ZT} {l : Launch} (w : Wld) (a2 : Int32) (w1 : Wld) (h : F_M_unpack_30 w a2 = some w1) : Con Z l mX11_unpack 1 0 [vR 0, vR 30, vI a2] w (.inr none) w1 :=
  Con_of (oc := 10) (by decide +kernel) rfl rfl (fun Ok hC => s_M_unpack_30 hC w a2 w1 h ⟨rfl, rfl⟩)
