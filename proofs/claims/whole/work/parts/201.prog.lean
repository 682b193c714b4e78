def V_Night_pass_55_84_12 : (Int32 × Wld) → Cfg := fun s => (12, [(0, vR 55), (1, vR 84), (2, vR 85), (3, vI s.1)], [], s.2)
def E_Night_pass_55_84_12 : (Wld) → Cfg := fun s => (66, [(0, vR 55), (2, vR 85)], [], s)
noncomputable def K_Night_pass_55_84_56 (a3 : Int32) (t1 : Int32) (t2 : Int32) (w : Wld) : Option ((Int32 × Wld) ⊕ (Wld)) :=
  bw (wup w 55 3 (t1 ||| t2)) (fun w5 => bi (a3 + 1) (fun i6 => some (.inl ((i6, w5)))))
set_option maxRecDepth 10000 in
theorem s_K_Night_pass_55_84_56 {Z : ZT} {l : Launch} {o : Oc} {wo : Wld} {Ok : Cfg → Prop} (hC : Clo Z l 4 5 prog_6_method_4_code none 4 69 o wo Ok) (a3 : Int32) (t1 : Int32) (t2 : Int32) (w : Wld) : SimK Ok (56, [(0, vR 55), (1, vR 84), (2, vR 85), (3, vI a3)], [vI t2, vI t1, vR 55], w) (K_Night_pass_55_84_56 a3 t1 t2 w) (GLp Ok (V_Night_pass_55_84_12) (GEp Ok (E_Night_pass_55_84_12))) := by
  unfold K_Night_pass_55_84_56
  refine sim_blk0 hC [(.ior, 0, 0, 0, 0), (.putfield 27, 55, 3, 0, 0)] [(0, vR 55), (1, vR 84), (2, vR 85), (3, vI a3)] [] (wup w 55 3 (t1 ||| t2)) 60 (by decide +kernel) rfl rfl ?_
  refine sim_bw (C := fun w5 => (60, [(0, vR 55), (1, vR 84), (2, vR 85), (3, vI a3)], [], w5)) (fun w5 => ?_)
  refine sim_blk0 hC [(.iinc 3 1, 0, 0, 0, 1)] [(0, vR 55), (1, vR 84), (2, vR 85), (3, vI (a3 + 1))] [] w5 63 (by decide +kernel) rfl rfl ?_
  refine sim_bi (C := fun i6 => (63, [(0, vR 55), (1, vR 84), (2, vR 85), (3, vI i6)], [], w5)) (fun i6 => ?_)
  refine sim_goto hC (-51) 12 (by decide +kernel) (by decide) ?_
  exact sim_back (V := (V_Night_pass_55_84_12)) ((i6, w5))
noncomputable def B_Night_pass_55_84_12 (s : Int32 × Wld) : Option ((Int32 × Wld) ⊕ (Wld)) :=
  br ((s.2 56 1) ≤ s.1) (some (.inr s.2)) (gd (vp_in ((16 : Int32) + s.1) 53) (gd (vp_in s.1 8) (bw (wup s.2 63 (Int32.toNatClampNeg s.1) (s.2 85 (Int32.toNatClampNeg ((16 : Int32) + s.1)))) (fun w2 => bd (F_Night_rises_55_84 w2 s.1) (fun i3 w4 => br (i3 = 0) (K_Night_pass_55_84_56 s.1 (w2 55 3) 0 w4) (K_Night_pass_55_84_56 s.1 (w2 55 3) ((1 : Int32) <<< (s.1 &&& 31)) w4))))))
set_option maxRecDepth 10000 in
theorem s_B_Night_pass_55_84_12 {Z : ZT} {l : Launch} {o : Oc} {wo : Wld} {Ok : Cfg → Prop} (hC : Clo Z l 4 5 prog_6_method_4_code none 4 69 o wo Ok) (s : Int32 × Wld) : SimK Ok (V_Night_pass_55_84_12 s) (B_Night_pass_55_84_12 s) (GLp Ok (V_Night_pass_55_84_12) (GEp Ok (E_Night_pass_55_84_12))) := by
  unfold B_Night_pass_55_84_12
  show SimK Ok (12, [(0, vR 55), (1, vR 84), (2, vR 85), (3, vI s.1)], [], s.2) _ _
  refine sim_blk0 hC [(.iload_n 3, 0, 0, 0, 0), (.aload_n 0, 0, 0, 0, 0), (.getfield 12, 55, 0, 58, 0), (.getfield 57, 56, 1, 0, 0)] [(0, vR 55), (1, vR 84), (2, vR 85), (3, vI s.1)] [vI (s.2 56 1), vI s.1] s.2 20 (by decide +kernel) rfl rfl ?_
  refine sim_br hC (.if_icmp .ge 46) 66 (by decide +kernel) rfl (by decide) ?_ ?_
  · refine sim_sub hC [0, 2] ?_
    exact sim_exit (E := (E_Night_pass_55_84_12)) s.2
  · refine sim_blk2 hC [(.aload_n 0, 0, 0, 0, 0), (.getfield 24, 55, 2, 65, 0), (.iload_n 3, 0, 0, 0, 0), (.aload_n 2, 0, 0, 0, 0), (.bipush 16, 0, 0, 0, 16), (.iload_n 3, 0, 0, 0, 0), (.iadd, 0, 0, 0, 0), (.iaload, 85, 53, 0, 0), (.iastore, 63, 8, 0, 0)] [(0, vR 55), (1, vR 84), (2, vR 85), (3, vI s.1)] [] (wup s.2 63 (Int32.toNatClampNeg s.1) (s.2 85 (Int32.toNatClampNeg ((16 : Int32) + s.1)))) 35 (by decide +kernel) rfl rfl ?_
    refine sim_bw (C := fun w2 => (35, [(0, vR 55), (1, vR 84), (2, vR 85), (3, vI s.1)], [], w2)) (fun w2 => ?_)
    refine sim_blk0 hC [(.aload_n 0, 0, 0, 0, 0), (.dup, 0, 0, 0, 0), (.getfield 27, 55, 3, 0, 0), (.aload_n 0, 0, 0, 0, 0), (.aload_n 1, 0, 0, 0, 0), (.iload_n 3, 0, 0, 0, 0)] [(0, vR 55), (1, vR 84), (2, vR 85), (3, vI s.1)] [vI s.1, vR 84, vR 55, vI (w2 55 3), vR 55] w2 43 (by decide +kernel) rfl rfl ?_
    refine sim_vd hC 70 mX4_rises 3 47 55 [vR 84, vI s.1] [vI (w2 55 3), vR 55] (by decide +kernel) ml_4_70 rfl rfl rfl rfl rfl rfl (fun rz wz hz => c_Night_rises_55_84 w2 s.1 rz wz hz) (fun i3 w4 => ?_)
    refine sim_br hC (.ifCond .eq 9) 55 (by decide +kernel) rfl (by decide) ?_ ?_
    · refine sim_blk0 hC [(.iconst 0, 0, 0, 0, 0)] [(0, vR 55), (1, vR 84), (2, vR 85), (3, vI s.1)] [vI 0, vI (w2 55 3), vR 55] w4 56 (by decide +kernel) rfl rfl ?_
      exact s_K_Night_pass_55_84_56 hC s.1 (w2 55 3) 0 w4
    · refine sim_blk0 hC [(.iconst 1, 0, 0, 0, 1), (.iload_n 3, 0, 0, 0, 0), (.ishl, 0, 0, 0, 0)] [(0, vR 55), (1, vR 84), (2, vR 85), (3, vI s.1)] [vI ((1 : Int32) <<< (s.1 &&& 31)), vI (w2 55 3), vR 55] w4 52 (by decide +kernel) rfl rfl ?_
      refine sim_goto hC 4 56 (by decide +kernel) (by decide) ?_
      exact s_K_Night_pass_55_84_56 hC s.1 (w2 55 3) ((1 : Int32) <<< (s.1 &&& 31)) w4
def V_Night_pass_55_84_68 : (Int32 × Wld) → Cfg := fun s => (68, [(0, vR 55), (2, vR 85), (3, vI s.1)], [], s.2)
def E_Night_pass_55_84_68 : (Wld) → Cfg := fun s => (176, [(0, vR 55), (2, vR 85)], [], s)
noncomputable def K_Night_pass_55_84_152 (a3 : Int32) (w : Wld) : Option ((Int32 × Wld) ⊕ (Wld)) :=
  gd (vp_in ((8 : Int32) + a3) 53) (gd (vp_in ((8 : Int32) + a3) 53) (bw (wup w 85 (Int32.toNatClampNeg ((8 : Int32) + a3)) (imax 0 ((w 85 (Int32.toNatClampNeg ((8 : Int32) + a3))) - (1 : Int32)))) (fun w10 => bi (a3 + 1) (fun i11 => some (.inl ((i11, w10)))))))
set_option maxRecDepth 10000 in
theorem s_K_Night_pass_55_84_152 {Z : ZT} {l : Launch} {o : Oc} {wo : Wld} {Ok : Cfg → Prop} (hC : Clo Z l 4 5 prog_6_method_4_code none 4 69 o wo Ok) (a3 : Int32) (w : Wld) : SimK Ok (152, [(0, vR 55), (2, vR 85), (3, vI a3)], [], w) (K_Night_pass_55_84_152 a3 w) (GLp Ok (V_Night_pass_55_84_68) (GEp Ok (E_Night_pass_55_84_68))) := by
  unfold K_Night_pass_55_84_152
  refine sim_blk1 hC [(.aload_n 2, 0, 0, 0, 0), (.bipush 8, 0, 0, 0, 8), (.iload_n 3, 0, 0, 0, 0), (.iadd, 0, 0, 0, 0), (.iconst 0, 0, 0, 0, 0), (.aload_n 2, 0, 0, 0, 0), (.bipush 8, 0, 0, 0, 8), (.iload_n 3, 0, 0, 0, 0), (.iadd, 0, 0, 0, 0), (.iaload, 85, 53, 0, 0), (.iconst 1, 0, 0, 0, 1), (.isub, 0, 0, 0, 0)] [(0, vR 55), (2, vR 85), (3, vI a3)] [vI ((w 85 (Int32.toNatClampNeg ((8 : Int32) + a3))) - (1 : Int32)), vI 0, vI ((8 : Int32) + a3), vR 85] w 166 (by decide +kernel) rfl rfl ?_
  refine sim_max hC 89 (by decide +kernel) ml_4_89 rfl rfl rfl ?_
  refine sim_blk1 hC [(.iastore, 85, 53, 0, 0)] [(0, vR 55), (2, vR 85), (3, vI a3)] [] (wup w 85 (Int32.toNatClampNeg ((8 : Int32) + a3)) (imax 0 ((w 85 (Int32.toNatClampNeg ((8 : Int32) + a3))) - (1 : Int32)))) 170 (by decide +kernel) rfl rfl ?_
  refine sim_bw (C := fun w10 => (170, [(0, vR 55), (2, vR 85), (3, vI a3)], [], w10)) (fun w10 => ?_)
  refine sim_blk0 hC [(.iinc 3 1, 0, 0, 0, 1)] [(0, vR 55), (2, vR 85), (3, vI (a3 + 1))] [] w10 173 (by decide +kernel) rfl rfl ?_
  refine sim_bi (C := fun i11 => (173, [(0, vR 55), (2, vR 85), (3, vI i11)], [], w10)) (fun i11 => ?_)
  refine sim_goto hC (-105) 68 (by decide +kernel) (by decide) ?_
  exact sim_back (V := (V_Night_pass_55_84_68)) ((i11, w10))
noncomputable def B_Night_pass_55_84_68 (s : Int32 × Wld) : Option ((Int32 × Wld) ⊕ (Wld)) :=
  br ((s.2 56 1) ≤ s.1) (some (.inr s.2)) (br (¬ (((s.2 55 3) >>> (s.1 &&& 31)) &&& (1 : Int32)) = 1) (gd (vp_in ((0 : Int32) + s.1) 53) (bi ((s.2 85 (Int32.toNatClampNeg ((0 : Int32) + s.1))) + (s.2 56 3)) (fun i8 => gd (vp_in ((0 : Int32) + s.1) 53) (bw (wup s.2 85 (Int32.toNatClampNeg ((0 : Int32) + s.1)) (imin 99 i8)) (fun w9 => K_Night_pass_55_84_152 s.1 w9))))) (gd (vp_in ((24 : Int32) + s.1) 53) (gd (vp_in s.1 8) (bp (F_Night_singersIn_55 s.2 (s.2 63 (Int32.toNatClampNeg s.1))) (fun i12 => gd (vp_in ((24 : Int32) + s.1) 53) (bw (wup s.2 85 (Int32.toNatClampNeg ((24 : Int32) + s.1)) ((s.2 85 (Int32.toNatClampNeg ((24 : Int32) + s.1))) ||| (i12 &&& (((1 : Int32) <<< (s.1 &&& 31)) ^^^ (-1 : Int32))))) (fun w13 => bv (F_Night_tire_55_85 w13 s.1) (fun w14 => K_Night_pass_55_84_152 s.1 w14))))))))
set_option maxRecDepth 10000 in
theorem s_B_Night_pass_55_84_68 {Z : ZT} {l : Launch} {o : Oc} {wo : Wld} {Ok : Cfg → Prop} (hC : Clo Z l 4 5 prog_6_method_4_code none 4 69 o wo Ok) (s : Int32 × Wld) : SimK Ok (V_Night_pass_55_84_68 s) (B_Night_pass_55_84_68 s) (GLp Ok (V_Night_pass_55_84_68) (GEp Ok (E_Night_pass_55_84_68))) := by
  unfold B_Night_pass_55_84_68
  show SimK Ok (68, [(0, vR 55), (2, vR 85), (3, vI s.1)], [], s.2) _ _
  refine sim_blk0 hC [(.iload_n 3, 0, 0, 0, 0), (.aload_n 0, 0, 0, 0, 0), (.getfield 12, 55, 0, 58, 0), (.getfield 57, 56, 1, 0, 0)] [(0, vR 55), (2, vR 85), (3, vI s.1)] [vI (s.2 56 1), vI s.1] s.2 76 (by decide +kernel) rfl rfl ?_
  refine sim_br hC (.if_icmp .ge 100) 176 (by decide +kernel) rfl (by decide) ?_ ?_
  · refine sim_sub hC [0, 1] ?_
    exact sim_exit (E := (E_Night_pass_55_84_68)) s.2
  · refine sim_blk0 hC [(.aload_n 0, 0, 0, 0, 0), (.getfield 27, 55, 3, 0, 0), (.iload_n 3, 0, 0, 0, 0), (.ishr, 0, 0, 0, 0), (.iconst 1, 0, 0, 0, 1), (.iand, 0, 0, 0, 0), (.iconst 1, 0, 0, 0, 1)] [(0, vR 55), (2, vR 85), (3, vI s.1)] [vI 1, vI (((s.2 55 3) >>> (s.1 &&& 31)) &&& (1 : Int32))] s.2 88 (by decide +kernel) rfl rfl ?_
    refine sim_br hC (.if_icmp .ne 37) 125 (by decide +kernel) rfl (by decide) ?_ ?_
    · refine sim_blk1 hC [(.aload_n 2, 0, 0, 0, 0), (.iconst 0, 0, 0, 0, 0), (.iload_n 3, 0, 0, 0, 0), (.iadd, 0, 0, 0, 0), (.iaload, 85, 53, 0, 0), (.aload_n 0, 0, 0, 0, 0), (.getfield 12, 55, 0, 58, 0), (.getfield 81, 56, 3, 0, 0), (.iadd, 0, 0, 0, 0), (.istore 4, 0, 0, 0, 0)] [(0, vR 55), (2, vR 85), (3, vI s.1), (4, vI ((s.2 85 (Int32.toNatClampNeg ((0 : Int32) + s.1))) + (s.2 56 3)))] [] s.2 140 (by decide +kernel) rfl rfl ?_
      refine sim_bi (C := fun i8 => (140, [(0, vR 55), (2, vR 85), (3, vI s.1), (4, vI i8)], [], s.2)) (fun i8 => ?_)
      refine sim_blk0 hC [(.aload_n 2, 0, 0, 0, 0), (.iconst 0, 0, 0, 0, 0), (.iload_n 3, 0, 0, 0, 0), (.iadd, 0, 0, 0, 0), (.bipush 99, 0, 0, 0, 99), (.iload 4, 0, 0, 0, 0)] [(0, vR 55), (2, vR 85), (3, vI s.1), (4, vI i8)] [vI i8, vI 99, vI ((0 : Int32) + s.1), vR 85] s.2 148 (by decide +kernel) rfl rfl ?_
      refine sim_min hC 84 (by decide +kernel) ml_4_84 rfl rfl rfl ?_
      refine sim_blk1 hC [(.iastore, 85, 53, 0, 0)] [(0, vR 55), (2, vR 85), (3, vI s.1), (4, vI i8)] [] (wup s.2 85 (Int32.toNatClampNeg ((0 : Int32) + s.1)) (imin 99 i8)) 152 (by decide +kernel) rfl rfl ?_
      refine sim_bw (C := fun w9 => (152, [(0, vR 55), (2, vR 85), (3, vI s.1), (4, vI i8)], [], w9)) (fun w9 => ?_)
      refine sim_sub hC [0, 1, 2] ?_
      exact s_K_Night_pass_55_84_152 hC s.1 w9
    · refine sim_blk2 hC [(.aload_n 2, 0, 0, 0, 0), (.bipush 24, 0, 0, 0, 24), (.iload_n 3, 0, 0, 0, 0), (.iadd, 0, 0, 0, 0), (.dup2, 0, 0, 0, 0), (.iaload, 85, 53, 0, 0), (.aload_n 0, 0, 0, 0, 0), (.aload_n 0, 0, 0, 0, 0), (.getfield 24, 55, 2, 65, 0), (.iload_n 3, 0, 0, 0, 0), (.iaload, 63, 8, 0, 0)] [(0, vR 55), (2, vR 85), (3, vI s.1)] [vI (s.2 63 (Int32.toNatClampNeg s.1)), vR 55, vI (s.2 85 (Int32.toNatClampNeg ((24 : Int32) + s.1))), vI ((24 : Int32) + s.1), vR 85] s.2 105 (by decide +kernel) rfl rfl ?_
      refine sim_vp hC 74 mX4_singersIn 1 0 55 [vI (s.2 63 (Int32.toNatClampNeg s.1))] [vI (s.2 85 (Int32.toNatClampNeg ((24 : Int32) + s.1))), vI ((24 : Int32) + s.1), vR 85] (by decide +kernel) ml_4_74 rfl rfl rfl rfl rfl rfl (fun rz hz => c_Night_singersIn_55 s.2 (s.2 63 (Int32.toNatClampNeg s.1)) rz hz) (fun i12 => ?_)
      refine sim_blk1 hC [(.iconst 1, 0, 0, 0, 1), (.iload_n 3, 0, 0, 0, 0), (.ishl, 0, 0, 0, 0), (.iconst (-1), 0, 0, 0, (-1)), (.ixor, 0, 0, 0, 0), (.iand, 0, 0, 0, 0), (.ior, 0, 0, 0, 0), (.iastore, 85, 53, 0, 0)] [(0, vR 55), (2, vR 85), (3, vI s.1)] [] (wup s.2 85 (Int32.toNatClampNeg ((24 : Int32) + s.1)) ((s.2 85 (Int32.toNatClampNeg ((24 : Int32) + s.1))) ||| (i12 &&& (((1 : Int32) <<< (s.1 &&& 31)) ^^^ (-1 : Int32))))) 116 (by decide +kernel) rfl rfl ?_
      refine sim_bw (C := fun w13 => (116, [(0, vR 55), (2, vR 85), (3, vI s.1)], [], w13)) (fun w13 => ?_)
      refine sim_blk0 hC [(.aload_n 0, 0, 0, 0, 0), (.aload_n 2, 0, 0, 0, 0), (.iload_n 3, 0, 0, 0, 0)] [(0, vR 55), (2, vR 85), (3, vI s.1)] [vI s.1, vR 85, vR 55] w13 119 (by decide +kernel) rfl rfl ?_
      refine sim_vv hC 77 mX4_tire 1 21 55 [vR 85, vI s.1] [] (by decide +kernel) ml_4_77 rfl rfl rfl rfl rfl rfl (fun wz hz => c_Night_tire_55_85 w13 s.1 wz hz) (fun w14 => ?_)
      refine sim_goto hC 30 152 (by decide +kernel) (by decide) ?_
      exact s_K_Night_pass_55_84_152 hC s.1 w14
noncomputable def F_Night_pass_55_84 (w : Wld) : Option (Wld) :=
  bw (wup w 55 3 0) (fun w1 => bl (loop (B_Night_pass_55_84_12) ((0, w1))) (fun r7 => bl (loop (B_Night_pass_55_84_68) ((0, r7))) (fun r15 => gd (vp_in 51 53) (bw (wup r15 85 (Int32.toNatClampNeg 51) (r15 55 3)) (fun w16 => gd (vp_in 52 53) (gd (vp_in 52 53) (bw (wup w16 85 (Int32.toNatClampNeg 52) ((w16 85 (Int32.toNatClampNeg 52)) + (1 : Int32))) (fun w17 => some w17))))))))
set_option maxRecDepth 10000 in
theorem s_Night_pass_55_84 {Z : ZT} {l : Launch} {o : Oc} {wo : Wld} {Ok : Cfg → Prop} (hC : Clo Z l 4 5 prog_6_method_4_code none 4 69 o wo Ok) (w : Wld) : SimK Ok (0, [(0, vR 55), (1, vR 84)], [], w) (F_Night_pass_55_84 w) (Gv o wo) := by
  unfold F_Night_pass_55_84
  refine sim_blk0 hC [(.aload_n 1, 0, 0, 0, 0), (.getfield 31, 84, 0, 87, 0), (.astore_n 2, 0, 0, 0, 0), (.aload_n 0, 0, 0, 0, 0), (.iconst 0, 0, 0, 0, 0), (.putfield 27, 55, 3, 0, 0)] [(0, vR 55), (1, vR 84), (2, vR 85)] [] (wup w 55 3 0) 10 (by decide +kernel) rfl rfl ?_
  refine sim_bw (C := fun w1 => (10, [(0, vR 55), (1, vR 84), (2, vR 85)], [], w1)) (fun w1 => ?_)
  refine sim_blk0 hC [(.iconst 0, 0, 0, 0, 0), (.istore_n 3, 0, 0, 0, 0)] [(0, vR 55), (1, vR 84), (2, vR 85), (3, vI 0)] [] w1 12 (by decide +kernel) rfl rfl ?_
  refine sim_bl (E := (E_Night_pass_55_84_12)) ?_ (fun r7 => ?_)
  · exact sim_loop (V := (V_Night_pass_55_84_12)) (fun sz => s_B_Night_pass_55_84_12 hC sz) ((0, w1))
  · show SimK Ok (66, [(0, vR 55), (2, vR 85)], [], r7) _ _
    refine sim_blk0 hC [(.iconst 0, 0, 0, 0, 0), (.istore_n 3, 0, 0, 0, 0)] [(0, vR 55), (2, vR 85), (3, vI 0)] [] r7 68 (by decide +kernel) rfl rfl ?_
    refine sim_bl (E := (E_Night_pass_55_84_68)) ?_ (fun r15 => ?_)
    · exact sim_loop (V := (V_Night_pass_55_84_68)) (fun sz => s_B_Night_pass_55_84_68 hC sz) ((0, r7))
    · show SimK Ok (176, [(0, vR 55), (2, vR 85)], [], r15) _ _
      refine sim_blk1 hC [(.aload_n 2, 0, 0, 0, 0), (.bipush 51, 0, 0, 0, 51), (.aload_n 0, 0, 0, 0, 0), (.getfield 27, 55, 3, 0, 0), (.iastore, 85, 53, 0, 0)] [(0, vR 55), (2, vR 85)] [] (wup r15 85 (Int32.toNatClampNeg 51) (r15 55 3)) 184 (by decide +kernel) rfl rfl ?_
      refine sim_bw (C := fun w16 => (184, [(0, vR 55), (2, vR 85)], [], w16)) (fun w16 => ?_)
      refine sim_blk2 hC [(.aload_n 2, 0, 0, 0, 0), (.bipush 52, 0, 0, 0, 52), (.dup2, 0, 0, 0, 0), (.iaload, 85, 53, 0, 0), (.iconst 1, 0, 0, 0, 1), (.iadd, 0, 0, 0, 0), (.iastore, 85, 53, 0, 0)] [(0, vR 55), (2, vR 85)] [] (wup w16 85 (Int32.toNatClampNeg 52) ((w16 85 (Int32.toNatClampNeg 52)) + (1 : Int32))) 192 (by decide +kernel) rfl rfl ?_
      refine sim_bw (C := fun w17 => (192, [(0, vR 55), (2, vR 85)], [], w17)) (fun w17 => ?_)
      exact sim_retv hC (by decide +kernel)
theorem c_Night_pass_55_84 {Z : ZT} {l : Launch} (w : Wld) (w1 : Wld) (h : F_Night_pass_55_84 w = some w1) : Con Z l mX4_pass 4 69 [vR 55, vR 84] w (.inr none) w1 :=
  Con_of (oc := 4) (by decide +kernel) rfl rfl (fun Ok hC => s_Night_pass_55_84 hC w w1 h ⟨rfl, rfl⟩)
def V_House_voices_56_4 (w : Wld) : (Int32 × Int32) → Cfg := fun s => (4, [(0, vR 56), (1, vI s.1), (2, vI s.2)], [], w)
def E_House_voices_56_4 (w : Wld) : (Int32) → Cfg := fun s => (29, [(1, vI s)], [], w)
noncomputable def B_House_voices_56_4 (w : Wld) (s : Int32 × Int32) : Option ((Int32 × Int32) ⊕ (Int32)) :=
  br ((w 56 1) ≤ s.2) (some (.inr s.1)) (gd (vp_in s.2 8) (bi (s.1 ||| ((1 : Int32) <<< ((w 58 (Int32.toNatClampNeg s.2)) &&& 31))) (fun i1 => bi (s.2 + 1) (fun i2 => some (.inl ((i1, i2)))))))
set_option maxRecDepth 10000 in
theorem s_B_House_voices_56_4 {Z : ZT} {l : Launch} {o : Oc} {wo : Wld} {Ok : Cfg → Prop} (hC : Clo Z l 3 3 prog_5_method_4_code (some .int) 1 0 o wo Ok) (w : Wld) (s : Int32 × Int32) : SimK Ok (V_House_voices_56_4 w s) (B_House_voices_56_4 w s) (GLp Ok (V_House_voices_56_4 w) (GEp Ok (E_House_voices_56_4 w))) := by
  unfold B_House_voices_56_4
  show SimK Ok (4, [(0, vR 56), (1, vI s.1), (2, vI s.2)], [], w) _ _
  refine sim_blk0 hC [(.iload_n 2, 0, 0, 0, 0), (.aload_n 0, 0, 0, 0, 0), (.getfield 15, 56, 1, 0, 0)] [(0, vR 56), (1, vI s.1), (2, vI s.2)] [vI (w 56 1), vI s.2] w 9 (by decide +kernel) rfl rfl ?_
  refine sim_br hC (.if_icmp .ge 20) 29 (by decide +kernel) rfl (by decide) ?_ ?_
  · refine sim_sub hC [1] ?_
    exact sim_exit (E := (E_House_voices_56_4 w)) s.1
  · refine sim_blk1 hC [(.iload_n 1, 0, 0, 0, 0), (.iconst 1, 0, 0, 0, 1), (.aload_n 0, 0, 0, 0, 0), (.getfield 28, 56, 5, 60, 0), (.iload_n 2, 0, 0, 0, 0), (.iaload, 58, 8, 0, 0), (.ishl, 0, 0, 0, 0), (.ior, 0, 0, 0, 0), (.istore_n 1, 0, 0, 0, 0)] [(0, vR 56), (1, vI (s.1 ||| ((1 : Int32) <<< ((w 58 (Int32.toNatClampNeg s.2)) &&& 31)))), (2, vI s.2)] [] w 23 (by decide +kernel) rfl rfl ?_
    refine sim_bi (C := fun i1 => (23, [(0, vR 56), (1, vI i1), (2, vI s.2)], [], w)) (fun i1 => ?_)
    refine sim_blk0 hC [(.iinc 2 1, 0, 0, 0, 1)] [(0, vR 56), (1, vI i1), (2, vI (s.2 + 1))] [] w 26 (by decide +kernel) rfl rfl ?_
    refine sim_bi (C := fun i2 => (26, [(0, vR 56), (1, vI i1), (2, vI i2)], [], w)) (fun i2 => ?_)
    refine sim_goto hC (-22) 4 (by decide +kernel) (by decide) ?_
    exact sim_back (V := (V_House_voices_56_4 w)) ((i1, i2))
noncomputable def F_House_voices_56 (w : Wld) : Option (Int32) :=
  bl (loop (B_House_voices_56_4 w) ((0, 0))) (fun r3 => some r3)
set_option maxRecDepth 10000 in
theorem s_House_voices_56 {Z : ZT} {l : Launch} {o : Oc} {wo : Wld} {Ok : Cfg → Prop} (hC : Clo Z l 3 3 prog_5_method_4_code (some .int) 1 0 o wo Ok) (w : Wld) : SimK Ok (0, [(0, vR 56)], [], w) (F_House_voices_56 w) (Gp o wo w) := by
  unfold F_House_voices_56
  refine sim_blk0 hC [(.iconst 0, 0, 0, 0, 0), (.istore_n 1, 0, 0, 0, 0), (.iconst 0, 0, 0, 0, 0), (.istore_n 2, 0, 0, 0, 0)] [(0, vR 56), (1, vI 0), (2, vI 0)] [] w 4 (by decide +kernel) rfl rfl ?_
  refine sim_bl (E := (E_House_voices_56_4 w)) ?_ (fun r3 => ?_)
  · exact sim_loop (V := (V_House_voices_56_4 w)) (fun sz => s_B_House_voices_56_4 hC w sz) ((0, 0))
  · show SimK Ok (29, [(1, vI r3)], [], w) _ _
    refine sim_blk0 hC [(.iload_n 1, 0, 0, 0, 0)] [(1, vI r3)] [vI r3] w 30 (by decide +kernel) rfl rfl ?_
    exact sim_retp hC (by decide +kernel) trivial
theorem c_House_voices_56 {Z : ZT} {l : Launch} (w : Wld) (r : Int32) (h : F_House_voices_56 w = some r) : Con Z l mX3_voices 1 0 [vR 56] w (.inr (some r)) w :=
  Con_of (oc := 3) (by decide +kernel) rfl rfl (fun Ok hC => s_House_voices_56 hC w r h ⟨rfl, rfl⟩)
def V_Night_missing_55_4 (w : Wld) : (Int32 × Int32) → Cfg := fun s => (4, [(0, vR 55), (1, vI s.1), (2, vI s.2)], [], w)
def E_Night_missing_55_4 (w : Wld) : (Int32) → Cfg := fun s => (42, [(0, vR 55), (1, vI s)], [], w)
noncomputable def B_Night_missing_55_4 (w : Wld) (s : Int32 × Int32) : Option ((Int32 × Int32) ⊕ (Int32)) :=
  br ((w 56 1) ≤ s.2) (some (.inr s.1)) (gd (vp_in s.2 8) (bi (s.1 ||| ((((w 55 3) >>> (s.2 &&& 31)) &&& (1 : Int32)) <<< ((w 58 (Int32.toNatClampNeg s.2)) &&& 31))) (fun i1 => bi (s.2 + 1) (fun i2 => some (.inl ((i1, i2)))))))
set_option maxRecDepth 10000 in
theorem s_B_Night_missing_55_4 {Z : ZT} {l : Launch} {o : Oc} {wo : Wld} {Ok : Cfg → Prop} (hC : Clo Z l 4 3 prog_6_method_8_code (some .int) 2 22 o wo Ok) (w : Wld) (s : Int32 × Int32) : SimK Ok (V_Night_missing_55_4 w s) (B_Night_missing_55_4 w s) (GLp Ok (V_Night_missing_55_4 w) (GEp Ok (E_Night_missing_55_4 w))) := by
  unfold B_Night_missing_55_4
  show SimK Ok (4, [(0, vR 55), (1, vI s.1), (2, vI s.2)], [], w) _ _
  refine sim_blk0 hC [(.iload_n 2, 0, 0, 0, 0), (.aload_n 0, 0, 0, 0, 0), (.getfield 12, 55, 0, 58, 0), (.getfield 57, 56, 1, 0, 0)] [(0, vR 55), (1, vI s.1), (2, vI s.2)] [vI (w 56 1), vI s.2] w 12 (by decide +kernel) rfl rfl ?_
  refine sim_br hC (.if_icmp .ge 30) 42 (by decide +kernel) rfl (by decide) ?_ ?_
  · refine sim_sub hC [0, 1] ?_
    exact sim_exit (E := (E_Night_missing_55_4 w)) s.1
  · refine sim_blk1 hC [(.iload_n 1, 0, 0, 0, 0), (.aload_n 0, 0, 0, 0, 0), (.getfield 27, 55, 3, 0, 0), (.iload_n 2, 0, 0, 0, 0), (.ishr, 0, 0, 0, 0), (.iconst 1, 0, 0, 0, 1), (.iand, 0, 0, 0, 0), (.aload_n 0, 0, 0, 0, 0), (.getfield 12, 55, 0, 58, 0), (.getfield 51, 56, 5, 60, 0), (.iload_n 2, 0, 0, 0, 0), (.iaload, 58, 8, 0, 0), (.ishl, 0, 0, 0, 0), (.ior, 0, 0, 0, 0), (.istore_n 1, 0, 0, 0, 0)] [(0, vR 55), (1, vI (s.1 ||| ((((w 55 3) >>> (s.2 &&& 31)) &&& (1 : Int32)) <<< ((w 58 (Int32.toNatClampNeg s.2)) &&& 31)))), (2, vI s.2)] [] w 36 (by decide +kernel) rfl rfl ?_
    refine sim_bi (C := fun i1 => (36, [(0, vR 55), (1, vI i1), (2, vI s.2)], [], w)) (fun i1 => ?_)
    refine sim_blk0 hC [(.iinc 2 1, 0, 0, 0, 1)] [(0, vR 55), (1, vI i1), (2, vI (s.2 + 1))] [] w 39 (by decide +kernel) rfl rfl ?_
    refine sim_bi (C := fun i2 => (39, [(0, vR 55), (1, vI i1), (2, vI i2)], [], w)) (fun i2 => ?_)
    refine sim_goto hC (-35) 4 (by decide +kernel) (by decide) ?_
    exact sim_back (V := (V_Night_missing_55_4 w)) ((i1, i2))
noncomputable def F_Night_missing_55 (w : Wld) : Option (Int32) :=
  bl (loop (B_Night_missing_55_4 w) ((0, 0))) (fun r3 => bp (F_House_voices_56 w) (fun i4 => some (i4 &&& (r3 ^^^ (-1 : Int32)))))
set_option maxRecDepth 10000 in
theorem s_Night_missing_55 {Z : ZT} {l : Launch} {o : Oc} {wo : Wld} {Ok : Cfg → Prop} (hC : Clo Z l 4 3 prog_6_method_8_code (some .int) 2 22 o wo Ok) (w : Wld) : SimK Ok (0, [(0, vR 55)], [], w) (F_Night_missing_55 w) (Gp o wo w) := by
  unfold F_Night_missing_55
  refine sim_blk0 hC [(.iconst 0, 0, 0, 0, 0), (.istore_n 1, 0, 0, 0, 0), (.iconst 0, 0, 0, 0, 0), (.istore_n 2, 0, 0, 0, 0)] [(0, vR 55), (1, vI 0), (2, vI 0)] [] w 4 (by decide +kernel) rfl rfl ?_
  refine sim_bl (E := (E_Night_missing_55_4 w)) ?_ (fun r3 => ?_)
  · exact sim_loop (V := (V_Night_missing_55_4 w)) (fun sz => s_B_Night_missing_55_4 hC w sz) ((0, 0))
  · show SimK Ok (42, [(0, vR 55), (1, vI r3)], [], w) _ _
    refine sim_blk0 hC [(.aload_n 0, 0, 0, 0, 0), (.getfield 12, 55, 0, 58, 0)] [(0, vR 55), (1, vI r3)] [vR 56] w 46 (by decide +kernel) rfl rfl ?_
    refine sim_vp hC 95 mX3_voices 1 0 56 [] [] (by decide +kernel) ml_4_95 rfl rfl rfl rfl rfl rfl (fun rz hz => c_House_voices_56 w rz hz) (fun i4 => ?_)
    refine sim_blk0 hC [(.iload_n 1, 0, 0, 0, 0), (.iconst (-1), 0, 0, 0, (-1)), (.ixor, 0, 0, 0, 0), (.iand, 0, 0, 0, 0)] [(0, vR 55), (1, vI r3)] [vI (i4 &&& (r3 ^^^ (-1 : Int32)))] w 53 (by decide +kernel) rfl rfl ?_
    exact sim_retp hC (by decide +kernel) trivial
theorem c_Night_missing_55 {Z : ZT} {l : Launch} (w : Wld) (r : Int32) (h : F_Night_missing_55 w = some r) : Con Z l mX4_missing 2 22 [vR 55] w (.inr (some r)) w :=
  Con_of (oc := 4) (by decide +kernel) rfl rfl (fun Ok hC => s_Night_missing_55 hC w r h ⟨rfl, rfl⟩)
def V_C_full_6 : (Int32 × Wld) → Cfg := fun s => (6, [(0, vR 42), (1, vI s.1)], [], s.2)
def E_C_full_6 : (Wld) → Cfg := fun s => (41, [], [], s)
noncomputable def B_C_full_6 (s : Int32 × Wld) : Option ((Int32 × Wld) ⊕ ((Wld) ⊕ (Int32 × Wld))) :=
  br ((60 : Int32) < s.1) (some (.inr (.inl s.2))) (bv (F_Night_pass_55_84 s.2) (fun w2 => bp (F_Night_missing_55 w2) (fun i3 => br (¬ i3 = 0) (bi (s.1 + 1) (fun i4 => some (.inl ((i4, w2))))) (some (.inr (.inr ((s.1, w2))))))))
set_option maxRecDepth 10000 in
theorem s_B_C_full_6 {Z : ZT} {l : Launch} {o : Oc} {wo : Wld} {Ok : Cfg → Prop} (hC : Clo Z l 9 2 prog_1_method_21_code (some .int) 5 101 o wo Ok) (s : Int32 × Wld) : SimK Ok (V_C_full_6 s) (B_C_full_6 s) (GLp Ok (V_C_full_6) (GLp Ok (E_C_full_6) (Gi o wo))) := by
  unfold B_C_full_6
  show SimK Ok (6, [(0, vR 42), (1, vI s.1)], [], s.2) _ _
  refine sim_blk0 hC [(.iload_n 1, 0, 0, 0, 0), (.bipush 60, 0, 0, 0, 60)] [(0, vR 42), (1, vI s.1)] [vI 60, vI s.1] s.2 9 (by decide +kernel) rfl rfl ?_
  refine sim_br hC (.if_icmp .gt 32) 41 (by decide +kernel) rfl (by decide) ?_ ?_
  · refine sim_sub hC [] ?_
    exact sim_exitx (E := (E_C_full_6)) s.2
  · refine sim_blk0 hC [(.aload_n 0, 0, 0, 0, 0), (.getfield 30, 42, 4, 57, 0), (.aload_n 0, 0, 0, 0, 0), (.getfield 56, 42, 9, 86, 0)] [(0, vR 42), (1, vI s.1)] [vR 84, vR 55] s.2 20 (by decide +kernel) rfl rfl ?_
    refine sim_vv hC 185 mX4_pass 4 69 55 [vR 84] [] (by decide +kernel) ml_9_185 rfl rfl rfl rfl rfl rfl (fun wz hz => c_Night_pass_55_84 s.2 wz hz) (fun w2 => ?_)
    refine sim_blk0 hC [(.aload_n 0, 0, 0, 0, 0), (.getfield 30, 42, 4, 57, 0)] [(0, vR 42), (1, vI s.1)] [vR 55] w2 27 (by decide +kernel) rfl rfl ?_
    refine sim_vp hC 209 mX4_missing 2 22 55 [] [] (by decide +kernel) ml_9_209 rfl rfl rfl rfl rfl rfl (fun rz hz => c_Night_missing_55 w2 rz hz) (fun i3 => ?_)
    refine sim_br hC (.ifCond .ne 5) 35 (by decide +kernel) rfl (by decide) ?_ ?_
    · refine sim_blk0 hC [(.iinc 1 1, 0, 0, 0, 1)] [(0, vR 42), (1, vI (s.1 + 1))] [] w2 38 (by decide +kernel) rfl rfl ?_
      refine sim_bi (C := fun i4 => (38, [(0, vR 42), (1, vI i4)], [], w2)) (fun i4 => ?_)
      refine sim_goto hC (-32) 6 (by decide +kernel) (by decide) ?_
      exact sim_back (V := (V_C_full_6)) ((i4, w2))
    · refine sim_blk0 hC [(.iload_n 1, 0, 0, 0, 0)] [(0, vR 42), (1, vI s.1)] [vI s.1] w2 34 (by decide +kernel) rfl rfl ?_
      refine sim_outx ?_
      exact sim_reti hC (by decide +kernel) trivial
noncomputable def F_C_full (w : Wld) : Option (Int32 × Wld) :=
  bv (F_C_beginTrial w) (fun w1 => bx (loop (B_C_full_6) ((1, w1))) (fun r5 => some (((-1), r5))))
set_option maxRecDepth 10000 in
theorem s_C_full {Z : ZT} {l : Launch} {o : Oc} {wo : Wld} {Ok : Cfg → Prop} (hC : Clo Z l 9 2 prog_1_method_21_code (some .int) 5 101 o wo Ok) (w : Wld) : SimK Ok (0, [(0, vR 42)], [], w) (F_C_full w) (Gi o wo) := by
  unfold F_C_full
  refine sim_blk0 hC [(.aload_n 0, 0, 0, 0, 0)] [(0, vR 42)] [vR 42] w 1 (by decide +kernel) rfl rfl ?_
  refine sim_vv hC 212 mX10_beginTrial 2 81 42 [] [] (by decide +kernel) ml_9_212 rfl rfl rfl rfl rfl rfl (fun wz hz => c_C_beginTrial w wz hz) (fun w1 => ?_)
  refine sim_blk0 hC [(.iconst 1, 0, 0, 0, 1), (.istore_n 1, 0, 0, 0, 0)] [(0, vR 42), (1, vI 1)] [] w1 6 (by decide +kernel) rfl rfl ?_
  refine sim_bx (E := (E_C_full_6)) ?_ (fun r5 => ?_)
  · exact sim_loop (V := (V_C_full_6)) (fun sz => s_B_C_full_6 hC sz) ((1, w1))
  · show SimK Ok (41, [], [], r5) _ _
    refine sim_blk0 hC [(.iconst (-1), 0, 0, 0, (-1))] [] [vI (-1)] r5 42 (by decide +kernel) rfl rfl ?_
    exact sim_reti hC (by decide +kernel) trivial
theorem c_C_full {Z : ZT} {l : Launch} (w : Wld) (r : Int32) (w1 : Wld) (h : F_C_full w = some (r, w1)) : Con Z l mX10_full 5 101 [vR 42] w (.inr (some r)) w1 :=
  Con_of (oc := 9) (by decide +kernel) rfl rfl (fun Ok hC => s_C_full hC w (r, w1) h ⟨rfl, rfl⟩)
def V_C_silent_6 : (Int32 × Wld) → Cfg := fun s => (6, [(0, vR 42), (1, vI s.1)], [], s.2)
def E_C_silent_6 : (Wld) → Cfg := fun s => (41, [], [], s)
noncomputable def B_C_silent_6 (s : Int32 × Wld) : Option ((Int32 × Wld) ⊕ ((Wld) ⊕ (Int32 × Wld))) :=
  br ((60 : Int32) < s.1) (some (.inr (.inl s.2))) (bv (F_Night_pass_55_84 s.2) (fun w2 => br (¬ (w2 55 3) = 0) (bi (s.1 + 1) (fun i3 => some (.inl ((i3, w2))))) (some (.inr (.inr ((s.1, w2)))))))
set_option maxRecDepth 10000 in
theorem s_B_C_silent_6 {Z : ZT} {l : Launch} {o : Oc} {wo : Wld} {Ok : Cfg → Prop} (hC : Clo Z l 9 2 prog_1_method_31_code (some .int) 5 101 o wo Ok) (s : Int32 × Wld) : SimK Ok (V_C_silent_6 s) (B_C_silent_6 s) (GLp Ok (V_C_silent_6) (GLp Ok (E_C_silent_6) (Gi o wo))) := by
  unfold B_C_silent_6
  show SimK Ok (6, [(0, vR 42), (1, vI s.1)], [], s.2) _ _
  refine sim_blk0 hC [(.iload_n 1, 0, 0, 0, 0), (.bipush 60, 0, 0, 0, 60)] [(0, vR 42), (1, vI s.1)] [vI 60, vI s.1] s.2 9 (by decide +kernel) rfl rfl ?_
  refine sim_br hC (.if_icmp .gt 32) 41 (by decide +kernel) rfl (by decide) ?_ ?_
  · refine sim_sub hC [] ?_
    exact sim_exitx (E := (E_C_silent_6)) s.2
  · refine sim_blk0 hC [(.aload_n 0, 0, 0, 0, 0), (.getfield 30, 42, 4, 57, 0), (.aload_n 0, 0, 0, 0, 0), (.getfield 56, 42, 9, 86, 0)] [(0, vR 42), (1, vI s.1)] [vR 84, vR 55] s.2 20 (by decide +kernel) rfl rfl ?_
    refine sim_vv hC 185 mX4_pass 4 69 55 [vR 84] [] (by decide +kernel) ml_9_185 rfl rfl rfl rfl rfl rfl (fun wz hz => c_Night_pass_55_84 s.2 wz hz) (fun w2 => ?_)
    refine sim_blk0 hC [(.aload_n 0, 0, 0, 0, 0), (.getfield 30, 42, 4, 57, 0), (.getfield 203, 55, 3, 0, 0)] [(0, vR 42), (1, vI s.1)] [vI (w2 55 3)] w2 30 (by decide +kernel) rfl rfl ?_
    refine sim_br hC (.ifCond .ne 5) 35 (by decide +kernel) rfl (by decide) ?_ ?_
    · refine sim_blk0 hC [(.iinc 1 1, 0, 0, 0, 1)] [(0, vR 42), (1, vI (s.1 + 1))] [] w2 38 (by decide +kernel) rfl rfl ?_
      refine sim_bi (C := fun i3 => (38, [(0, vR 42), (1, vI i3)], [], w2)) (fun i3 => ?_)
      refine sim_goto hC (-32) 6 (by decide +kernel) (by decide) ?_
      exact sim_back (V := (V_C_silent_6)) ((i3, w2))
    · refine sim_blk0 hC [(.iload_n 1, 0, 0, 0, 0)] [(0, vR 42), (1, vI s.1)] [vI s.1] w2 34 (by decide +kernel) rfl rfl ?_
      refine sim_outx ?_
      exact sim_reti hC (by decide +kernel) trivial
noncomputable def F_C_silent (w : Wld) : Option (Int32 × Wld) :=
  bv (F_C_beginTrial w) (fun w1 => bx (loop (B_C_silent_6) ((1, w1))) (fun r4 => some (((-1), r4))))
set_option maxRecDepth 10000 in
theorem s_C_silent {Z : ZT} {l : Launch} {o : Oc} {wo : Wld} {Ok : Cfg → Prop} (hC : Clo Z l 9 2 prog_1_method_31_code (some .int) 5 101 o wo Ok) (w : Wld) : SimK Ok (0, [(0, vR 42)], [], w) (F_C_silent w) (Gi o wo) := by
  unfold F_C_silent
  refine sim_blk0 hC [(.aload_n 0, 0, 0, 0, 0)] [(0, vR 42)] [vR 42] w 1 (by decide +kernel) rfl rfl ?_
  refine sim_vv hC 212 mX10_beginTrial 2 81 42 [] [] (by decide +kernel) ml_9_212 rfl rfl rfl rfl rfl rfl (fun wz hz => c_C_beginTrial w wz hz) (fun w1 => ?_)
  refine sim_blk0 hC [(.iconst 1, 0, 0, 0, 1), (.istore_n 1, 0, 0, 0, 0)] [(0, vR 42), (1, vI 1)] [] w1 6 (by decide +kernel) rfl rfl ?_
  refine sim_bx (E := (E_C_silent_6)) ?_ (fun r4 => ?_)
  · exact sim_loop (V := (V_C_silent_6)) (fun sz => s_B_C_silent_6 hC sz) ((1, w1))
  · show SimK Ok (41, [], [], r4) _ _
    refine sim_blk0 hC [(.iconst (-1), 0, 0, 0, (-1))] [] [vI (-1)] r4 42 (by decide +kernel) rfl rfl ?_
    exact sim_reti hC (by decide +kernel) trivial
theorem c_C_silent {Z : ZT} {l : Launch} (w : Wld) (r : Int32) (w1 : Wld) (h : F_C_silent w = some (r, w1)) : Con Z l mX10_silent 5 101 [vR 42] w (.inr (some r)) w1 :=
  Con_of (oc := 9) (by decide +kernel) rfl rfl (fun Ok hC => s_C_silent hC w (r, w1) h ⟨rfl, rfl⟩)
def V_C_choir_6 (w : Wld) : (Int32 × Int32 × Int32) → Cfg := fun s => (6, [(0, vR 42), (1, vI s.1), (2, vI s.2.1), (3, vI s.2.2)], [], w)
def E_C_choir_6 (w : Wld) : (Int32) → Cfg := fun s => (54, [(2, vI s)], [], w)
noncomputable def K_C_choir_48 (a1 : Int32) (a2 : Int32) (a3 : Int32) (w : Wld) : Option ((Int32 × Int32 × Int32) ⊕ (Int32)) :=
  bi (a3 + 1) (fun i2 => some (.inl ((a1, a2, i2))))
set_option maxRecDepth 10000 in
theorem s_K_C_choir_48 {Z : ZT} {l : Launch} {o : Oc} {wo : Wld} {Ok : Cfg → Prop} (hC : Clo Z l 9 5 prog_1_method_44_code (some .int) 1 0 o wo Ok) (a1 : Int32) (a2 : Int32) (a3 : Int32) (w : Wld) : SimK Ok (48, [(0, vR 42), (1, vI a1), (2, vI a2), (3, vI a3)], [], w) (K_C_choir_48 a1 a2 a3 w) (GLp Ok (V_C_choir_6 w) (GEp Ok (E_C_choir_6 w))) := by
  unfold K_C_choir_48
  refine sim_blk0 hC [(.iinc 3 1, 0, 0, 0, 1)] [(0, vR 42), (1, vI a1), (2, vI a2), (3, vI (a3 + 1))] [] w 51 (by decide +kernel) rfl rfl ?_
  refine sim_bi (C := fun i2 => (51, [(0, vR 42), (1, vI a1), (2, vI a2), (3, vI i2)], [], w)) (fun i2 => ?_)
  refine sim_goto hC (-45) 6 (by decide +kernel) (by decide) ?_
  exact sim_back (V := (V_C_choir_6 w)) ((a1, a2, i2))
noncomputable def B_C_choir_6 (w : Wld) (s : Int32 × Int32 × Int32) : Option ((Int32 × Int32 × Int32) ⊕ (Int32)) :=
  br ((w 56 1) ≤ s.2.2) (some (.inr s.2.1)) (gd (vp_in s.2.2 8) (bi ((1 : Int32) <<< ((w 58 (Int32.toNatClampNeg s.2.2)) &&& 31)) (fun i1 => br (¬ (s.1 &&& i1) = 0) (K_C_choir_48 s.1 s.2.1 s.2.2 w) (bi (s.1 ||| i1) (fun i3 => bi (s.2.1 ||| ((1 : Int32) <<< (s.2.2 &&& 31))) (fun i4 => K_C_choir_48 i3 i4 s.2.2 w))))))
set_option maxRecDepth 10000 in
theorem s_B_C_choir_6 {Z : ZT} {l : Launch} {o : Oc} {wo : Wld} {Ok : Cfg → Prop} (hC : Clo Z l 9 5 prog_1_method_44_code (some .int) 1 0 o wo Ok) (w : Wld) (s : Int32 × Int32 × Int32) : SimK Ok (V_C_choir_6 w s) (B_C_choir_6 w s) (GLp Ok (V_C_choir_6 w) (GEp Ok (E_C_choir_6 w))) := by
  unfold B_C_choir_6
  show SimK Ok (6, [(0, vR 42), (1, vI s.1), (2, vI s.2.1), (3, vI s.2.2)], [], w) _ _
  refine sim_blk0 hC [(.iload_n 3, 0, 0, 0, 0), (.aload_n 0, 0, 0, 0, 0), (.getfield 38, 42, 5, 58, 0), (.getfield 128, 56, 1, 0, 0)] [(0, vR 42), (1, vI s.1), (2, vI s.2.1), (3, vI s.2.2)] [vI (w 56 1), vI s.2.2] w 14 (by decide +kernel) rfl rfl ?_
  refine sim_br hC (.if_icmp .ge 40) 54 (by decide +kernel) rfl (by decide) ?_ ?_
  · refine sim_sub hC [2] ?_
    exact sim_exit (E := (E_C_choir_6 w)) s.2.1
  · refine sim_blk1 hC [(.iconst 1, 0, 0, 0, 1), (.aload_n 0, 0, 0, 0, 0), (.getfield 38, 42, 5, 58, 0), (.getfield 171, 56, 5, 60, 0), (.iload_n 3, 0, 0, 0, 0), (.iaload, 58, 8, 0, 0), (.ishl, 0, 0, 0, 0), (.istore 4, 0, 0, 0, 0)] [(0, vR 42), (1, vI s.1), (2, vI s.2.1), (3, vI s.2.2), (4, vI ((1 : Int32) <<< ((w 58 (Int32.toNatClampNeg s.2.2)) &&& 31)))] [] w 30 (by decide +kernel) rfl rfl ?_
    refine sim_bi (C := fun i1 => (30, [(0, vR 42), (1, vI s.1), (2, vI s.2.1), (3, vI s.2.2), (4, vI i1)], [], w)) (fun i1 => ?_)
    refine sim_blk0 hC [(.iload_n 1, 0, 0, 0, 0), (.iload 4, 0, 0, 0, 0), (.iand, 0, 0, 0, 0)] [(0, vR 42), (1, vI s.1), (2, vI s.2.1), (3, vI s.2.2), (4, vI i1)] [vI (s.1 &&& i1)] w 34 (by decide +kernel) rfl rfl ?_
    refine sim_br hC (.ifCond .ne 14) 48 (by decide +kernel) rfl (by decide) ?_ ?_
    · refine sim_sub hC [0, 1, 2, 3] ?_
      exact s_K_C_choir_48 hC s.1 s.2.1 s.2.2 w
    · refine sim_blk0 hC [(.iload_n 1, 0, 0, 0, 0), (.iload 4, 0, 0, 0, 0), (.ior, 0, 0, 0, 0), (.istore_n 1, 0, 0, 0, 0)] [(0, vR 42), (1, vI (s.1 ||| i1)), (2, vI s.2.1), (3, vI s.2.2), (4, vI i1)] [] w 42 (by decide +kernel) rfl rfl ?_
      refine sim_bi (C := fun i3 => (42, [(0, vR 42), (1, vI i3), (2, vI s.2.1), (3, vI s.2.2), (4, vI i1)], [], w)) (fun i3 => ?_)
      refine sim_blk0 hC [(.iload_n 2, 0, 0, 0, 0), (.iconst 1, 0, 0, 0, 1), (.iload_n 3, 0, 0, 0, 0), (.ishl, 0, 0, 0, 0), (.ior, 0, 0, 0, 0), (.istore_n 2, 0, 0, 0, 0)] [(0, vR 42), (1, vI i3), (2, vI (s.2.1 ||| ((1 : Int32) <<< (s.2.2 &&& 31)))), (3, vI s.2.2), (4, vI i1)] [] w 48 (by decide +kernel) rfl rfl ?_
      refine sim_bi (C := fun i4 => (48, [(0, vR 42), (1, vI i3), (2, vI i4), (3, vI s.2.2), (4, vI i1)], [], w)) (fun i4 => ?_)
      refine sim_sub hC [0, 1, 2, 3] ?_
      exact s_K_C_choir_48 hC i3 i4 s.2.2 w
noncomputable def F_C_choir (w : Wld) : Option (Int32) :=
  bl (loop (B_C_choir_6 w) ((0, 0, 0))) (fun r5 => some r5)
set_option maxRecDepth 10000 in
theorem s_C_choir {Z : ZT} {l : Launch} {o : Oc} {wo : Wld} {Ok : Cfg → Prop} (hC : Clo Z l 9 5 prog_1_method_44_code (some .int) 1 0 o wo Ok) (w : Wld) : SimK Ok (0, [(0, vR 42)], [], w) (F_C_choir w) (Gp o wo w) := by
  unfold F_C_choir
  refine sim_blk0 hC [(.iconst 0, 0, 0, 0, 0), (.istore_n 1, 0, 0, 0, 0), (.iconst 0, 0, 0, 0, 0), (.istore_n 2, 0, 0, 0, 0), (.iconst 0, 0, 0, 0, 0), (.istore_n 3, 0, 0, 0, 0)] [(0, vR 42), (1, vI 0), (2, vI 0), (3, vI 0)] [] w 6 (by decide +kernel) rfl rfl ?_
  refine sim_bl (E := (E_C_choir_6 w)) ?_ (fun r5 => ?_)
  · exact sim_loop (V := (V_C_choir_6 w)) (fun sz => s_B_C_choir_6 hC w sz) ((0, 0, 0))
  · show SimK Ok (54, [(2, vI r5)], [], w) _ _
    refine sim_blk0 hC [(.iload_n 2, 0, 0, 0, 0)] [(2, vI r5)] [vI r5] w 55 (by decide +kernel) rfl rfl ?_
    exact sim_retp hC (by decide +kernel) trivial
theorem c_C_choir {Z : ZT} {l : Launch} (w : Wld) (r : Int32) (h : F_C_choir w = some r) : Con Z l mX10_choir 1 0 [vR 42] w (.inr (some r)) w :=
  Con_of (oc := 9) (by decide +kernel) rfl rfl (fun Ok hC => s_C_choir hC w r h ⟨rfl, rfl⟩)
noncomputable def K_JI_numberOfTrailingZeros_74 (a0 : Int32) (a1 : Int32) (w : Wld) : Option (Int32) :=
  some (a1 + ((a0.toUInt32 >>> (Int32.toUInt32 1 &&& Int32.toUInt32 31)).toInt32))
set_option maxRecDepth 10000 in
theorem s_K_JI_numberOfTrailingZeros_74 {Z : ZT} {l : Launch} {o : Oc} {wo : Wld} {Ok : Cfg → Prop} (hC : Clo Z l 11 2 prog_20_method_48_code (some .int) 1 0 o wo Ok) (a0 : Int32) (a1 : Int32) (w : Wld) : SimK Ok (74, [(0, vI a0), (1, vI a1)], [], w) (K_JI_numberOfTrailingZeros_74 a0 a1 w) (Gp o wo w) := by
  unfold K_JI_numberOfTrailingZeros_74
  refine sim_blk0 hC [(.iload_n 1, 0, 0, 0, 0), (.iload_n 0, 0, 0, 0, 0), (.iconst 1, 0, 0, 0, 1), (.iushr, 0, 0, 0, 0), (.iadd, 0, 0, 0, 0)] [(0, vI a0), (1, vI a1)] [vI (a1 + ((a0.toUInt32 >>> (Int32.toUInt32 1 &&& Int32.toUInt32 31)).toInt32))] w 79 (by decide +kernel) rfl rfl ?_
  exact sim_retp hC (by decide +kernel) trivial
noncomputable def K_JI_numberOfTrailingZeros_62 (a0 : Int32) (a1 : Int32) (w : Wld) : Option (Int32) :=
  br (a0 ≤ 4) (K_JI_numberOfTrailingZeros_74 a0 a1 w) (bi (a1 + 2) (fun i2 => bi ((a0.toUInt32 >>> (Int32.toUInt32 2 &&& Int32.toUInt32 31)).toInt32) (fun i3 => K_JI_numberOfTrailingZeros_74 i3 i2 w)))
set_option maxRecDepth 10000 in
theorem s_K_JI_numberOfTrailingZeros_62 {Z : ZT} {l : Launch} {o : Oc} {wo : Wld} {Ok : Cfg → Prop} (hC : Clo Z l 11 2 prog_20_method_48_code (some .int) 1 0 o wo Ok) (a0 : Int32) (a1 : Int32) (w : Wld) : SimK Ok (62, [(0, vI a0), (1, vI a1)], [], w) (K_JI_numberOfTrailingZeros_62 a0 a1 w) (Gp o wo w) := by
  unfold K_JI_numberOfTrailingZeros_62
  refine sim_blk0 hC [(.iload_n 0, 0, 0, 0, 0), (.iconst 4, 0, 0, 0, 4)] [(0, vI a0), (1, vI a1)] [vI 4, vI a0] w 64 (by decide +kernel) rfl rfl ?_
  refine sim_br hC (.if_icmp .le 10) 74 (by decide +kernel) rfl (by decide) ?_ ?_
  · exact s_K_JI_numberOfTrailingZeros_74 hC a0 a1 w
  · refine sim_blk0 hC [(.iinc 1 2, 0, 0, 0, 2)] [(0, vI a0), (1, vI (a1 + 2))] [] w 70 (by decide +kernel) rfl rfl ?_
    refine sim_bi (C := fun i2 => (70, [(0, vI a0), (1, vI i2)], [], w)) (fun i2 => ?_)
    refine sim_blk0 hC [(.iload_n 0, 0, 0, 0, 0), (.iconst 2, 0, 0, 0, 2), (.iushr, 0, 0, 0, 0), (.istore_n 0, 0, 0, 0, 0)] [(0, vI ((a0.toUInt32 >>> (Int32.toUInt32 2 &&& Int32.toUInt32 31)).toInt32)), (1, vI i2)] [] w 74 (by decide +kernel) rfl rfl ?_
    refine sim_bi (C := fun i3 => (74, [(0, vI i3), (1, vI i2)], [], w)) (fun i3 => ?_)
    exact s_K_JI_numberOfTrailingZeros_74 hC i3 i2 w
noncomputable def K_JI_numberOfTrailingZeros_49 (a0 : Int32) (a1 : Int32) (w : Wld) : Option (Int32) :=
  br (a0 ≤ 16) (K_JI_numberOfTrailingZeros_62 a0 a1 w) (bi (a1 + 4) (fun i4 => bi ((a0.toUInt32 >>> (Int32.toUInt32 4 &&& Int32.toUInt32 31)).toInt32) (fun i5 => K_JI_numberOfTrailingZeros_62 i5 i4 w)))
set_option maxRecDepth 10000 in
theorem s_K_JI_numberOfTrailingZeros_49 {Z : ZT} {l : Launch} {o : Oc} {wo : Wld} {Ok : Cfg → Prop} (hC : Clo Z l 11 2 prog_20_method_48_code (some .int) 1 0 o wo Ok) (a0 : Int32) (a1 : Int32) (w : Wld) : SimK Ok (49, [(0, vI a0), (1, vI a1)], [], w) (K_JI_numberOfTrailingZeros_49 a0 a1 w) (Gp o wo w) := by
  unfold K_JI_numberOfTrailingZeros_49
  refine sim_blk0 hC [(.iload_n 0, 0, 0, 0, 0), (.bipush 16, 0, 0, 0, 16)] [(0, vI a0), (1, vI a1)] [vI 16, vI a0] w 52 (by decide +kernel) rfl rfl ?_
  refine sim_br hC (.if_icmp .le 10) 62 (by decide +kernel) rfl (by decide) ?_ ?_
  · exact s_K_JI_numberOfTrailingZeros_62 hC a0 a1 w
  · refine sim_blk0 hC [(.iinc 1 4, 0, 0, 0, 4)] [(0, vI a0), (1, vI (a1 + 4))] [] w 58 (by decide +kernel) rfl rfl ?_
    refine sim_bi (C := fun i4 => (58, [(0, vI a0), (1, vI i4)], [], w)) (fun i4 => ?_)
    refine sim_blk0 hC [(.iload_n 0, 0, 0, 0, 0), (.iconst 4, 0, 0, 0, 4), (.iushr, 0, 0, 0, 0), (.istore_n 0, 0, 0, 0, 0)] [(0, vI ((a0.toUInt32 >>> (Int32.toUInt32 4 &&& Int32.toUInt32 31)).toInt32)), (1, vI i4)] [] w 62 (by decide +kernel) rfl rfl ?_
    refine sim_bi (C := fun i5 => (62, [(0, vI i5), (1, vI i4)], [], w)) (fun i5 => ?_)
    exact s_K_JI_numberOfTrailingZeros_62 hC i5 i4 w
noncomputable def K_JI_numberOfTrailingZeros_34 (a0 : Int32) (a1 : Int32) (w : Wld) : Option (Int32) :=
  br (a0 ≤ 256) (K_JI_numberOfTrailingZeros_49 a0 a1 w) (bi (a1 + 8) (fun i6 => bi ((a0.toUInt32 >>> (Int32.toUInt32 8 &&& Int32.toUInt32 31)).toInt32) (fun i7 => K_JI_numberOfTrailingZeros_49 i7 i6 w)))
set_option maxRecDepth 10000 in
theorem s_K_JI_numberOfTrailingZeros_34 {Z : ZT} {l : Launch} {o : Oc} {wo : Wld} {Ok : Cfg → Prop} (hC : Clo Z l 11 2 prog_20_method_48_code (some .int) 1 0 o wo Ok) (a0 : Int32) (a1 : Int32) (w : Wld) : SimK Ok (34, [(0, vI a0), (1, vI a1)], [], w) (K_JI_numberOfTrailingZeros_34 a0 a1 w) (Gp o wo w) := by
  unfold K_JI_numberOfTrailingZeros_34
  refine sim_blk0 hC [(.iload_n 0, 0, 0, 0, 0), (.sipush 256, 0, 0, 0, 256)] [(0, vI a0), (1, vI a1)] [vI 256, vI a0] w 38 (by decide +kernel) rfl rfl ?_
  refine sim_br hC (.if_icmp .le 11) 49 (by decide +kernel) rfl (by decide) ?_ ?_
  · exact s_K_JI_numberOfTrailingZeros_49 hC a0 a1 w
  · refine sim_blk0 hC [(.iinc 1 8, 0, 0, 0, 8)] [(0, vI a0), (1, vI (a1 + 8))] [] w 44 (by decide +kernel) rfl rfl ?_
    refine sim_bi (C := fun i6 => (44, [(0, vI a0), (1, vI i6)], [], w)) (fun i6 => ?_)
    refine sim_blk0 hC [(.iload_n 0, 0, 0, 0, 0), (.bipush 8, 0, 0, 0, 8), (.iushr, 0, 0, 0, 0), (.istore_n 0, 0, 0, 0, 0)] [(0, vI ((a0.toUInt32 >>> (Int32.toUInt32 8 &&& Int32.toUInt32 31)).toInt32)), (1, vI i6)] [] w 49 (by decide +kernel) rfl rfl ?_
    refine sim_bi (C := fun i7 => (49, [(0, vI i7), (1, vI i6)], [], w)) (fun i7 => ?_)
    exact s_K_JI_numberOfTrailingZeros_49 hC i7 i6 w
noncomputable def F_JI_numberOfTrailingZeros (w : Wld) (a0 : Int32) : Option (Int32) :=
  bi ((a0 ^^^ (-1 : Int32)) &&& (a0 - (1 : Int32))) (fun i1 => br (0 < i1) (br (i1 ≤ 65536) (K_JI_numberOfTrailingZeros_34 i1 1 w) (bi ((1 : Int32) + 16) (fun i8 => bi ((i1.toUInt32 >>> (Int32.toUInt32 16 &&& Int32.toUInt32 31)).toInt32) (fun i9 => K_JI_numberOfTrailingZeros_34 i9 i8 w)))) (some (i1 &&& (32 : Int32))))
set_option maxRecDepth 10000 in
theorem s_JI_numberOfTrailingZeros {Z : ZT} {l : Launch} {o : Oc} {wo : Wld} {Ok : Cfg → Prop} (hC : Clo Z l 11 2 prog_20_method_48_code (some .int) 1 0 o wo Ok) (w : Wld) (a0 : Int32) : SimK Ok (0, [(0, vI a0)], [], w) (F_JI_numberOfTrailingZeros w a0) (Gp o wo w) := by
  unfold F_JI_numberOfTrailingZeros
  refine sim_blk0 hC [(.iload_n 0, 0, 0, 0, 0), (.iconst (-1), 0, 0, 0, (-1)), (.ixor, 0, 0, 0, 0), (.iload_n 0, 0, 0, 0, 0), (.iconst 1, 0, 0, 0, 1), (.isub, 0, 0, 0, 0), (.iand, 0, 0, 0, 0), (.istore_n 0, 0, 0, 0, 0)] [(0, vI ((a0 ^^^ (-1 : Int32)) &&& (a0 - (1 : Int32))))] [] w 8 (by decide +kernel) rfl rfl ?_
  refine sim_bi (C := fun i1 => (8, [(0, vI i1)], [], w)) (fun i1 => ?_)
  refine sim_blk0 hC [(.iload_n 0, 0, 0, 0, 0)] [(0, vI i1)] [vI i1] w 9 (by decide +kernel) rfl rfl ?_
  refine sim_br hC (.ifCond .gt 8) 17 (by decide +kernel) rfl (by decide) ?_ ?_
  · refine sim_blk0 hC [(.iconst 1, 0, 0, 0, 1), (.istore_n 1, 0, 0, 0, 0), (.iload_n 0, 0, 0, 0, 0), (.ldc_w 264, 0, 0, 0, 65536)] [(0, vI i1), (1, vI 1)] [vI 65536, vI i1] w 23 (by decide +kernel) rfl rfl ?_
    refine sim_br hC (.if_icmp .le 11) 34 (by decide +kernel) rfl (by decide) ?_ ?_
    · exact s_K_JI_numberOfTrailingZeros_34 hC i1 1 w
    · refine sim_blk0 hC [(.iinc 1 16, 0, 0, 0, 16)] [(0, vI i1), (1, vI ((1 : Int32) + 16))] [] w 29 (by decide +kernel) rfl rfl ?_
      refine sim_bi (C := fun i8 => (29, [(0, vI i1), (1, vI i8)], [], w)) (fun i8 => ?_)
      refine sim_blk0 hC [(.iload_n 0, 0, 0, 0, 0), (.bipush 16, 0, 0, 0, 16), (.iushr, 0, 0, 0, 0), (.istore_n 0, 0, 0, 0, 0)] [(0, vI ((i1.toUInt32 >>> (Int32.toUInt32 16 &&& Int32.toUInt32 31)).toInt32)), (1, vI i8)] [] w 34 (by decide +kernel) rfl rfl ?_
      refine sim_bi (C := fun i9 => (34, [(0, vI i9), (1, vI i8)], [], w)) (fun i9 => ?_)
      exact s_K_JI_numberOfTrailingZeros_34 hC i9 i8 w
  · refine sim_blk0 hC [(.iload_n 0, 0, 0, 0, 0), (.bipush 32, 0, 0, 0, 32), (.iand, 0, 0, 0, 0)] [(0, vI i1)] [vI (i1 &&& (32 : Int32))] w 16 (by decide +kernel) rfl rfl ?_
    exact sim_retp hC (by decide +kernel) trivial
theorem c_JI_numberOfTrailingZeros {Z : ZT} {l : Launch} (w : Wld) (a0 : Int32) (r : Int32) (h : F_JI_numberOfTrailingZeros w a0 = some r) : Con Z l mJ6_numberOfTrailingZeros_0f7a4 1 0 [vI a0] w (.inr (some r)) w :=
  Con_of (oc := 11) (by decide +kernel) rfl rfl (fun Ok hC => s_JI_numberOfTrailingZeros hC w a0 r h ⟨rfl, rfl⟩)
def V_C_mostPairs_43 (a3 : Int32) (a5 : Int32) (w : Wld) : (Int32 × Int32) → Cfg := fun s => (43, [(0, vR 42), (3, vI a3), (4, vI s.1), (5, vI a5), (6, vI s.2)], [], w)
def E_C_mostPairs_43 (a3 : Int32) (a5 : Int32) (w : Wld) : (Int32) → Cfg := fun s => (94, [(4, vI s)], [], w)
noncomputable def K_C_mostPairs_88 (a3 : Int32) (a4 : Int32) (a5 : Int32) (a6 : Int32) (w : Wld) : Option ((Int32 × Int32) ⊕ (Int32)) :=
  bi (a6 + 1) (fun i5 => some (.inl ((a4, i5))))
set_option maxRecDepth 10000 in
theorem s_K_C_mostPairs_88 {Z : ZT} {l : Launch} {o : Oc} {wo : Wld} {Ok : Cfg → Prop} (hC : Clo Z l 9 7 prog_1_method_46_code (some .int) 2 21 o wo Ok) (a3 : Int32) (a4 : Int32) (a5 : Int32) (a6 : Int32) (w : Wld) : SimK Ok (88, [(0, vR 42), (3, vI a3), (4, vI a4), (5, vI a5), (6, vI a6)], [], w) (K_C_mostPairs_88 a3 a4 a5 a6 w) (GLp Ok (V_C_mostPairs_43 a3 a5 w) (GEp Ok (E_C_mostPairs_43 a3 a5 w))) := by
  unfold K_C_mostPairs_88
  refine sim_blk0 hC [(.iinc 6 1, 0, 0, 0, 1)] [(0, vR 42), (3, vI a3), (4, vI a4), (5, vI a5), (6, vI (a6 + 1))] [] w 91 (by decide +kernel) rfl rfl ?_
  refine sim_bi (C := fun i5 => (91, [(0, vR 42), (3, vI a3), (4, vI a4), (5, vI a5), (6, vI i5)], [], w)) (fun i5 => ?_)
  refine sim_goto hC (-48) 43 (by decide +kernel) (by decide) ?_
  exact sim_back (V := (V_C_mostPairs_43 a3 a5 w)) ((a4, i5))
noncomputable def B_C_mostPairs_43 (a3 : Int32) (a5 : Int32) (w : Wld) (s : Int32 × Int32) : Option ((Int32 × Int32) ⊕ (Int32)) :=
  br ((w 56 1) ≤ s.2) (some (.inr s.1)) (br (¬ ((a5 >>> (s.2 &&& 31)) &&& (1 : Int32)) = 1) (K_C_mostPairs_88 a3 s.1 a5 s.2 w) (gd (vp_in (a3 &&& (((1 : Int32) <<< (s.2 &&& 31)) ^^^ (-1 : Int32))) 256) (bi (imax s.1 ((1 : Int32) + (w 87 (Int32.toNatClampNeg (a3 &&& (((1 : Int32) <<< (s.2 &&& 31)) ^^^ (-1 : Int32))))))) (fun i6 => K_C_mostPairs_88 a3 i6 a5 s.2 w))))
set_option maxRecDepth 10000 in
theorem s_B_C_mostPairs_43 {Z : ZT} {l : Launch} {o : Oc} {wo : Wld} {Ok : Cfg → Prop} (hC : Clo Z l 9 7 prog_1_method_46_code (some .int) 2 21 o wo Ok) (a3 : Int32) (a5 : Int32) (w : Wld) (s : Int32 × Int32) : SimK Ok (V_C_mostPairs_43 a3 a5 w s) (B_C_mostPairs_43 a3 a5 w s) (GLp Ok (V_C_mostPairs_43 a3 a5 w) (GEp Ok (E_C_mostPairs_43 a3 a5 w))) := by
  unfold B_C_mostPairs_43
  show SimK Ok (43, [(0, vR 42), (3, vI a3), (4, vI s.1), (5, vI a5), (6, vI s.2)], [], w) _ _
  refine sim_blk0 hC [(.iload 6, 0, 0, 0, 0), (.aload_n 0, 0, 0, 0, 0), (.getfield 38, 42, 5, 58, 0), (.getfield 128, 56, 1, 0, 0)] [(0, vR 42), (3, vI a3), (4, vI s.1), (5, vI a5), (6, vI s.2)] [vI (w 56 1), vI s.2] w 52 (by decide +kernel) rfl rfl ?_
  refine sim_br hC (.if_icmp .ge 42) 94 (by decide +kernel) rfl (by decide) ?_ ?_
  · refine sim_sub hC [2] ?_
    exact sim_exit (E := (E_C_mostPairs_43 a3 a5 w)) s.1
  · refine sim_blk0 hC [(.iload 5, 0, 0, 0, 0), (.iload 6, 0, 0, 0, 0), (.ishr, 0, 0, 0, 0), (.iconst 1, 0, 0, 0, 1), (.iand, 0, 0, 0, 0), (.iconst 1, 0, 0, 0, 1)] [(0, vR 42), (3, vI a3), (4, vI s.1), (5, vI a5), (6, vI s.2)] [vI 1, vI ((a5 >>> (s.2 &&& 31)) &&& (1 : Int32))] w 63 (by decide +kernel) rfl rfl ?_
    refine sim_br hC (.if_icmp .ne 25) 88 (by decide +kernel) rfl (by decide) ?_ ?_
    · exact s_K_C_mostPairs_88 hC a3 s.1 a5 s.2 w
    · refine sim_blk1 hC [(.iload 4, 0, 0, 0, 0), (.iconst 1, 0, 0, 0, 1), (.aload_n 0, 0, 0, 0, 0), (.getfield 64, 42, 11, 89, 0), (.iload_n 3, 0, 0, 0, 0), (.iconst 1, 0, 0, 0, 1), (.iload 6, 0, 0, 0, 0), (.ishl, 0, 0, 0, 0), (.iconst (-1), 0, 0, 0, (-1)), (.ixor, 0, 0, 0, 0), (.iand, 0, 0, 0, 0), (.iaload, 87, 256, 0, 0), (.iadd, 0, 0, 0, 0)] [(0, vR 42), (3, vI a3), (4, vI s.1), (5, vI a5), (6, vI s.2)] [vI ((1 : Int32) + (w 87 (Int32.toNatClampNeg (a3 &&& (((1 : Int32) <<< (s.2 &&& 31)) ^^^ (-1 : Int32)))))), vI s.1] w 83 (by decide +kernel) rfl rfl ?_
      refine sim_max hC 264 (by decide +kernel) ml_9_264 rfl rfl rfl ?_
      refine sim_blk0 hC [(.istore 4, 0, 0, 0, 0)] [(0, vR 42), (3, vI a3), (4, vI (imax s.1 ((1 : Int32) + (w 87 (Int32.toNatClampNeg (a3 &&& (((1 : Int32) <<< (s.2 &&& 31)) ^^^ (-1 : Int32)))))))), (5, vI a5), (6, vI s.2)] [] w 88 (by decide +kernel) rfl rfl ?_
      refine sim_bi (C := fun i6 => (88, [(0, vR 42), (3, vI a3), (4, vI i6), (5, vI a5), (6, vI s.2)], [], w)) (fun i6 => ?_)
      exact s_K_C_mostPairs_88 hC a3 i6 a5 s.2 w
noncomputable def F_C_mostPairs (w : Wld) (a1 : Int32) : Option (Int32) :=
  bp (F_JI_numberOfTrailingZeros w a1) (fun i1 => bi (a1 &&& (((1 : Int32) <<< (i1 &&& 31)) ^^^ (-1 : Int32))) (fun i2 => gd (vp_in i2 256) (bi (w 87 (Int32.toNatClampNeg i2)) (fun i3 => gd (vp_in ((24 : Int32) + i1) 53) (bi (i2 &&& (w 66 (Int32.toNatClampNeg ((24 : Int32) + i1)))) (fun i4 => bl (loop (B_C_mostPairs_43 i2 i4 w) ((i3, 0))) (fun r7 => some r7)))))))
set_option maxRecDepth 10000 in
theorem s_C_mostPairs {Z : ZT} {l : Launch} {o : Oc} {wo : Wld} {Ok : Cfg → Prop} (hC : Clo Z l 9 7 prog_1_method_46_code (some .int) 2 21 o wo Ok) (w : Wld) (a1 : Int32) : SimK Ok (0, [(0, vR 42), (1, vI a1)], [], w) (F_C_mostPairs w a1) (Gp o wo w) := by
  unfold F_C_mostPairs
  refine sim_blk0 hC [(.iload_n 1, 0, 0, 0, 0)] [(0, vR 42), (1, vI a1)] [vI a1] w 1 (by decide +kernel) rfl rfl ?_
  refine sim_sp hC 249 mJ6_numberOfTrailingZeros_0f7a4 1 0 [vI a1] [] (by decide +kernel) ml_9_249 rfl rfl rfl rfl rfl (fun rz hz => c_JI_numberOfTrailingZeros w a1 rz hz) (fun i1 => ?_)
  refine sim_blk0 hC [(.istore_n 2, 0, 0, 0, 0), (.iload_n 1, 0, 0, 0, 0), (.iconst 1, 0, 0, 0, 1), (.iload_n 2, 0, 0, 0, 0), (.ishl, 0, 0, 0, 0), (.iconst (-1), 0, 0, 0, (-1)), (.ixor, 0, 0, 0, 0), (.iand, 0, 0, 0, 0), (.istore_n 3, 0, 0, 0, 0)] [(0, vR 42), (1, vI a1), (2, vI i1), (3, vI (a1 &&& (((1 : Int32) <<< (i1 &&& 31)) ^^^ (-1 : Int32))))] [] w 13 (by decide +kernel) rfl rfl ?_
  refine sim_bi (C := fun i2 => (13, [(0, vR 42), (1, vI a1), (2, vI i1), (3, vI i2)], [], w)) (fun i2 => ?_)
  refine sim_blk1 hC [(.aload_n 0, 0, 0, 0, 0), (.getfield 64, 42, 11, 89, 0), (.iload_n 3, 0, 0, 0, 0), (.iaload, 87, 256, 0, 0), (.istore 4, 0, 0, 0, 0)] [(0, vR 42), (1, vI a1), (2, vI i1), (3, vI i2), (4, vI (w 87 (Int32.toNatClampNeg i2)))] [] w 21 (by decide +kernel) rfl rfl ?_
  refine sim_bi (C := fun i3 => (21, [(0, vR 42), (1, vI a1), (2, vI i1), (3, vI i2), (4, vI i3)], [], w)) (fun i3 => ?_)
  refine sim_blk1 hC [(.iload_n 3, 0, 0, 0, 0), (.aload_n 0, 0, 0, 0, 0), (.getfield 42, 42, 6, 66, 0), (.getfield 100, 64, 0, 67, 0), (.getfield 137, 65, 0, 68, 0), (.bipush 24, 0, 0, 0, 24), (.iload_n 2, 0, 0, 0, 0), (.iadd, 0, 0, 0, 0), (.iaload, 66, 53, 0, 0), (.iand, 0, 0, 0, 0), (.istore 5, 0, 0, 0, 0)] [(0, vR 42), (1, vI a1), (2, vI i1), (3, vI i2), (4, vI i3), (5, vI (i2 &&& (w 66 (Int32.toNatClampNeg ((24 : Int32) + i1)))))] [] w 40 (by decide +kernel) rfl rfl ?_
  refine sim_bi (C := fun i4 => (40, [(0, vR 42), (1, vI a1), (2, vI i1), (3, vI i2), (4, vI i3), (5, vI i4)], [], w)) (fun i4 => ?_)
  refine sim_blk0 hC [(.iconst 0, 0, 0, 0, 0), (.istore 6, 0, 0, 0, 0)] [(0, vR 42), (1, vI a1), (2, vI i1), (3, vI i2), (4, vI i3), (5, vI i4), (6, vI 0)] [] w 43 (by decide +kernel) rfl rfl ?_
  refine sim_bl (E := (E_C_mostPairs_43 i2 i4 w)) ?_ (fun r7 => ?_)
  · refine sim_sub hC [0, 3, 4, 5, 6] ?_
    exact sim_loop (V := (V_C_mostPairs_43 i2 i4 w)) (fun sz => s_B_C_mostPairs_43 hC i2 i4 w sz) ((i3, 0))
  · show SimK Ok (94, [(4, vI r7)], [], w) _ _
    refine sim_blk0 hC [(.iload 4, 0, 0, 0, 0)] [(4, vI r7)] [vI r7] w 96 (by decide +kernel) rfl rfl ?_
    exact sim_retp hC (by decide +kernel) trivial
theorem c_C_mostPairs {Z : ZT} {l : Launch} (w : Wld) (a1 : Int32) (r : Int32) (h : F_C_mostPairs w a1 = some r) : Con Z l mX10_mostPairs 2 21 [vR 42, vI a1] w (.inr (some r)) w :=
  Con_of (oc := 9) (by decide +kernel) rfl rfl (fun Ok hC => s_C_mostPairs hC w a1 r h ⟨rfl, rfl⟩)
def V_C_couples_21 (a1 : Int32) : (Int32 × Wld) → Cfg := fun s => (21, [(0, vR 42), (1, vI a1), (2, vI s.1)], [], s.2)
def E_C_couples_21 (a1 : Int32) : (Wld) → Cfg := fun s => (43, [(0, vR 42), (1, vI a1)], [], s)
noncomputable def B_C_couples_21 (a1 : Int32) (s : Int32 × Wld) : Option ((Int32 × Wld) ⊕ (Wld)) :=
  br (a1 < s.1) (some (.inr s.2)) (bp (F_C_mostPairs s.2 s.1) (fun i3 => gd (vp_in s.1 256) (bw (wup s.2 87 (Int32.toNatClampNeg s.1) i3) (fun w4 => bi (s.1 + 1) (fun i5 => some (.inl ((i5, w4))))))))
set_option maxRecDepth 10000 in
theorem s_B_C_couples_21 {Z : ZT} {l : Launch} {o : Oc} {wo : Wld} {Ok : Cfg → Prop} (hC : Clo Z l 9 3 prog_1_method_45_code (some .int) 3 47 o wo Ok) (a1 : Int32) (s : Int32 × Wld) : SimK Ok (V_C_couples_21 a1 s) (B_C_couples_21 a1 s) (GLp Ok (V_C_couples_21 a1) (GEp Ok (E_C_couples_21 a1))) := by
  unfold B_C_couples_21
  show SimK Ok (21, [(0, vR 42), (1, vI a1), (2, vI s.1)], [], s.2) _ _
  refine sim_blk0 hC [(.iload_n 2, 0, 0, 0, 0), (.iload_n 1, 0, 0, 0, 0)] [(0, vR 42), (1, vI a1), (2, vI s.1)] [vI a1, vI s.1] s.2 23 (by decide +kernel) rfl rfl ?_
  refine sim_br hC (.if_icmp .gt 20) 43 (by decide +kernel) rfl (by decide) ?_ ?_
  · refine sim_sub hC [0, 1] ?_
    exact sim_exit (E := (E_C_couples_21 a1)) s.2
  · refine sim_blk0 hC [(.aload_n 0, 0, 0, 0, 0), (.getfield 64, 42, 11, 89, 0), (.iload_n 2, 0, 0, 0, 0), (.aload_n 0, 0, 0, 0, 0), (.iload_n 2, 0, 0, 0, 0)] [(0, vR 42), (1, vI a1), (2, vI s.1)] [vI s.1, vR 42, vI s.1, vR 87] s.2 33 (by decide +kernel) rfl rfl ?_
    refine sim_vp hC 261 mX10_mostPairs 2 21 42 [vI s.1] [vI s.1, vR 87] (by decide +kernel) ml_9_261 rfl rfl rfl rfl rfl rfl (fun rz hz => c_C_mostPairs s.2 s.1 rz hz) (fun i3 => ?_)
    refine sim_blk1 hC [(.iastore, 87, 256, 0, 0)] [(0, vR 42), (1, vI a1), (2, vI s.1)] [] (wup s.2 87 (Int32.toNatClampNeg s.1) i3) 37 (by decide +kernel) rfl rfl ?_
    refine sim_bw (C := fun w4 => (37, [(0, vR 42), (1, vI a1), (2, vI s.1)], [], w4)) (fun w4 => ?_)
    refine sim_blk0 hC [(.iinc 2 1, 0, 0, 0, 1)] [(0, vR 42), (1, vI a1), (2, vI (s.1 + 1))] [] w4 40 (by decide +kernel) rfl rfl ?_
    refine sim_bi (C := fun i5 => (40, [(0, vR 42), (1, vI a1), (2, vI i5)], [], w4)) (fun i5 => ?_)
    refine sim_goto hC (-19) 21 (by decide +kernel) (by decide) ?_
    exact sim_back (V := (V_C_couples_21 a1)) ((i5, w4))
noncomputable def F_C_couples (w : Wld) : Option (Int32 × Wld) :=
  bi (((1 : Int32) <<< ((w 56 1) &&& 31)) - (1 : Int32)) (fun i1 => gd (vp_in 0 256) (bw (wup w 87 (Int32.toNatClampNeg 0) 0) (fun w2 => bl (loop (B_C_couples_21 i1) ((1, w2))) (fun r6 => gd (vp_in i1 256) (some ((r6 87 (Int32.toNatClampNeg i1), r6)))))))
set_option maxRecDepth 10000 in
theorem s_C_couples {Z : ZT} {l : Launch} {o : Oc} {wo : Wld} {Ok : Cfg → Prop} (hC : Clo Z l 9 3 prog_1_method_45_code (some .int) 3 47 o wo Ok) (w : Wld) : SimK Ok (0, [(0, vR 42)], [], w) (F_C_couples w) (Gi o wo) := by
  unfold F_C_couples
  refine sim_blk0 hC [(.iconst 1, 0, 0, 0, 1), (.aload_n 0, 0, 0, 0, 0), (.getfield 38, 42, 5, 58, 0), (.getfield 128, 56, 1, 0, 0), (.ishl, 0, 0, 0, 0), (.iconst 1, 0, 0, 0, 1), (.isub, 0, 0, 0, 0), (.istore_n 1, 0, 0, 0, 0)] [(0, vR 42), (1, vI (((1 : Int32) <<< ((w 56 1) &&& 31)) - (1 : Int32)))] [] w 12 (by decide +kernel) rfl rfl ?_
  refine sim_bi (C := fun i1 => (12, [(0, vR 42), (1, vI i1)], [], w)) (fun i1 => ?_)
  refine sim_blk1 hC [(.aload_n 0, 0, 0, 0, 0), (.getfield 64, 42, 11, 89, 0), (.iconst 0, 0, 0, 0, 0), (.iconst 0, 0, 0, 0, 0), (.iastore, 87, 256, 0, 0)] [(0, vR 42), (1, vI i1)] [] (wup w 87 (Int32.toNatClampNeg 0) 0) 19 (by decide +kernel) rfl rfl ?_
  refine sim_bw (C := fun w2 => (19, [(0, vR 42), (1, vI i1)], [], w2)) (fun w2 => ?_)
  refine sim_blk0 hC [(.iconst 1, 0, 0, 0, 1), (.istore_n 2, 0, 0, 0, 0)] [(0, vR 42), (1, vI i1), (2, vI 1)] [] w2 21 (by decide +kernel) rfl rfl ?_
  refine sim_bl (E := (E_C_couples_21 i1)) ?_ (fun r6 => ?_)
  · exact sim_loop (V := (V_C_couples_21 i1)) (fun sz => s_B_C_couples_21 hC i1 sz) ((1, w2))
  · show SimK Ok (43, [(0, vR 42), (1, vI i1)], [], r6) _ _
    refine sim_blk1 hC [(.aload_n 0, 0, 0, 0, 0), (.getfield 64, 42, 11, 89, 0), (.iload_n 1, 0, 0, 0, 0), (.iaload, 87, 256, 0, 0)] [(0, vR 42), (1, vI i1)] [vI (r6 87 (Int32.toNatClampNeg i1))] r6 49 (by decide +kernel) rfl rfl ?_
    exact sim_reti hC (by decide +kernel) trivial
theorem c_C_couples {Z : ZT} {l : Launch} (w : Wld) (r : Int32) (w1 : Wld) (h : F_C_couples w = some (r, w1)) : Con Z l mX10_couples 3 47 [vR 42] w (.inr (some r)) w1 :=
  Con_of (oc := 9) (by decide +kernel) rfl rfl (fun Ok hC => s_C_couples hC w (r, w1) h ⟨rfl, rfl⟩)
noncomputable def K_Heard_add_69_49 (w : Wld) : Option (Wld) :=
  some w
set_option maxRecDepth 10000 in
theorem s_K_Heard_add_69_49 {Z : ZT} {l : Launch} {o : Oc} {wo : Wld} {Ok : Cfg → Prop} (hC : Clo Z l 2 4 prog_4_method_4_code none 1 0 o wo Ok) (w : Wld) : SimK Ok (49, [], [], w) (K_Heard_add_69_49 w) (Gv o wo) := by
  unfold K_Heard_add_69_49
  exact sim_retv hC (by decide +kernel)
noncomputable def F_Heard_add_69 (w : Wld) (a1 : Int32) (a2 : Int32) (a3 : Int32) : Option (Wld) :=
  br ((8 : Int32) ≤ (w 69 3)) (K_Heard_add_69_49 w) (gd (vp_in (w 69 3) 8) (bw (wup w 70 (Int32.toNatClampNeg (w 69 3)) a1) (fun w1 => gd (vp_in (w1 69 3) 8) (bw (wup w1 71 (Int32.toNatClampNeg (w1 69 3)) a2) (fun w2 => gd (vp_in (w2 69 3) 8) (bw (wup w2 72 (Int32.toNatClampNeg (w2 69 3)) (vp_nar .boolean a3)) (fun w3 => bw (wup w3 69 3 ((w3 69 3) + (1 : Int32))) (fun w4 => K_Heard_add_69_49 w4))))))))
set_option maxRecDepth 10000 in
theorem s_Heard_add_69 {Z : ZT} {l : Launch} {o : Oc} {wo : Wld} {Ok : Cfg → Prop} (hC : Clo Z l 2 4 prog_4_method_4_code none 1 0 o wo Ok) (w : Wld) (a1 : Int32) (a2 : Int32) (a3 : Int32) : SimK Ok (0, [(0, vR 69), (1, vI a1), (2, vI a2), (3, vI a3)], [], w) (F_Heard_add_69 w a1 a2 a3) (Gv o wo) := by
  unfold F_Heard_add_69
  refine sim_blk0 hC [(.aload_n 0, 0, 0, 0, 0), (.getfield 22, 69, 3, 0, 0), (.bipush 8, 0, 0, 0, 8)] [(0, vR 69), (1, vI a1), (2, vI a2), (3, vI a3)] [vI 8, vI (w 69 3)] w 6 (by decide +kernel) rfl rfl ?_
  refine sim_br hC (.if_icmp .ge 43) 49 (by decide +kernel) rfl (by decide) ?_ ?_
  · refine sim_sub hC [] ?_
    exact s_K_Heard_add_69_49 hC w
  · refine sim_blk1 hC [(.aload_n 0, 0, 0, 0, 0), (.getfield 9, 69, 0, 72, 0), (.aload_n 0, 0, 0, 0, 0), (.getfield 22, 69, 3, 0, 0), (.iload_n 1, 0, 0, 0, 0), (.iastore, 70, 8, 0, 0)] [(0, vR 69), (1, vI a1), (2, vI a2), (3, vI a3)] [] (wup w 70 (Int32.toNatClampNeg (w 69 3)) a1) 19 (by decide +kernel) rfl rfl ?_
    refine sim_bw (C := fun w1 => (19, [(0, vR 69), (1, vI a1), (2, vI a2), (3, vI a3)], [], w1)) (fun w1 => ?_)
    refine sim_blk1 hC [(.aload_n 0, 0, 0, 0, 0), (.getfield 15, 69, 1, 73, 0), (.aload_n 0, 0, 0, 0, 0), (.getfield 22, 69, 3, 0, 0), (.iload_n 2, 0, 0, 0, 0), (.iastore, 71, 8, 0, 0)] [(0, vR 69), (1, vI a1), (2, vI a2), (3, vI a3)] [] (wup w1 71 (Int32.toNatClampNeg (w1 69 3)) a2) 29 (by decide +kernel) rfl rfl ?_
    refine sim_bw (C := fun w2 => (29, [(0, vR 69), (1, vI a1), (2, vI a2), (3, vI a3)], [], w2)) (fun w2 => ?_)
    refine sim_blk1 hC [(.aload_n 0, 0, 0, 0, 0), (.getfield 18, 69, 2, 74, 0), (.aload_n 0, 0, 0, 0, 0), (.getfield 22, 69, 3, 0, 0), (.iload_n 3, 0, 0, 0, 0), (.bastore, 72, 8, 2, 0)] [(0, vR 69), (1, vI a1), (2, vI a2), (3, vI a3)] [] (wup w2 72 (Int32.toNatClampNeg (w2 69 3)) (vp_nar .boolean a3)) 39 (by decide +kernel) rfl rfl ?_
    refine sim_bw (C := fun w3 => (39, [(0, vR 69), (1, vI a1), (2, vI a2), (3, vI a3)], [], w3)) (fun w3 => ?_)
    refine sim_blk0 hC [(.aload_n 0, 0, 0, 0, 0), (.dup, 0, 0, 0, 0), (.getfield 22, 69, 3, 0, 0), (.iconst 1, 0, 0, 0, 1), (.iadd, 0, 0, 0, 0), (.putfield 22, 69, 3, 0, 0)] [(0, vR 69), (1, vI a1), (2, vI a2), (3, vI a3)] [] (wup w3 69 3 ((w3 69 3) + (1 : Int32))) 49 (by decide +kernel) rfl rfl ?_
    refine sim_bw (C := fun w4 => (49, [(0, vR 69), (1, vI a1), (2, vI a2), (3, vI a3)], [], w4)) (fun w4 => ?_)
    refine sim_sub hC [] ?_
    exact s_K_Heard_add_69_49 hC w4
theorem c_Heard_add_69 {Z : ZT} {l : Launch} (w : Wld) (a1 : Int32) (a2 : Int32) (a3 : Int32) (w1 : Wld) (h : F_Heard_add_69 w a1 a2 a3 = some w1) : Con Z l mX2_add 1 0 [vR 69, vI a1, vI a2, vI a3] w (.inr none) w1 :=
  Con_of (oc := 2) (by decide +kernel) rfl rfl (fun Ok hC => s_Heard_add_69 hC w a1 a2 a3 w1 h ⟨rfl, rfl⟩)
noncomputable def K_C_hear_52 (w : Wld) : Option (Int32 × Wld) :=
  gd (vp_in 2 3) (gd (vp_in 2 3) (bw (wup w 73 (Int32.toNatClampNeg 2) ((w 73 (Int32.toNatClampNeg 2)) + (1 : Int32))) (fun w1 => some (((-1), w1)))))
set_option maxRecDepth 10000 in
theorem s_K_C_hear_52 {Z : ZT} {l : Launch} {o : Oc} {wo : Wld} {Ok : Cfg → Prop} (hC : Clo Z l 9 6 prog_1_method_47_code (some .int) 2 23 o wo Ok) (w : Wld) : SimK Ok (52, [(0, vR 42)], [], w) (K_C_hear_52 w) (Gi o wo) := by
  unfold K_C_hear_52
  refine sim_blk2 hC [(.aload_n 0, 0, 0, 0, 0), (.getfield 42, 42, 6, 66, 0), (.getfield 88, 64, 3, 75, 0), (.iconst 2, 0, 0, 0, 2), (.dup2, 0, 0, 0, 0), (.iaload, 73, 3, 0, 0), (.iconst 1, 0, 0, 0, 1), (.iadd, 0, 0, 0, 0), (.iastore, 73, 3, 0, 0)] [(0, vR 42)] [] (wup w 73 (Int32.toNatClampNeg 2) ((w 73 (Int32.toNatClampNeg 2)) + (1 : Int32))) 65 (by decide +kernel) rfl rfl ?_
  refine sim_bw (C := fun w1 => (65, [(0, vR 42)], [], w1)) (fun w1 => ?_)
  refine sim_blk0 hC [(.iconst (-1), 0, 0, 0, (-1))] [(0, vR 42)] [vI (-1)] w1 66 (by decide +kernel) rfl rfl ?_
  exact sim_reti hC (by decide +kernel) trivial
noncomputable def K_C_hear_35 (a1 : Int32) (a2 : Int32) (a3 : Int32) (t0 : Int32) (w : Wld) : Option (Int32 × Wld) :=
  br (t0 = 0) (K_C_hear_52 w) (br ((w 69 3) < 8) (bv (F_Heard_add_69 w a1 a2 a3) (fun w2 => some ((w2 69 3, w2)))) (K_C_hear_52 w))
set_option maxRecDepth 10000 in
theorem s_K_C_hear_35 {Z : ZT} {l : Launch} {o : Oc} {wo : Wld} {Ok : Cfg → Prop} (hC : Clo Z l 9 6 prog_1_method_47_code (some .int) 2 23 o wo Ok) (a1 : Int32) (a2 : Int32) (a3 : Int32) (t0 : Int32) (w : Wld) : SimK Ok (35, [(0, vR 42), (1, vI a1), (2, vI a2), (3, vI a3), (4, vR 69)], [vI t0], w) (K_C_hear_35 a1 a2 a3 t0 w) (Gi o wo) := by
  unfold K_C_hear_35
  refine sim_blk0 hC [(.istore 5, 0, 0, 0, 0), (.iload 5, 0, 0, 0, 0)] [(0, vR 42), (1, vI a1), (2, vI a2), (3, vI a3), (4, vR 69), (5, vI t0)] [vI t0] w 39 (by decide +kernel) rfl rfl ?_
  refine sim_br hC (.ifCond .eq 13) 52 (by decide +kernel) rfl (by decide) ?_ ?_
  · refine sim_sub hC [0] ?_
    exact s_K_C_hear_52 hC w
  · refine sim_blk0 hC [(.aload 4, 0, 0, 0, 0), (.getfield 150, 69, 3, 0, 0), (.bipush 8, 0, 0, 0, 8)] [(0, vR 42), (1, vI a1), (2, vI a2), (3, vI a3), (4, vR 69), (5, vI t0)] [vI 8, vI (w 69 3)] w 49 (by decide +kernel) rfl rfl ?_
    refine sim_br hC (.if_icmp .lt 18) 67 (by decide +kernel) rfl (by decide) ?_ ?_
    · refine sim_blk0 hC [(.aload 4, 0, 0, 0, 0), (.iload_n 1, 0, 0, 0, 0), (.iload_n 2, 0, 0, 0, 0), (.iload_n 3, 0, 0, 0, 0)] [(0, vR 42), (1, vI a1), (2, vI a2), (3, vI a3), (4, vR 69), (5, vI t0)] [vI a3, vI a2, vI a1, vR 69] w 72 (by decide +kernel) rfl rfl ?_
      refine sim_vv hC 269 mX2_add 1 0 69 [vI a1, vI a2, vI a3] [] (by decide +kernel) ml_9_269 rfl rfl rfl rfl rfl rfl (fun wz hz => c_Heard_add_69 w a1 a2 a3 wz hz) (fun w2 => ?_)
      refine sim_blk0 hC [(.aload 4, 0, 0, 0, 0), (.getfield 150, 69, 3, 0, 0)] [(0, vR 42), (1, vI a1), (2, vI a2), (3, vI a3), (4, vR 69), (5, vI t0)] [vI (w2 69 3)] w2 80 (by decide +kernel) rfl rfl ?_
      exact sim_reti hC (by decide +kernel) trivial
    · refine sim_sub hC [0] ?_
      exact s_K_C_hear_52 hC w
noncomputable def K_C_hear_34 (a1 : Int32) (a2 : Int32) (a3 : Int32) (w : Wld) : Option (Int32 × Wld) :=
  K_C_hear_35 a1 a2 a3 0 w
set_option maxRecDepth 10000 in
theorem s_K_C_hear_34 {Z : ZT} {l : Launch} {o : Oc} {wo : Wld} {Ok : Cfg → Prop} (hC : Clo Z l 9 6 prog_1_method_47_code (some .int) 2 23 o wo Ok) (a1 : Int32) (a2 : Int32) (a3 : Int32) (w : Wld) : SimK Ok (34, [(0, vR 42), (1, vI a1), (2, vI a2), (3, vI a3), (4, vR 69)], [], w) (K_C_hear_34 a1 a2 a3 w) (Gi o wo) := by
  unfold K_C_hear_34
  refine sim_blk0 hC [(.iconst 0, 0, 0, 0, 0)] [(0, vR 42), (1, vI a1), (2, vI a2), (3, vI a3), (4, vR 69)] [vI 0] w 35 (by decide +kernel) rfl rfl ?_
  exact s_K_C_hear_35 hC a1 a2 a3 0 w
noncomputable def F_C_hear (w : Wld) (a1 : Int32) (a2 : Int32) (a3 : Int32) : Option (Int32 × Wld) :=
  br (a1 < 1) (K_C_hear_34 a1 a2 a3 w) (br ((20 : Int32) < a1) (K_C_hear_34 a1 a2 a3 w) (br (a2 < 0) (K_C_hear_34 a1 a2 a3 w) (br ((99 : Int32) < a2) (K_C_hear_34 a1 a2 a3 w) (K_C_hear_35 a1 a2 a3 1 w))))
set_option maxRecDepth 10000 in
theorem s_C_hear {Z : ZT} {l : Launch} {o : Oc} {wo : Wld} {Ok : Cfg → Prop} (hC : Clo Z l 9 6 prog_1_method_47_code (some .int) 2 23 o wo Ok) (w : Wld) (a1 : Int32) (a2 : Int32) (a3 : Int32) : SimK Ok (0, [(0, vR 42), (1, vI a1), (2, vI a2), (3, vI a3)], [], w) (F_C_hear w a1 a2 a3) (Gi o wo) := by
  unfold F_C_hear
  refine sim_blk0 hC [(.aload_n 0, 0, 0, 0, 0), (.getfield 42, 42, 6, 66, 0), (.getfield 118, 64, 2, 71, 0), (.astore 4, 0, 0, 0, 0), (.iload_n 1, 0, 0, 0, 0), (.iconst 1, 0, 0, 0, 1)] [(0, vR 42), (1, vI a1), (2, vI a2), (3, vI a3), (4, vR 69)] [vI 1, vI a1] w 11 (by decide +kernel) rfl rfl ?_
  refine sim_br hC (.if_icmp .lt 23) 34 (by decide +kernel) rfl (by decide) ?_ ?_
  · exact s_K_C_hear_34 hC a1 a2 a3 w
  · refine sim_blk0 hC [(.iload_n 1, 0, 0, 0, 0), (.bipush 20, 0, 0, 0, 20)] [(0, vR 42), (1, vI a1), (2, vI a2), (3, vI a3), (4, vR 69)] [vI 20, vI a1] w 17 (by decide +kernel) rfl rfl ?_
    refine sim_br hC (.if_icmp .gt 17) 34 (by decide +kernel) rfl (by decide) ?_ ?_
    · exact s_K_C_hear_34 hC a1 a2 a3 w
    · refine sim_blk0 hC [(.iload_n 2, 0, 0, 0, 0)] [(0, vR 42), (1, vI a1), (2, vI a2), (3, vI a3), (4, vR 69)] [vI a2] w 21 (by decide +kernel) rfl rfl ?_
      refine sim_br hC (.ifCond .lt 13) 34 (by decide +kernel) rfl (by decide) ?_ ?_
      · exact s_K_C_hear_34 hC a1 a2 a3 w
      · refine sim_blk0 hC [(.iload_n 2, 0, 0, 0, 0), (.bipush 99, 0, 0, 0, 99)] [(0, vR 42), (1, vI a1), (2, vI a2), (3, vI a3), (4, vR 69)] [vI 99, vI a2] w 27 (by decide +kernel) rfl rfl ?_
        refine sim_br hC (.if_icmp .gt 7) 34 (by decide +kernel) rfl (by decide) ?_ ?_
        · exact s_K_C_hear_34 hC a1 a2 a3 w
        · refine sim_blk0 hC [(.iconst 1, 0, 0, 0, 1)] [(0, vR 42), (1, vI a1), (2, vI a2), (3, vI a3), (4, vR 69)] [vI 1] w 31 (by decide +kernel) rfl rfl ?_
          refine sim_goto hC 4 35 (by decide +kernel) (by decide) ?_
          exact s_K_C_hear_35 hC a1 a2 a3 1 w
theorem c_C_hear {Z : ZT} {l : Launch} (w : Wld) (a1 : Int32) (a2 : Int32) (a3 : Int32) (r : Int32) (w1 : Wld) (h : F_C_hear w a1 a2 a3 = some (r, w1)) : Con Z l mX10_hear 2 23 [vR 42, vI a1, vI a2, vI a3] w (.inr (some r)) w1 :=
  Con_of (oc := 9) (by decide +kernel) rfl rfl (fun Ok hC => s_C_hear hC w a1 a2 a3 (r, w1) h ⟨rfl, rfl⟩)
noncomputable def F_Heard_clear_69 (w : Wld) : Option (Wld) :=
  bw (wup w 69 3 0) (fun w1 => some w1)
set_option maxRecDepth 10000 in
theorem s_Heard_clear_69 {Z : ZT} {l : Launch} {o : Oc} {wo : Wld} {Ok : Cfg → Prop} (hC : Clo Z l 2 1 prog_4_method_2_code none 1 0 o wo Ok) (w : Wld) : SimK Ok (0, [(0, vR 69)], [], w) (F_Heard_clear_69 w) (Gv o wo) := by
  unfold F_Heard_clear_69
  refine sim_blk0 hC [(.aload_n 0, 0, 0, 0, 0), (.iconst 0, 0, 0, 0, 0), (.putfield 22, 69, 3, 0, 0)] [(0, vR 69)] [] (wup w 69 3 0) 5 (by decide +kernel) rfl rfl ?_
  refine sim_bw (C := fun w1 => (5, [(0, vR 69)], [], w1)) (fun w1 => ?_)
  exact sim_retv hC (by decide +kernel)
theorem c_Heard_clear_69 {Z : ZT} {l : Launch} (w : Wld) (w1 : Wld) (h : F_Heard_clear_69 w = some w1) : Con Z l mX2_clear 1 0 [vR 69] w (.inr none) w1 :=
  Con_of (oc := 2) (by decide +kernel) rfl rfl (fun Ok hC => s_Heard_clear_69 hC w w1 h ⟨rfl, rfl⟩)
noncomputable def F_C_forget (w : Wld) : Option (Wld) :=
  bv (F_Heard_clear_69 w) (fun w1 => some w1)
set_option maxRecDepth 10000 in
theorem s_C_forget {Z : ZT} {l : Launch} {o : Oc} {wo : Wld} {Ok : Cfg → Prop} (hC : Clo Z l 9 1 prog_1_method_54_code none 2 20 o wo Ok) (w : Wld) : SimK Ok (0, [(0, vR 42)], [], w) (F_C_forget w) (Gv o wo) := by
  unfold F_C_forget
  refine sim_blk0 hC [(.aload_n 0, 0, 0, 0, 0), (.getfield 42, 42, 6, 66, 0), (.getfield 118, 64, 2, 71, 0)] [(0, vR 42)] [vR 69] w 7 (by decide +kernel) rfl rfl ?_
  refine sim_vv hC 122 mX2_clear 1 0 69 [] [] (by decide +kernel) ml_9_122 rfl rfl rfl rfl rfl rfl (fun wz hz => c_Heard_clear_69 w wz hz) (fun w1 => ?_)
  exact sim_retv hC (by decide +kernel)
theorem c_C_forget {Z : ZT} {l : Launch} (w : Wld) (w1 : Wld) (h : F_C_forget w = some w1) : Con Z l mX10_forget 2 20 [vR 42] w (.inr none) w1 :=
  Con_of (oc := 9) (by decide +kernel) rfl rfl (fun Ok hC => s_C_forget hC w w1 h ⟨rfl, rfl⟩)
noncomputable def F_State_takeOver_75_65 (w : Wld) : Option (Wld) :=
  gd (cpO w 66 53 53 0 0 0 53) (bw (wcp w 66 76 (Int32.toNatClampNeg 0) (Int32.toNatClampNeg 0) (Int32.toNatClampNeg 53)) (fun w1 => some w1))
set_option maxRecDepth 10000 in
theorem s_State_takeOver_75_65 {Z : ZT} {l : Launch} {o : Oc} {wo : Wld} {Ok : Cfg → Prop} (hC : Clo Z l 7 2 prog_9_method_3_code none 1 60 o wo Ok) (w : Wld) : SimK Ok (0, [(0, vR 75), (1, vR 65)], [], w) (F_State_takeOver_75_65 w) (Gv o wo) := by
  unfold F_State_takeOver_75_65
  refine sim_blk0 hC [(.aload_n 1, 0, 0, 0, 0), (.getfield 11, 65, 0, 68, 0), (.iconst 0, 0, 0, 0, 0), (.aload_n 0, 0, 0, 0, 0), (.getfield 11, 75, 0, 78, 0), (.iconst 0, 0, 0, 0, 0), (.bipush 53, 0, 0, 0, 53)] [(0, vR 75), (1, vR 65)] [vI 53, vI 0, vR 76, vI 0, vR 66] w 12 (by decide +kernel) rfl rfl ?_
  refine sim_copy hC 21 66 76 53 53 0 (by decide +kernel) (by decide) (by decide) (by decide +kernel) (by decide +kernel) rfl rfl rfl (fun w1 => ?_)
  exact sim_retv hC (by decide +kernel)
theorem c_State_takeOver_75_65 {Z : ZT} {l : Launch} (w : Wld) (w1 : Wld) (h : F_State_takeOver_75_65 w = some w1) : Con Z l mX7_takeOver 1 60 [vR 75, vR 65] w (.inr none) w1 :=
  Con_of (oc := 7) (by decide +kernel) rfl rfl (fun Ok hC => s_State_takeOver_75_65 hC w w1 h ⟨rfl, rfl⟩)
noncomputable def F_Acts_takeOver_77_67 (w : Wld) : Option (Wld) :=
  gd (cpO w 68 2120 2120 0 0 0 2120) (bw (wcp w 68 78 (Int32.toNatClampNeg 0) (Int32.toNatClampNeg 0) (Int32.toNatClampNeg 2120)) (fun w1 => bw (wup w1 77 1 (w1 67 1)) (fun w2 => bw (wup w2 77 2 (w2 67 2)) (fun w3 => some w3))))
set_option maxRecDepth 10000 in
theorem s_Acts_takeOver_77_67 {Z : ZT} {l : Launch} {o : Oc} {wo : Wld} {Ok : Cfg → Prop} (hC : Clo Z l 0 2 prog_2_method_3_code none 1 60 o wo Ok) (w : Wld) : SimK Ok (0, [(0, vR 77), (1, vR 67)], [], w) (F_Acts_takeOver_77_67 w) (Gv o wo) := by
  unfold F_Acts_takeOver_77_67
  refine sim_blk0 hC [(.aload_n 1, 0, 0, 0, 0), (.getfield 11, 67, 0, 70, 0), (.iconst 0, 0, 0, 0, 0), (.aload_n 0, 0, 0, 0, 0), (.getfield 11, 77, 0, 80, 0), (.iconst 0, 0, 0, 0, 0), (.aload_n 0, 0, 0, 0, 0), (.getfield 11, 77, 0, 80, 0), (.arraylength, 78, 2120, 0, 2120)] [(0, vR 77), (1, vR 67)] [vI 2120, vI 0, vR 78, vI 0, vR 68] w 15 (by decide +kernel) rfl rfl ?_
  refine sim_copy hC 24 68 78 2120 2120 0 (by decide +kernel) (by decide) (by decide) (by decide +kernel) (by decide +kernel) rfl rfl rfl (fun w1 => ?_)
  refine sim_blk0 hC [(.aload_n 0, 0, 0, 0, 0), (.aload_n 1, 0, 0, 0, 0), (.getfield 17, 67, 1, 0, 0), (.putfield 17, 77, 1, 0, 0)] [(0, vR 77), (1, vR 67)] [] (wup w1 77 1 (w1 67 1)) 26 (by decide +kernel) rfl rfl ?_
  refine sim_bw (C := fun w2 => (26, [(0, vR 77), (1, vR 67)], [], w2)) (fun w2 => ?_)
  refine sim_blk0 hC [(.aload_n 0, 0, 0, 0, 0), (.aload_n 1, 0, 0, 0, 0), (.getfield 21, 67, 2, 0, 0), (.putfield 21, 77, 2, 0, 0)] [(0, vR 77), (1, vR 67)] [] (wup w2 77 2 (w2 67 2)) 34 (by decide +kernel) rfl rfl ?_
  refine sim_bw (C := fun w3 => (34, [(0, vR 77), (1, vR 67)], [], w3)) (fun w3 => ?_)
  exact sim_retv hC (by decide +kernel)
theorem c_Acts_takeOver_77_67 {Z : ZT} {l : Launch} (w : Wld) (w1 : Wld) (h : F_Acts_takeOver_77_67 w = some w1) : Con Z l mX0_takeOver 1 60 [vR 77, vR 67] w (.inr none) w1 :=
  Con_of (oc := 0) (by decide +kernel) rfl rfl (fun Ok hC => s_Acts_takeOver_77_67 hC w w1 h ⟨rfl, rfl⟩)
def V_Heard_takeOver_79_69_10 : (Int32 × Wld) → Cfg := fun s => (10, [(0, vR 79), (1, vR 69), (2, vI s.1)], [], s.2)
def E_Heard_takeOver_79_69_10 : (Wld) → Cfg := fun s => (60, [], [], s)
noncomputable def B_Heard_takeOver_79_69_10 (s : Int32 × Wld) : Option ((Int32 × Wld) ⊕ (Wld)) :=
  br ((s.2 79 3) ≤ s.1) (some (.inr s.2)) (gd (vp_in s.1 8) (gd (vp_in s.1 8) (bw (wup s.2 80 (Int32.toNatClampNeg s.1) (s.2 70 (Int32.toNatClampNeg s.1))) (fun w2 => gd (vp_in s.1 8) (gd (vp_in s.1 8) (bw (wup w2 81 (Int32.toNatClampNeg s.1) (w2 71 (Int32.toNatClampNeg s.1))) (fun w3 => gd (vp_in s.1 8) (gd (vp_in s.1 8) (bw (wup w3 82 (Int32.toNatClampNeg s.1) (vp_nar .boolean (w3 72 (Int32.toNatClampNeg s.1)))) (fun w4 => bi (s.1 + 1) (fun i5 => some (.inl ((i5, w4))))))))))))))
set_option maxRecDepth 10000 in
theorem s_B_Heard_takeOver_79_69_10 {Z : ZT} {l : Launch} {o : Oc} {wo : Wld} {Ok : Cfg → Prop} (hC : Clo Z l 2 3 prog_4_method_3_code none 1 0 o wo Ok) (s : Int32 × Wld) : SimK Ok (V_Heard_takeOver_79_69_10 s) (B_Heard_takeOver_79_69_10 s) (GLp Ok (V_Heard_takeOver_79_69_10) (GEp Ok (E_Heard_takeOver_79_69_10))) := by
  unfold B_Heard_takeOver_79_69_10
  show SimK Ok (10, [(0, vR 79), (1, vR 69), (2, vI s.1)], [], s.2) _ _
  refine sim_blk0 hC [(.iload_n 2, 0, 0, 0, 0), (.aload_n 0, 0, 0, 0, 0), (.getfield 22, 79, 3, 0, 0)] [(0, vR 79), (1, vR 69), (2, vI s.1)] [vI (s.2 79 3), vI s.1] s.2 15 (by decide +kernel) rfl rfl ?_
  refine sim_br hC (.if_icmp .ge 45) 60 (by decide +kernel) rfl (by decide) ?_ ?_
  · refine sim_sub hC [] ?_
    exact sim_exit (E := (E_Heard_takeOver_79_69_10)) s.2
  · refine sim_blk2 hC [(.aload_n 0, 0, 0, 0, 0), (.getfield 9, 79, 0, 82, 0), (.iload_n 2, 0, 0, 0, 0), (.aload_n 1, 0, 0, 0, 0), (.getfield 9, 69, 0, 72, 0), (.iload_n 2, 0, 0, 0, 0), (.iaload, 70, 8, 0, 0), (.iastore, 80, 8, 0, 0)] [(0, vR 79), (1, vR 69), (2, vI s.1)] [] (wup s.2 80 (Int32.toNatClampNeg s.1) (s.2 70 (Int32.toNatClampNeg s.1))) 30 (by decide +kernel) rfl rfl ?_
    refine sim_bw (C := fun w2 => (30, [(0, vR 79), (1, vR 69), (2, vI s.1)], [], w2)) (fun w2 => ?_)
    refine sim_blk2 hC [(.aload_n 0, 0, 0, 0, 0), (.getfield 15, 79, 1, 83, 0), (.iload_n 2, 0, 0, 0, 0), (.aload_n 1, 0, 0, 0, 0), (.getfield 15, 69, 1, 73, 0), (.iload_n 2, 0, 0, 0, 0), (.iaload, 71, 8, 0, 0), (.iastore, 81, 8, 0, 0)] [(0, vR 79), (1, vR 69), (2, vI s.1)] [] (wup w2 81 (Int32.toNatClampNeg s.1) (w2 71 (Int32.toNatClampNeg s.1))) 42 (by decide +kernel) rfl rfl ?_
    refine sim_bw (C := fun w3 => (42, [(0, vR 79), (1, vR 69), (2, vI s.1)], [], w3)) (fun w3 => ?_)
    refine sim_blk2 hC [(.aload_n 0, 0, 0, 0, 0), (.getfield 18, 79, 2, 84, 0), (.iload_n 2, 0, 0, 0, 0), (.aload_n 1, 0, 0, 0, 0), (.getfield 18, 69, 2, 74, 0), (.iload_n 2, 0, 0, 0, 0), (.baload, 72, 8, 2, 0), (.bastore, 82, 8, 2, 0)] [(0, vR 79), (1, vR 69), (2, vI s.1)] [] (wup w3 82 (Int32.toNatClampNeg s.1) (vp_nar .boolean (w3 72 (Int32.toNatClampNeg s.1)))) 54 (by decide +kernel) rfl rfl ?_
    refine sim_bw (C := fun w4 => (54, [(0, vR 79), (1, vR 69), (2, vI s.1)], [], w4)) (fun w4 => ?_)
    refine sim_blk0 hC [(.iinc 2 1, 0, 0, 0, 1)] [(0, vR 79), (1, vR 69), (2, vI (s.1 + 1))] [] w4 57 (by decide +kernel) rfl rfl ?_
    refine sim_bi (C := fun i5 => (57, [(0, vR 79), (1, vR 69), (2, vI i5)], [], w4)) (fun i5 => ?_)
    refine sim_goto hC (-47) 10 (by decide +kernel) (by decide) ?_
    exact sim_back (V := (V_Heard_takeOver_79_69_10)) ((i5, w4))
noncomputable def F_Heard_takeOver_79_69 (w : Wld) : Option (Wld) :=
  bw (wup w 79 3 (w 69 3)) (fun w1 => bl (loop (B_Heard_takeOver_79_69_10) ((0, w1))) (fun r6 => some r6))
set_option maxRecDepth 10000 in
theorem s_Heard_takeOver_79_69 {Z : ZT} {l : Launch} {o : Oc} {wo : Wld} {Ok : Cfg → Prop} (hC : Clo Z l 2 3 prog_4_method_3_code none 1 0 o wo Ok) (w : Wld) : SimK Ok (0, [(0, vR 79), (1, vR 69)], [], w) (F_Heard_takeOver_79_69 w) (Gv o wo) := by
  unfold F_Heard_takeOver_79_69
  refine sim_blk0 hC [(.aload_n 0, 0, 0, 0, 0), (.aload_n 1, 0, 0, 0, 0), (.getfield 22, 69, 3, 0, 0), (.putfield 22, 79, 3, 0, 0)] [(0, vR 79), (1, vR 69)] [] (wup w 79 3 (w 69 3)) 8 (by decide +kernel) rfl rfl ?_
  refine sim_bw (C := fun w1 => (8, [(0, vR 79), (1, vR 69)], [], w1)) (fun w1 => ?_)
  refine sim_blk0 hC [(.iconst 0, 0, 0, 0, 0), (.istore_n 2, 0, 0, 0, 0)] [(0, vR 79), (1, vR 69), (2, vI 0)] [] w1 10 (by decide +kernel) rfl rfl ?_
  refine sim_bl (E := (E_Heard_takeOver_79_69_10)) ?_ (fun r6 => ?_)
  · exact sim_loop (V := (V_Heard_takeOver_79_69_10)) (fun sz => s_B_Heard_takeOver_79_69_10 hC sz) ((0, w1))
  · show SimK Ok (60, [], [], r6) _ _
    exact sim_retv hC (by decide +kernel)
theorem c_Heard_takeOver_79_69 {Z : ZT} {l : Launch} (w : Wld) (w1 : Wld) (h : F_Heard_takeOver_79_69 w = some w1) : Con Z l mX2_takeOver 1 0 [vR 79, vR 69] w (.inr none) w1 :=
  Con_of (oc := 2) (by decide +kernel) rfl rfl (fun Ok hC => s_Heard_takeOver_79_69 hC w w1 h ⟨rfl, rfl⟩)
noncomputable def F_Book_takeOver_74_64 (w : Wld) : Option (Wld) :=
  bv (F_State_takeOver_75_65 w) (fun w1 => bv (F_Acts_takeOver_77_67 w1) (fun w2 => bv (F_Heard_takeOver_79_69 w2) (fun w3 => gd (cpO w3 73 3 3 0 0 0 3) (bw (wcp w3 73 83 (Int32.toNatClampNeg 0) (Int32.toNatClampNeg 0) (Int32.toNatClampNeg 3)) (fun w4 => some w4)))))
set_option maxRecDepth 10000 in
theorem s_Book_takeOver_74_64 {Z : ZT} {l : Launch} {o : Oc} {wo : Wld} {Ok : Cfg → Prop} (hC : Clo Z l 1 2 prog_3_method_2_code none 2 81 o wo Ok) (w : Wld) : SimK Ok (0, [(0, vR 74), (1, vR 64)], [], w) (F_Book_takeOver_74_64 w) (Gv o wo) := by
  unfold F_Book_takeOver_74_64
  refine sim_blk0 hC [(.aload_n 0, 0, 0, 0, 0), (.getfield 12, 74, 0, 77, 0), (.aload_n 1, 0, 0, 0, 0), (.getfield 12, 64, 0, 67, 0)] [(0, vR 74), (1, vR 64)] [vR 65, vR 75] w 8 (by decide +kernel) rfl rfl ?_
  refine sim_vv hC 36 mX7_takeOver 1 60 75 [vR 65] [] (by decide +kernel) ml_1_36 rfl rfl rfl rfl rfl rfl (fun wz hz => c_State_takeOver_75_65 w wz hz) (fun w1 => ?_)
  refine sim_blk0 hC [(.aload_n 0, 0, 0, 0, 0), (.getfield 21, 74, 1, 79, 0), (.aload_n 1, 0, 0, 0, 0), (.getfield 21, 64, 1, 69, 0)] [(0, vR 74), (1, vR 64)] [vR 67, vR 77] w1 19 (by decide +kernel) rfl rfl ?_
  refine sim_vv hC 40 mX0_takeOver 1 60 77 [vR 67] [] (by decide +kernel) ml_1_40 rfl rfl rfl rfl rfl rfl (fun wz hz => c_Acts_takeOver_77_67 w1 wz hz) (fun w2 => ?_)
  refine sim_blk0 hC [(.aload_n 0, 0, 0, 0, 0), (.getfield 28, 74, 2, 81, 0), (.aload_n 1, 0, 0, 0, 0), (.getfield 28, 64, 2, 71, 0)] [(0, vR 74), (1, vR 64)] [vR 69, vR 79] w2 30 (by decide +kernel) rfl rfl ?_
  refine sim_vv hC 43 mX2_takeOver 1 0 79 [vR 69] [] (by decide +kernel) ml_1_43 rfl rfl rfl rfl rfl rfl (fun wz hz => c_Heard_takeOver_79_69 w2 wz hz) (fun w3 => ?_)
  refine sim_blk0 hC [(.aload_n 1, 0, 0, 0, 0), (.getfield 32, 64, 3, 75, 0), (.iconst 0, 0, 0, 0, 0), (.aload_n 0, 0, 0, 0, 0), (.getfield 32, 74, 3, 85, 0), (.iconst 0, 0, 0, 0, 0), (.iconst 3, 0, 0, 0, 3)] [(0, vR 74), (1, vR 64)] [vI 3, vI 0, vR 83, vI 0, vR 73] w3 44 (by decide +kernel) rfl rfl ?_
  refine sim_copy hC 46 73 83 3 3 0 (by decide +kernel) (by decide) (by decide) (by decide +kernel) (by decide +kernel) rfl rfl rfl (fun w4 => ?_)
  exact sim_retv hC (by decide +kernel)
theorem c_Book_takeOver_74_64 {Z : ZT} {l : Launch} (w : Wld) (w1 : Wld) (h : F_Book_takeOver_74_64 w = some w1) : Con Z l mX1_takeOver 2 81 [vR 74, vR 64] w (.inr none) w1 :=
  Con_of (oc := 1) (by decide +kernel) rfl rfl (fun Ok hC => s_Book_takeOver_74_64 hC w w1 h ⟨rfl, rfl⟩)
noncomputable def F_C_image (w : Wld) : Option (Wld) :=
  bv (F_Book_takeOver_74_64 w) (fun w1 => gd ((1 : Int32) = 0 ∨ (1 : Int32) = 1) (bw (wup w1 42 8 1) (fun w2 => some w2)))
set_option maxRecDepth 10000 in
theorem s_C_image {Z : ZT} {l : Launch} {o : Oc} {wo : Wld} {Ok : Cfg → Prop} (hC : Clo Z l 9 1 prog_1_method_63_code none 3 102 o wo Ok) (w : Wld) : SimK Ok (0, [(0, vR 42)], [], w) (F_C_image w) (Gv o wo) := by
  unfold F_C_image
  refine sim_blk0 hC [(.aload_n 0, 0, 0, 0, 0), (.getfield 46, 42, 7, 76, 0), (.aload_n 0, 0, 0, 0, 0), (.getfield 42, 42, 6, 66, 0)] [(0, vR 42)] [vR 64, vR 74] w 8 (by decide +kernel) rfl rfl ?_
  refine sim_vv hC 320 mX1_takeOver 2 81 74 [vR 64] [] (by decide +kernel) ml_9_320 rfl rfl rfl rfl rfl rfl (fun wz hz => c_Book_takeOver_74_64 w wz hz) (fun w1 => ?_)
  refine sim_blk1 hC [(.aload_n 0, 0, 0, 0, 0), (.iconst 1, 0, 0, 0, 1), (.putfield 49, 42, 8, 2, 0)] [(0, vR 42)] [] (wup w1 42 8 1) 16 (by decide +kernel) rfl rfl ?_
  refine sim_bw (C := fun w2 => (16, [(0, vR 42)], [], w2)) (fun w2 => ?_)
  exact sim_retv hC (by decide +kernel)
theorem c_C_image {Z : ZT} {l : Launch} (w : Wld) (w1 : Wld) (h : F_C_image w = some w1) : Con Z l mX10_image 3 102 [vR 42] w (.inr none) w1 :=
  Con_of (oc := 9) (by decide +kernel) rfl rfl (fun Ok hC => s_C_image hC w w1 h ⟨rfl, rfl⟩)
noncomputable def F_State_takeOver_65_75 (w : Wld) : Option (Wld) :=
  gd (cpO w 76 53 53 0 0 0 53) (bw (wcp w 76 66 (Int32.toNatClampNeg 0) (Int32.toNatClampNeg 0) (Int32.toNatClampNeg 53)) (fun w1 => some w1))
set_option maxRecDepth 10000 in
theorem s_State_takeOver_65_75 {Z : ZT} {l : Launch} {o : Oc} {wo : Wld} {Ok : Cfg → Prop} (hC : Clo Z l 7 2 prog_9_method_3_code none 1 60 o wo Ok) (w : Wld) : SimK Ok (0, [(0, vR 65), (1, vR 75)], [], w) (F_State_takeOver_65_75 w) (Gv o wo) := by
  unfold F_State_takeOver_65_75
  refine sim_blk0 hC [(.aload_n 1, 0, 0, 0, 0), (.getfield 11, 75, 0, 78, 0), (.iconst 0, 0, 0, 0, 0), (.aload_n 0, 0, 0, 0, 0), (.getfield 11, 65, 0, 68, 0), (.iconst 0, 0, 0, 0, 0), (.bipush 53, 0, 0, 0, 53)] [(0, vR 65), (1, vR 75)] [vI 53, vI 0, vR 66, vI 0, vR 76] w 12 (by decide +kernel) rfl rfl ?_
  refine sim_copy hC 21 76 66 53 53 0 (by decide +kernel) (by decide) (by decide) (by decide +kernel) (by decide +kernel) rfl rfl rfl (fun w1 => ?_)
  exact sim_retv hC (by decide +kernel)
theorem c_State_takeOver_65_75 {Z : ZT} {l : Launch} (w : Wld) (w1 : Wld) (h : F_State_takeOver_65_75 w = some w1) : Con Z l mX7_takeOver 1 60 [vR 65, vR 75] w (.inr none) w1 :=
  Con_of (oc := 7) (by decide +kernel) rfl rfl (fun Ok hC => s_State_takeOver_65_75 hC w w1 h ⟨rfl, rfl⟩)
noncomputable def F_Acts_takeOver_67_77 (w : Wld) : Option (Wld) :=
  gd (cpO w 78 2120 2120 0 0 0 2120) (bw (wcp w 78 68 (Int32.toNatClampNeg 0) (Int32.toNatClampNeg 0) (Int32.toNatClampNeg 2120)) (fun w1 => bw (wup w1 67 1 (w1 77 1)) (fun w2 => bw (wup w2 67 2 (w2 77 2)) (fun w3 => some w3))))
set_option maxRecDepth 10000 in
theorem s_Acts_takeOver_67_77 {Z : ZT} {l : Launch} {o : Oc} {wo : Wld} {Ok : Cfg → Prop} (hC : Clo Z l 0 2 prog_2_method_3_code none 1 60 o wo Ok) (w : Wld) : SimK Ok (0, [(0, vR 67), (1, vR 77)], [], w) (F_Acts_takeOver_67_77 w) (Gv o wo) := by
  unfold F_Acts_takeOver_67_77
  refine sim_blk0 hC [(.aload_n 1, 0, 0, 0, 0), (.getfield 11, 77, 0, 80, 0), (.iconst 0, 0, 0, 0, 0), (.aload_n 0, 0, 0, 0, 0), (.getfield 11, 67, 0, 70, 0), (.iconst 0, 0, 0, 0, 0), (.aload_n 0, 0, 0, 0, 0), (.getfield 11, 67, 0, 70, 0), (.arraylength, 68, 2120, 0, 2120)] [(0, vR 67), (1, vR 77)] [vI 2120, vI 0, vR 68, vI 0, vR 78] w 15 (by decide +kernel) rfl rfl ?_
  refine sim_copy hC 24 78 68 2120 2120 0 (by decide +kernel) (by decide) (by decide) (by decide +kernel) (by decide +kernel) rfl rfl rfl (fun w1 => ?_)
  refine sim_blk0 hC [(.aload_n 0, 0, 0, 0, 0), (.aload_n 1, 0, 0, 0, 0), (.getfield 17, 77, 1, 0, 0), (.putfield 17, 67, 1, 0, 0)] [(0, vR 67), (1, vR 77)] [] (wup w1 67 1 (w1 77 1)) 26 (by decide +kernel) rfl rfl ?_
  refine sim_bw (C := fun w2 => (26, [(0, vR 67), (1, vR 77)], [], w2)) (fun w2 => ?_)
  refine sim_blk0 hC [(.aload_n 0, 0, 0, 0, 0), (.aload_n 1, 0, 0, 0, 0), (.getfield 21, 77, 2, 0, 0), (.putfield 21, 67, 2, 0, 0)] [(0, vR 67), (1, vR 77)] [] (wup w2 67 2 (w2 77 2)) 34 (by decide +kernel) rfl rfl ?_
  refine sim_bw (C := fun w3 => (34, [(0, vR 67), (1, vR 77)], [], w3)) (fun w3 => ?_)
  exact sim_retv hC (by decide +kernel)
theorem c_Acts_takeOver_67_77 {Z : ZT} {l : Launch} (w : Wld) (w1 : Wld) (h : F_Acts_takeOver_67_77 w = some w1) : Con Z l mX0_takeOver 1 60 [vR 67, vR 77] w (.inr none) w1 :=
  Con_of (oc := 0) (by decide +kernel) rfl rfl (fun Ok hC => s_Acts_takeOver_67_77 hC w w1 h ⟨rfl, rfl⟩)
def V_Heard_takeOver_69_79_10 : (Int32 × Wld) → Cfg := fun s => (10, [(0, vR 69), (1, vR 79), (2, vI s.1)], [], s.2)
def E_Heard_takeOver_69_79_10 : (Wld) → Cfg := fun s => (60, [], [], s)
noncomputable def B_Heard_takeOver_69_79_10 (s : Int32 × Wld) : Option ((Int32 × Wld) ⊕ (Wld)) :=
  br ((s.2 69 3) ≤ s.1) (some (.inr s.2)) (gd (vp_in s.1 8) (gd (vp_in s.1 8) (bw (wup s.2 70 (Int32.toNatClampNeg s.1) (s.2 80 (Int32.toNatClampNeg s.1))) (fun w2 => gd (vp_in s.1 8) (gd (vp_in s.1 8) (bw (wup w2 71 (Int32.toNatClampNeg s.1) (w2 81 (Int32.toNatClampNeg s.1))) (fun w3 => gd (vp_in s.1 8) (gd (vp_in s.1 8) (bw (wup w3 72 (Int32.toNatClampNeg s.1) (vp_nar .boolean (w3 82 (Int32.toNatClampNeg s.1)))) (fun w4 => bi (s.1 + 1) (fun i5 => some (.inl ((i5, w4))))))))))))))
set_option maxRecDepth 10000 in
theorem s_B_Heard_takeOver_69_79_10 {Z : ZT} {l : Launch} {o : Oc} {wo : Wld} {Ok : Cfg → Prop} (hC : Clo Z l 2 3 prog_4_method_3_code none 1 0 o wo Ok) (s : Int32 × Wld) : SimK Ok (V_Heard_takeOver_69_79_10 s) (B_Heard_takeOver_69_79_10 s) (GLp Ok (V_Heard_takeOver_69_79_10) (GEp Ok (E_Heard_takeOver_69_79_10))) := by
  unfold B_Heard_takeOver_69_79_10
  show SimK Ok (10, [(0, vR 69), (1, vR 79), (2, vI s.1)], [], s.2) _ _
  refine sim_blk0 hC [(.iload_n 2, 0, 0, 0, 0), (.aload_n 0, 0, 0, 0, 0), (.getfield 22, 69, 3, 0, 0)] [(0, vR 69), (1, vR 79), (2, vI s.1)] [vI (s.2 69 3), vI s.1] s.2 15 (by decide +kernel) rfl rfl ?_
  refine sim_br hC (.if_icmp .ge 45) 60 (by decide +kernel) rfl (by decide) ?_ ?_
  · refine sim_sub hC [] ?_
    exact sim_exit (E := (E_Heard_takeOver_69_79_10)) s.2
  · refine sim_blk2 hC [(.aload_n 0, 0, 0, 0, 0), (.getfield 9, 69, 0, 72, 0), (.iload_n 2, 0, 0, 0, 0), (.aload_n 1, 0, 0, 0, 0), (.getfield 9, 79, 0, 82, 0), (.iload_n 2, 0, 0, 0, 0), (.iaload, 80, 8, 0, 0), (.iastore, 70, 8, 0, 0)] [(0, vR 69), (1, vR 79), (2, vI s.1)] [] (wup s.2 70 (Int32.toNatClampNeg s.1) (s.2 80 (Int32.toNatClampNeg s.1))) 30 (by decide +kernel) rfl rfl ?_
    refine sim_bw (C := fun w2 => (30, [(0, vR 69), (1, vR 79), (2, vI s.1)], [], w2)) (fun w2 => ?_)
    refine sim_blk2 hC [(.aload_n 0, 0, 0, 0, 0), (.getfield 15, 69, 1, 73, 0), (.iload_n 2, 0, 0, 0, 0), (.aload_n 1, 0, 0, 0, 0), (.getfield 15, 79, 1, 83, 0), (.iload_n 2, 0, 0, 0, 0), (.iaload, 81, 8, 0, 0), (.iastore, 71, 8, 0, 0)] [(0, vR 69), (1, vR 79), (2, vI s.1)] [] (wup w2 71 (Int32.toNatClampNeg s.1) (w2 81 (Int32.toNatClampNeg s.1))) 42 (by decide +kernel) rfl rfl ?_
    refine sim_bw (C := fun w3 => (42, [(0, vR 69), (1, vR 79), (2, vI s.1)], [], w3)) (fun w3 => ?_)
    refine sim_blk2 hC [(.aload_n 0, 0, 0, 0, 0), (.getfield 18, 69, 2, 74, 0), (.iload_n 2, 0, 0, 0, 0), (.aload_n 1, 0, 0, 0, 0), (.getfield 18, 79, 2, 84, 0), (.iload_n 2, 0, 0, 0, 0), (.baload, 82, 8, 2, 0), (.bastore, 72, 8, 2, 0)] [(0, vR 69), (1, vR 79), (2, vI s.1)] [] (wup w3 72 (Int32.toNatClampNeg s.1) (vp_nar .boolean (w3 82 (Int32.toNatClampNeg s.1)))) 54 (by decide +kernel) rfl rfl ?_
    refine sim_bw (C := fun w4 => (54, [(0, vR 69), (1, vR 79), (2, vI s.1)], [], w4)) (fun w4 => ?_)
    refine sim_blk0 hC [(.iinc 2 1, 0, 0, 0, 1)] [(0, vR 69), (1, vR 79), (2, vI (s.1 + 1))] [] w4 57 (by decide +kernel) rfl rfl ?_
    refine sim_bi (C := fun i5 => (57, [(0, vR 69), (1, vR 79), (2, vI i5)], [], w4)) (fun i5 => ?_)
    refine sim_goto hC (-47) 10 (by decide +kernel) (by decide) ?_
    exact sim_back (V := (V_Heard_takeOver_69_79_10)) ((i5, w4))
noncomputable def F_Heard_takeOver_69_79 (w : Wld) : Option (Wld) :=
  bw (wup w 69 3 (w 79 3)) (fun w1 => bl (loop (B_Heard_takeOver_69_79_10) ((0, w1))) (fun r6 => some r6))
set_option maxRecDepth 10000 in
theorem s_Heard_takeOver_69_79 {Z : ZT} {l : Launch} {o : Oc} {wo : Wld} {Ok : Cfg → Prop} (hC : Clo Z l 2 3 prog_4_method_3_code none 1 0 o wo Ok) (w : Wld) : SimK Ok (0, [(0, vR 69), (1, vR 79)], [], w) (F_Heard_takeOver_69_79 w) (Gv o wo) := by
  unfold F_Heard_takeOver_69_79
  refine sim_blk0 hC [(.aload_n 0, 0, 0, 0, 0), (.aload_n 1, 0, 0, 0, 0), (.getfield 22, 79, 3, 0, 0), (.putfield 22, 69, 3, 0, 0)] [(0, vR 69), (1, vR 79)] [] (wup w 69 3 (w 79 3)) 8 (by decide +kernel) rfl rfl ?_
  refine sim_bw (C := fun w1 => (8, [(0, vR 69), (1, vR 79)], [], w1)) (fun w1 => ?_)
  refine sim_blk0 hC [(.iconst 0, 0, 0, 0, 0), (.istore_n 2, 0, 0, 0, 0)] [(0, vR 69), (1, vR 79), (2, vI 0)] [] w1 10 (by decide +kernel) rfl rfl ?_
  refine sim_bl (E := (E_Heard_takeOver_69_79_10)) ?_ (fun r6 => ?_)
  · exact sim_loop (V := (V_Heard_takeOver_69_79_10)) (fun sz => s_B_Heard_takeOver_69_79_10 hC sz) ((0, w1))
  · show SimK Ok (60, [], [], r6) _ _
    exact sim_retv hC (by decide +kernel)
theorem c_Heard_takeOver_69_79 {Z : ZT} {l : Launch} (w : Wld) (w1 : Wld) (h : F_Heard_takeOver_69_79 w = some w1) : Con Z l mX2_takeOver 1 0 [vR 69, vR 79] w (.inr none) w1 :=
  Con_of (oc := 2) (by decide +kernel) rfl rfl (fun Ok hC => s_Heard_takeOver_69_79 hC w w1 h ⟨rfl, rfl⟩)
noncomputable def F_Book_takeOver_64_74 (w : Wld) : Option (Wld) :=
  bv (F_State_takeOver_65_75 w) (fun w1 => bv (F_Acts_takeOver_67_77 w1) (fun w2 => bv (F_Heard_takeOver_69_79 w2) (fun w3 => gd (cpO w3 83 3 3 0 0 0 3) (bw (wcp w3 83 73 (Int32.toNatClampNeg 0) (Int32.toNatClampNeg 0) (Int32.toNatClampNeg 3)) (fun w4 => some w4)))))
set_option maxRecDepth 10000 in
theorem s_Book_takeOver_64_74 {Z : ZT} {l : Launch} {o : Oc} {wo : Wld} {Ok : Cfg → Prop} (hC : Clo Z l 1 2 prog_3_method_2_code none 2 81 o wo Ok) (w : Wld) : SimK Ok (0, [(0, vR 64), (1, vR 74)], [], w) (F_Book_takeOver_64_74 w) (Gv o wo) := by
  unfold F_Book_takeOver_64_74
  refine sim_blk0 hC [(.aload_n 0, 0, 0, 0, 0), (.getfield 12, 64, 0, 67, 0), (.aload_n 1, 0, 0, 0, 0), (.getfield 12, 74, 0, 77, 0)] [(0, vR 64), (1, vR 74)] [vR 75, vR 65] w 8 (by decide +kernel) rfl rfl ?_
  refine sim_vv hC 36 mX7_takeOver 1 60 65 [vR 75] [] (by decide +kernel) ml_1_36 rfl rfl rfl rfl rfl rfl (fun wz hz => c_State_takeOver_65_75 w wz hz) (fun w1 => ?_)
  refine sim_blk0 hC [(.aload_n 0, 0, 0, 0, 0), (.getfield 21, 64, 1, 69, 0), (.aload_n 1, 0, 0, 0, 0), (.getfield 21, 74, 1, 79, 0)] [(0, vR 64), (1, vR 74)] [vR 77, vR 67] w1 19 (by decide +kernel) rfl rfl ?_
  refine sim_vv hC 40 mX0_takeOver 1 60 67 [vR 77] [] (by decide +kernel) ml_1_40 rfl rfl rfl rfl rfl rfl (fun wz hz => c_Acts_takeOver_67_77 w1 wz hz) (fun w2 => ?_)
  refine sim_blk0 hC [(.aload_n 0, 0, 0, 0, 0), (.getfield 28, 64, 2, 71, 0), (.aload_n 1, 0, 0, 0, 0), (.getfield 28, 74, 2, 81, 0)] [(0, vR 64), (1, vR 74)] [vR 79, vR 69] w2 30 (by decide +kernel) rfl rfl ?_
  refine sim_vv hC 43 mX2_takeOver 1 0 69 [vR 79] [] (by decide +kernel) ml_1_43 rfl rfl rfl rfl rfl rfl (fun wz hz => c_Heard_takeOver_69_79 w2 wz hz) (fun w3 => ?_)
  refine sim_blk0 hC [(.aload_n 1, 0, 0, 0, 0), (.getfield 32, 74, 3, 85, 0), (.iconst 0, 0, 0, 0, 0), (.aload_n 0, 0, 0, 0, 0), (.getfield 32, 64, 3, 75, 0), (.iconst 0, 0, 0, 0, 0), (.iconst 3, 0, 0, 0, 3)] [(0, vR 64), (1, vR 74)] [vI 3, vI 0, vR 73, vI 0, vR 83] w3 44 (by decide +kernel) rfl rfl ?_
  refine sim_copy hC 46 83 73 3 3 0 (by decide +kernel) (by decide) (by decide) (by decide +kernel) (by decide +kernel) rfl rfl rfl (fun w4 => ?_)
  exact sim_retv hC (by decide +kernel)
theorem c_Book_takeOver_64_74 {Z : ZT} {l : Launch} (w : Wld) (w1 : Wld) (h : F_Book_takeOver_64_74 w = some w1) : Con Z l mX1_takeOver 2 81 [vR 64, vR 74] w (.inr none) w1 :=
  Con_of (oc := 1) (by decide +kernel) rfl rfl (fun Ok hC => s_Book_takeOver_64_74 hC w w1 h ⟨rfl, rfl⟩)
noncomputable def K_C_restore_18 (w : Wld) : Option (Int32 × Wld) :=
  gd ((w 42 8) = 0 ∨ (w 42 8) = 1) (some ((w 42 8, w)))
set_option maxRecDepth 10000 in
theorem s_K_C_restore_18 {Z : ZT} {l : Launch} {o : Oc} {wo : Wld} {Ok : Cfg → Prop} (hC : Clo Z l 9 1 prog_1_method_64_code (some .boolean) 3 102 o wo Ok) (w : Wld) : SimK Ok (18, [(0, vR 42)], [], w) (K_C_restore_18 w) (Gi o wo) := by
  unfold K_C_restore_18
  refine sim_blk0 hC [(.aload_n 0, 0, 0, 0, 0), (.getfield 49, 42, 8, 0, 0)] [(0, vR 42)] [vI (w 42 8)] w 22 (by decide +kernel) rfl rfl ?_
  exact sim_retiz hC (by decide +kernel) rfl
noncomputable def F_C_restore (w : Wld) : Option (Int32 × Wld) :=
  br ((w 42 8) = 0) (K_C_restore_18 w) (bv (F_Book_takeOver_64_74 w) (fun w1 => K_C_restore_18 w1))
set_option maxRecDepth 10000 in
theorem s_C_restore {Z : ZT} {l : Launch} {o : Oc} {wo : Wld} {Ok : Cfg → Prop} (hC : Clo Z l 9 1 prog_1_method_64_code (some .boolean) 3 102 o wo Ok) (w : Wld) : SimK Ok (0, [(0, vR 42)], [], w) (F_C_restore w) (Gi o wo) := by
  unfold F_C_restore
  refine sim_blk0 hC [(.aload_n 0, 0, 0, 0, 0), (.getfield 49, 42, 8, 0, 0)] [(0, vR 42)] [vI (w 42 8)] w 4 (by decide +kernel) rfl rfl ?_
  refine sim_br hC (.ifCond .eq 14) 18 (by decide +kernel) rfl (by decide) ?_ ?_
  · exact s_K_C_restore_18 hC w
  · refine sim_blk0 hC [(.aload_n 0, 0, 0, 0, 0), (.getfield 42, 42, 6, 66, 0), (.aload_n 0, 0, 0, 0, 0), (.getfield 46, 42, 7, 76, 0)] [(0, vR 42)] [vR 74, vR 64] w 15 (by decide +kernel) rfl rfl ?_
    refine sim_vv hC 320 mX1_takeOver 2 81 64 [vR 74] [] (by decide +kernel) ml_9_320 rfl rfl rfl rfl rfl rfl (fun wz hz => c_Book_takeOver_64_74 w wz hz) (fun w1 => ?_)
    exact s_K_C_restore_18 hC w1
theorem c_C_restore {Z : ZT} {l : Launch} (w : Wld) (r : Int32) (w1 : Wld) (h : F_C_restore w = some (r, w1)) : Con Z l mX10_restore 3 102 [vR 42] w (.inr (some r)) w1 :=
  Con_of (oc := 9) (by decide +kernel) rfl rfl (fun Ok hC => s_C_restore hC w (r, w1) h ⟨rfl, rfl⟩)
noncomputable def K_C_needWithin_10 (w : Wld) : Option (Option Nat) :=
  some (some 1)
set_option maxRecDepth 10000 in
theorem s_K_C_needWithin_10 {Z : ZT} {l : Launch} {o : Oc} {wo : Wld} {Ok : Cfg → Prop} (hC : Clo Z l 9 3 prog_1_method_68_code none 6 89 o wo Ok) (w : Wld) : SimK Ok (10, [], [], w) (K_C_needWithin_10 w) (Gn o wo w) := by
  unfold K_C_needWithin_10
  exact sim_thrn hC 294 296 1 (by decide +kernel) (by decide +kernel) (by decide +kernel) (by decide +kernel) rfl rfl rfl rfl
noncomputable def F_C_needWithin (w : Wld) (a0 : Int32) (a1 : Int32) (a2 : Int32) : Option (Option Nat) :=
  br (a0 < a1) (K_C_needWithin_10 w) (br (a0 ≤ a2) (some none) (K_C_needWithin_10 w))
set_option maxRecDepth 10000 in
theorem s_C_needWithin {Z : ZT} {l : Launch} {o : Oc} {wo : Wld} {Ok : Cfg → Prop} (hC : Clo Z l 9 3 prog_1_method_68_code none 6 89 o wo Ok) (w : Wld) (a0 : Int32) (a1 : Int32) (a2 : Int32) : SimK Ok (0, [(0, vI a0), (1, vI a1), (2, vI a2)], [], w) (F_C_needWithin w a0 a1 a2) (Gn o wo w) := by
  unfold F_C_needWithin
  refine sim_blk0 hC [(.iload_n 0, 0, 0, 0, 0), (.iload_n 1, 0, 0, 0, 0)] [(0, vI a0), (1, vI a1), (2, vI a2)] [vI a1, vI a0] w 2 (by decide +kernel) rfl rfl ?_
  refine sim_br hC (.if_icmp .lt 8) 10 (by decide +kernel) rfl (by decide) ?_ ?_
  · refine sim_sub hC [] ?_
    exact s_K_C_needWithin_10 hC w
  · refine sim_blk0 hC [(.iload_n 0, 0, 0, 0, 0), (.iload_n 2, 0, 0, 0, 0)] [(0, vI a0), (1, vI a1), (2, vI a2)] [vI a2, vI a0] w 7 (by decide +kernel) rfl rfl ?_
    refine sim_br hC (.if_icmp .le 11) 18 (by decide +kernel) rfl (by decide) ?_ ?_
    · exact sim_retn hC (by decide +kernel)
    · refine sim_sub hC [] ?_
      exact s_K_C_needWithin_10 hC w
theorem c_C_needWithin {Z : ZT} {l : Launch} (w : Wld) (a0 : Int32) (a1 : Int32) (a2 : Int32) (q : Option Nat) (h : F_C_needWithin w a0 a1 a2 = some q) : Con Z l mX10_needWithin 6 89 [vI a0, vI a1, vI a2] w (ocN q) w :=
  Con_of (oc := 9) (by decide +kernel) rfl rfl (fun Ok hC => s_C_needWithin hC w a0 a1 a2 q h ⟨rfl, rfl⟩)
noncomputable def F_House_clear_47 (w : Wld) : Option (Wld) :=
  bw (wup w 47 0 0) (fun w1 => bw (wup w1 47 1 0) (fun w2 => bw (wup w2 47 2 20) (fun w3 => bw (wup w3 47 3 10) (fun w4 => bw (wup w4 50 2 0) (fun w5 => some w5)))))
set_option maxRecDepth 10000 in
theorem s_House_clear_47 {Z : ZT} {l : Launch} {o : Oc} {wo : Wld} {Ok : Cfg → Prop} (hC : Clo Z l 3 1 prog_5_method_2_code none 1 0 o wo Ok) (w : Wld) : SimK Ok (0, [(0, vR 47)], [], w) (F_House_clear_47 w) (Gv o wo) := by
  unfold F_House_clear_47
  refine sim_blk0 hC [(.aload_n 0, 0, 0, 0, 0), (.iconst 0, 0, 0, 0, 0), (.putfield 9, 47, 0, 0, 0)] [(0, vR 47)] [] (wup w 47 0 0) 5 (by decide +kernel) rfl rfl ?_
  refine sim_bw (C := fun w1 => (5, [(0, vR 47)], [], w1)) (fun w1 => ?_)
  refine sim_blk0 hC [(.aload_n 0, 0, 0, 0, 0), (.iconst 0, 0, 0, 0, 0), (.putfield 15, 47, 1, 0, 0)] [(0, vR 47)] [] (wup w1 47 1 0) 10 (by decide +kernel) rfl rfl ?_
  refine sim_bw (C := fun w2 => (10, [(0, vR 47)], [], w2)) (fun w2 => ?_)
  refine sim_blk0 hC [(.aload_n 0, 0, 0, 0, 0), (.bipush 20, 0, 0, 0, 20), (.putfield 18, 47, 2, 0, 0)] [(0, vR 47)] [] (wup w2 47 2 20) 16 (by decide +kernel) rfl rfl ?_
  refine sim_bw (C := fun w3 => (16, [(0, vR 47)], [], w3)) (fun w3 => ?_)
  refine sim_blk0 hC [(.aload_n 0, 0, 0, 0, 0), (.bipush 10, 0, 0, 0, 10), (.putfield 21, 47, 3, 0, 0)] [(0, vR 47)] [] (wup w3 47 3 10) 22 (by decide +kernel) rfl rfl ?_
  refine sim_bw (C := fun w4 => (22, [(0, vR 47)], [], w4)) (fun w4 => ?_)
  refine sim_blk0 hC [(.aload_n 0, 0, 0, 0, 0), (.getfield 34, 47, 6, 52, 0), (.iconst 0, 0, 0, 0, 0), (.putfield 38, 50, 2, 0, 0)] [(0, vR 47)] [] (wup w4 50 2 0) 30 (by decide +kernel) rfl rfl ?_
  refine sim_bw (C := fun w5 => (30, [(0, vR 47)], [], w5)) (fun w5 => ?_)
  exact sim_retv hC (by decide +kernel)
theorem c_House_clear_47 {Z : ZT} {l : Launch} (w : Wld) (w1 : Wld) (h : F_House_clear_47 w = some w1) : Con Z l mX3_clear 1 0 [vR 47] w (.inr none) w1 :=
  Con_of (oc := 3) (by decide +kernel) rfl rfl (fun Ok hC => s_House_clear_47 hC w w1 h ⟨rfl, rfl⟩)
def V_JA_fill_54_5 (a1 : Int32) (a3 : Int32) : (Int32 × Wld) → Cfg := fun s => (5, [(0, vR 54), (1, vI a1), (2, vI s.1), (3, vI a3)], [], s.2)
def E_JA_fill_54_5 (a1 : Int32) (a3 : Int32) : (Wld) → Cfg := fun s => (20, [], [], s)
noncomputable def B_JA_fill_54_5 (a1 : Int32) (a3 : Int32) (s : Int32 × Wld) : Option ((Int32 × Wld) ⊕ (Wld)) :=
  br (a3 ≤ s.1) (some (.inr s.2)) (gd (vp_in s.1 53) (bw (wup s.2 54 (Int32.toNatClampNeg s.1) a1) (fun w1 => bi (s.1 + 1) (fun i2 => some (.inl ((i2, w1)))))))
set_option maxRecDepth 10000 in
theorem s_B_JA_fill_54_5 {Z : ZT} {l : Launch} {o : Oc} {wo : Wld} {Ok : Cfg → Prop} (hC : Clo Z l 13 4 prog_30_method_103_code none 1 0 o wo Ok) (a1 : Int32) (a3 : Int32) (s : Int32 × Wld) : SimK Ok (V_JA_fill_54_5 a1 a3 s) (B_JA_fill_54_5 a1 a3 s) (GLp Ok (V_JA_fill_54_5 a1 a3) (GEp Ok (E_JA_fill_54_5 a1 a3))) := by
  unfold B_JA_fill_54_5
  show SimK Ok (5, [(0, vR 54), (1, vI a1), (2, vI s.1), (3, vI a3)], [], s.2) _ _
  refine sim_blk0 hC [(.iload_n 2, 0, 0, 0, 0), (.iload_n 3, 0, 0, 0, 0)] [(0, vR 54), (1, vI a1), (2, vI s.1), (3, vI a3)] [vI a3, vI s.1] s.2 7 (by decide +kernel) rfl rfl ?_
  refine sim_br hC (.if_icmp .ge 13) 20 (by decide +kernel) rfl (by decide) ?_ ?_
  · refine sim_sub hC [] ?_
    exact sim_exit (E := (E_JA_fill_54_5 a1 a3)) s.2
  · refine sim_blk1 hC [(.aload_n 0, 0, 0, 0, 0), (.iload_n 2, 0, 0, 0, 0), (.iload_n 1, 0, 0, 0, 0), (.iastore, 54, 53, 0, 0)] [(0, vR 54), (1, vI a1), (2, vI s.1), (3, vI a3)] [] (wup s.2 54 (Int32.toNatClampNeg s.1) a1) 14 (by decide +kernel) rfl rfl ?_
    refine sim_bw (C := fun w1 => (14, [(0, vR 54), (1, vI a1), (2, vI s.1), (3, vI a3)], [], w1)) (fun w1 => ?_)
    refine sim_blk0 hC [(.iinc 2 1, 0, 0, 0, 1)] [(0, vR 54), (1, vI a1), (2, vI (s.1 + 1)), (3, vI a3)] [] w1 17 (by decide +kernel) rfl rfl ?_
    refine sim_bi (C := fun i2 => (17, [(0, vR 54), (1, vI a1), (2, vI i2), (3, vI a3)], [], w1)) (fun i2 => ?_)
    refine sim_goto hC (-12) 5 (by decide +kernel) (by decide) ?_
    exact sim_back (V := (V_JA_fill_54_5 a1 a3)) ((i2, w1))
noncomputable def F_JA_fill_54 (w : Wld) (a1 : Int32) : Option (Wld) :=
  bl (loop (B_JA_fill_54_5 a1 53) ((0, w))) (fun r3 => some r3)
set_option maxRecDepth 10000 in
theorem s_JA_fill_54 {Z : ZT} {l : Launch} {o : Oc} {wo : Wld} {Ok : Cfg → Prop} (hC : Clo Z l 13 4 prog_30_method_103_code none 1 0 o wo Ok) (w : Wld) (a1 : Int32) : SimK Ok (0, [(0, vR 54), (1, vI a1)], [], w) (F_JA_fill_54 w a1) (Gv o wo) := by
  unfold F_JA_fill_54
  refine sim_blk0 hC [(.iconst 0, 0, 0, 0, 0), (.istore_n 2, 0, 0, 0, 0), (.aload_n 0, 0, 0, 0, 0), (.arraylength, 54, 53, 0, 53), (.istore_n 3, 0, 0, 0, 0)] [(0, vR 54), (1, vI a1), (2, vI 0), (3, vI 53)] [] w 5 (by decide +kernel) rfl rfl ?_
  refine sim_bl (E := (E_JA_fill_54_5 a1 53)) ?_ (fun r3 => ?_)
  · exact sim_loop (V := (V_JA_fill_54_5 a1 53)) (fun sz => s_B_JA_fill_54_5 hC a1 53 sz) ((0, w))
  · show SimK Ok (20, [], [], r3) _ _
    exact sim_retv hC (by decide +kernel)
theorem c_JA_fill_54 {Z : ZT} {l : Launch} (w : Wld) (a1 : Int32) (w1 : Wld) (h : F_JA_fill_54 w a1 = some w1) : Con Z l mJ7_fill_53178 1 0 [vR 54, vI a1] w (.inr none) w1 :=
  Con_of (oc := 13) (by decide +kernel) rfl rfl (fun Ok hC => s_JA_fill_54 hC w a1 w1 h ⟨rfl, rfl⟩)
noncomputable def F_State_clear_53 (w : Wld) : Option (Wld) :=
  bv (F_JA_fill_54 w 0) (fun w1 => some w1)
set_option maxRecDepth 10000 in
theorem s_State_clear_53 {Z : ZT} {l : Launch} {o : Oc} {wo : Wld} {Ok : Cfg → Prop} (hC : Clo Z l 7 1 prog_9_method_2_code none 2 23 o wo Ok) (w : Wld) : SimK Ok (0, [(0, vR 53)], [], w) (F_State_clear_53 w) (Gv o wo) := by
  unfold F_State_clear_53
  refine sim_blk0 hC [(.aload_n 0, 0, 0, 0, 0), (.getfield 11, 53, 0, 56, 0), (.iconst 0, 0, 0, 0, 0)] [(0, vR 53)] [vI 0, vR 54] w 5 (by decide +kernel) rfl rfl ?_
  refine sim_sv hC 15 mJ7_fill_53178 1 0 [vR 54, vI 0] [] (by decide +kernel) ml_7_15 rfl rfl rfl rfl rfl (fun wz hz => c_JA_fill_54 w 0 wz hz) (fun w1 => ?_)
  exact sim_retv hC (by decide +kernel)
theorem c_State_clear_53 {Z : ZT} {l : Launch} (w : Wld) (w1 : Wld) (h : F_State_clear_53 w = some w1) : Con Z l mX7_clear 2 23 [vR 53] w (.inr none) w1 :=
  Con_of (oc := 7) (by decide +kernel) rfl rfl (fun Ok hC => s_State_clear_53 hC w w1 h ⟨rfl, rfl⟩)
noncomputable def K_Tokens_isLetter_17 (t0 : Int32) (w : Wld) : Option (Int32) :=
  gd (t0 = 0 ∨ t0 = 1) (some t0)
set_option maxRecDepth 10000 in
theorem s_K_Tokens_isLetter_17 {Z : ZT} {l : Launch} {o : Oc} {wo : Wld} {Ok : Cfg → Prop} (hC : Clo Z l 8 1 prog_10_method_6_code (some .boolean) 1 0 o wo Ok) (t0 : Int32) (w : Wld) : SimK Ok (17, [], [vI t0], w) (K_Tokens_isLetter_17 t0 w) (Gp o wo w) := by
  unfold K_Tokens_isLetter_17
  exact sim_retpz hC (by decide +kernel) rfl
noncomputable def K_Tokens_isLetter_16 (w : Wld) : Option (Int32) :=
  K_Tokens_isLetter_17 0 w
set_option maxRecDepth 10000 in
theorem s_K_Tokens_isLetter_16 {Z : ZT} {l : Launch} {o : Oc} {wo : Wld} {Ok : Cfg → Prop} (hC : Clo Z l 8 1 prog_10_method_6_code (some .boolean) 1 0 o wo Ok) (w : Wld) : SimK Ok (16, [], [], w) (K_Tokens_isLetter_16 w) (Gp o wo w) := by
  unfold K_Tokens_isLetter_16
  refine sim_blk0 hC [(.iconst 0, 0, 0, 0, 0)] [] [vI 0] w 17 (by decide +kernel) rfl rfl ?_
  exact s_K_Tokens_isLetter_17 hC 0 w
noncomputable def F_Tokens_isLetter (w : Wld) (a0 : Int32) : Option (Int32) :=
  br (a0 < 97) (K_Tokens_isLetter_16 w) (br ((122 : Int32) < a0) (K_Tokens_isLetter_16 w) (K_Tokens_isLetter_17 1 w))
set_option maxRecDepth 10000 in
theorem s_Tokens_isLetter {Z : ZT} {l : Launch} {o : Oc} {wo : Wld} {Ok : Cfg → Prop} (hC : Clo Z l 8 1 prog_10_method_6_code (some .boolean) 1 0 o wo Ok) (w : Wld) (a0 : Int32) : SimK Ok (0, [(0, vI a0)], [], w) (F_Tokens_isLetter w a0) (Gp o wo w) := by
  unfold F_Tokens_isLetter
  refine sim_blk0 hC [(.iload_n 0, 0, 0, 0, 0), (.bipush 97, 0, 0, 0, 97)] [(0, vI a0)] [vI 97, vI a0] w 3 (by decide +kernel) rfl rfl ?_
  refine sim_br hC (.if_icmp .lt 13) 16 (by decide +kernel) rfl (by decide) ?_ ?_
  · refine sim_sub hC [] ?_
    exact s_K_Tokens_isLetter_16 hC w
  · refine sim_blk0 hC [(.iload_n 0, 0, 0, 0, 0), (.bipush 122, 0, 0, 0, 122)] [(0, vI a0)] [vI 122, vI a0] w 9 (by decide +kernel) rfl rfl ?_
    refine sim_br hC (.if_icmp .gt 7) 16 (by decide +kernel) rfl (by decide) ?_ ?_
    · refine sim_sub hC [] ?_
      exact s_K_Tokens_isLetter_16 hC w
    · refine sim_blk0 hC [(.iconst 1, 0, 0, 0, 1)] [(0, vI a0)] [vI 1] w 13 (by decide +kernel) rfl rfl ?_
      refine sim_goto hC 4 17 (by decide +kernel) (by decide) ?_
      refine sim_sub hC [] ?_
      exact s_K_Tokens_isLetter_17 hC 1 w
theorem c_Tokens_isLetter {Z : ZT} {l : Launch} (w : Wld) (a0 : Int32) (r : Int32) (h : F_Tokens_isLetter w a0 = some r) : Con Z l mX8_isLetter 1 0 [vI a0] w (.inr (some r)) w :=
  Con_of (oc := 8) (by decide +kernel) rfl rfl (fun Ok hC => s_Tokens_isLetter hC w a0 r h ⟨rfl, rfl⟩)
noncomputable def K_String_coder_14 (t0 : Int32) (w : Wld) : Option (Int32) :=
  gd (narrow .byte (.int t0) = .int t0) (some t0)
set_option maxRecDepth 10000 in
theorem s_K_String_coder_14 {Z : ZT} {l : Launch} {o : Oc} {wo : Wld} {Ok : Cfg → Prop} (hD : Clo3 Z l 15 1 prog_23_method_152_code (some .byte) 1 0 o wo Ok) (t0 : Int32) (w : Wld) : SimK Ok (14, [], [vI t0], w) (K_String_coder_14 t0 w) (Gp o wo w) := by
  unfold K_String_coder_14
  have hC := hD.1
  have hC2 := hD.2
  exact sim_retpn hC2 .byte (by decide +kernel) rfl
noncomputable def F_String_coder (w : Wld) (a0 : Nat) : Option (Int32) :=
  br ((1 : Int32) = 0) (K_String_coder_14 1 w) (gd (a0 < 19) (K_String_coder_14 0 w))
set_option maxRecDepth 10000 in
theorem s_String_coder {Z : ZT} {l : Launch} {o : Oc} {wo : Wld} {Ok : Cfg → Prop} (hD : Clo3 Z l 15 1 prog_23_method_152_code (some .byte) 1 0 o wo Ok) (w : Wld) (a0 : Nat) : SimK Ok (0, [(0, vS a0)], [], w) (F_String_coder w a0) (Gp o wo w) := by
  unfold F_String_coder
  have hC := hD.1
  have hC2 := hD.2
  refine sim_cmps hC2 (by decide +kernel) ?_
  refine sim_br hC (.ifCond .eq 10) 13 (by decide +kernel) rfl (by decide) ?_ ?_
  · refine sim_blk0 hC [(.iconst 1, 0, 0, 0, 1)] [(0, vS a0)] [vI 1] w 14 (by decide +kernel) rfl rfl ?_
    refine sim_sub hC [] ?_
    exact s_K_String_coder_14 hD 1 w
  · refine sim_blk0 hC [(.aload_n 0, 0, 0, 0, 0)] [(0, vS a0)] [vS a0] w 7 (by decide +kernel) rfl rfl ?_
    refine sim_scod hC2 (by decide +kernel) ?_
    refine sim_goto hC 4 14 (by decide +kernel) (by decide) ?_
    refine sim_sub hC [] ?_
    exact s_K_String_coder_14 hD 0 w
theorem c_String_coder {Z : ZT} {l : Launch} (w : Wld) (a0 : Nat) (r : Int32) (h : F_String_coder w a0 = some r) : Con Z l mJ0_coder_7d493 1 0 [vS a0] w (.inr (some r)) w :=
  Con_of3 (oc := 15) (by decide +kernel) rfl rfl (fun Ok hC => s_String_coder hC w a0 r h ⟨rfl, rfl⟩)
noncomputable def F_String_length (w : Wld) (a0 : Nat) : Option (Int32) :=
  gd (a0 < 19) (gd (a0 < 19) (gd (a0 < 19) (bp (F_String_coder w a0) (fun i1 => some ((Int32.ofNat (lenJS.getD a0 0)) >>> (i1 &&& 31))))))
set_option maxRecDepth 10000 in
theorem s_String_length {Z : ZT} {l : Launch} {o : Oc} {wo : Wld} {Ok : Cfg → Prop} (hD : Clo3 Z l 15 1 prog_23_method_54_code (some .int) 2 20 o wo Ok) (w : Wld) (a0 : Nat) : SimK Ok (0, [(0, vS a0)], [], w) (F_String_length w a0) (Gp o wo w) := by
  unfold F_String_length
  have hC := hD.1
  have hC2 := hD.2
  refine sim_blk0 hC [(.aload_n 0, 0, 0, 0, 0)] [(0, vS a0)] [vS a0] w 1 (by decide +kernel) rfl rfl ?_
  refine sim_sval hC2 (by decide +kernel) ?_
  refine sim_sblen hC2 (by decide +kernel) ?_
  refine sim_blk0 hC [(.aload_n 0, 0, 0, 0, 0)] [(0, vS a0)] [vS a0, vI (Int32.ofNat (lenJS.getD a0 0))] w 6 (by decide +kernel) rfl rfl ?_
  refine sim_zp hC2 335 mJ0_coder_7d493 1 0 [] [vI (Int32.ofNat (lenJS.getD a0 0))] (by decide +kernel) ml_15_335 rfl rfl rfl rfl rfl rfl (fun rz hz => c_String_coder w a0 rz hz) (fun i1 => ?_)
  refine sim_blk0 hC [(.ishr, 0, 0, 0, 0)] [(0, vS a0)] [vI ((Int32.ofNat (lenJS.getD a0 0)) >>> (i1 &&& 31))] w 10 (by decide +kernel) rfl rfl ?_
  exact sim_retp hC (by decide +kernel) trivial
theorem c_String_length {Z : ZT} {l : Launch} (w : Wld) (a0 : Nat) (r : Int32) (h : F_String_length w a0 = some r) : Con Z l mJ0_length_8abf5 2 20 [vS a0] w (.inr (some r)) w :=
  Con_of3 (oc := 15) (by decide +kernel) rfl rfl (fun Ok hC => s_String_length hC w a0 r h ⟨rfl, rfl⟩)
noncomputable def K_String_isLatin1_18 (t0 : Int32) (w : Wld) : Option (Int32) :=
  gd (t0 = 0 ∨ t0 = 1) (some t0)
set_option maxRecDepth 10000 in
theorem s_K_String_isLatin1_18 {Z : ZT} {l : Launch} {o : Oc} {wo : Wld} {Ok : Cfg → Prop} (hD : Clo3 Z l 15 1 prog_23_method_154_code (some .boolean) 1 0 o wo Ok) (t0 : Int32) (w : Wld) : SimK Ok (18, [], [vI t0], w) (K_String_isLatin1_18 t0 w) (Gp o wo w) := by
  unfold K_String_isLatin1_18
  have hC := hD.1
  have hC2 := hD.2
  exact sim_retpz hC (by decide +kernel) rfl
noncomputable def K_String_isLatin1_17 (w : Wld) : Option (Int32) :=
  K_String_isLatin1_18 0 w
set_option maxRecDepth 10000 in
theorem s_K_String_isLatin1_17 {Z : ZT} {l : Launch} {o : Oc} {wo : Wld} {Ok : Cfg → Prop} (hD : Clo3 Z l 15 1 prog_23_method_154_code (some .boolean) 1 0 o wo Ok) (w : Wld) : SimK Ok (17, [], [], w) (K_String_isLatin1_17 w) (Gp o wo w) := by
  unfold K_String_isLatin1_17
  have hC := hD.1
  have hC2 := hD.2
  refine sim_blk0 hC [(.iconst 0, 0, 0, 0, 0)] [] [vI 0] w 18 (by decide +kernel) rfl rfl ?_
  exact s_K_String_isLatin1_18 hD 0 w
noncomputable def F_String_isLatin1 (w : Wld) (a0 : Nat) : Option (Int32) :=
  br ((1 : Int32) = 0) (K_String_isLatin1_17 w) (gd (a0 < 19) (br (¬ (0 : Int32) = 0) (K_String_isLatin1_17 w) (K_String_isLatin1_18 1 w)))
set_option maxRecDepth 10000 in
theorem s_String_isLatin1 {Z : ZT} {l : Launch} {o : Oc} {wo : Wld} {Ok : Cfg → Prop} (hD : Clo3 Z l 15 1 prog_23_method_154_code (some .boolean) 1 0 o wo Ok) (w : Wld) (a0 : Nat) : SimK Ok (0, [(0, vS a0)], [], w) (F_String_isLatin1 w a0) (Gp o wo w) := by
  unfold F_String_isLatin1
  have hC := hD.1
  have hC2 := hD.2
  refine sim_cmps hC2 (by decide +kernel) ?_
  refine sim_br hC (.ifCond .eq 14) 17 (by decide +kernel) rfl (by decide) ?_ ?_
  · refine sim_sub hC [] ?_
    exact s_K_String_isLatin1_17 hD w
  · refine sim_blk0 hC [(.aload_n 0, 0, 0, 0, 0)] [(0, vS a0)] [vS a0] w 7 (by decide +kernel) rfl rfl ?_
    refine sim_scod hC2 (by decide +kernel) ?_
    refine sim_br hC (.ifCond .ne 7) 17 (by decide +kernel) rfl (by decide) ?_ ?_
    · refine sim_sub hC [] ?_
      exact s_K_String_isLatin1_17 hD w
    · refine sim_blk0 hC [(.iconst 1, 0, 0, 0, 1)] [(0, vS a0)] [vI 1] w 14 (by decide +kernel) rfl rfl ?_
      refine sim_goto hC 4 18 (by decide +kernel) (by decide) ?_
      refine sim_sub hC [] ?_
      exact s_K_String_isLatin1_18 hD 1 w
theorem c_String_isLatin1 {Z : ZT} {l : Launch} (w : Wld) (a0 : Nat) (r : Int32) (h : F_String_isLatin1 w a0 = some r) : Con Z l mJ0_isLatin1_aae02 1 0 [vS a0] w (.inr (some r)) w :=
  Con_of3 (oc := 15) (by decide +kernel) rfl rfl (fun Ok hC => s_String_isLatin1 hC w a0 r h ⟨rfl, rfl⟩)
noncomputable def F_Latin1_charAt (w : Wld) (a0 : Nat) (a1 : Int32) : Option (Int32) :=
  gd (a0 < 19) (bc (F_String_checkIndex w a1 (Int32.ofNat (lenJS.getD a0 0))) (gd (a0 < 19) (gd (vp_in a1 (lenJS.getD a0 0)) (gd (narrow .char (.int (((((bytJS.getD a0 []).getD (Int32.toNatClampNeg a1) 0) &&& (255 : Int32)).toUInt32 % 65536).toInt32)) = .int (((((bytJS.getD a0 []).getD (Int32.toNatClampNeg a1) 0) &&& (255 : Int32)).toUInt32 % 65536).toInt32)) (some (((((bytJS.getD a0 []).getD (Int32.toNatClampNeg a1) 0) &&& (255 : Int32)).toUInt32 % 65536).toInt32))))))
set_option maxRecDepth 10000 in
theorem s_Latin1_charAt {Z : ZT} {l : Launch} {o : Oc} {wo : Wld} {Ok : Cfg → Prop} (hD : Clo3 Z l 16 2 prog_24_method_2_code (some .char) 3 61 o wo Ok) (w : Wld) (a0 : Nat) (a1 : Int32) : SimK Ok (0, [(0, vS (1000 + a0)), (1, vI a1)], [], w) (F_Latin1_charAt w a0 a1) (Gp o wo w) := by
  unfold F_Latin1_charAt
  have hC := hD.1
  have hC2 := hD.2
  refine sim_blk0 hC [(.iload_n 1, 0, 0, 0, 0), (.aload_n 0, 0, 0, 0, 0)] [(0, vS (1000 + a0)), (1, vI a1)] [vS (1000 + a0), vI a1] w 2 (by decide +kernel) rfl rfl ?_
  refine sim_sblen hC2 (by decide +kernel) ?_
  refine sim_sc hC 9 mJ0_checkIndex_df160 2 40 [vI a1, vI (Int32.ofNat (lenJS.getD a0 0))] [] (by decide +kernel) ml_16_9 rfl rfl rfl rfl rfl (fun hz => c_String_checkIndex w a1 (Int32.ofNat (lenJS.getD a0 0)) hz) ?_
  refine sim_blk0 hC [(.aload_n 0, 0, 0, 0, 0), (.iload_n 1, 0, 0, 0, 0)] [(0, vS (1000 + a0)), (1, vI a1)] [vI a1, vS (1000 + a0)] w 8 (by decide +kernel) rfl rfl ?_
  refine sim_sbald hC2 (by decide +kernel) ?_
  refine sim_blk0 hC [(.sipush 255, 0, 0, 0, 255), (.iand, 0, 0, 0, 0)] [(0, vS (1000 + a0)), (1, vI a1)] [vI (((bytJS.getD a0 []).getD (Int32.toNatClampNeg a1) 0) &&& (255 : Int32))] w 13 (by decide +kernel) rfl rfl ?_
  refine sim_i2c hC2 (by decide +kernel) ?_
  exact sim_retpn hC2 .char (by decide +kernel) rfl
theorem c_Latin1_charAt {Z : ZT} {l : Launch} (w : Wld) (a0 : Nat) (a1 : Int32) (r : Int32) (h : F_Latin1_charAt w a0 a1 = some r) : Con Z l mJ1_charAt_3b067 3 61 [vS (1000 + a0), vI a1] w (.inr (some r)) w :=
  Con_of3 (oc := 16) (by decide +kernel) rfl rfl (fun Ok hC => s_Latin1_charAt hC w a0 a1 r h ⟨rfl, rfl⟩)
noncomputable def F_String_charAt (w : Wld) (a0 : Nat) (a1 : Int32) : Option (Int32) :=
  gd (a0 < 19) (bp (F_String_isLatin1 w a0) (fun i1 => br (i1 = 0) (none) (gd (a0 < 19) (bp (F_Latin1_charAt w a0 a1) (fun i2 => gd (narrow .char (.int i2) = .int i2) (some i2))))))
set_option maxRecDepth 10000 in
theorem s_String_charAt {Z : ZT} {l : Launch} {o : Oc} {wo : Wld} {Ok : Cfg → Prop} (hD : Clo3 Z l 15 2 prog_23_method_56_code (some .char) 4 82 o wo Ok) (w : Wld) (a0 : Nat) (a1 : Int32) : SimK Ok (0, [(0, vS a0), (1, vI a1)], [], w) (F_String_charAt w a0 a1) (Gp o wo w) := by
  unfold F_String_charAt
  have hC := hD.1
  have hC2 := hD.2
  refine sim_blk0 hC [(.aload_n 0, 0, 0, 0, 0)] [(0, vS a0), (1, vI a1)] [vS a0] w 1 (by decide +kernel) rfl rfl ?_
  refine sim_zp hC2 492 mJ0_isLatin1_aae02 1 0 [] [] (by decide +kernel) ml_15_492 rfl rfl rfl rfl rfl rfl (fun rz hz => c_String_isLatin1 w a0 rz hz) (fun i1 => ?_)
  refine sim_br hC (.ifCond .eq 12) 16 (by decide +kernel) rfl (by decide) ?_ ?_
  · exact sim_none
  · refine sim_blk0 hC [(.aload_n 0, 0, 0, 0, 0)] [(0, vS a0), (1, vI a1)] [vS a0] w 8 (by decide +kernel) rfl rfl ?_
    refine sim_sval hC2 (by decide +kernel) ?_
    refine sim_blk0 hC [(.iload_n 1, 0, 0, 0, 0)] [(0, vS a0), (1, vI a1)] [vI a1, vS (1000 + a0)] w 12 (by decide +kernel) rfl rfl ?_
    refine sim_sp hC 495 mJ1_charAt_3b067 3 61 [vS (1000 + a0), vI a1] [] (by decide +kernel) ml_15_495 rfl rfl rfl rfl rfl (fun rz hz => c_Latin1_charAt w a0 a1 rz hz) (fun i2 => ?_)
    exact sim_retpn hC2 .char (by decide +kernel) rfl
theorem c_String_charAt {Z : ZT} {l : Launch} (w : Wld) (a0 : Nat) (a1 : Int32) (r : Int32) (h : F_String_charAt w a0 a1 = some r) : Con Z l mJ0_charAt_5068e 4 82 [vS a0, vI a1] w (.inr (some r)) w :=
  Con_of3 (oc := 15) (by decide +kernel) rfl rfl (fun Ok hC => s_String_charAt hC w a0 a1 r h ⟨rfl, rfl⟩)
def V_Tokens_readWord_45_5 : (Wld) → Cfg := fun s => (5, [(0, vR 45)], [], s)
def E_Tokens_readWord_45_5 : (Wld) → Cfg := fun s => (44, [(0, vR 45)], [], s)
noncomputable def B_Tokens_readWord_45_5 (s : Wld) : Option ((Wld) ⊕ (Wld)) :=
  br ((s 45 1) ≤ (s 45 2)) (some (.inr s)) (gd (vp_in (s 45 2) 700) (bp (F_Tokens_isLetter s (s 46 (Int32.toNatClampNeg (s 45 2)))) (fun i2 => br (i2 = 0) (some (.inr s)) (bw (wup s 45 2 ((s 45 2) + (1 : Int32))) (fun w3 => some (.inl w3))))))
set_option maxRecDepth 10000 in
theorem s_B_Tokens_readWord_45_5 {Z : ZT} {l : Launch} {o : Oc} {wo : Wld} {Ok : Cfg → Prop} (hD : Clo3 Z l 8 4 prog_10_method_4_code none 5 103 o wo Ok) (s : Wld) : SimK Ok (V_Tokens_readWord_45_5 s) (B_Tokens_readWord_45_5 s) (GLp Ok (V_Tokens_readWord_45_5) (GEp Ok (E_Tokens_readWord_45_5))) := by
  unfold B_Tokens_readWord_45_5
  have hC := hD.1
  have hC2 := hD.2
  show SimK Ok (5, [(0, vR 45)], [], s) _ _
  refine sim_blk0 hC [(.aload_n 0, 0, 0, 0, 0), (.getfield 19, 45, 2, 0, 0), (.aload_n 0, 0, 0, 0, 0), (.getfield 15, 45, 1, 0, 0)] [(0, vR 45)] [vI (s 45 1), vI (s 45 2)] s 13 (by decide +kernel) rfl rfl ?_
  refine sim_br hC (.if_icmp .ge 31) 44 (by decide +kernel) rfl (by decide) ?_ ?_
  · exact sim_exit (E := (E_Tokens_readWord_45_5)) s
  · refine sim_blk1 hC [(.aload_n 0, 0, 0, 0, 0), (.getfield 9, 45, 0, 48, 0), (.aload_n 0, 0, 0, 0, 0), (.getfield 19, 45, 2, 0, 0), (.baload, 46, 700, 1, 0)] [(0, vR 45)] [vI (s 46 (Int32.toNatClampNeg (s 45 2)))] s 25 (by decide +kernel) rfl rfl ?_
    refine sim_sp hC 61 mX8_isLetter 1 0 [vI (s 46 (Int32.toNatClampNeg (s 45 2)))] [] (by decide +kernel) ml_8_61 rfl rfl rfl rfl rfl (fun rz hz => c_Tokens_isLetter s (s 46 (Int32.toNatClampNeg (s 45 2))) rz hz) (fun i2 => ?_)
    refine sim_br hC (.ifCond .eq 16) 44 (by decide +kernel) rfl (by decide) ?_ ?_
    · exact sim_exit (E := (E_Tokens_readWord_45_5)) s
    · refine sim_blk0 hC [(.aload_n 0, 0, 0, 0, 0), (.dup, 0, 0, 0, 0), (.getfield 19, 45, 2, 0, 0), (.iconst 1, 0, 0, 0, 1), (.iadd, 0, 0, 0, 0), (.putfield 19, 45, 2, 0, 0)] [(0, vR 45)] [] (wup s 45 2 ((s 45 2) + (1 : Int32))) 41 (by decide +kernel) rfl rfl ?_
      refine sim_bw (C := fun w3 => (41, [(0, vR 45)], [], w3)) (fun w3 => ?_)
      refine sim_goto hC (-36) 5 (by decide +kernel) (by decide) ?_
      exact sim_back (V := (V_Tokens_readWord_45_5)) w3
def V_Tokens_readWord_45_46 : (Int32 × Wld) → Cfg := fun s => (46, [(0, vR 45), (1, vI s.1)], [], s.2)
def E_Tokens_readWord_45_46 : (Wld) → Cfg := fun s => (147, [], [], s)
def V_Tokens_readWord_45_65 (a1 : Int32) (a2 : Nat) (w : Wld) : (Int32) → Cfg := fun s => (65, [(0, vR 45), (1, vI a1), (2, vS a2), (3, vI s)], [], w)
def E_Tokens_readWord_45_65 (a1 : Int32) (a2 : Nat) (w : Wld) : (Int32) → Cfg := fun s => (111, [(0, vR 45), (1, vI a1), (2, vS a2), (3, vI s)], [], w)
noncomputable def B_Tokens_readWord_45_65 (a1 : Int32) (a2 : Nat) (w : Wld) (s : Int32) : Option ((Int32) ⊕ (Int32)) :=
  gd (a2 < 19) (bp (F_String_length w a2) (fun i5 => br (i5 ≤ s) (some (.inr s)) (br ((w 45 2) ≤ ((w 45 3) + s)) (some (.inr s)) (gd (a2 < 19) (bp (F_String_charAt w a2 s) (fun i6 => gd (vp_in ((w 45 3) + s) 700) (br (¬ i6 = (w 46 (Int32.toNatClampNeg ((w 45 3) + s)))) (some (.inr s)) (bi (s + 1) (fun i7 => some (.inl i7))))))))))
set_option maxRecDepth 10000 in
theorem s_B_Tokens_readWord_45_65 {Z : ZT} {l : Launch} {o : Oc} {wo : Wld} {Ok : Cfg → Prop} (hD : Clo3 Z l 8 4 prog_10_method_4_code none 5 103 o wo Ok) (a1 : Int32) (a2 : Nat) (w : Wld) (s : Int32) : SimK Ok (V_Tokens_readWord_45_65 a1 a2 w s) (B_Tokens_readWord_45_65 a1 a2 w s) (GLp Ok (V_Tokens_readWord_45_65 a1 a2 w) (GEp Ok (E_Tokens_readWord_45_65 a1 a2 w))) := by
  unfold B_Tokens_readWord_45_65
  have hC := hD.1
  have hC2 := hD.2
  show SimK Ok (65, [(0, vR 45), (1, vI a1), (2, vS a2), (3, vI s)], [], w) _ _
  refine sim_blk0 hC [(.iload_n 3, 0, 0, 0, 0), (.aload_n 2, 0, 0, 0, 0)] [(0, vR 45), (1, vI a1), (2, vS a2), (3, vI s)] [vS a2, vI s] w 67 (by decide +kernel) rfl rfl ?_
  refine sim_zp hC2 82 mJ0_length_8abf5 2 20 [] [vI s] (by decide +kernel) ml_8_82 rfl rfl rfl rfl rfl rfl (fun rz hz => c_String_length w a2 rz hz) (fun i5 => ?_)
  refine sim_br hC (.if_icmp .ge 41) 111 (by decide +kernel) rfl (by decide) ?_ ?_
  · exact sim_exit (E := (E_Tokens_readWord_45_65 a1 a2 w)) s
  · refine sim_blk0 hC [(.aload_n 0, 0, 0, 0, 0), (.getfield 22, 45, 3, 0, 0), (.iload_n 3, 0, 0, 0, 0), (.iadd, 0, 0, 0, 0), (.aload_n 0, 0, 0, 0, 0), (.getfield 19, 45, 2, 0, 0)] [(0, vR 45), (1, vI a1), (2, vS a2), (3, vI s)] [vI (w 45 2), vI ((w 45 3) + s)] w 83 (by decide +kernel) rfl rfl ?_
    refine sim_br hC (.if_icmp .ge 28) 111 (by decide +kernel) rfl (by decide) ?_ ?_
    · exact sim_exit (E := (E_Tokens_readWord_45_65 a1 a2 w)) s
    · refine sim_blk0 hC [(.aload_n 2, 0, 0, 0, 0), (.iload_n 3, 0, 0, 0, 0)] [(0, vR 45), (1, vI a1), (2, vS a2), (3, vI s)] [vI s, vS a2] w 88 (by decide +kernel) rfl rfl ?_
      refine sim_zp hC2 87 mJ0_charAt_5068e 4 82 [vI s] [] (by decide +kernel) ml_8_87 rfl rfl rfl rfl rfl rfl (fun rz hz => c_String_charAt w a2 s rz hz) (fun i6 => ?_)
      refine sim_blk1 hC [(.aload_n 0, 0, 0, 0, 0), (.getfield 9, 45, 0, 48, 0), (.aload_n 0, 0, 0, 0, 0), (.getfield 22, 45, 3, 0, 0), (.iload_n 3, 0, 0, 0, 0), (.iadd, 0, 0, 0, 0), (.baload, 46, 700, 1, 0)] [(0, vR 45), (1, vI a1), (2, vS a2), (3, vI s)] [vI (w 46 (Int32.toNatClampNeg ((w 45 3) + s))), vI i6] w 102 (by decide +kernel) rfl rfl ?_
      refine sim_br hC (.if_icmp .ne 9) 111 (by decide +kernel) rfl (by decide) ?_ ?_
      · exact sim_exit (E := (E_Tokens_readWord_45_65 a1 a2 w)) s
      · refine sim_blk0 hC [(.iinc 3 1, 0, 0, 0, 1)] [(0, vR 45), (1, vI a1), (2, vS a2), (3, vI (s + 1))] [] w 108 (by decide +kernel) rfl rfl ?_
        refine sim_bi (C := fun i7 => (108, [(0, vR 45), (1, vI a1), (2, vS a2), (3, vI i7)], [], w)) (fun i7 => ?_)
        refine sim_goto hC (-43) 65 (by decide +kernel) (by decide) ?_
        exact sim_back (V := (V_Tokens_readWord_45_65 a1 a2 w)) i7
noncomputable def K_Tokens_readWord_45_141 (a1 : Int32) (w : Wld) : Option ((Int32 × Wld) ⊕ (Wld)) :=
  bi (a1 + 1) (fun i10 => some (.inl ((i10, w))))
set_option maxRecDepth 10000 in
theorem s_K_Tokens_readWord_45_141 {Z : ZT} {l : Launch} {o : Oc} {wo : Wld} {Ok : Cfg → Prop} (hD : Clo3 Z l 8 4 prog_10_method_4_code none 5 103 o wo Ok) (a1 : Int32) (w : Wld) : SimK Ok (141, [(0, vR 45), (1, vI a1)], [], w) (K_Tokens_readWord_45_141 a1 w) (GLp Ok (V_Tokens_readWord_45_46) (GEp Ok (E_Tokens_readWord_45_46))) := by
  unfold K_Tokens_readWord_45_141
  have hC := hD.1
  have hC2 := hD.2
  refine sim_blk0 hC [(.iinc 1 1, 0, 0, 0, 1)] [(0, vR 45), (1, vI (a1 + 1))] [] w 144 (by decide +kernel) rfl rfl ?_
  refine sim_bi (C := fun i10 => (144, [(0, vR 45), (1, vI i10)], [], w)) (fun i10 => ?_)
  refine sim_goto hC (-98) 46 (by decide +kernel) (by decide) ?_
  exact sim_back (V := (V_Tokens_readWord_45_46)) ((i10, w))
noncomputable def B_Tokens_readWord_45_46 (s : Int32 × Wld) : Option ((Int32 × Wld) ⊕ (Wld)) :=
  br ((19 : Int32) ≤ s.1) (some (.inr s.2)) (gd (vp_in s.1 19) (gd (Int32.toNatClampNeg s.1 < 19) (bl (loop (B_Tokens_readWord_45_65 s.1 (ltrs.getD (Int32.toNatClampNeg s.1) 0) s.2) 0) (fun r8 => gd ((ltrs.getD (Int32.toNatClampNeg s.1) 0) < 19) (bp (F_String_length s.2 (ltrs.getD (Int32.toNatClampNeg s.1) 0)) (fun i9 => br (¬ r8 = i9) (K_Tokens_readWord_45_141 s.1 s.2) (br (¬ ((s.2 45 3) + r8) = (s.2 45 2)) (K_Tokens_readWord_45_141 s.1 s.2) (gd (vp_in s.1 19) (bw (wup s.2 45 5 s.1) (fun w11 => K_Tokens_readWord_45_141 s.1 w11))))))))))
set_option maxRecDepth 10000 in
theorem s_B_Tokens_readWord_45_46 {Z : ZT} {l : Launch} {o : Oc} {wo : Wld} {Ok : Cfg → Prop} (hD : Clo3 Z l 8 4 prog_10_method_4_code none 5 103 o wo Ok) (s : Int32 × Wld) : SimK Ok (V_Tokens_readWord_45_46 s) (B_Tokens_readWord_45_46 s) (GLp Ok (V_Tokens_readWord_45_46) (GEp Ok (E_Tokens_readWord_45_46))) := by
  unfold B_Tokens_readWord_45_46
  have hC := hD.1
  have hC2 := hD.2
  show SimK Ok (46, [(0, vR 45), (1, vI s.1)], [], s.2) _ _
  refine sim_blk0 hC [(.iload_n 1, 0, 0, 0, 0)] [(0, vR 45), (1, vI s.1)] [vI s.1] s.2 47 (by decide +kernel) rfl rfl ?_
  refine sim_wa hC2 (by decide +kernel) ?_
  refine sim_walen hC2 (by decide +kernel) ?_
  refine sim_br hC (.if_icmp .ge 96) 147 (by decide +kernel) rfl (by decide) ?_ ?_
  · refine sim_sub hC [] ?_
    exact sim_exit (E := (E_Tokens_readWord_45_46)) s.2
  · refine sim_wa hC2 (by decide +kernel) ?_
    refine sim_blk0 hC [(.iload_n 1, 0, 0, 0, 0)] [(0, vR 45), (1, vI s.1)] [vI s.1, vS 999] s.2 58 (by decide +kernel) rfl rfl ?_
    refine sim_waald hC2 (by decide +kernel) ?_
    refine sim_elet hC2 78 (by decide +kernel) (by decide) ?_
    refine sim_blk0 hC [(.astore_n 2, 0, 0, 0, 0), (.iconst 0, 0, 0, 0, 0), (.istore_n 3, 0, 0, 0, 0)] [(0, vR 45), (1, vI s.1), (2, vS (ltrs.getD (Int32.toNatClampNeg s.1) 0)), (3, vI 0)] [] s.2 65 (by decide +kernel) rfl rfl ?_
    refine sim_bl (E := (E_Tokens_readWord_45_65 s.1 (ltrs.getD (Int32.toNatClampNeg s.1) 0) s.2)) ?_ (fun r8 => ?_)
    · exact sim_loop (V := (V_Tokens_readWord_45_65 s.1 (ltrs.getD (Int32.toNatClampNeg s.1) 0) s.2)) (fun sz => s_B_Tokens_readWord_45_65 hD s.1 (ltrs.getD (Int32.toNatClampNeg s.1) 0) s.2 sz) 0
    · show SimK Ok (111, [(0, vR 45), (1, vI s.1), (2, vS (ltrs.getD (Int32.toNatClampNeg s.1) 0)), (3, vI r8)], [], s.2) _ _
      refine sim_blk0 hC [(.iload_n 3, 0, 0, 0, 0), (.aload_n 2, 0, 0, 0, 0)] [(0, vR 45), (1, vI s.1), (2, vS (ltrs.getD (Int32.toNatClampNeg s.1) 0)), (3, vI r8)] [vS (ltrs.getD (Int32.toNatClampNeg s.1) 0), vI r8] s.2 113 (by decide +kernel) rfl rfl ?_
      refine sim_zp hC2 82 mJ0_length_8abf5 2 20 [] [vI r8] (by decide +kernel) ml_8_82 rfl rfl rfl rfl rfl rfl (fun rz hz => c_String_length s.2 (ltrs.getD (Int32.toNatClampNeg s.1) 0) rz hz) (fun i9 => ?_)
      refine sim_br hC (.if_icmp .ne 25) 141 (by decide +kernel) rfl (by decide) ?_ ?_
      · refine sim_sub hC [0, 1] ?_
        exact s_K_Tokens_readWord_45_141 hD s.1 s.2
      · refine sim_blk0 hC [(.aload_n 0, 0, 0, 0, 0), (.getfield 22, 45, 3, 0, 0), (.iload_n 3, 0, 0, 0, 0), (.iadd, 0, 0, 0, 0), (.aload_n 0, 0, 0, 0, 0), (.getfield 19, 45, 2, 0, 0)] [(0, vR 45), (1, vI s.1), (2, vS (ltrs.getD (Int32.toNatClampNeg s.1) 0)), (3, vI r8)] [vI (s.2 45 2), vI ((s.2 45 3) + r8)] s.2 129 (by decide +kernel) rfl rfl ?_
        refine sim_br hC (.if_icmp .ne 12) 141 (by decide +kernel) rfl (by decide) ?_ ?_
        · refine sim_sub hC [0, 1] ?_
          exact s_K_Tokens_readWord_45_141 hD s.1 s.2
        · refine sim_blk0 hC [(.aload_n 0, 0, 0, 0, 0)] [(0, vR 45), (1, vI s.1), (2, vS (ltrs.getD (Int32.toNatClampNeg s.1) 0)), (3, vI r8)] [vR 45] s.2 133 (by decide +kernel) rfl rfl ?_
          refine sim_wa hC2 (by decide +kernel) ?_
          refine sim_blk0 hC [(.iload_n 1, 0, 0, 0, 0)] [(0, vR 45), (1, vI s.1), (2, vS (ltrs.getD (Int32.toNatClampNeg s.1) 0)), (3, vI r8)] [vI s.1, vS 999, vR 45] s.2 137 (by decide +kernel) rfl rfl ?_
          refine sim_waald hC2 (by decide +kernel) ?_
          refine sim_blk0 hC [(.putfield 34, 45, 5, 1, 0)] [(0, vR 45), (1, vI s.1), (2, vS (ltrs.getD (Int32.toNatClampNeg s.1) 0)), (3, vI r8)] [] (wup s.2 45 5 s.1) 141 (by decide +kernel) rfl rfl ?_
          refine sim_bw (C := fun w11 => (141, [(0, vR 45), (1, vI s.1), (2, vS (ltrs.getD (Int32.toNatClampNeg s.1) 0)), (3, vI r8)], [], w11)) (fun w11 => ?_)
          refine sim_sub hC [0, 1] ?_
          exact s_K_Tokens_readWord_45_141 hD s.1 w11
noncomputable def F_Tokens_readWord_45 (w : Wld) : Option (Wld) :=
  bw (wup w 45 4 1) (fun w1 => bl (loop (B_Tokens_readWord_45_5) w1) (fun r4 => bl (loop (B_Tokens_readWord_45_46) ((0, r4))) (fun r12 => some r12)))
set_option maxRecDepth 10000 in
theorem s_Tokens_readWord_45 {Z : ZT} {l : Launch} {o : Oc} {wo : Wld} {Ok : Cfg → Prop} (hD : Clo3 Z l 8 4 prog_10_method_4_code none 5 103 o wo Ok) (w : Wld) : SimK Ok (0, [(0, vR 45)], [], w) (F_Tokens_readWord_45 w) (Gv o wo) := by
  unfold F_Tokens_readWord_45
  have hC := hD.1
  have hC2 := hD.2
  refine sim_blk0 hC [(.aload_n 0, 0, 0, 0, 0), (.iconst 1, 0, 0, 0, 1), (.putfield 25, 45, 4, 0, 0)] [(0, vR 45)] [] (wup w 45 4 1) 5 (by decide +kernel) rfl rfl ?_
  refine sim_bw (C := fun w1 => (5, [(0, vR 45)], [], w1)) (fun w1 => ?_)
  refine sim_bl (E := (E_Tokens_readWord_45_5)) ?_ (fun r4 => ?_)
  · exact sim_loop (V := (V_Tokens_readWord_45_5)) (fun sz => s_B_Tokens_readWord_45_5 hD sz) w1
  · show SimK Ok (44, [(0, vR 45)], [], r4) _ _
    refine sim_blk0 hC [(.iconst 0, 0, 0, 0, 0), (.istore_n 1, 0, 0, 0, 0)] [(0, vR 45), (1, vI 0)] [] r4 46 (by decide +kernel) rfl rfl ?_
    refine sim_bl (E := (E_Tokens_readWord_45_46)) ?_ (fun r12 => ?_)
    · exact sim_loop (V := (V_Tokens_readWord_45_46)) (fun sz => s_B_Tokens_readWord_45_46 hD sz) ((0, r4))
    · show SimK Ok (147, [], [], r12) _ _
      exact sim_retv hC (by decide +kernel)
theorem c_Tokens_readWord_45 {Z : ZT} {l : Launch} (w : Wld) (w1 : Wld) (h : F_Tokens_readWord_45 w = some w1) : Con Z l mX8_readWord 5 103 [vR 45] w (.inr none) w1 :=
  Con_of3 (oc := 8) (by decide +kernel) rfl rfl (fun Ok hC => s_Tokens_readWord_45 hC w w1 h ⟨rfl, rfl⟩)
noncomputable def K_Tokens_isDigit_17 (t0 : Int32) (w : Wld) : Option (Int32) :=
  gd (t0 = 0 ∨ t0 = 1) (some t0)
set_option maxRecDepth 10000 in
theorem s_K_Tokens_isDigit_17 {Z : ZT} {l : Launch} {o : Oc} {wo : Wld} {Ok : Cfg → Prop} (hC : Clo Z l 8 1 prog_10_method_7_code (some .boolean) 1 0 o wo Ok) (t0 : Int32) (w : Wld) : SimK Ok (17, [], [vI t0], w) (K_Tokens_isDigit_17 t0 w) (Gp o wo w) := by
  unfold K_Tokens_isDigit_17
  exact sim_retpz hC (by decide +kernel) rfl
noncomputable def K_Tokens_isDigit_16 (w : Wld) : Option (Int32) :=
  K_Tokens_isDigit_17 0 w
set_option maxRecDepth 10000 in
theorem s_K_Tokens_isDigit_16 {Z : ZT} {l : Launch} {o : Oc} {wo : Wld} {Ok : Cfg → Prop} (hC : Clo Z l 8 1 prog_10_method_7_code (some .boolean) 1 0 o wo Ok) (w : Wld) : SimK Ok (16, [], [], w) (K_Tokens_isDigit_16 w) (Gp o wo w) := by
  unfold K_Tokens_isDigit_16
  refine sim_blk0 hC [(.iconst 0, 0, 0, 0, 0)] [] [vI 0] w 17 (by decide +kernel) rfl rfl ?_
  exact s_K_Tokens_isDigit_17 hC 0 w
noncomputable def F_Tokens_isDigit (w : Wld) (a0 : Int32) : Option (Int32) :=
  br (a0 < 48) (K_Tokens_isDigit_16 w) (br ((57 : Int32) < a0) (K_Tokens_isDigit_16 w) (K_Tokens_isDigit_17 1 w))
set_option maxRecDepth 10000 in
theorem s_Tokens_isDigit {Z : ZT} {l : Launch} {o : Oc} {wo : Wld} {Ok : Cfg → Prop} (hC : Clo Z l 8 1 prog_10_method_7_code (some .boolean) 1 0 o wo Ok) (w : Wld) (a0 : Int32) : SimK Ok (0, [(0, vI a0)], [], w) (F_Tokens_isDigit w a0) (Gp o wo w) := by
  unfold F_Tokens_isDigit
  refine sim_blk0 hC [(.iload_n 0, 0, 0, 0, 0), (.bipush 48, 0, 0, 0, 48)] [(0, vI a0)] [vI 48, vI a0] w 3 (by decide +kernel) rfl rfl ?_
  refine sim_br hC (.if_icmp .lt 13) 16 (by decide +kernel) rfl (by decide) ?_ ?_
  · refine sim_sub hC [] ?_
    exact s_K_Tokens_isDigit_16 hC w
  · refine sim_blk0 hC [(.iload_n 0, 0, 0, 0, 0), (.bipush 57, 0, 0, 0, 57)] [(0, vI a0)] [vI 57, vI a0] w 9 (by decide +kernel) rfl rfl ?_
    refine sim_br hC (.if_icmp .gt 7) 16 (by decide +kernel) rfl (by decide) ?_ ?_
    · refine sim_sub hC [] ?_
      exact s_K_Tokens_isDigit_16 hC w
    · refine sim_blk0 hC [(.iconst 1, 0, 0, 0, 1)] [(0, vI a0)] [vI 1] w 13 (by decide +kernel) rfl rfl ?_
      refine sim_goto hC 4 17 (by decide +kernel) (by decide) ?_
      refine sim_sub hC [] ?_
      exact s_K_Tokens_isDigit_17 hC 1 w
theorem c_Tokens_isDigit {Z : ZT} {l : Launch} (w : Wld) (a0 : Int32) (r : Int32) (h : F_Tokens_isDigit w a0 = some r) : Con Z l mX8_isDigit 1 0 [vI a0] w (.inr (some r)) w :=
  Con_of (oc := 8) (by decide +kernel) rfl rfl (fun Ok hC => s_Tokens_isDigit hC w a0 r h ⟨rfl, rfl⟩)
def V_Tokens_readNumber_45_7 : (Int32 × Wld) → Cfg := fun s => (7, [(0, vR 45), (1, vI s.1)], [], s.2)
def E_Tokens_readNumber_45_7 : (Int32 × Wld) → Cfg := fun s => (64, [(0, vR 45), (1, vI s.1)], [], s.2)
noncomputable def B_Tokens_readNumber_45_7 (s : Int32 × Wld) : Option ((Int32 × Wld) ⊕ (Int32 × Wld)) :=
  br ((s.2 45 1) ≤ (s.2 45 2)) (some (.inr ((s.1, s.2)))) (gd (vp_in (s.2 45 2) 700) (bp (F_Tokens_isDigit s.2 (s.2 46 (Int32.toNatClampNeg (s.2 45 2)))) (fun i2 => br (i2 = 0) (some (.inr ((s.1, s.2)))) (gd (vp_in (s.2 45 2) 700) (bi ((((10 : Int32) * s.1) + (s.2 46 (Int32.toNatClampNeg (s.2 45 2)))) - (48 : Int32)) (fun i3 => bw (wup s.2 45 2 ((s.2 45 2) + (1 : Int32))) (fun w4 => some (.inl ((i3, w4))))))))))
set_option maxRecDepth 10000 in
theorem s_B_Tokens_readNumber_45_7 {Z : ZT} {l : Launch} {o : Oc} {wo : Wld} {Ok : Cfg → Prop} (hC : Clo Z l 8 2 prog_10_method_5_code none 2 20 o wo Ok) (s : Int32 × Wld) : SimK Ok (V_Tokens_readNumber_45_7 s) (B_Tokens_readNumber_45_7 s) (GLp Ok (V_Tokens_readNumber_45_7) (GEp Ok (E_Tokens_readNumber_45_7))) := by
  unfold B_Tokens_readNumber_45_7
  show SimK Ok (7, [(0, vR 45), (1, vI s.1)], [], s.2) _ _
  refine sim_blk0 hC [(.aload_n 0, 0, 0, 0, 0), (.getfield 19, 45, 2, 0, 0), (.aload_n 0, 0, 0, 0, 0), (.getfield 15, 45, 1, 0, 0)] [(0, vR 45), (1, vI s.1)] [vI (s.2 45 1), vI (s.2 45 2)] s.2 15 (by decide +kernel) rfl rfl ?_
  refine sim_br hC (.if_icmp .ge 49) 64 (by decide +kernel) rfl (by decide) ?_ ?_
  · exact sim_exit (E := (E_Tokens_readNumber_45_7)) ((s.1, s.2))
  · refine sim_blk1 hC [(.aload_n 0, 0, 0, 0, 0), (.getfield 9, 45, 0, 48, 0), (.aload_n 0, 0, 0, 0, 0), (.getfield 19, 45, 2, 0, 0), (.baload, 46, 700, 1, 0)] [(0, vR 45), (1, vI s.1)] [vI (s.2 46 (Int32.toNatClampNeg (s.2 45 2)))] s.2 27 (by decide +kernel) rfl rfl ?_
    refine sim_sp hC 68 mX8_isDigit 1 0 [vI (s.2 46 (Int32.toNatClampNeg (s.2 45 2)))] [] (by decide +kernel) ml_8_68 rfl rfl rfl rfl rfl (fun rz hz => c_Tokens_isDigit s.2 (s.2 46 (Int32.toNatClampNeg (s.2 45 2))) rz hz) (fun i2 => ?_)
    refine sim_br hC (.ifCond .eq 34) 64 (by decide +kernel) rfl (by decide) ?_ ?_
    · exact sim_exit (E := (E_Tokens_readNumber_45_7)) ((s.1, s.2))
    · refine sim_blk1 hC [(.bipush 10, 0, 0, 0, 10), (.iload_n 1, 0, 0, 0, 0), (.imul, 0, 0, 0, 0), (.aload_n 0, 0, 0, 0, 0), (.getfield 9, 45, 0, 48, 0), (.aload_n 0, 0, 0, 0, 0), (.getfield 19, 45, 2, 0, 0), (.baload, 46, 700, 1, 0), (.iadd, 0, 0, 0, 0), (.bipush 48, 0, 0, 0, 48), (.isub, 0, 0, 0, 0), (.istore_n 1, 0, 0, 0, 0)] [(0, vR 45), (1, vI ((((10 : Int32) * s.1) + (s.2 46 (Int32.toNatClampNeg (s.2 45 2)))) - (48 : Int32)))] [] s.2 51 (by decide +kernel) rfl rfl ?_
      refine sim_bi (C := fun i3 => (51, [(0, vR 45), (1, vI i3)], [], s.2)) (fun i3 => ?_)
      refine sim_blk0 hC [(.aload_n 0, 0, 0, 0, 0), (.dup, 0, 0, 0, 0), (.getfield 19, 45, 2, 0, 0), (.iconst 1, 0, 0, 0, 1), (.iadd, 0, 0, 0, 0), (.putfield 19, 45, 2, 0, 0)] [(0, vR 45), (1, vI i3)] [] (wup s.2 45 2 ((s.2 45 2) + (1 : Int32))) 61 (by decide +kernel) rfl rfl ?_
      refine sim_bw (C := fun w4 => (61, [(0, vR 45), (1, vI i3)], [], w4)) (fun w4 => ?_)
      refine sim_goto hC (-54) 7 (by decide +kernel) (by decide) ?_
      exact sim_back (V := (V_Tokens_readNumber_45_7)) ((i3, w4))
noncomputable def K_Tokens_readNumber_45_83 (t1 : Int32) (w : Wld) : Option (Wld) :=
  bw (wup w 45 6 t1) (fun w6 => some w6)
set_option maxRecDepth 10000 in
theorem s_K_Tokens_readNumber_45_83 {Z : ZT} {l : Launch} {o : Oc} {wo : Wld} {Ok : Cfg → Prop} (hC : Clo Z l 8 2 prog_10_method_5_code none 2 20 o wo Ok) (t1 : Int32) (w : Wld) : SimK Ok (83, [], [vI t1, vR 45], w) (K_Tokens_readNumber_45_83 t1 w) (Gv o wo) := by
  unfold K_Tokens_readNumber_45_83
  refine sim_blk0 hC [(.putfield 37, 45, 6, 0, 0)] [] [] (wup w 45 6 t1) 86 (by decide +kernel) rfl rfl ?_
  refine sim_bw (C := fun w6 => (86, [], [], w6)) (fun w6 => ?_)
  exact sim_retv hC (by decide +kernel)
noncomputable def F_Tokens_readNumber_45 (w : Wld) : Option (Wld) :=
  bw (wup w 45 4 2) (fun w1 => bl (loop (B_Tokens_readNumber_45_7) ((0, w1))) (fun r5 => br (((r5.2 45 2) - (r5.2 45 3)) ≤ 4) (K_Tokens_readNumber_45_83 r5.1 r5.2) (K_Tokens_readNumber_45_83 (-1) r5.2)))
set_option maxRecDepth 10000 in
theorem s_Tokens_readNumber_45 {Z : ZT} {l : Launch} {o : Oc} {wo : Wld} {Ok : Cfg → Prop} (hC : Clo Z l 8 2 prog_10_method_5_code none 2 20 o wo Ok) (w : Wld) : SimK Ok (0, [(0, vR 45)], [], w) (F_Tokens_readNumber_45 w) (Gv o wo) := by
  unfold F_Tokens_readNumber_45
  refine sim_blk0 hC [(.aload_n 0, 0, 0, 0, 0), (.iconst 2, 0, 0, 0, 2), (.putfield 25, 45, 4, 0, 0)] [(0, vR 45)] [] (wup w 45 4 2) 5 (by decide +kernel) rfl rfl ?_
  refine sim_bw (C := fun w1 => (5, [(0, vR 45)], [], w1)) (fun w1 => ?_)
  refine sim_blk0 hC [(.iconst 0, 0, 0, 0, 0), (.istore_n 1, 0, 0, 0, 0)] [(0, vR 45), (1, vI 0)] [] w1 7 (by decide +kernel) rfl rfl ?_
  refine sim_bl (E := (E_Tokens_readNumber_45_7)) ?_ (fun r5 => ?_)
  · exact sim_loop (V := (V_Tokens_readNumber_45_7)) (fun sz => s_B_Tokens_readNumber_45_7 hC sz) ((0, w1))
  · show SimK Ok (64, [(0, vR 45), (1, vI r5.1)], [], r5.2) _ _
    refine sim_blk0 hC [(.aload_n 0, 0, 0, 0, 0), (.aload_n 0, 0, 0, 0, 0), (.getfield 19, 45, 2, 0, 0), (.aload_n 0, 0, 0, 0, 0), (.getfield 22, 45, 3, 0, 0), (.isub, 0, 0, 0, 0), (.iconst 4, 0, 0, 0, 4)] [(0, vR 45), (1, vI r5.1)] [vI 4, vI ((r5.2 45 2) - (r5.2 45 3)), vR 45] r5.2 75 (by decide +kernel) rfl rfl ?_
    refine sim_br hC (.if_icmp .le 7) 82 (by decide +kernel) rfl (by decide) ?_ ?_
    · refine sim_blk0 hC [(.iload_n 1, 0, 0, 0, 0)] [(0, vR 45), (1, vI r5.1)] [vI r5.1, vR 45] r5.2 83 (by decide +kernel) rfl rfl ?_
      refine sim_sub hC [] ?_
      exact s_K_Tokens_readNumber_45_83 hC r5.1 r5.2
    · refine sim_blk0 hC [(.iconst (-1), 0, 0, 0, (-1))] [(0, vR 45), (1, vI r5.1)] [vI (-1), vR 45] r5.2 79 (by decide +kernel) rfl rfl ?_
      refine sim_goto hC 4 83 (by decide +kernel) (by decide) ?_
      refine sim_sub hC [] ?_
      exact s_K_Tokens_readNumber_45_83 hC (-1) r5.2
theorem c_Tokens_readNumber_45 {Z : ZT} {l : Launch} (w : Wld) (w1 : Wld) (h : F_Tokens_readNumber_45 w = some w1) : Con Z l mX8_readNumber 2 20 [vR 45] w (.inr none) w1 :=
  Con_of (oc := 8) (by decide +kernel) rfl rfl (fun Ok hC => s_Tokens_readNumber_45 hC w w1 h ⟨rfl, rfl⟩)
