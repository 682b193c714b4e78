def V_C_fishToRise_22 (a1 : Int32) (a2 : Int32) : (Int32 × Wld) → Cfg := fun s => (22, [(0, vR 42), (1, vI a1), (2, vI a2), (3, vI s.1)], [], s.2)
def E_C_fishToRise_22 (a1 : Int32) (a2 : Int32) : (Wld) → Cfg := fun s => (66, [], [], s)
noncomputable def B_C_fishToRise_22 (a1 : Int32) (a2 : Int32) (s : Int32 × Wld) : Option ((Int32 × Wld) ⊕ ((Wld) ⊕ (Int32 × Wld))) :=
  br ((9 : Int32) < s.1) (some (.inr (.inl s.2))) (gd (vp_in ((8 : Int32) + a1) 53) (bw (wup s.2 85 (Int32.toNatClampNeg ((8 : Int32) + a1)) s.1) (fun w3 => bd (F_Night_rises_55_84 w3 a1) (fun i4 w5 => br (i4 = 0) (bi (s.1 + 1) (fun i6 => some (.inl ((i6, w5))))) (some (.inr (.inr ((s.1 - a2, w5)))))))))
set_option maxRecDepth 10000 in
theorem s_B_C_fishToRise_22 {Z : ZT} {l : Launch} {o : Oc} {wo : Wld} {Ok : Cfg → Prop} (hC : Clo Z l 9 4 prog_1_method_43_code (some .int) 4 101 o wo Ok) (a1 : Int32) (a2 : Int32) (s : Int32 × Wld) : SimK Ok (V_C_fishToRise_22 a1 a2 s) (B_C_fishToRise_22 a1 a2 s) (GLp Ok (V_C_fishToRise_22 a1 a2) (GLp Ok (E_C_fishToRise_22 a1 a2) (Gi o wo))) := by
  unfold B_C_fishToRise_22
  show SimK Ok (22, [(0, vR 42), (1, vI a1), (2, vI a2), (3, vI s.1)], [], s.2) _ _
  refine sim_blk0 hC [(.iload_n 3, 0, 0, 0, 0), (.bipush 9, 0, 0, 0, 9)] [(0, vR 42), (1, vI a1), (2, vI a2), (3, vI s.1)] [vI 9, vI s.1] s.2 25 (by decide +kernel) rfl rfl ?_
  refine sim_br hC (.if_icmp .gt 41) 66 (by decide +kernel) rfl (by decide) ?_ ?_
  · refine sim_sub hC [] ?_
    exact sim_exitx (E := (E_C_fishToRise_22 a1 a2)) s.2
  · refine sim_blk1 hC [(.aload_n 0, 0, 0, 0, 0), (.getfield 56, 42, 9, 86, 0), (.getfield 137, 84, 0, 87, 0), (.bipush 8, 0, 0, 0, 8), (.iload_n 1, 0, 0, 0, 0), (.iadd, 0, 0, 0, 0), (.iload_n 3, 0, 0, 0, 0), (.iastore, 85, 53, 0, 0)] [(0, vR 42), (1, vI a1), (2, vI a2), (3, vI s.1)] [] (wup s.2 85 (Int32.toNatClampNeg ((8 : Int32) + a1)) s.1) 41 (by decide +kernel) rfl rfl ?_
    refine sim_bw (C := fun w3 => (41, [(0, vR 42), (1, vI a1), (2, vI a2), (3, vI s.1)], [], w3)) (fun w3 => ?_)
    refine sim_blk0 hC [(.aload_n 0, 0, 0, 0, 0), (.getfield 30, 42, 4, 57, 0), (.aload_n 0, 0, 0, 0, 0), (.getfield 56, 42, 9, 86, 0), (.iload_n 1, 0, 0, 0, 0)] [(0, vR 42), (1, vI a1), (2, vI a2), (3, vI s.1)] [vI a1, vR 84, vR 55] w3 50 (by decide +kernel) rfl rfl ?_
    refine sim_vd hC 174 mX4_rises 3 47 55 [vR 84, vI a1] [] (by decide +kernel) ml_9_174 rfl rfl rfl rfl rfl rfl (fun rz wz hz => c_Night_rises_55_84 w3 a1 rz wz hz) (fun i4 w5 => ?_)
    refine sim_br hC (.ifCond .eq 7) 60 (by decide +kernel) rfl (by decide) ?_ ?_
    · refine sim_blk0 hC [(.iinc 3 1, 0, 0, 0, 1)] [(0, vR 42), (1, vI a1), (2, vI a2), (3, vI (s.1 + 1))] [] w5 63 (by decide +kernel) rfl rfl ?_
      refine sim_bi (C := fun i6 => (63, [(0, vR 42), (1, vI a1), (2, vI a2), (3, vI i6)], [], w5)) (fun i6 => ?_)
      refine sim_goto hC (-41) 22 (by decide +kernel) (by decide) ?_
      exact sim_back (V := (V_C_fishToRise_22 a1 a2)) ((i6, w5))
    · refine sim_blk0 hC [(.iload_n 3, 0, 0, 0, 0), (.iload_n 2, 0, 0, 0, 0), (.isub, 0, 0, 0, 0)] [(0, vR 42), (1, vI a1), (2, vI a2), (3, vI s.1)] [vI (s.1 - a2)] w5 59 (by decide +kernel) rfl rfl ?_
      refine sim_outx ?_
      exact sim_reti hC (by decide +kernel) trivial
noncomputable def F_C_fishToRise (w : Wld) (a1 : Int32) : Option (Int32 × Wld) :=
  bv (F_C_beginTrial w) (fun w1 => gd (vp_in ((8 : Int32) + a1) 53) (bi (w1 66 (Int32.toNatClampNeg ((8 : Int32) + a1))) (fun i2 => bx (loop (B_C_fishToRise_22 a1 i2) ((i2, w1))) (fun r7 => some (((-1), r7))))))
set_option maxRecDepth 10000 in
theorem s_C_fishToRise {Z : ZT} {l : Launch} {o : Oc} {wo : Wld} {Ok : Cfg → Prop} (hC : Clo Z l 9 4 prog_1_method_43_code (some .int) 4 101 o wo Ok) (w : Wld) (a1 : Int32) : SimK Ok (0, [(0, vR 42), (1, vI a1)], [], w) (F_C_fishToRise w a1) (Gi o wo) := by
  unfold F_C_fishToRise
  refine sim_blk0 hC [(.aload_n 0, 0, 0, 0, 0)] [(0, vR 42), (1, vI a1)] [vR 42] w 1 (by decide +kernel) rfl rfl ?_
  refine sim_vv hC 212 mX10_beginTrial 2 81 42 [] [] (by decide +kernel) ml_9_212 rfl rfl rfl rfl rfl rfl (fun wz hz => c_C_beginTrial w wz hz) (fun w1 => ?_)
  refine sim_blk1 hC [(.aload_n 0, 0, 0, 0, 0), (.getfield 42, 42, 6, 66, 0), (.getfield 100, 64, 0, 67, 0), (.getfield 137, 65, 0, 68, 0), (.bipush 8, 0, 0, 0, 8), (.iload_n 1, 0, 0, 0, 0), (.iadd, 0, 0, 0, 0), (.iaload, 66, 53, 0, 0), (.istore_n 2, 0, 0, 0, 0)] [(0, vR 42), (1, vI a1), (2, vI (w1 66 (Int32.toNatClampNeg ((8 : Int32) + a1))))] [] w1 20 (by decide +kernel) rfl rfl ?_
  refine sim_bi (C := fun i2 => (20, [(0, vR 42), (1, vI a1), (2, vI i2)], [], w1)) (fun i2 => ?_)
  refine sim_blk0 hC [(.iload_n 2, 0, 0, 0, 0), (.istore_n 3, 0, 0, 0, 0)] [(0, vR 42), (1, vI a1), (2, vI i2), (3, vI i2)] [] w1 22 (by decide +kernel) rfl rfl ?_
  refine sim_bx (E := (E_C_fishToRise_22 a1 i2)) ?_ (fun r7 => ?_)
  · exact sim_loop (V := (V_C_fishToRise_22 a1 i2)) (fun sz => s_B_C_fishToRise_22 hC a1 i2 sz) ((i2, w1))
  · show SimK Ok (66, [], [], r7) _ _
    refine sim_blk0 hC [(.iconst (-1), 0, 0, 0, (-1))] [] [vI (-1)] r7 67 (by decide +kernel) rfl rfl ?_
    exact sim_reti hC (by decide +kernel) trivial
theorem c_C_fishToRise {Z : ZT} {l : Launch} (w : Wld) (a1 : Int32) (r : Int32) (w1 : Wld) (h : F_C_fishToRise w a1 = some (r, w1)) : Con Z l mX10_fishToRise 4 101 [vR 42, vI a1] w (.inr (some r)) w1 :=
  Con_of (oc := 9) (by decide +kernel) rfl rfl (fun Ok hC => s_C_fishToRise hC w a1 (r, w1) h ⟨rfl, rfl⟩)
def V_C_cheapestRiser_8 (a1 : Int32) : (Int32 × Int32 × Int32 × Wld) → Cfg := fun s => (8, [(0, vR 42), (1, vI a1), (2, vI s.1), (3, vI s.2.1), (4, vI s.2.2.1)], [], s.2.2.2)
def E_C_cheapestRiser_8 (a1 : Int32) : (Int32 × Wld) → Cfg := fun s => (66, [(2, vI s.1)], [], s.2)
noncomputable def K_C_cheapestRiser_60 (a1 : Int32) (a2 : Int32) (a3 : Int32) (a4 : Int32) (w : Wld) : Option ((Int32 × Int32 × Int32 × Wld) ⊕ (Int32 × Wld)) :=
  bi (a4 + 1) (fun i1 => some (.inl ((a2, a3, i1, w))))
set_option maxRecDepth 10000 in
theorem s_K_C_cheapestRiser_60 {Z : ZT} {l : Launch} {o : Oc} {wo : Wld} {Ok : Cfg → Prop} (hC : Clo Z l 9 6 prog_1_method_42_code (some .int) 5 124 o wo Ok) (a1 : Int32) (a2 : Int32) (a3 : Int32) (a4 : Int32) (w : Wld) : SimK Ok (60, [(0, vR 42), (1, vI a1), (2, vI a2), (3, vI a3), (4, vI a4)], [], w) (K_C_cheapestRiser_60 a1 a2 a3 a4 w) (GLp Ok (V_C_cheapestRiser_8 a1) (GEp Ok (E_C_cheapestRiser_8 a1))) := by
  unfold K_C_cheapestRiser_60
  refine sim_blk0 hC [(.iinc 4 1, 0, 0, 0, 1)] [(0, vR 42), (1, vI a1), (2, vI a2), (3, vI a3), (4, vI (a4 + 1))] [] w 63 (by decide +kernel) rfl rfl ?_
  refine sim_bi (C := fun i1 => (63, [(0, vR 42), (1, vI a1), (2, vI a2), (3, vI a3), (4, vI i1)], [], w)) (fun i1 => ?_)
  refine sim_goto hC (-55) 8 (by decide +kernel) (by decide) ?_
  exact sim_back (V := (V_C_cheapestRiser_8 a1)) ((a2, a3, i1, w))
noncomputable def B_C_cheapestRiser_8 (a1 : Int32) (s : Int32 × Int32 × Int32 × Wld) : Option ((Int32 × Int32 × Int32 × Wld) ⊕ (Int32 × Wld)) :=
  br ((s.2.2.2 56 1) ≤ s.2.2.1) (some (.inr ((s.1, s.2.2.2)))) (gd (vp_in s.2.2.1 8) (br (¬ (s.2.2.2 58 (Int32.toNatClampNeg s.2.2.1)) = a1) (K_C_cheapestRiser_60 a1 s.1 s.2.1 s.2.2.1 s.2.2.2) (bd (F_C_fishToRise s.2.2.2 s.2.2.1) (fun i2 w3 => br (i2 = (-1)) (K_C_cheapestRiser_60 a1 s.1 s.2.1 s.2.2.1 w3) (br (s.2.1 < i2) (K_C_cheapestRiser_60 a1 s.1 s.2.1 s.2.2.1 w3) (K_C_cheapestRiser_60 a1 s.2.2.1 i2 s.2.2.1 w3))))))
set_option maxRecDepth 10000 in
theorem s_B_C_cheapestRiser_8 {Z : ZT} {l : Launch} {o : Oc} {wo : Wld} {Ok : Cfg → Prop} (hC : Clo Z l 9 6 prog_1_method_42_code (some .int) 5 124 o wo Ok) (a1 : Int32) (s : Int32 × Int32 × Int32 × Wld) : SimK Ok (V_C_cheapestRiser_8 a1 s) (B_C_cheapestRiser_8 a1 s) (GLp Ok (V_C_cheapestRiser_8 a1) (GEp Ok (E_C_cheapestRiser_8 a1))) := by
  unfold B_C_cheapestRiser_8
  show SimK Ok (8, [(0, vR 42), (1, vI a1), (2, vI s.1), (3, vI s.2.1), (4, vI s.2.2.1)], [], s.2.2.2) _ _
  refine sim_blk0 hC [(.iload 4, 0, 0, 0, 0), (.aload_n 0, 0, 0, 0, 0), (.getfield 38, 42, 5, 58, 0), (.getfield 128, 56, 1, 0, 0)] [(0, vR 42), (1, vI a1), (2, vI s.1), (3, vI s.2.1), (4, vI s.2.2.1)] [vI (s.2.2.2 56 1), vI s.2.2.1] s.2.2.2 17 (by decide +kernel) rfl rfl ?_
  refine sim_br hC (.if_icmp .ge 49) 66 (by decide +kernel) rfl (by decide) ?_ ?_
  · refine sim_sub hC [2] ?_
    exact sim_exit (E := (E_C_cheapestRiser_8 a1)) ((s.1, s.2.2.2))
  · refine sim_blk1 hC [(.aload_n 0, 0, 0, 0, 0), (.getfield 38, 42, 5, 58, 0), (.getfield 171, 56, 5, 60, 0), (.iload 4, 0, 0, 0, 0), (.iaload, 58, 8, 0, 0), (.iload_n 1, 0, 0, 0, 0)] [(0, vR 42), (1, vI a1), (2, vI s.1), (3, vI s.2.1), (4, vI s.2.2.1)] [vI a1, vI (s.2.2.2 58 (Int32.toNatClampNeg s.2.2.1))] s.2.2.2 31 (by decide +kernel) rfl rfl ?_
    refine sim_br hC (.if_icmp .ne 29) 60 (by decide +kernel) rfl (by decide) ?_ ?_
    · exact s_K_C_cheapestRiser_60 hC a1 s.1 s.2.1 s.2.2.1 s.2.2.2
    · refine sim_blk0 hC [(.aload_n 0, 0, 0, 0, 0), (.iload 4, 0, 0, 0, 0)] [(0, vR 42), (1, vI a1), (2, vI s.1), (3, vI s.2.1), (4, vI s.2.2.1)] [vI s.2.2.1, vR 42] s.2.2.2 37 (by decide +kernel) rfl rfl ?_
      refine sim_vd hC 258 mX10_fishToRise 4 101 42 [vI s.2.2.1] [] (by decide +kernel) ml_9_258 rfl rfl rfl rfl rfl rfl (fun rz wz hz => c_C_fishToRise s.2.2.2 s.2.2.1 rz wz hz) (fun i2 w3 => ?_)
      refine sim_blk0 hC [(.istore 5, 0, 0, 0, 0), (.iload 5, 0, 0, 0, 0), (.iconst (-1), 0, 0, 0, (-1))] [(0, vR 42), (1, vI a1), (2, vI s.1), (3, vI s.2.1), (4, vI s.2.2.1), (5, vI i2)] [vI (-1), vI i2] w3 45 (by decide +kernel) rfl rfl ?_
      refine sim_br hC (.if_icmp .eq 15) 60 (by decide +kernel) rfl (by decide) ?_ ?_
      · refine sim_sub hC [0, 1, 2, 3, 4] ?_
        exact s_K_C_cheapestRiser_60 hC a1 s.1 s.2.1 s.2.2.1 w3
      · refine sim_blk0 hC [(.iload 5, 0, 0, 0, 0), (.iload_n 3, 0, 0, 0, 0)] [(0, vR 42), (1, vI a1), (2, vI s.1), (3, vI s.2.1), (4, vI s.2.2.1), (5, vI i2)] [vI s.2.1, vI i2] w3 51 (by decide +kernel) rfl rfl ?_
        refine sim_br hC (.if_icmp .gt 9) 60 (by decide +kernel) rfl (by decide) ?_ ?_
        · refine sim_sub hC [0, 1, 2, 3, 4] ?_
          exact s_K_C_cheapestRiser_60 hC a1 s.1 s.2.1 s.2.2.1 w3
        · refine sim_blk0 hC [(.iload 5, 0, 0, 0, 0), (.istore_n 3, 0, 0, 0, 0), (.iload 4, 0, 0, 0, 0), (.istore_n 2, 0, 0, 0, 0)] [(0, vR 42), (1, vI a1), (2, vI s.2.2.1), (3, vI i2), (4, vI s.2.2.1), (5, vI i2)] [] w3 60 (by decide +kernel) rfl rfl ?_
          refine sim_sub hC [0, 1, 2, 3, 4] ?_
          exact s_K_C_cheapestRiser_60 hC a1 s.2.2.1 i2 s.2.2.1 w3
noncomputable def F_C_cheapestRiser (w : Wld) (a1 : Int32) : Option (Int32 × Wld) :=
  bl (loop (B_C_cheapestRiser_8 a1) (((-1), 10, 0, w))) (fun r4 => some ((r4.1, r4.2)))
set_option maxRecDepth 10000 in
theorem s_C_cheapestRiser {Z : ZT} {l : Launch} {o : Oc} {wo : Wld} {Ok : Cfg → Prop} (hC : Clo Z l 9 6 prog_1_method_42_code (some .int) 5 124 o wo Ok) (w : Wld) (a1 : Int32) : SimK Ok (0, [(0, vR 42), (1, vI a1)], [], w) (F_C_cheapestRiser w a1) (Gi o wo) := by
  unfold F_C_cheapestRiser
  refine sim_blk0 hC [(.iconst (-1), 0, 0, 0, (-1)), (.istore_n 2, 0, 0, 0, 0), (.bipush 10, 0, 0, 0, 10), (.istore_n 3, 0, 0, 0, 0), (.iconst 0, 0, 0, 0, 0), (.istore 4, 0, 0, 0, 0)] [(0, vR 42), (1, vI a1), (2, vI (-1)), (3, vI 10), (4, vI 0)] [] w 8 (by decide +kernel) rfl rfl ?_
  refine sim_bl (E := (E_C_cheapestRiser_8 a1)) ?_ (fun r4 => ?_)
  · exact sim_loop (V := (V_C_cheapestRiser_8 a1)) (fun sz => s_B_C_cheapestRiser_8 hC a1 sz) (((-1), 10, 0, w))
  · show SimK Ok (66, [(2, vI r4.1)], [], r4.2) _ _
    refine sim_blk0 hC [(.iload_n 2, 0, 0, 0, 0)] [(2, vI r4.1)] [vI r4.1] r4.2 67 (by decide +kernel) rfl rfl ?_
    exact sim_reti hC (by decide +kernel) trivial
theorem c_C_cheapestRiser {Z : ZT} {l : Launch} (w : Wld) (a1 : Int32) (r : Int32) (w1 : Wld) (h : F_C_cheapestRiser w a1 = some (r, w1)) : Con Z l mX10_cheapestRiser 5 124 [vR 42, vI a1] w (.inr (some r)) w1 :=
  Con_of (oc := 9) (by decide +kernel) rfl rfl (fun Ok hC => s_C_cheapestRiser hC w a1 (r, w1) h ⟨rfl, rfl⟩)
def V_C_leastFish_26 (a1 : Int32) (a4 : Int32) : (Int32 × Int32 × Int32 × Wld) → Cfg := fun s => (26, [(0, vR 42), (1, vI a1), (2, vI s.1), (3, vI s.2.1), (4, vI a4), (5, vI s.2.2.1)], [], s.2.2.2)
def E_C_leastFish_26 (a1 : Int32) (a4 : Int32) : (Int32 × Int32 × Wld) → Cfg := fun s => (93, [(1, vI a1), (2, vI s.1), (3, vI s.2.1)], [], s.2.2)
noncomputable def K_C_leastFish_87 (a1 : Int32) (a2 : Int32) (a3 : Int32) (a4 : Int32) (a5 : Int32) (w : Wld) : Option ((Int32 × Int32 × Int32 × Wld) ⊕ ((Int32 × Int32 × Wld) ⊕ (Oc × Wld))) :=
  bi (a5 + 1) (fun i2 => some (.inl ((a2, a3, i2, w))))
set_option maxRecDepth 10000 in
theorem s_K_C_leastFish_87 {Z : ZT} {l : Launch} {o : Oc} {wo : Wld} {Ok : Cfg → Prop} (hC : Clo Z l 9 8 prog_1_method_41_code (some .int) 7 149 o wo Ok) (a1 : Int32) (a2 : Int32) (a3 : Int32) (a4 : Int32) (a5 : Int32) (w : Wld) : SimK Ok (87, [(0, vR 42), (1, vI a1), (2, vI a2), (3, vI a3), (4, vI a4), (5, vI a5)], [], w) (K_C_leastFish_87 a1 a2 a3 a4 a5 w) (GLp Ok (V_C_leastFish_26 a1 a4) (GLp Ok (E_C_leastFish_26 a1 a4) (Gt o wo))) := by
  unfold K_C_leastFish_87
  refine sim_blk0 hC [(.iinc 5 1, 0, 0, 0, 1)] [(0, vR 42), (1, vI a1), (2, vI a2), (3, vI a3), (4, vI a4), (5, vI (a5 + 1))] [] w 90 (by decide +kernel) rfl rfl ?_
  refine sim_bi (C := fun i2 => (90, [(0, vR 42), (1, vI a1), (2, vI a2), (3, vI a3), (4, vI a4), (5, vI i2)], [], w)) (fun i2 => ?_)
  refine sim_goto hC (-64) 26 (by decide +kernel) (by decide) ?_
  exact sim_back (V := (V_C_leastFish_26 a1 a4)) ((a2, a3, i2, w))
noncomputable def K_C_leastFish_85 (a1 : Int32) (a2 : Int32) (a4 : Int32) (a5 : Int32) (t0 : Int32) (t1 : Int32) (w : Wld) : Option ((Int32 × Int32 × Int32 × Wld) ⊕ ((Int32 × Int32 × Wld) ⊕ (Oc × Wld))) :=
  bi (t0 + t1) (fun i8 => K_C_leastFish_87 a1 a2 i8 a4 a5 w)
set_option maxRecDepth 10000 in
theorem s_K_C_leastFish_85 {Z : ZT} {l : Launch} {o : Oc} {wo : Wld} {Ok : Cfg → Prop} (hC : Clo Z l 9 8 prog_1_method_41_code (some .int) 7 149 o wo Ok) (a1 : Int32) (a2 : Int32) (a4 : Int32) (a5 : Int32) (t0 : Int32) (t1 : Int32) (w : Wld) : SimK Ok (85, [(0, vR 42), (1, vI a1), (2, vI a2), (4, vI a4), (5, vI a5)], [vI t1, vI t0], w) (K_C_leastFish_85 a1 a2 a4 a5 t0 t1 w) (GLp Ok (V_C_leastFish_26 a1 a4) (GLp Ok (E_C_leastFish_26 a1 a4) (Gt o wo))) := by
  unfold K_C_leastFish_85
  refine sim_blk0 hC [(.iadd, 0, 0, 0, 0), (.istore_n 3, 0, 0, 0, 0)] [(0, vR 42), (1, vI a1), (2, vI a2), (3, vI (t0 + t1)), (4, vI a4), (5, vI a5)] [] w 87 (by decide +kernel) rfl rfl ?_
  refine sim_bi (C := fun i8 => (87, [(0, vR 42), (1, vI a1), (2, vI a2), (3, vI i8), (4, vI a4), (5, vI a5)], [], w)) (fun i8 => ?_)
  exact s_K_C_leastFish_87 hC a1 a2 i8 a4 a5 w
noncomputable def B_C_leastFish_26 (a1 : Int32) (a4 : Int32) (s : Int32 × Int32 × Int32 × Wld) : Option ((Int32 × Int32 × Int32 × Wld) ⊕ ((Int32 × Int32 × Wld) ⊕ (Oc × Wld))) :=
  br ((4 : Int32) ≤ s.2.2.1) (some (.inr (.inl ((s.1, s.2.1, s.2.2.2))))) (br (¬ ((a4 >>> (s.2.2.1 &&& 31)) &&& (1 : Int32)) = 1) (K_C_leastFish_87 a1 s.1 s.2.1 a4 s.2.2.1 s.2.2.2) (bd (F_C_cheapestRiser s.2.2.2 s.2.2.1) (fun i3 w4 => br (¬ i3 = (-1)) (bd (F_C_fishToRise w4 i3) (fun i5 w6 => bi (s.1 + i5) (fun i7 => br (¬ i3 = a1) (K_C_leastFish_85 a1 i7 a4 s.2.2.1 s.2.1 0 w6) (K_C_leastFish_85 a1 i7 a4 s.2.2.1 s.2.1 i5 w6)))) (some (.inr (.inr ((.inr (some (-1)), w4))))))))
set_option maxRecDepth 10000 in
theorem s_B_C_leastFish_26 {Z : ZT} {l : Launch} {o : Oc} {wo : Wld} {Ok : Cfg → Prop} (hC : Clo Z l 9 8 prog_1_method_41_code (some .int) 7 149 o wo Ok) (a1 : Int32) (a4 : Int32) (s : Int32 × Int32 × Int32 × Wld) : SimK Ok (V_C_leastFish_26 a1 a4 s) (B_C_leastFish_26 a1 a4 s) (GLp Ok (V_C_leastFish_26 a1 a4) (GLp Ok (E_C_leastFish_26 a1 a4) (Gt o wo))) := by
  unfold B_C_leastFish_26
  show SimK Ok (26, [(0, vR 42), (1, vI a1), (2, vI s.1), (3, vI s.2.1), (4, vI a4), (5, vI s.2.2.1)], [], s.2.2.2) _ _
  refine sim_blk0 hC [(.iload 5, 0, 0, 0, 0), (.iconst 4, 0, 0, 0, 4)] [(0, vR 42), (1, vI a1), (2, vI s.1), (3, vI s.2.1), (4, vI a4), (5, vI s.2.2.1)] [vI 4, vI s.2.2.1] s.2.2.2 29 (by decide +kernel) rfl rfl ?_
  refine sim_br hC (.if_icmp .ge 64) 93 (by decide +kernel) rfl (by decide) ?_ ?_
  · refine sim_sub hC [1, 2, 3] ?_
    exact sim_exitx (E := (E_C_leastFish_26 a1 a4)) ((s.1, s.2.1, s.2.2.2))
  · refine sim_blk0 hC [(.iload 4, 0, 0, 0, 0), (.iload 5, 0, 0, 0, 0), (.ishr, 0, 0, 0, 0), (.iconst 1, 0, 0, 0, 1), (.iand, 0, 0, 0, 0), (.iconst 1, 0, 0, 0, 1)] [(0, vR 42), (1, vI a1), (2, vI s.1), (3, vI s.2.1), (4, vI a4), (5, vI s.2.2.1)] [vI 1, vI ((a4 >>> (s.2.2.1 &&& 31)) &&& (1 : Int32))] s.2.2.2 40 (by decide +kernel) rfl rfl ?_
    refine sim_br hC (.if_icmp .ne 47) 87 (by decide +kernel) rfl (by decide) ?_ ?_
    · exact s_K_C_leastFish_87 hC a1 s.1 s.2.1 a4 s.2.2.1 s.2.2.2
    · refine sim_blk0 hC [(.aload_n 0, 0, 0, 0, 0), (.iload 5, 0, 0, 0, 0)] [(0, vR 42), (1, vI a1), (2, vI s.1), (3, vI s.2.1), (4, vI a4), (5, vI s.2.2.1)] [vI s.2.2.1, vR 42] s.2.2.2 46 (by decide +kernel) rfl rfl ?_
      refine sim_vd hC 255 mX10_cheapestRiser 5 124 42 [vI s.2.2.1] [] (by decide +kernel) ml_9_255 rfl rfl rfl rfl rfl rfl (fun rz wz hz => c_C_cheapestRiser s.2.2.2 s.2.2.1 rz wz hz) (fun i3 w4 => ?_)
      refine sim_blk0 hC [(.istore 6, 0, 0, 0, 0), (.iload 6, 0, 0, 0, 0), (.iconst (-1), 0, 0, 0, (-1))] [(0, vR 42), (1, vI a1), (2, vI s.1), (3, vI s.2.1), (4, vI a4), (5, vI s.2.2.1), (6, vI i3)] [vI (-1), vI i3] w4 54 (by decide +kernel) rfl rfl ?_
      refine sim_br hC (.if_icmp .ne 5) 59 (by decide +kernel) rfl (by decide) ?_ ?_
      · refine sim_blk0 hC [(.aload_n 0, 0, 0, 0, 0), (.iload 6, 0, 0, 0, 0)] [(0, vR 42), (1, vI a1), (2, vI s.1), (3, vI s.2.1), (4, vI a4), (5, vI s.2.2.1), (6, vI i3)] [vI i3, vR 42] w4 62 (by decide +kernel) rfl rfl ?_
        refine sim_vd hC 258 mX10_fishToRise 4 101 42 [vI i3] [] (by decide +kernel) ml_9_258 rfl rfl rfl rfl rfl rfl (fun rz wz hz => c_C_fishToRise w4 i3 rz wz hz) (fun i5 w6 => ?_)
        refine sim_blk0 hC [(.istore 7, 0, 0, 0, 0), (.iload_n 2, 0, 0, 0, 0), (.iload 7, 0, 0, 0, 0), (.iadd, 0, 0, 0, 0), (.istore_n 2, 0, 0, 0, 0)] [(0, vR 42), (1, vI a1), (2, vI (s.1 + i5)), (3, vI s.2.1), (4, vI a4), (5, vI s.2.2.1), (6, vI i3), (7, vI i5)] [] w6 72 (by decide +kernel) rfl rfl ?_
        refine sim_bi (C := fun i7 => (72, [(0, vR 42), (1, vI a1), (2, vI i7), (3, vI s.2.1), (4, vI a4), (5, vI s.2.2.1), (6, vI i3), (7, vI i5)], [], w6)) (fun i7 => ?_)
        refine sim_blk0 hC [(.iload_n 3, 0, 0, 0, 0), (.iload 6, 0, 0, 0, 0), (.iload_n 1, 0, 0, 0, 0)] [(0, vR 42), (1, vI a1), (2, vI i7), (3, vI s.2.1), (4, vI a4), (5, vI s.2.2.1), (6, vI i3), (7, vI i5)] [vI a1, vI i3, vI s.2.1] w6 76 (by decide +kernel) rfl rfl ?_
        refine sim_br hC (.if_icmp .ne 8) 84 (by decide +kernel) rfl (by decide) ?_ ?_
        · refine sim_blk0 hC [(.iconst 0, 0, 0, 0, 0)] [(0, vR 42), (1, vI a1), (2, vI i7), (3, vI s.2.1), (4, vI a4), (5, vI s.2.2.1), (6, vI i3), (7, vI i5)] [vI 0, vI s.2.1] w6 85 (by decide +kernel) rfl rfl ?_
          refine sim_sub hC [0, 1, 2, 4, 5] ?_
          exact s_K_C_leastFish_85 hC a1 i7 a4 s.2.2.1 s.2.1 0 w6
        · refine sim_blk0 hC [(.iload 7, 0, 0, 0, 0)] [(0, vR 42), (1, vI a1), (2, vI i7), (3, vI s.2.1), (4, vI a4), (5, vI s.2.2.1), (6, vI i3), (7, vI i5)] [vI i5, vI s.2.1] w6 81 (by decide +kernel) rfl rfl ?_
          refine sim_goto hC 4 85 (by decide +kernel) (by decide) ?_
          refine sim_sub hC [0, 1, 2, 4, 5] ?_
          exact s_K_C_leastFish_85 hC a1 i7 a4 s.2.2.1 s.2.1 i5 w6
      · refine sim_blk0 hC [(.iconst (-1), 0, 0, 0, (-1))] [(0, vR 42), (1, vI a1), (2, vI s.1), (3, vI s.2.1), (4, vI a4), (5, vI s.2.2.1), (6, vI i3)] [vI (-1)] w4 58 (by decide +kernel) rfl rfl ?_
        refine sim_outx ?_
        exact sim_rett hC (by decide +kernel) trivial
noncomputable def K_C_leastFish_103 (t0 : Int32) (w : Wld) : Option (Oc × Wld) :=
  some ((.inr (some t0), w))
set_option maxRecDepth 10000 in
theorem s_K_C_leastFish_103 {Z : ZT} {l : Launch} {o : Oc} {wo : Wld} {Ok : Cfg → Prop} (hC : Clo Z l 9 8 prog_1_method_41_code (some .int) 7 149 o wo Ok) (t0 : Int32) (w : Wld) : SimK Ok (103, [], [vI t0], w) (K_C_leastFish_103 t0 w) (Gt o wo) := by
  unfold K_C_leastFish_103
  exact sim_rett hC (by decide +kernel) trivial
noncomputable def K_C_leastFish_10 (a1 : Int32) (w : Wld) : Option (Oc × Wld) :=
  bp (F_House_voices_56 w) (fun i1 => bx (loop (B_C_leastFish_26 a1 i1) ((0, 0, 0, w))) (fun r9 => br (¬ a1 = (-1)) (K_C_leastFish_103 r9.2.1 r9.2.2) (K_C_leastFish_103 r9.1 r9.2.2)))
set_option maxRecDepth 10000 in
theorem s_K_C_leastFish_10 {Z : ZT} {l : Launch} {o : Oc} {wo : Wld} {Ok : Cfg → Prop} (hC : Clo Z l 9 8 prog_1_method_41_code (some .int) 7 149 o wo Ok) (a1 : Int32) (w : Wld) : SimK Ok (10, [(0, vR 42), (1, vI a1)], [], w) (K_C_leastFish_10 a1 w) (Gt o wo) := by
  unfold K_C_leastFish_10
  refine sim_blk0 hC [(.iconst 0, 0, 0, 0, 0), (.istore_n 2, 0, 0, 0, 0), (.iconst 0, 0, 0, 0, 0), (.istore_n 3, 0, 0, 0, 0), (.aload_n 0, 0, 0, 0, 0), (.getfield 38, 42, 5, 58, 0)] [(0, vR 42), (1, vI a1), (2, vI 0), (3, vI 0)] [vR 56] w 18 (by decide +kernel) rfl rfl ?_
  refine sim_vp hC 252 mX3_voices 1 0 56 [] [] (by decide +kernel) ml_9_252 rfl rfl rfl rfl rfl rfl (fun rz hz => c_House_voices_56 w rz hz) (fun i1 => ?_)
  refine sim_blk0 hC [(.istore 4, 0, 0, 0, 0), (.iconst 0, 0, 0, 0, 0), (.istore 5, 0, 0, 0, 0)] [(0, vR 42), (1, vI a1), (2, vI 0), (3, vI 0), (4, vI i1), (5, vI 0)] [] w 26 (by decide +kernel) rfl rfl ?_
  refine sim_bx (E := (E_C_leastFish_26 a1 i1)) ?_ (fun r9 => ?_)
  · exact sim_loop (V := (V_C_leastFish_26 a1 i1)) (fun sz => s_B_C_leastFish_26 hC a1 i1 sz) ((0, 0, 0, w))
  · show SimK Ok (93, [(1, vI a1), (2, vI r9.1), (3, vI r9.2.1)], [], r9.2.2) _ _
    refine sim_blk0 hC [(.iload_n 1, 0, 0, 0, 0), (.iconst (-1), 0, 0, 0, (-1))] [(1, vI a1), (2, vI r9.1), (3, vI r9.2.1)] [vI (-1), vI a1] r9.2.2 95 (by decide +kernel) rfl rfl ?_
    refine sim_br hC (.if_icmp .ne 7) 102 (by decide +kernel) rfl (by decide) ?_ ?_
    · refine sim_blk0 hC [(.iload_n 3, 0, 0, 0, 0)] [(1, vI a1), (2, vI r9.1), (3, vI r9.2.1)] [vI r9.2.1] r9.2.2 103 (by decide +kernel) rfl rfl ?_
      refine sim_sub hC [] ?_
      exact s_K_C_leastFish_103 hC r9.2.1 r9.2.2
    · refine sim_blk0 hC [(.iload_n 2, 0, 0, 0, 0)] [(1, vI a1), (2, vI r9.1), (3, vI r9.2.1)] [vI r9.1] r9.2.2 99 (by decide +kernel) rfl rfl ?_
      refine sim_goto hC 4 103 (by decide +kernel) (by decide) ?_
      refine sim_sub hC [] ?_
      exact s_K_C_leastFish_103 hC r9.1 r9.2.2
noncomputable def F_C_leastFish (w : Wld) (a1 : Int32) : Option (Oc × Wld) :=
  br (a1 = (-1)) (K_C_leastFish_10 a1 w) (bn (F_C_needMonk w a1) w (K_C_leastFish_10 a1 w))
set_option maxRecDepth 10000 in
theorem s_C_leastFish {Z : ZT} {l : Launch} {o : Oc} {wo : Wld} {Ok : Cfg → Prop} (hC : Clo Z l 9 8 prog_1_method_41_code (some .int) 7 149 o wo Ok) (w : Wld) (a1 : Int32) : SimK Ok (0, [(0, vR 42), (1, vI a1)], [], w) (F_C_leastFish w a1) (Gt o wo) := by
  unfold F_C_leastFish
  refine sim_blk0 hC [(.iload_n 1, 0, 0, 0, 0), (.iconst (-1), 0, 0, 0, (-1))] [(0, vR 42), (1, vI a1)] [vI (-1), vI a1] w 2 (by decide +kernel) rfl rfl ?_
  refine sim_br hC (.if_icmp .eq 8) 10 (by decide +kernel) rfl (by decide) ?_ ?_
  · exact s_K_C_leastFish_10 hC a1 w
  · refine sim_blk0 hC [(.aload_n 0, 0, 0, 0, 0), (.iload_n 1, 0, 0, 0, 0)] [(0, vR 42), (1, vI a1)] [vI a1, vR 42] w 7 (by decide +kernel) rfl rfl ?_
    refine sim_vn hC 168 mX10_needMonk 6 89 42 [vI a1] [] (by decide +kernel) ml_9_168 rfl rfl rfl rfl rfl rfl (fun qz hz => c_C_needMonk w a1 qz hz) ?_
    exact s_K_C_leastFish_10 hC a1 w
theorem c_C_leastFish {Z : ZT} {l : Launch} (w : Wld) (a1 : Int32) (q : Oc) (w1 : Wld) (h : F_C_leastFish w a1 = some (q, w1)) : Con Z l mX10_leastFish 7 149 [vR 42, vI a1] w q w1 :=
  Con_of (oc := 9) (by decide +kernel) rfl rfl (fun Ok hC => s_C_leastFish hC w a1 (q, w1) h ⟨rfl, rfl⟩)
def V_Night_singleSingers_55_4 (w : Wld) : (Int32 × Int32) → Cfg := fun s => (4, [(0, vR 55), (1, vI s.1), (2, vI s.2)], [], w)
def E_Night_singleSingers_55_4 (w : Wld) : (Int32) → Cfg := fun s => (43, [(1, vI s)], [], w)
noncomputable def K_Night_singleSingers_55_37 (a1 : Int32) (a2 : Int32) (w : Wld) : Option ((Int32 × Int32) ⊕ (Int32)) :=
  bi (a2 + 1) (fun i2 => some (.inl ((a1, i2))))
set_option maxRecDepth 10000 in
theorem s_K_Night_singleSingers_55_37 {Z : ZT} {l : Launch} {o : Oc} {wo : Wld} {Ok : Cfg → Prop} (hC : Clo Z l 4 3 prog_6_method_9_code (some .int) 2 23 o wo Ok) (a1 : Int32) (a2 : Int32) (w : Wld) : SimK Ok (37, [(0, vR 55), (1, vI a1), (2, vI a2)], [], w) (K_Night_singleSingers_55_37 a1 a2 w) (GLp Ok (V_Night_singleSingers_55_4 w) (GEp Ok (E_Night_singleSingers_55_4 w))) := by
  unfold K_Night_singleSingers_55_37
  refine sim_blk0 hC [(.iinc 2 1, 0, 0, 0, 1)] [(0, vR 55), (1, vI a1), (2, vI (a2 + 1))] [] w 40 (by decide +kernel) rfl rfl ?_
  refine sim_bi (C := fun i2 => (40, [(0, vR 55), (1, vI a1), (2, vI i2)], [], w)) (fun i2 => ?_)
  refine sim_goto hC (-36) 4 (by decide +kernel) (by decide) ?_
  exact sim_back (V := (V_Night_singleSingers_55_4 w)) ((a1, i2))
noncomputable def B_Night_singleSingers_55_4 (w : Wld) (s : Int32 × Int32) : Option ((Int32 × Int32) ⊕ (Int32)) :=
  br ((w 56 1) ≤ s.2) (some (.inr s.1)) (gd (vp_in s.2 8) (bp (F_Night_singersIn_55 w (w 63 (Int32.toNatClampNeg s.2))) (fun i1 => br (¬ i1 = ((1 : Int32) <<< (s.2 &&& 31))) (K_Night_singleSingers_55_37 s.1 s.2 w) (bi (s.1 ||| ((1 : Int32) <<< (s.2 &&& 31))) (fun i3 => K_Night_singleSingers_55_37 i3 s.2 w)))))
set_option maxRecDepth 10000 in
theorem s_B_Night_singleSingers_55_4 {Z : ZT} {l : Launch} {o : Oc} {wo : Wld} {Ok : Cfg → Prop} (hC : Clo Z l 4 3 prog_6_method_9_code (some .int) 2 23 o wo Ok) (w : Wld) (s : Int32 × Int32) : SimK Ok (V_Night_singleSingers_55_4 w s) (B_Night_singleSingers_55_4 w s) (GLp Ok (V_Night_singleSingers_55_4 w) (GEp Ok (E_Night_singleSingers_55_4 w))) := by
  unfold B_Night_singleSingers_55_4
  show SimK Ok (4, [(0, vR 55), (1, vI s.1), (2, vI s.2)], [], w) _ _
  refine sim_blk0 hC [(.iload_n 2, 0, 0, 0, 0), (.aload_n 0, 0, 0, 0, 0), (.getfield 12, 55, 0, 58, 0), (.getfield 57, 56, 1, 0, 0)] [(0, vR 55), (1, vI s.1), (2, vI s.2)] [vI (w 56 1), vI s.2] w 12 (by decide +kernel) rfl rfl ?_
  refine sim_br hC (.if_icmp .ge 31) 43 (by decide +kernel) rfl (by decide) ?_ ?_
  · refine sim_sub hC [1] ?_
    exact sim_exit (E := (E_Night_singleSingers_55_4 w)) s.1
  · refine sim_blk1 hC [(.aload_n 0, 0, 0, 0, 0), (.aload_n 0, 0, 0, 0, 0), (.getfield 24, 55, 2, 65, 0), (.iload_n 2, 0, 0, 0, 0), (.iaload, 63, 8, 0, 0)] [(0, vR 55), (1, vI s.1), (2, vI s.2)] [vI (w 63 (Int32.toNatClampNeg s.2)), vR 55] w 22 (by decide +kernel) rfl rfl ?_
    refine sim_vp hC 74 mX4_singersIn 1 0 55 [vI (w 63 (Int32.toNatClampNeg s.2))] [] (by decide +kernel) ml_4_74 rfl rfl rfl rfl rfl rfl (fun rz hz => c_Night_singersIn_55 w (w 63 (Int32.toNatClampNeg s.2)) rz hz) (fun i1 => ?_)
    refine sim_blk0 hC [(.iconst 1, 0, 0, 0, 1), (.iload_n 2, 0, 0, 0, 0), (.ishl, 0, 0, 0, 0)] [(0, vR 55), (1, vI s.1), (2, vI s.2)] [vI ((1 : Int32) <<< (s.2 &&& 31)), vI i1] w 28 (by decide +kernel) rfl rfl ?_
    refine sim_br hC (.if_icmp .ne 9) 37 (by decide +kernel) rfl (by decide) ?_ ?_
    · exact s_K_Night_singleSingers_55_37 hC s.1 s.2 w
    · refine sim_blk0 hC [(.iload_n 1, 0, 0, 0, 0), (.iconst 1, 0, 0, 0, 1), (.iload_n 2, 0, 0, 0, 0), (.ishl, 0, 0, 0, 0), (.ior, 0, 0, 0, 0), (.istore_n 1, 0, 0, 0, 0)] [(0, vR 55), (1, vI (s.1 ||| ((1 : Int32) <<< (s.2 &&& 31)))), (2, vI s.2)] [] w 37 (by decide +kernel) rfl rfl ?_
      refine sim_bi (C := fun i3 => (37, [(0, vR 55), (1, vI i3), (2, vI s.2)], [], w)) (fun i3 => ?_)
      exact s_K_Night_singleSingers_55_37 hC i3 s.2 w
noncomputable def F_Night_singleSingers_55 (w : Wld) : Option (Int32) :=
  bl (loop (B_Night_singleSingers_55_4 w) ((0, 0))) (fun r4 => some r4)
set_option maxRecDepth 10000 in
theorem s_Night_singleSingers_55 {Z : ZT} {l : Launch} {o : Oc} {wo : Wld} {Ok : Cfg → Prop} (hC : Clo Z l 4 3 prog_6_method_9_code (some .int) 2 23 o wo Ok) (w : Wld) : SimK Ok (0, [(0, vR 55)], [], w) (F_Night_singleSingers_55 w) (Gp o wo w) := by
  unfold F_Night_singleSingers_55
  refine sim_blk0 hC [(.iconst 0, 0, 0, 0, 0), (.istore_n 1, 0, 0, 0, 0), (.iconst 0, 0, 0, 0, 0), (.istore_n 2, 0, 0, 0, 0)] [(0, vR 55), (1, vI 0), (2, vI 0)] [] w 4 (by decide +kernel) rfl rfl ?_
  refine sim_bl (E := (E_Night_singleSingers_55_4 w)) ?_ (fun r4 => ?_)
  · exact sim_loop (V := (V_Night_singleSingers_55_4 w)) (fun sz => s_B_Night_singleSingers_55_4 hC w sz) ((0, 0))
  · show SimK Ok (43, [(1, vI r4)], [], w) _ _
    refine sim_blk0 hC [(.iload_n 1, 0, 0, 0, 0)] [(1, vI r4)] [vI r4] w 44 (by decide +kernel) rfl rfl ?_
    exact sim_retp hC (by decide +kernel) trivial
theorem c_Night_singleSingers_55 {Z : ZT} {l : Launch} (w : Wld) (r : Int32) (h : F_Night_singleSingers_55 w = some r) : Con Z l mX4_singleSingers 2 23 [vR 55] w (.inr (some r)) w :=
  Con_of (oc := 4) (by decide +kernel) rfl rfl (fun Ok hC => s_Night_singleSingers_55 hC w r h ⟨rfl, rfl⟩)
noncomputable def F_C_lonely (w : Wld) (a1 : Int32) : Option (Oc × Wld) :=
  bn (F_C_needWithin w a1 1 60) w (bv (F_C_goAhead w a1) (fun w1 => bp (F_Night_singleSingers_55 w1) (fun i2 => some ((.inr (some i2), w1)))))
set_option maxRecDepth 10000 in
theorem s_C_lonely {Z : ZT} {l : Launch} {o : Oc} {wo : Wld} {Ok : Cfg → Prop} (hC : Clo Z l 9 2 prog_1_method_24_code (some .int) 7 136 o wo Ok) (w : Wld) (a1 : Int32) : SimK Ok (0, [(0, vR 42), (1, vI a1)], [], w) (F_C_lonely w a1) (Gt o wo) := by
  unfold F_C_lonely
  refine sim_blk0 hC [(.iload_n 1, 0, 0, 0, 0), (.iconst 1, 0, 0, 0, 1), (.bipush 60, 0, 0, 0, 60)] [(0, vR 42), (1, vI a1)] [vI 60, vI 1, vI a1] w 4 (by decide +kernel) rfl rfl ?_
  refine sim_sn hC 77 mX10_needWithin 6 89 [vI a1, vI 1, vI 60] [] (by decide +kernel) ml_9_77 rfl rfl rfl rfl rfl (fun qz hz => c_C_needWithin w a1 1 60 qz hz) ?_
  refine sim_blk0 hC [(.aload_n 0, 0, 0, 0, 0), (.iload_n 1, 0, 0, 0, 0)] [(0, vR 42), (1, vI a1)] [vI a1, vR 42] w 9 (by decide +kernel) rfl rfl ?_
  refine sim_vv hC 200 mX10_goAhead 6 115 42 [vI a1] [] (by decide +kernel) ml_9_200 rfl rfl rfl rfl rfl rfl (fun wz hz => c_C_goAhead w a1 wz hz) (fun w1 => ?_)
  refine sim_blk0 hC [(.aload_n 0, 0, 0, 0, 0), (.getfield 30, 42, 4, 57, 0)] [(0, vR 42), (1, vI a1)] [vR 55] w1 16 (by decide +kernel) rfl rfl ?_
  refine sim_vp hC 215 mX4_singleSingers 2 23 55 [] [] (by decide +kernel) ml_9_215 rfl rfl rfl rfl rfl rfl (fun rz hz => c_Night_singleSingers_55 w1 rz hz) (fun i2 => ?_)
  exact sim_rett hC (by decide +kernel) trivial
theorem c_C_lonely {Z : ZT} {l : Launch} (w : Wld) (a1 : Int32) (q : Oc) (w1 : Wld) (h : F_C_lonely w a1 = some (q, w1)) : Con Z l mX10_lonely 7 136 [vR 42, vI a1] w q w1 :=
  Con_of (oc := 9) (by decide +kernel) rfl rfl (fun Ok hC => s_C_lonely hC w a1 (q, w1) h ⟨rfl, rfl⟩)
def V_C_crowd_19 (w : Wld) : (Int32 × Int32 × Int32) → Cfg := fun s => (19, [(0, vR 42), (2, vI s.1), (3, vI s.2.1), (4, vI s.2.2)], [], w)
def E_C_crowd_19 (w : Wld) : (Int32) → Cfg := fun s => (70, [(2, vI s)], [], w)
noncomputable def K_C_crowd_64 (a2 : Int32) (a3 : Int32) (a4 : Int32) (w : Wld) : Option ((Int32 × Int32 × Int32) ⊕ (Int32)) :=
  bi (a4 + 1) (fun i4 => some (.inl ((a2, a3, i4))))
set_option maxRecDepth 10000 in
theorem s_K_C_crowd_64 {Z : ZT} {l : Launch} {o : Oc} {wo : Wld} {Ok : Cfg → Prop} (hC : Clo Z l 9 6 prog_1_method_25_code (some .int) 7 136 o wo Ok) (a2 : Int32) (a3 : Int32) (a4 : Int32) (w : Wld) : SimK Ok (64, [(0, vR 42), (2, vI a2), (3, vI a3), (4, vI a4)], [], w) (K_C_crowd_64 a2 a3 a4 w) (GLp Ok (V_C_crowd_19 w) (GEp Ok (E_C_crowd_19 w))) := by
  unfold K_C_crowd_64
  refine sim_blk0 hC [(.iinc 4 1, 0, 0, 0, 1)] [(0, vR 42), (2, vI a2), (3, vI a3), (4, vI (a4 + 1))] [] w 67 (by decide +kernel) rfl rfl ?_
  refine sim_bi (C := fun i4 => (67, [(0, vR 42), (2, vI a2), (3, vI a3), (4, vI i4)], [], w)) (fun i4 => ?_)
  refine sim_goto hC (-48) 19 (by decide +kernel) (by decide) ?_
  exact sim_back (V := (V_C_crowd_19 w)) ((a2, a3, i4))
noncomputable def B_C_crowd_19 (w : Wld) (s : Int32 × Int32 × Int32) : Option ((Int32 × Int32 × Int32) ⊕ (Int32)) :=
  br ((w 56 0) ≤ s.2.2) (some (.inr s.1)) (bp (F_State_within_84 w s.2.2 (w 56 1)) (fun i2 => bp (F_JI_bitCount w i2) (fun i3 => br (i3 ≤ s.2.1) (K_C_crowd_64 s.1 s.2.1 s.2.2 w) (K_C_crowd_64 s.2.2 i3 s.2.2 w))))
set_option maxRecDepth 10000 in
theorem s_B_C_crowd_19 {Z : ZT} {l : Launch} {o : Oc} {wo : Wld} {Ok : Cfg → Prop} (hC : Clo Z l 9 6 prog_1_method_25_code (some .int) 7 136 o wo Ok) (w : Wld) (s : Int32 × Int32 × Int32) : SimK Ok (V_C_crowd_19 w s) (B_C_crowd_19 w s) (GLp Ok (V_C_crowd_19 w) (GEp Ok (E_C_crowd_19 w))) := by
  unfold B_C_crowd_19
  show SimK Ok (19, [(0, vR 42), (2, vI s.1), (3, vI s.2.1), (4, vI s.2.2)], [], w) _ _
  refine sim_blk0 hC [(.iload 4, 0, 0, 0, 0), (.aload_n 0, 0, 0, 0, 0), (.getfield 38, 42, 5, 58, 0), (.getfield 125, 56, 0, 0, 0)] [(0, vR 42), (2, vI s.1), (3, vI s.2.1), (4, vI s.2.2)] [vI (w 56 0), vI s.2.2] w 28 (by decide +kernel) rfl rfl ?_
  refine sim_br hC (.if_icmp .ge 42) 70 (by decide +kernel) rfl (by decide) ?_ ?_
  · refine sim_sub hC [1] ?_
    exact sim_exit (E := (E_C_crowd_19 w)) s.1
  · refine sim_blk0 hC [(.aload_n 0, 0, 0, 0, 0), (.getfield 56, 42, 9, 86, 0), (.iload 4, 0, 0, 0, 0), (.aload_n 0, 0, 0, 0, 0), (.getfield 38, 42, 5, 58, 0), (.getfield 128, 56, 1, 0, 0)] [(0, vR 42), (2, vI s.1), (3, vI s.2.1), (4, vI s.2.2)] [vI (w 56 1), vI s.2.2, vR 84] w 44 (by decide +kernel) rfl rfl ?_
    refine sim_vp hC 164 mX7_within 1 0 84 [vI s.2.2, vI (w 56 1)] [] (by decide +kernel) ml_9_164 rfl rfl rfl rfl rfl rfl (fun rz hz => c_State_within_84 w s.2.2 (w 56 1) rz hz) (fun i2 => ?_)
    refine sim_sp hC 218 mJ6_bitCount_0f7a4 1 0 [vI i2] [] (by decide +kernel) ml_9_218 rfl rfl rfl rfl rfl (fun rz hz => c_JI_bitCount w i2 rz hz) (fun i3 => ?_)
    refine sim_blk0 hC [(.istore 5, 0, 0, 0, 0), (.iload 5, 0, 0, 0, 0), (.iload_n 3, 0, 0, 0, 0)] [(0, vR 42), (2, vI s.1), (3, vI s.2.1), (4, vI s.2.2), (5, vI i3)] [vI s.2.1, vI i3] w 55 (by decide +kernel) rfl rfl ?_
    refine sim_br hC (.if_icmp .le 9) 64 (by decide +kernel) rfl (by decide) ?_ ?_
    · refine sim_sub hC [0, 1, 2, 3] ?_
      exact s_K_C_crowd_64 hC s.1 s.2.1 s.2.2 w
    · refine sim_blk0 hC [(.iload 5, 0, 0, 0, 0), (.istore_n 3, 0, 0, 0, 0), (.iload 4, 0, 0, 0, 0), (.istore_n 2, 0, 0, 0, 0)] [(0, vR 42), (2, vI s.2.2), (3, vI i3), (4, vI s.2.2), (5, vI i3)] [] w 64 (by decide +kernel) rfl rfl ?_
      refine sim_sub hC [0, 1, 2, 3] ?_
      exact s_K_C_crowd_64 hC s.2.2 i3 s.2.2 w
noncomputable def F_C_crowd (w : Wld) (a1 : Int32) : Option (Oc × Wld) :=
  bn (F_C_needWithin w a1 0 60) w (bv (F_C_goAhead w a1) (fun w1 => bl (loop (B_C_crowd_19 w1) (((-1), 0, 0))) (fun r5 => some ((.inr (some r5), w1)))))
set_option maxRecDepth 10000 in
theorem s_C_crowd {Z : ZT} {l : Launch} {o : Oc} {wo : Wld} {Ok : Cfg → Prop} (hC : Clo Z l 9 6 prog_1_method_25_code (some .int) 7 136 o wo Ok) (w : Wld) (a1 : Int32) : SimK Ok (0, [(0, vR 42), (1, vI a1)], [], w) (F_C_crowd w a1) (Gt o wo) := by
  unfold F_C_crowd
  refine sim_blk0 hC [(.iload_n 1, 0, 0, 0, 0), (.iconst 0, 0, 0, 0, 0), (.bipush 60, 0, 0, 0, 60)] [(0, vR 42), (1, vI a1)] [vI 60, vI 0, vI a1] w 4 (by decide +kernel) rfl rfl ?_
  refine sim_sn hC 77 mX10_needWithin 6 89 [vI a1, vI 0, vI 60] [] (by decide +kernel) ml_9_77 rfl rfl rfl rfl rfl (fun qz hz => c_C_needWithin w a1 0 60 qz hz) ?_
  refine sim_blk0 hC [(.aload_n 0, 0, 0, 0, 0), (.iload_n 1, 0, 0, 0, 0)] [(0, vR 42), (1, vI a1)] [vI a1, vR 42] w 9 (by decide +kernel) rfl rfl ?_
  refine sim_vv hC 200 mX10_goAhead 6 115 42 [vI a1] [] (by decide +kernel) ml_9_200 rfl rfl rfl rfl rfl rfl (fun wz hz => c_C_goAhead w a1 wz hz) (fun w1 => ?_)
  refine sim_blk0 hC [(.iconst (-1), 0, 0, 0, (-1)), (.istore_n 2, 0, 0, 0, 0), (.iconst 0, 0, 0, 0, 0), (.istore_n 3, 0, 0, 0, 0), (.iconst 0, 0, 0, 0, 0), (.istore 4, 0, 0, 0, 0)] [(0, vR 42), (1, vI a1), (2, vI (-1)), (3, vI 0), (4, vI 0)] [] w1 19 (by decide +kernel) rfl rfl ?_
  refine sim_bl (E := (E_C_crowd_19 w1)) ?_ (fun r5 => ?_)
  · refine sim_sub hC [0, 2, 3, 4] ?_
    exact sim_loop (V := (V_C_crowd_19 w1)) (fun sz => s_B_C_crowd_19 hC w1 sz) (((-1), 0, 0))
  · show SimK Ok (70, [(2, vI r5)], [], w1) _ _
    refine sim_blk0 hC [(.iload_n 2, 0, 0, 0, 0)] [(2, vI r5)] [vI r5] w1 71 (by decide +kernel) rfl rfl ?_
    exact sim_rett hC (by decide +kernel) trivial
theorem c_C_crowd {Z : ZT} {l : Launch} (w : Wld) (a1 : Int32) (q : Oc) (w1 : Wld) (h : F_C_crowd w a1 = some (q, w1)) : Con Z l mX10_crowd 7 136 [vR 42, vI a1] w q w1 :=
  Con_of (oc := 9) (by decide +kernel) rfl rfl (fun Ok hC => s_C_crowd hC w a1 (q, w1) h ⟨rfl, rfl⟩)
def V_C_toPray_14 (a1 : Int32) (a2 : Int32) : (Int32 × Wld) → Cfg := fun s => (14, [(0, vR 42), (1, vI a1), (2, vI a2), (3, vI s.1)], [], s.2)
def E_C_toPray_14 (a1 : Int32) (a2 : Int32) : (Wld) → Cfg := fun s => (64, [], [], s)
noncomputable def B_C_toPray_14 (a1 : Int32) (a2 : Int32) (s : Int32 × Wld) : Option ((Int32 × Wld) ⊕ ((Wld) ⊕ (Oc × Wld))) :=
  br ((99 : Int32) < s.1) (some (.inr (.inl s.2))) (bv (F_C_beginTrial s.2) (fun w1 => gd (vp_in ((0 : Int32) + a1) 53) (bw (wup w1 85 (Int32.toNatClampNeg ((0 : Int32) + a1)) s.1) (fun w2 => bv (F_C_passNights w2 a2) (fun w3 => br (¬ (((w3 55 3) >>> (a1 &&& 31)) &&& (1 : Int32)) = 1) (bi (s.1 + 1) (fun i4 => some (.inl ((i4, w3))))) (some (.inr (.inr ((.inr (some s.1), w3))))))))))
set_option maxRecDepth 10000 in
theorem s_B_C_toPray_14 {Z : ZT} {l : Launch} {o : Oc} {wo : Wld} {Ok : Cfg → Prop} (hC : Clo Z l 9 4 prog_1_method_27_code (some .int) 7 115 o wo Ok) (a1 : Int32) (a2 : Int32) (s : Int32 × Wld) : SimK Ok (V_C_toPray_14 a1 a2 s) (B_C_toPray_14 a1 a2 s) (GLp Ok (V_C_toPray_14 a1 a2) (GLp Ok (E_C_toPray_14 a1 a2) (Gt o wo))) := by
  unfold B_C_toPray_14
  show SimK Ok (14, [(0, vR 42), (1, vI a1), (2, vI a2), (3, vI s.1)], [], s.2) _ _
  refine sim_blk0 hC [(.iload_n 3, 0, 0, 0, 0), (.bipush 99, 0, 0, 0, 99)] [(0, vR 42), (1, vI a1), (2, vI a2), (3, vI s.1)] [vI 99, vI s.1] s.2 17 (by decide +kernel) rfl rfl ?_
  refine sim_br hC (.if_icmp .gt 47) 64 (by decide +kernel) rfl (by decide) ?_ ?_
  · refine sim_sub hC [] ?_
    exact sim_exitx (E := (E_C_toPray_14 a1 a2)) s.2
  · refine sim_blk0 hC [(.aload_n 0, 0, 0, 0, 0)] [(0, vR 42), (1, vI a1), (2, vI a2), (3, vI s.1)] [vR 42] s.2 21 (by decide +kernel) rfl rfl ?_
    refine sim_vv hC 212 mX10_beginTrial 2 81 42 [] [] (by decide +kernel) ml_9_212 rfl rfl rfl rfl rfl rfl (fun wz hz => c_C_beginTrial s.2 wz hz) (fun w1 => ?_)
    refine sim_blk1 hC [(.aload_n 0, 0, 0, 0, 0), (.getfield 56, 42, 9, 86, 0), (.getfield 137, 84, 0, 87, 0), (.iconst 0, 0, 0, 0, 0), (.iload_n 1, 0, 0, 0, 0), (.iadd, 0, 0, 0, 0), (.iload_n 3, 0, 0, 0, 0), (.iastore, 85, 53, 0, 0)] [(0, vR 42), (1, vI a1), (2, vI a2), (3, vI s.1)] [] (wup w1 85 (Int32.toNatClampNeg ((0 : Int32) + a1)) s.1) 36 (by decide +kernel) rfl rfl ?_
    refine sim_bw (C := fun w2 => (36, [(0, vR 42), (1, vI a1), (2, vI a2), (3, vI s.1)], [], w2)) (fun w2 => ?_)
    refine sim_blk0 hC [(.aload_n 0, 0, 0, 0, 0), (.iload_n 2, 0, 0, 0, 0)] [(0, vR 42), (1, vI a1), (2, vI a2), (3, vI s.1)] [vI a2, vR 42] w2 38 (by decide +kernel) rfl rfl ?_
    refine sim_vv hC 223 mX10_passNights 5 93 42 [vI a2] [] (by decide +kernel) ml_9_223 rfl rfl rfl rfl rfl rfl (fun wz hz => c_C_passNights w2 a2 wz hz) (fun w3 => ?_)
    refine sim_blk0 hC [(.aload_n 0, 0, 0, 0, 0), (.getfield 30, 42, 4, 57, 0), (.getfield 203, 55, 3, 0, 0), (.iload_n 1, 0, 0, 0, 0), (.ishr, 0, 0, 0, 0), (.iconst 1, 0, 0, 0, 1), (.iand, 0, 0, 0, 0), (.iconst 1, 0, 0, 0, 1)] [(0, vR 42), (1, vI a1), (2, vI a2), (3, vI s.1)] [vI 1, vI (((w3 55 3) >>> (a1 &&& 31)) &&& (1 : Int32))] w3 53 (by decide +kernel) rfl rfl ?_
    refine sim_br hC (.if_icmp .ne 5) 58 (by decide +kernel) rfl (by decide) ?_ ?_
    · refine sim_blk0 hC [(.iinc 3 1, 0, 0, 0, 1)] [(0, vR 42), (1, vI a1), (2, vI a2), (3, vI (s.1 + 1))] [] w3 61 (by decide +kernel) rfl rfl ?_
      refine sim_bi (C := fun i4 => (61, [(0, vR 42), (1, vI a1), (2, vI a2), (3, vI i4)], [], w3)) (fun i4 => ?_)
      refine sim_goto hC (-47) 14 (by decide +kernel) (by decide) ?_
      exact sim_back (V := (V_C_toPray_14 a1 a2)) ((i4, w3))
    · refine sim_blk0 hC [(.iload_n 3, 0, 0, 0, 0)] [(0, vR 42), (1, vI a1), (2, vI a2), (3, vI s.1)] [vI s.1] w3 57 (by decide +kernel) rfl rfl ?_
      refine sim_outx ?_
      exact sim_rett hC (by decide +kernel) trivial
noncomputable def F_C_toPray (w : Wld) (a1 : Int32) (a2 : Int32) : Option (Oc × Wld) :=
  bn (F_C_needMonk w a1) w (bn (F_C_needWithin w a2 1 60) w (bx (loop (B_C_toPray_14 a1 a2) ((0, w))) (fun r5 => some ((.inr (some (-1)), r5)))))
set_option maxRecDepth 10000 in
theorem s_C_toPray {Z : ZT} {l : Launch} {o : Oc} {wo : Wld} {Ok : Cfg → Prop} (hC : Clo Z l 9 4 prog_1_method_27_code (some .int) 7 115 o wo Ok) (w : Wld) (a1 : Int32) (a2 : Int32) : SimK Ok (0, [(0, vR 42), (1, vI a1), (2, vI a2)], [], w) (F_C_toPray w a1 a2) (Gt o wo) := by
  unfold F_C_toPray
  refine sim_blk0 hC [(.aload_n 0, 0, 0, 0, 0), (.iload_n 1, 0, 0, 0, 0)] [(0, vR 42), (1, vI a1), (2, vI a2)] [vI a1, vR 42] w 2 (by decide +kernel) rfl rfl ?_
  refine sim_vn hC 168 mX10_needMonk 6 89 42 [vI a1] [] (by decide +kernel) ml_9_168 rfl rfl rfl rfl rfl rfl (fun qz hz => c_C_needMonk w a1 qz hz) ?_
  refine sim_blk0 hC [(.iload_n 2, 0, 0, 0, 0), (.iconst 1, 0, 0, 0, 1), (.bipush 60, 0, 0, 0, 60)] [(0, vR 42), (1, vI a1), (2, vI a2)] [vI 60, vI 1, vI a2] w 9 (by decide +kernel) rfl rfl ?_
  refine sim_sn hC 77 mX10_needWithin 6 89 [vI a2, vI 1, vI 60] [] (by decide +kernel) ml_9_77 rfl rfl rfl rfl rfl (fun qz hz => c_C_needWithin w a2 1 60 qz hz) ?_
  refine sim_blk0 hC [(.iconst 0, 0, 0, 0, 0), (.istore_n 3, 0, 0, 0, 0)] [(0, vR 42), (1, vI a1), (2, vI a2), (3, vI 0)] [] w 14 (by decide +kernel) rfl rfl ?_
  refine sim_bx (E := (E_C_toPray_14 a1 a2)) ?_ (fun r5 => ?_)
  · exact sim_loop (V := (V_C_toPray_14 a1 a2)) (fun sz => s_B_C_toPray_14 hC a1 a2 sz) ((0, w))
  · show SimK Ok (64, [], [], r5) _ _
    refine sim_blk0 hC [(.iconst (-1), 0, 0, 0, (-1))] [] [vI (-1)] r5 65 (by decide +kernel) rfl rfl ?_
    exact sim_rett hC (by decide +kernel) trivial
theorem c_C_toPray {Z : ZT} {l : Launch} (w : Wld) (a1 : Int32) (a2 : Int32) (q : Oc) (w1 : Wld) (h : F_C_toPray w a1 a2 = some (q, w1)) : Con Z l mX10_toPray 7 115 [vR 42, vI a1, vI a2] w q w1 :=
  Con_of (oc := 9) (by decide +kernel) rfl rfl (fun Ok hC => s_C_toPray hC w a1 a2 (q, w1) h ⟨rfl, rfl⟩)
def V_C_fullWith_23 (a2 : Int32) : (Int32 × Int32 × Wld) → Cfg := fun s => (23, [(0, vR 42), (2, vI a2), (3, vI s.1), (4, vI s.2.1)], [], s.2.2)
def E_C_fullWith_23 (a2 : Int32) : (Int32 × Wld) → Cfg := fun s => (64, [(3, vI s.1)], [], s.2)
noncomputable def K_C_fullWith_56 (a2 : Int32) (a4 : Int32) (t0 : Int32) (t1 : Int32) (w : Wld) : Option ((Int32 × Int32 × Wld) ⊕ (Int32 × Wld)) :=
  bi (t0 + t1) (fun i5 => bi (a4 + 1) (fun i6 => some (.inl ((i5, i6, w)))))
set_option maxRecDepth 10000 in
theorem s_K_C_fullWith_56 {Z : ZT} {l : Launch} {o : Oc} {wo : Wld} {Ok : Cfg → Prop} (hC : Clo Z l 9 5 prog_1_method_29_code (some .int) 5 101 o wo Ok) (a2 : Int32) (a4 : Int32) (t0 : Int32) (t1 : Int32) (w : Wld) : SimK Ok (56, [(0, vR 42), (2, vI a2), (4, vI a4)], [vI t1, vI t0], w) (K_C_fullWith_56 a2 a4 t0 t1 w) (GLp Ok (V_C_fullWith_23 a2) (GEp Ok (E_C_fullWith_23 a2))) := by
  unfold K_C_fullWith_56
  refine sim_blk0 hC [(.iadd, 0, 0, 0, 0), (.istore_n 3, 0, 0, 0, 0)] [(0, vR 42), (2, vI a2), (3, vI (t0 + t1)), (4, vI a4)] [] w 58 (by decide +kernel) rfl rfl ?_
  refine sim_bi (C := fun i5 => (58, [(0, vR 42), (2, vI a2), (3, vI i5), (4, vI a4)], [], w)) (fun i5 => ?_)
  refine sim_blk0 hC [(.iinc 4 1, 0, 0, 0, 1)] [(0, vR 42), (2, vI a2), (3, vI i5), (4, vI (a4 + 1))] [] w 61 (by decide +kernel) rfl rfl ?_
  refine sim_bi (C := fun i6 => (61, [(0, vR 42), (2, vI a2), (3, vI i5), (4, vI i6)], [], w)) (fun i6 => ?_)
  refine sim_goto hC (-38) 23 (by decide +kernel) (by decide) ?_
  exact sim_back (V := (V_C_fullWith_23 a2)) ((i5, i6, w))
noncomputable def B_C_fullWith_23 (a2 : Int32) (s : Int32 × Int32 × Wld) : Option ((Int32 × Int32 × Wld) ⊕ (Int32 × Wld)) :=
  br (a2 ≤ s.2.1) (some (.inr ((s.1, s.2.2)))) (bv (F_Night_pass_55_84 s.2.2) (fun w3 => bp (F_Night_missing_55 w3) (fun i4 => br (¬ i4 = 0) (K_C_fullWith_56 a2 s.2.1 s.1 0 w3) (K_C_fullWith_56 a2 s.2.1 s.1 1 w3))))
set_option maxRecDepth 10000 in
theorem s_B_C_fullWith_23 {Z : ZT} {l : Launch} {o : Oc} {wo : Wld} {Ok : Cfg → Prop} (hC : Clo Z l 9 5 prog_1_method_29_code (some .int) 5 101 o wo Ok) (a2 : Int32) (s : Int32 × Int32 × Wld) : SimK Ok (V_C_fullWith_23 a2 s) (B_C_fullWith_23 a2 s) (GLp Ok (V_C_fullWith_23 a2) (GEp Ok (E_C_fullWith_23 a2))) := by
  unfold B_C_fullWith_23
  show SimK Ok (23, [(0, vR 42), (2, vI a2), (3, vI s.1), (4, vI s.2.1)], [], s.2.2) _ _
  refine sim_blk0 hC [(.iload 4, 0, 0, 0, 0), (.iload_n 2, 0, 0, 0, 0)] [(0, vR 42), (2, vI a2), (3, vI s.1), (4, vI s.2.1)] [vI a2, vI s.2.1] s.2.2 26 (by decide +kernel) rfl rfl ?_
  refine sim_br hC (.if_icmp .ge 38) 64 (by decide +kernel) rfl (by decide) ?_ ?_
  · refine sim_sub hC [2] ?_
    exact sim_exit (E := (E_C_fullWith_23 a2)) ((s.1, s.2.2))
  · refine sim_blk0 hC [(.aload_n 0, 0, 0, 0, 0), (.getfield 30, 42, 4, 57, 0), (.aload_n 0, 0, 0, 0, 0), (.getfield 56, 42, 9, 86, 0)] [(0, vR 42), (2, vI a2), (3, vI s.1), (4, vI s.2.1)] [vR 84, vR 55] s.2.2 37 (by decide +kernel) rfl rfl ?_
    refine sim_vv hC 185 mX4_pass 4 69 55 [vR 84] [] (by decide +kernel) ml_9_185 rfl rfl rfl rfl rfl rfl (fun wz hz => c_Night_pass_55_84 s.2.2 wz hz) (fun w3 => ?_)
    refine sim_blk0 hC [(.iload_n 3, 0, 0, 0, 0), (.aload_n 0, 0, 0, 0, 0), (.getfield 30, 42, 4, 57, 0)] [(0, vR 42), (2, vI a2), (3, vI s.1), (4, vI s.2.1)] [vR 55, vI s.1] w3 45 (by decide +kernel) rfl rfl ?_
    refine sim_vp hC 209 mX4_missing 2 22 55 [] [vI s.1] (by decide +kernel) ml_9_209 rfl rfl rfl rfl rfl rfl (fun rz hz => c_Night_missing_55 w3 rz hz) (fun i4 => ?_)
    refine sim_br hC (.ifCond .ne 7) 55 (by decide +kernel) rfl (by decide) ?_ ?_
    · refine sim_blk0 hC [(.iconst 0, 0, 0, 0, 0)] [(0, vR 42), (2, vI a2), (3, vI s.1), (4, vI s.2.1)] [vI 0, vI s.1] w3 56 (by decide +kernel) rfl rfl ?_
      refine sim_sub hC [0, 1, 3] ?_
      exact s_K_C_fullWith_56 hC a2 s.2.1 s.1 0 w3
    · refine sim_blk0 hC [(.iconst 1, 0, 0, 0, 1)] [(0, vR 42), (2, vI a2), (3, vI s.1), (4, vI s.2.1)] [vI 1, vI s.1] w3 52 (by decide +kernel) rfl rfl ?_
      refine sim_goto hC 4 56 (by decide +kernel) (by decide) ?_
      refine sim_sub hC [0, 1, 3] ?_
      exact s_K_C_fullWith_56 hC a2 s.2.1 s.1 1 w3
noncomputable def F_C_fullWith (w : Wld) (a1 : Int32) (a2 : Int32) : Option (Int32 × Wld) :=
  bv (F_C_beginTrial w) (fun w1 => gd (vp_in 50 53) (gd (vp_in 50 53) (bw (wup w1 85 (Int32.toNatClampNeg 50) ((w1 85 (Int32.toNatClampNeg 50)) ||| a1)) (fun w2 => bl (loop (B_C_fullWith_23 a2) ((0, 0, w2))) (fun r7 => some ((r7.1, r7.2)))))))
set_option maxRecDepth 10000 in
theorem s_C_fullWith {Z : ZT} {l : Launch} {o : Oc} {wo : Wld} {Ok : Cfg → Prop} (hC : Clo Z l 9 5 prog_1_method_29_code (some .int) 5 101 o wo Ok) (w : Wld) (a1 : Int32) (a2 : Int32) : SimK Ok (0, [(0, vR 42), (1, vI a1), (2, vI a2)], [], w) (F_C_fullWith w a1 a2) (Gi o wo) := by
  unfold F_C_fullWith
  refine sim_blk0 hC [(.aload_n 0, 0, 0, 0, 0)] [(0, vR 42), (1, vI a1), (2, vI a2)] [vR 42] w 1 (by decide +kernel) rfl rfl ?_
  refine sim_vv hC 212 mX10_beginTrial 2 81 42 [] [] (by decide +kernel) ml_9_212 rfl rfl rfl rfl rfl rfl (fun wz hz => c_C_beginTrial w wz hz) (fun w1 => ?_)
  refine sim_blk2 hC [(.aload_n 0, 0, 0, 0, 0), (.getfield 56, 42, 9, 86, 0), (.getfield 137, 84, 0, 87, 0), (.bipush 50, 0, 0, 0, 50), (.dup2, 0, 0, 0, 0), (.iaload, 85, 53, 0, 0), (.iload_n 1, 0, 0, 0, 0), (.ior, 0, 0, 0, 0), (.iastore, 85, 53, 0, 0)] [(0, vR 42), (1, vI a1), (2, vI a2)] [] (wup w1 85 (Int32.toNatClampNeg 50) ((w1 85 (Int32.toNatClampNeg 50)) ||| a1)) 18 (by decide +kernel) rfl rfl ?_
  refine sim_bw (C := fun w2 => (18, [(0, vR 42), (1, vI a1), (2, vI a2)], [], w2)) (fun w2 => ?_)
  refine sim_blk0 hC [(.iconst 0, 0, 0, 0, 0), (.istore_n 3, 0, 0, 0, 0), (.iconst 0, 0, 0, 0, 0), (.istore 4, 0, 0, 0, 0)] [(0, vR 42), (1, vI a1), (2, vI a2), (3, vI 0), (4, vI 0)] [] w2 23 (by decide +kernel) rfl rfl ?_
  refine sim_bl (E := (E_C_fullWith_23 a2)) ?_ (fun r7 => ?_)
  · refine sim_sub hC [0, 2, 3, 4] ?_
    exact sim_loop (V := (V_C_fullWith_23 a2)) (fun sz => s_B_C_fullWith_23 hC a2 sz) ((0, 0, w2))
  · show SimK Ok (64, [(3, vI r7.1)], [], r7.2) _ _
    refine sim_blk0 hC [(.iload_n 3, 0, 0, 0, 0)] [(3, vI r7.1)] [vI r7.1] r7.2 65 (by decide +kernel) rfl rfl ?_
    exact sim_reti hC (by decide +kernel) trivial
theorem c_C_fullWith {Z : ZT} {l : Launch} (w : Wld) (a1 : Int32) (a2 : Int32) (r : Int32) (w1 : Wld) (h : F_C_fullWith w a1 a2 = some (r, w1)) : Con Z l mX10_fullWith 5 101 [vR 42, vI a1, vI a2] w (.inr (some r)) w1 :=
  Con_of (oc := 9) (by decide +kernel) rfl rfl (fun Ok hC => s_C_fullWith hC w a1 a2 (r, w1) h ⟨rfl, rfl⟩)
def V_C_needless_19 (a1 : Int32) (a2 : Int32) : (Int32 × Int32 × Wld) → Cfg := fun s => (19, [(0, vR 42), (1, vI a1), (2, vI a2), (3, vI s.1), (4, vI s.2.1)], [], s.2.2)
def E_C_needless_19 (a1 : Int32) (a2 : Int32) : (Int32 × Wld) → Cfg := fun s => (90, [(3, vI s.1)], [], s.2)
noncomputable def K_C_needless_84 (a1 : Int32) (a2 : Int32) (a3 : Int32) (a4 : Int32) (w : Wld) : Option ((Int32 × Int32 × Wld) ⊕ (Int32 × Wld)) :=
  bi (a4 + 1) (fun i3 => some (.inl ((a3, i3, w))))
set_option maxRecDepth 10000 in
theorem s_K_C_needless_84 {Z : ZT} {l : Launch} {o : Oc} {wo : Wld} {Ok : Cfg → Prop} (hC : Clo Z l 9 6 prog_1_method_28_code (some .int) 7 125 o wo Ok) (a1 : Int32) (a2 : Int32) (a3 : Int32) (a4 : Int32) (w : Wld) : SimK Ok (84, [(0, vR 42), (1, vI a1), (2, vI a2), (3, vI a3), (4, vI a4)], [], w) (K_C_needless_84 a1 a2 a3 a4 w) (GLp Ok (V_C_needless_19 a1 a2) (GEp Ok (E_C_needless_19 a1 a2))) := by
  unfold K_C_needless_84
  refine sim_blk0 hC [(.iinc 4 1, 0, 0, 0, 1)] [(0, vR 42), (1, vI a1), (2, vI a2), (3, vI a3), (4, vI (a4 + 1))] [] w 87 (by decide +kernel) rfl rfl ?_
  refine sim_bi (C := fun i3 => (87, [(0, vR 42), (1, vI a1), (2, vI a2), (3, vI a3), (4, vI i3)], [], w)) (fun i3 => ?_)
  refine sim_goto hC (-68) 19 (by decide +kernel) (by decide) ?_
  exact sim_back (V := (V_C_needless_19 a1 a2)) ((a3, i3, w))
noncomputable def K_C_needless_57 (a1 : Int32) (a2 : Int32) (a3 : Int32) (a4 : Int32) (t0 : Int32) (w : Wld) : Option ((Int32 × Int32 × Wld) ⊕ (Int32 × Wld)) :=
  br (t0 = 0) (K_C_needless_84 a1 a2 a3 a4 w) (bd (F_C_fullWith w ((1 : Int32) <<< (a4 &&& 31)) a1) (fun i4 w5 => br (i4 < a2) (K_C_needless_84 a1 a2 a3 a4 w5) (bi (a3 ||| ((1 : Int32) <<< (a4 &&& 31))) (fun i6 => K_C_needless_84 a1 a2 i6 a4 w5))))
set_option maxRecDepth 10000 in
theorem s_K_C_needless_57 {Z : ZT} {l : Launch} {o : Oc} {wo : Wld} {Ok : Cfg → Prop} (hC : Clo Z l 9 6 prog_1_method_28_code (some .int) 7 125 o wo Ok) (a1 : Int32) (a2 : Int32) (a3 : Int32) (a4 : Int32) (t0 : Int32) (w : Wld) : SimK Ok (57, [(0, vR 42), (1, vI a1), (2, vI a2), (3, vI a3), (4, vI a4)], [vI t0], w) (K_C_needless_57 a1 a2 a3 a4 t0 w) (GLp Ok (V_C_needless_19 a1 a2) (GEp Ok (E_C_needless_19 a1 a2))) := by
  unfold K_C_needless_57
  refine sim_blk0 hC [(.istore 5, 0, 0, 0, 0), (.iload 5, 0, 0, 0, 0)] [(0, vR 42), (1, vI a1), (2, vI a2), (3, vI a3), (4, vI a4), (5, vI t0)] [vI t0] w 61 (by decide +kernel) rfl rfl ?_
  refine sim_br hC (.ifCond .eq 23) 84 (by decide +kernel) rfl (by decide) ?_ ?_
  · refine sim_sub hC [0, 1, 2, 3, 4] ?_
    exact s_K_C_needless_84 hC a1 a2 a3 a4 w
  · refine sim_blk0 hC [(.aload_n 0, 0, 0, 0, 0), (.iconst 1, 0, 0, 0, 1), (.iload 4, 0, 0, 0, 0), (.ishl, 0, 0, 0, 0), (.iload_n 1, 0, 0, 0, 0)] [(0, vR 42), (1, vI a1), (2, vI a2), (3, vI a3), (4, vI a4), (5, vI t0)] [vI a1, vI ((1 : Int32) <<< (a4 &&& 31)), vR 42] w 70 (by decide +kernel) rfl rfl ?_
    refine sim_vd hC 226 mX10_fullWith 5 101 42 [vI ((1 : Int32) <<< (a4 &&& 31)), vI a1] [] (by decide +kernel) ml_9_226 rfl rfl rfl rfl rfl rfl (fun rz wz hz => c_C_fullWith w ((1 : Int32) <<< (a4 &&& 31)) a1 rz wz hz) (fun i4 w5 => ?_)
    refine sim_blk0 hC [(.iload_n 2, 0, 0, 0, 0)] [(0, vR 42), (1, vI a1), (2, vI a2), (3, vI a3), (4, vI a4), (5, vI t0)] [vI a2, vI i4] w5 74 (by decide +kernel) rfl rfl ?_
    refine sim_br hC (.if_icmp .lt 10) 84 (by decide +kernel) rfl (by decide) ?_ ?_
    · refine sim_sub hC [0, 1, 2, 3, 4] ?_
      exact s_K_C_needless_84 hC a1 a2 a3 a4 w5
    · refine sim_blk0 hC [(.iload_n 3, 0, 0, 0, 0), (.iconst 1, 0, 0, 0, 1), (.iload 4, 0, 0, 0, 0), (.ishl, 0, 0, 0, 0), (.ior, 0, 0, 0, 0), (.istore_n 3, 0, 0, 0, 0)] [(0, vR 42), (1, vI a1), (2, vI a2), (3, vI (a3 ||| ((1 : Int32) <<< (a4 &&& 31)))), (4, vI a4), (5, vI t0)] [] w5 84 (by decide +kernel) rfl rfl ?_
      refine sim_bi (C := fun i6 => (84, [(0, vR 42), (1, vI a1), (2, vI a2), (3, vI i6), (4, vI a4), (5, vI t0)], [], w5)) (fun i6 => ?_)
      refine sim_sub hC [0, 1, 2, 3, 4] ?_
      exact s_K_C_needless_84 hC a1 a2 i6 a4 w5
noncomputable def B_C_needless_19 (a1 : Int32) (a2 : Int32) (s : Int32 × Int32 × Wld) : Option ((Int32 × Int32 × Wld) ⊕ (Int32 × Wld)) :=
  br ((s.2.2 56 1) ≤ s.2.1) (some (.inr ((s.1, s.2.2)))) (gd (vp_in 50 53) (br (¬ (((s.2.2 66 (Int32.toNatClampNeg 50)) >>> (s.2.1 &&& 31)) &&& (1 : Int32)) = 0) (K_C_needless_57 a1 a2 s.1 s.2.1 0 s.2.2) (K_C_needless_57 a1 a2 s.1 s.2.1 1 s.2.2)))
set_option maxRecDepth 10000 in
theorem s_B_C_needless_19 {Z : ZT} {l : Launch} {o : Oc} {wo : Wld} {Ok : Cfg → Prop} (hC : Clo Z l 9 6 prog_1_method_28_code (some .int) 7 125 o wo Ok) (a1 : Int32) (a2 : Int32) (s : Int32 × Int32 × Wld) : SimK Ok (V_C_needless_19 a1 a2 s) (B_C_needless_19 a1 a2 s) (GLp Ok (V_C_needless_19 a1 a2) (GEp Ok (E_C_needless_19 a1 a2))) := by
  unfold B_C_needless_19
  show SimK Ok (19, [(0, vR 42), (1, vI a1), (2, vI a2), (3, vI s.1), (4, vI s.2.1)], [], s.2.2) _ _
  refine sim_blk0 hC [(.iload 4, 0, 0, 0, 0), (.aload_n 0, 0, 0, 0, 0), (.getfield 38, 42, 5, 58, 0), (.getfield 128, 56, 1, 0, 0)] [(0, vR 42), (1, vI a1), (2, vI a2), (3, vI s.1), (4, vI s.2.1)] [vI (s.2.2 56 1), vI s.2.1] s.2.2 28 (by decide +kernel) rfl rfl ?_
  refine sim_br hC (.if_icmp .ge 62) 90 (by decide +kernel) rfl (by decide) ?_ ?_
  · refine sim_sub hC [3] ?_
    exact sim_exit (E := (E_C_needless_19 a1 a2)) ((s.1, s.2.2))
  · refine sim_blk1 hC [(.aload_n 0, 0, 0, 0, 0), (.getfield 42, 42, 6, 66, 0), (.getfield 100, 64, 0, 67, 0), (.getfield 137, 65, 0, 68, 0), (.bipush 50, 0, 0, 0, 50), (.iaload, 66, 53, 0, 0), (.iload 4, 0, 0, 0, 0), (.ishr, 0, 0, 0, 0), (.iconst 1, 0, 0, 0, 1), (.iand, 0, 0, 0, 0)] [(0, vR 42), (1, vI a1), (2, vI a2), (3, vI s.1), (4, vI s.2.1)] [vI (((s.2.2 66 (Int32.toNatClampNeg 50)) >>> (s.2.1 &&& 31)) &&& (1 : Int32))] s.2.2 49 (by decide +kernel) rfl rfl ?_
    refine sim_br hC (.ifCond .ne 7) 56 (by decide +kernel) rfl (by decide) ?_ ?_
    · refine sim_blk0 hC [(.iconst 0, 0, 0, 0, 0)] [(0, vR 42), (1, vI a1), (2, vI a2), (3, vI s.1), (4, vI s.2.1)] [vI 0] s.2.2 57 (by decide +kernel) rfl rfl ?_
      exact s_K_C_needless_57 hC a1 a2 s.1 s.2.1 0 s.2.2
    · refine sim_blk0 hC [(.iconst 1, 0, 0, 0, 1)] [(0, vR 42), (1, vI a1), (2, vI a2), (3, vI s.1), (4, vI s.2.1)] [vI 1] s.2.2 53 (by decide +kernel) rfl rfl ?_
      refine sim_goto hC 4 57 (by decide +kernel) (by decide) ?_
      exact s_K_C_needless_57 hC a1 a2 s.1 s.2.1 1 s.2.2
noncomputable def F_C_needless (w : Wld) (a1 : Int32) : Option (Oc × Wld) :=
  bn (F_C_needWithin w a1 0 60) w (bd (F_C_fullWith w 0 a1) (fun i1 w2 => bl (loop (B_C_needless_19 a1 i1) ((0, 0, w2))) (fun r7 => some ((.inr (some r7.1), r7.2)))))
set_option maxRecDepth 10000 in
theorem s_C_needless {Z : ZT} {l : Launch} {o : Oc} {wo : Wld} {Ok : Cfg → Prop} (hC : Clo Z l 9 6 prog_1_method_28_code (some .int) 7 125 o wo Ok) (w : Wld) (a1 : Int32) : SimK Ok (0, [(0, vR 42), (1, vI a1)], [], w) (F_C_needless w a1) (Gt o wo) := by
  unfold F_C_needless
  refine sim_blk0 hC [(.iload_n 1, 0, 0, 0, 0), (.iconst 0, 0, 0, 0, 0), (.bipush 60, 0, 0, 0, 60)] [(0, vR 42), (1, vI a1)] [vI 60, vI 0, vI a1] w 4 (by decide +kernel) rfl rfl ?_
  refine sim_sn hC 77 mX10_needWithin 6 89 [vI a1, vI 0, vI 60] [] (by decide +kernel) ml_9_77 rfl rfl rfl rfl rfl (fun qz hz => c_C_needWithin w a1 0 60 qz hz) ?_
  refine sim_blk0 hC [(.aload_n 0, 0, 0, 0, 0), (.iconst 0, 0, 0, 0, 0), (.iload_n 1, 0, 0, 0, 0)] [(0, vR 42), (1, vI a1)] [vI a1, vI 0, vR 42] w 10 (by decide +kernel) rfl rfl ?_
  refine sim_vd hC 226 mX10_fullWith 5 101 42 [vI 0, vI a1] [] (by decide +kernel) ml_9_226 rfl rfl rfl rfl rfl rfl (fun rz wz hz => c_C_fullWith w 0 a1 rz wz hz) (fun i1 w2 => ?_)
  refine sim_blk0 hC [(.istore_n 2, 0, 0, 0, 0), (.iconst 0, 0, 0, 0, 0), (.istore_n 3, 0, 0, 0, 0), (.iconst 0, 0, 0, 0, 0), (.istore 4, 0, 0, 0, 0)] [(0, vR 42), (1, vI a1), (2, vI i1), (3, vI 0), (4, vI 0)] [] w2 19 (by decide +kernel) rfl rfl ?_
  refine sim_bl (E := (E_C_needless_19 a1 i1)) ?_ (fun r7 => ?_)
  · exact sim_loop (V := (V_C_needless_19 a1 i1)) (fun sz => s_B_C_needless_19 hC a1 i1 sz) ((0, 0, w2))
  · show SimK Ok (90, [(3, vI r7.1)], [], r7.2) _ _
    refine sim_blk0 hC [(.iload_n 3, 0, 0, 0, 0)] [(3, vI r7.1)] [vI r7.1] r7.2 91 (by decide +kernel) rfl rfl ?_
    exact sim_rett hC (by decide +kernel) trivial
theorem c_C_needless {Z : ZT} {l : Launch} (w : Wld) (a1 : Int32) (q : Oc) (w1 : Wld) (h : F_C_needless w a1 = some (q, w1)) : Con Z l mX10_needless 7 125 [vR 42, vI a1] w q w1 :=
  Con_of (oc := 9) (by decide +kernel) rfl rfl (fun Ok hC => s_C_needless hC w a1 (q, w1) h ⟨rfl, rfl⟩)
def V_JA_fill_86_5 (a1 : Int32) (a3 : Int32) : (Int32 × Wld) → Cfg := fun s => (5, [(0, vR 86), (1, vI a1), (2, vI s.1), (3, vI a3)], [], s.2)
def E_JA_fill_86_5 (a1 : Int32) (a3 : Int32) : (Wld) → Cfg := fun s => (20, [], [], s)
noncomputable def B_JA_fill_86_5 (a1 : Int32) (a3 : Int32) (s : Int32 × Wld) : Option ((Int32 × Wld) ⊕ (Wld)) :=
  br (a3 ≤ s.1) (some (.inr s.2)) (gd (vp_in s.1 100) (bw (wup s.2 86 (Int32.toNatClampNeg s.1) a1) (fun w1 => bi (s.1 + 1) (fun i2 => some (.inl ((i2, w1)))))))
set_option maxRecDepth 10000 in
theorem s_B_JA_fill_86_5 {Z : ZT} {l : Launch} {o : Oc} {wo : Wld} {Ok : Cfg → Prop} (hC : Clo Z l 13 4 prog_30_method_103_code none 1 0 o wo Ok) (a1 : Int32) (a3 : Int32) (s : Int32 × Wld) : SimK Ok (V_JA_fill_86_5 a1 a3 s) (B_JA_fill_86_5 a1 a3 s) (GLp Ok (V_JA_fill_86_5 a1 a3) (GEp Ok (E_JA_fill_86_5 a1 a3))) := by
  unfold B_JA_fill_86_5
  show SimK Ok (5, [(0, vR 86), (1, vI a1), (2, vI s.1), (3, vI a3)], [], s.2) _ _
  refine sim_blk0 hC [(.iload_n 2, 0, 0, 0, 0), (.iload_n 3, 0, 0, 0, 0)] [(0, vR 86), (1, vI a1), (2, vI s.1), (3, vI a3)] [vI a3, vI s.1] s.2 7 (by decide +kernel) rfl rfl ?_
  refine sim_br hC (.if_icmp .ge 13) 20 (by decide +kernel) rfl (by decide) ?_ ?_
  · refine sim_sub hC [] ?_
    exact sim_exit (E := (E_JA_fill_86_5 a1 a3)) s.2
  · refine sim_blk1 hC [(.aload_n 0, 0, 0, 0, 0), (.iload_n 2, 0, 0, 0, 0), (.iload_n 1, 0, 0, 0, 0), (.iastore, 86, 100, 0, 0)] [(0, vR 86), (1, vI a1), (2, vI s.1), (3, vI a3)] [] (wup s.2 86 (Int32.toNatClampNeg s.1) a1) 14 (by decide +kernel) rfl rfl ?_
    refine sim_bw (C := fun w1 => (14, [(0, vR 86), (1, vI a1), (2, vI s.1), (3, vI a3)], [], w1)) (fun w1 => ?_)
    refine sim_blk0 hC [(.iinc 2 1, 0, 0, 0, 1)] [(0, vR 86), (1, vI a1), (2, vI (s.1 + 1)), (3, vI a3)] [] w1 17 (by decide +kernel) rfl rfl ?_
    refine sim_bi (C := fun i2 => (17, [(0, vR 86), (1, vI a1), (2, vI i2), (3, vI a3)], [], w1)) (fun i2 => ?_)
    refine sim_goto hC (-12) 5 (by decide +kernel) (by decide) ?_
    exact sim_back (V := (V_JA_fill_86_5 a1 a3)) ((i2, w1))
noncomputable def F_JA_fill_86 (w : Wld) (a1 : Int32) : Option (Wld) :=
  bl (loop (B_JA_fill_86_5 a1 100) ((0, w))) (fun r3 => some r3)
set_option maxRecDepth 10000 in
theorem s_JA_fill_86 {Z : ZT} {l : Launch} {o : Oc} {wo : Wld} {Ok : Cfg → Prop} (hC : Clo Z l 13 4 prog_30_method_103_code none 1 0 o wo Ok) (w : Wld) (a1 : Int32) : SimK Ok (0, [(0, vR 86), (1, vI a1)], [], w) (F_JA_fill_86 w a1) (Gv o wo) := by
  unfold F_JA_fill_86
  refine sim_blk0 hC [(.iconst 0, 0, 0, 0, 0), (.istore_n 2, 0, 0, 0, 0), (.aload_n 0, 0, 0, 0, 0), (.arraylength, 86, 100, 0, 100), (.istore_n 3, 0, 0, 0, 0)] [(0, vR 86), (1, vI a1), (2, vI 0), (3, vI 100)] [] w 5 (by decide +kernel) rfl rfl ?_
  refine sim_bl (E := (E_JA_fill_86_5 a1 100)) ?_ (fun r3 => ?_)
  · exact sim_loop (V := (V_JA_fill_86_5 a1 100)) (fun sz => s_B_JA_fill_86_5 hC a1 100 sz) ((0, w))
  · show SimK Ok (20, [], [], r3) _ _
    exact sim_retv hC (by decide +kernel)
theorem c_JA_fill_86 {Z : ZT} {l : Launch} (w : Wld) (a1 : Int32) (w1 : Wld) (h : F_JA_fill_86 w a1 = some w1) : Con Z l mJ7_fill_53178 1 0 [vR 86, vI a1] w (.inr none) w1 :=
  Con_of (oc := 13) (by decide +kernel) rfl rfl (fun Ok hC => s_JA_fill_86 hC w a1 w1 h ⟨rfl, rfl⟩)
def V_Night_countVerses_55_86_2 : (Int32 × Wld) → Cfg := fun s => (2, [(0, vR 55), (1, vR 86), (2, vI s.1)], [], s.2)
def E_Night_countVerses_55_86_2 : (Wld) → Cfg := fun s => (46, [], [], s)
noncomputable def B_Night_countVerses_55_86_2 (s : Int32 × Wld) : Option ((Int32 × Wld) ⊕ (Wld)) :=
  br ((s.2 56 1) ≤ s.1) (some (.inr s.2)) (gd (vp_in s.1 8) (gd (vp_in (s.2 63 (Int32.toNatClampNeg s.1)) 9) (gd (vp_in (s.2 57 (Int32.toNatClampNeg (s.2 63 (Int32.toNatClampNeg s.1)))) 100) (gd (vp_in (s.2 57 (Int32.toNatClampNeg (s.2 63 (Int32.toNatClampNeg s.1)))) 100) (bw (wup s.2 86 (Int32.toNatClampNeg (s.2 57 (Int32.toNatClampNeg (s.2 63 (Int32.toNatClampNeg s.1))))) ((s.2 86 (Int32.toNatClampNeg (s.2 57 (Int32.toNatClampNeg (s.2 63 (Int32.toNatClampNeg s.1)))))) + (((s.2 55 3) >>> (s.1 &&& 31)) &&& (1 : Int32)))) (fun w1 => bi (s.1 + 1) (fun i2 => some (.inl ((i2, w1))))))))))
set_option maxRecDepth 10000 in
theorem s_B_Night_countVerses_55_86_2 {Z : ZT} {l : Launch} {o : Oc} {wo : Wld} {Ok : Cfg → Prop} (hC : Clo Z l 4 3 prog_6_method_12_code none 1 0 o wo Ok) (s : Int32 × Wld) : SimK Ok (V_Night_countVerses_55_86_2 s) (B_Night_countVerses_55_86_2 s) (GLp Ok (V_Night_countVerses_55_86_2) (GEp Ok (E_Night_countVerses_55_86_2))) := by
  unfold B_Night_countVerses_55_86_2
  show SimK Ok (2, [(0, vR 55), (1, vR 86), (2, vI s.1)], [], s.2) _ _
  refine sim_blk0 hC [(.iload_n 2, 0, 0, 0, 0), (.aload_n 0, 0, 0, 0, 0), (.getfield 12, 55, 0, 58, 0), (.getfield 57, 56, 1, 0, 0)] [(0, vR 55), (1, vR 86), (2, vI s.1)] [vI (s.2 56 1), vI s.1] s.2 10 (by decide +kernel) rfl rfl ?_
  refine sim_br hC (.if_icmp .ge 36) 46 (by decide +kernel) rfl (by decide) ?_ ?_
  · refine sim_sub hC [] ?_
    exact sim_exit (E := (E_Night_countVerses_55_86_2)) s.2
  · refine sim_blk3 hC [(.aload_n 1, 0, 0, 0, 0), (.aload_n 0, 0, 0, 0, 0), (.getfield 12, 55, 0, 58, 0), (.getfield 54, 56, 4, 59, 0), (.aload_n 0, 0, 0, 0, 0), (.getfield 24, 55, 2, 65, 0), (.iload_n 2, 0, 0, 0, 0), (.iaload, 63, 8, 0, 0), (.iaload, 57, 9, 0, 0), (.dup2, 0, 0, 0, 0), (.iaload, 86, 100, 0, 0)] [(0, vR 55), (1, vR 86), (2, vI s.1)] [vI (s.2 86 (Int32.toNatClampNeg (s.2 57 (Int32.toNatClampNeg (s.2 63 (Int32.toNatClampNeg s.1)))))), vI (s.2 57 (Int32.toNatClampNeg (s.2 63 (Int32.toNatClampNeg s.1)))), vR 86] s.2 30 (by decide +kernel) rfl rfl ?_
    refine sim_blk1 hC [(.aload_n 0, 0, 0, 0, 0), (.getfield 27, 55, 3, 0, 0), (.iload_n 2, 0, 0, 0, 0), (.ishr, 0, 0, 0, 0), (.iconst 1, 0, 0, 0, 1), (.iand, 0, 0, 0, 0), (.iadd, 0, 0, 0, 0), (.iastore, 86, 100, 0, 0)] [(0, vR 55), (1, vR 86), (2, vI s.1)] [] (wup s.2 86 (Int32.toNatClampNeg (s.2 57 (Int32.toNatClampNeg (s.2 63 (Int32.toNatClampNeg s.1))))) ((s.2 86 (Int32.toNatClampNeg (s.2 57 (Int32.toNatClampNeg (s.2 63 (Int32.toNatClampNeg s.1)))))) + (((s.2 55 3) >>> (s.1 &&& 31)) &&& (1 : Int32)))) 40 (by decide +kernel) rfl rfl ?_
    refine sim_bw (C := fun w1 => (40, [(0, vR 55), (1, vR 86), (2, vI s.1)], [], w1)) (fun w1 => ?_)
    refine sim_blk0 hC [(.iinc 2 1, 0, 0, 0, 1)] [(0, vR 55), (1, vR 86), (2, vI (s.1 + 1))] [] w1 43 (by decide +kernel) rfl rfl ?_
    refine sim_bi (C := fun i2 => (43, [(0, vR 55), (1, vR 86), (2, vI i2)], [], w1)) (fun i2 => ?_)
    refine sim_goto hC (-41) 2 (by decide +kernel) (by decide) ?_
    exact sim_back (V := (V_Night_countVerses_55_86_2)) ((i2, w1))
noncomputable def F_Night_countVerses_55_86 (w : Wld) : Option (Wld) :=
  bl (loop (B_Night_countVerses_55_86_2) ((0, w))) (fun r3 => some r3)
set_option maxRecDepth 10000 in
theorem s_Night_countVerses_55_86 {Z : ZT} {l : Launch} {o : Oc} {wo : Wld} {Ok : Cfg → Prop} (hC : Clo Z l 4 3 prog_6_method_12_code none 1 0 o wo Ok) (w : Wld) : SimK Ok (0, [(0, vR 55), (1, vR 86)], [], w) (F_Night_countVerses_55_86 w) (Gv o wo) := by
  unfold F_Night_countVerses_55_86
  refine sim_blk0 hC [(.iconst 0, 0, 0, 0, 0), (.istore_n 2, 0, 0, 0, 0)] [(0, vR 55), (1, vR 86), (2, vI 0)] [] w 2 (by decide +kernel) rfl rfl ?_
  refine sim_bl (E := (E_Night_countVerses_55_86_2)) ?_ (fun r3 => ?_)
  · exact sim_loop (V := (V_Night_countVerses_55_86_2)) (fun sz => s_B_Night_countVerses_55_86_2 hC sz) ((0, w))
  · show SimK Ok (46, [], [], r3) _ _
    exact sim_retv hC (by decide +kernel)
theorem c_Night_countVerses_55_86 {Z : ZT} {l : Launch} (w : Wld) (w1 : Wld) (h : F_Night_countVerses_55_86 w = some w1) : Con Z l mX4_countVerses 1 0 [vR 55, vR 86] w (.inr none) w1 :=
  Con_of (oc := 4) (by decide +kernel) rfl rfl (fun Ok hC => s_Night_countVerses_55_86 hC w w1 h ⟨rfl, rfl⟩)
def V_C_psalm_21 (a1 : Int32) : (Int32 × Wld) → Cfg := fun s => (21, [(0, vR 42), (1, vI a1), (2, vI s.1)], [], s.2)
def E_C_psalm_21 (a1 : Int32) : (Wld) → Cfg := fun s => (54, [(0, vR 42)], [], s)
noncomputable def B_C_psalm_21 (a1 : Int32) (s : Int32 × Wld) : Option ((Int32 × Wld) ⊕ (Wld)) :=
  br (a1 ≤ s.1) (some (.inr s.2)) (bv (F_Night_pass_55_84 s.2) (fun w3 => bv (F_Night_countVerses_55_86 w3) (fun w4 => bi (s.1 + 1) (fun i5 => some (.inl ((i5, w4)))))))
set_option maxRecDepth 10000 in
theorem s_B_C_psalm_21 {Z : ZT} {l : Launch} {o : Oc} {wo : Wld} {Ok : Cfg → Prop} (hC : Clo Z l 9 5 prog_1_method_30_code (some .int) 7 111 o wo Ok) (a1 : Int32) (s : Int32 × Wld) : SimK Ok (V_C_psalm_21 a1 s) (B_C_psalm_21 a1 s) (GLp Ok (V_C_psalm_21 a1) (GEp Ok (E_C_psalm_21 a1))) := by
  unfold B_C_psalm_21
  show SimK Ok (21, [(0, vR 42), (1, vI a1), (2, vI s.1)], [], s.2) _ _
  refine sim_blk0 hC [(.iload_n 2, 0, 0, 0, 0), (.iload_n 1, 0, 0, 0, 0)] [(0, vR 42), (1, vI a1), (2, vI s.1)] [vI a1, vI s.1] s.2 23 (by decide +kernel) rfl rfl ?_
  refine sim_br hC (.if_icmp .ge 31) 54 (by decide +kernel) rfl (by decide) ?_ ?_
  · refine sim_sub hC [0] ?_
    exact sim_exit (E := (E_C_psalm_21 a1)) s.2
  · refine sim_blk0 hC [(.aload_n 0, 0, 0, 0, 0), (.getfield 30, 42, 4, 57, 0), (.aload_n 0, 0, 0, 0, 0), (.getfield 56, 42, 9, 86, 0)] [(0, vR 42), (1, vI a1), (2, vI s.1)] [vR 84, vR 55] s.2 34 (by decide +kernel) rfl rfl ?_
    refine sim_vv hC 185 mX4_pass 4 69 55 [vR 84] [] (by decide +kernel) ml_9_185 rfl rfl rfl rfl rfl rfl (fun wz hz => c_Night_pass_55_84 s.2 wz hz) (fun w3 => ?_)
    refine sim_blk0 hC [(.aload_n 0, 0, 0, 0, 0), (.getfield 30, 42, 4, 57, 0), (.aload_n 0, 0, 0, 0, 0), (.getfield 60, 42, 10, 88, 0)] [(0, vR 42), (1, vI a1), (2, vI s.1)] [vR 86, vR 55] w3 45 (by decide +kernel) rfl rfl ?_
    refine sim_vv hC 235 mX4_countVerses 1 0 55 [vR 86] [] (by decide +kernel) ml_9_235 rfl rfl rfl rfl rfl rfl (fun wz hz => c_Night_countVerses_55_86 w3 wz hz) (fun w4 => ?_)
    refine sim_blk0 hC [(.iinc 2 1, 0, 0, 0, 1)] [(0, vR 42), (1, vI a1), (2, vI (s.1 + 1))] [] w4 51 (by decide +kernel) rfl rfl ?_
    refine sim_bi (C := fun i5 => (51, [(0, vR 42), (1, vI a1), (2, vI i5)], [], w4)) (fun i5 => ?_)
    refine sim_goto hC (-30) 21 (by decide +kernel) (by decide) ?_
    exact sim_back (V := (V_C_psalm_21 a1)) ((i5, w4))
def V_C_psalm_61 (w : Wld) : (Int32 × Int32 × Int32) → Cfg := fun s => (61, [(0, vR 42), (2, vI s.1), (3, vI s.2.1), (4, vI s.2.2)], [], w)
def E_C_psalm_61 (w : Wld) : (Int32) → Cfg := fun s => (96, [(2, vI s)], [], w)
noncomputable def K_C_psalm_90 (a2 : Int32) (a3 : Int32) (a4 : Int32) (w : Wld) : Option ((Int32 × Int32 × Int32) ⊕ (Int32)) :=
  bi (a4 + 1) (fun i7 => some (.inl ((a2, a3, i7))))
set_option maxRecDepth 10000 in
theorem s_K_C_psalm_90 {Z : ZT} {l : Launch} {o : Oc} {wo : Wld} {Ok : Cfg → Prop} (hC : Clo Z l 9 5 prog_1_method_30_code (some .int) 7 111 o wo Ok) (a2 : Int32) (a3 : Int32) (a4 : Int32) (w : Wld) : SimK Ok (90, [(0, vR 42), (2, vI a2), (3, vI a3), (4, vI a4)], [], w) (K_C_psalm_90 a2 a3 a4 w) (GLp Ok (V_C_psalm_61 w) (GEp Ok (E_C_psalm_61 w))) := by
  unfold K_C_psalm_90
  refine sim_blk0 hC [(.iinc 4 1, 0, 0, 0, 1)] [(0, vR 42), (2, vI a2), (3, vI a3), (4, vI (a4 + 1))] [] w 93 (by decide +kernel) rfl rfl ?_
  refine sim_bi (C := fun i7 => (93, [(0, vR 42), (2, vI a2), (3, vI a3), (4, vI i7)], [], w)) (fun i7 => ?_)
  refine sim_goto hC (-32) 61 (by decide +kernel) (by decide) ?_
  exact sim_back (V := (V_C_psalm_61 w)) ((a2, a3, i7))
noncomputable def B_C_psalm_61 (w : Wld) (s : Int32 × Int32 × Int32) : Option ((Int32 × Int32 × Int32) ⊕ (Int32)) :=
  br ((99 : Int32) < s.2.2) (some (.inr s.1)) (gd (vp_in s.2.2 100) (br ((w 86 (Int32.toNatClampNeg s.2.2)) ≤ s.2.1) (K_C_psalm_90 s.1 s.2.1 s.2.2 w) (gd (vp_in s.2.2 100) (bi (w 86 (Int32.toNatClampNeg s.2.2)) (fun i8 => K_C_psalm_90 s.2.2 i8 s.2.2 w)))))
set_option maxRecDepth 10000 in
theorem s_B_C_psalm_61 {Z : ZT} {l : Launch} {o : Oc} {wo : Wld} {Ok : Cfg → Prop} (hC : Clo Z l 9 5 prog_1_method_30_code (some .int) 7 111 o wo Ok) (w : Wld) (s : Int32 × Int32 × Int32) : SimK Ok (V_C_psalm_61 w s) (B_C_psalm_61 w s) (GLp Ok (V_C_psalm_61 w) (GEp Ok (E_C_psalm_61 w))) := by
  unfold B_C_psalm_61
  show SimK Ok (61, [(0, vR 42), (2, vI s.1), (3, vI s.2.1), (4, vI s.2.2)], [], w) _ _
  refine sim_blk0 hC [(.iload 4, 0, 0, 0, 0), (.bipush 99, 0, 0, 0, 99)] [(0, vR 42), (2, vI s.1), (3, vI s.2.1), (4, vI s.2.2)] [vI 99, vI s.2.2] w 65 (by decide +kernel) rfl rfl ?_
  refine sim_br hC (.if_icmp .gt 31) 96 (by decide +kernel) rfl (by decide) ?_ ?_
  · refine sim_sub hC [1] ?_
    exact sim_exit (E := (E_C_psalm_61 w)) s.1
  · refine sim_blk1 hC [(.aload_n 0, 0, 0, 0, 0), (.getfield 60, 42, 10, 88, 0), (.iload 4, 0, 0, 0, 0), (.iaload, 86, 100, 0, 0), (.iload_n 3, 0, 0, 0, 0)] [(0, vR 42), (2, vI s.1), (3, vI s.2.1), (4, vI s.2.2)] [vI s.2.1, vI (w 86 (Int32.toNatClampNeg s.2.2))] w 76 (by decide +kernel) rfl rfl ?_
    refine sim_br hC (.if_icmp .le 14) 90 (by decide +kernel) rfl (by decide) ?_ ?_
    · exact s_K_C_psalm_90 hC s.1 s.2.1 s.2.2 w
    · refine sim_blk1 hC [(.aload_n 0, 0, 0, 0, 0), (.getfield 60, 42, 10, 88, 0), (.iload 4, 0, 0, 0, 0), (.iaload, 86, 100, 0, 0), (.istore_n 3, 0, 0, 0, 0)] [(0, vR 42), (2, vI s.1), (3, vI (w 86 (Int32.toNatClampNeg s.2.2))), (4, vI s.2.2)] [] w 87 (by decide +kernel) rfl rfl ?_
      refine sim_bi (C := fun i8 => (87, [(0, vR 42), (2, vI s.1), (3, vI i8), (4, vI s.2.2)], [], w)) (fun i8 => ?_)
      refine sim_blk0 hC [(.iload 4, 0, 0, 0, 0), (.istore_n 2, 0, 0, 0, 0)] [(0, vR 42), (2, vI s.2.2), (3, vI i8), (4, vI s.2.2)] [] w 90 (by decide +kernel) rfl rfl ?_
      exact s_K_C_psalm_90 hC s.2.2 i8 s.2.2 w
noncomputable def F_C_psalm (w : Wld) (a1 : Int32) : Option (Oc × Wld) :=
  bn (F_C_needWithin w a1 0 60) w (bv (F_C_beginTrial w) (fun w1 => bv (F_JA_fill_86 w1 0) (fun w2 => bl (loop (B_C_psalm_21 a1) ((0, w2))) (fun r6 => bl (loop (B_C_psalm_61 r6) (((-1), 0, 0))) (fun r9 => some ((.inr (some r9), r6)))))))
set_option maxRecDepth 10000 in
theorem s_C_psalm {Z : ZT} {l : Launch} {o : Oc} {wo : Wld} {Ok : Cfg → Prop} (hC : Clo Z l 9 5 prog_1_method_30_code (some .int) 7 111 o wo Ok) (w : Wld) (a1 : Int32) : SimK Ok (0, [(0, vR 42), (1, vI a1)], [], w) (F_C_psalm w a1) (Gt o wo) := by
  unfold F_C_psalm
  refine sim_blk0 hC [(.iload_n 1, 0, 0, 0, 0), (.iconst 0, 0, 0, 0, 0), (.bipush 60, 0, 0, 0, 60)] [(0, vR 42), (1, vI a1)] [vI 60, vI 0, vI a1] w 4 (by decide +kernel) rfl rfl ?_
  refine sim_sn hC 77 mX10_needWithin 6 89 [vI a1, vI 0, vI 60] [] (by decide +kernel) ml_9_77 rfl rfl rfl rfl rfl (fun qz hz => c_C_needWithin w a1 0 60 qz hz) ?_
  refine sim_blk0 hC [(.aload_n 0, 0, 0, 0, 0)] [(0, vR 42), (1, vI a1)] [vR 42] w 8 (by decide +kernel) rfl rfl ?_
  refine sim_vv hC 212 mX10_beginTrial 2 81 42 [] [] (by decide +kernel) ml_9_212 rfl rfl rfl rfl rfl rfl (fun wz hz => c_C_beginTrial w wz hz) (fun w1 => ?_)
  refine sim_blk0 hC [(.aload_n 0, 0, 0, 0, 0), (.getfield 60, 42, 10, 88, 0), (.iconst 0, 0, 0, 0, 0)] [(0, vR 42), (1, vI a1)] [vI 0, vR 86] w1 16 (by decide +kernel) rfl rfl ?_
  refine sim_sv hC 229 mJ7_fill_53178 1 0 [vR 86, vI 0] [] (by decide +kernel) ml_9_229 rfl rfl rfl rfl rfl (fun wz hz => c_JA_fill_86 w1 0 wz hz) (fun w2 => ?_)
  refine sim_blk0 hC [(.iconst 0, 0, 0, 0, 0), (.istore_n 2, 0, 0, 0, 0)] [(0, vR 42), (1, vI a1), (2, vI 0)] [] w2 21 (by decide +kernel) rfl rfl ?_
  refine sim_bl (E := (E_C_psalm_21 a1)) ?_ (fun r6 => ?_)
  · exact sim_loop (V := (V_C_psalm_21 a1)) (fun sz => s_B_C_psalm_21 hC a1 sz) ((0, w2))
  · show SimK Ok (54, [(0, vR 42)], [], r6) _ _
    refine sim_blk0 hC [(.iconst (-1), 0, 0, 0, (-1)), (.istore_n 2, 0, 0, 0, 0), (.iconst 0, 0, 0, 0, 0), (.istore_n 3, 0, 0, 0, 0), (.iconst 0, 0, 0, 0, 0), (.istore 4, 0, 0, 0, 0)] [(0, vR 42), (2, vI (-1)), (3, vI 0), (4, vI 0)] [] r6 61 (by decide +kernel) rfl rfl ?_
    refine sim_bl (E := (E_C_psalm_61 r6)) ?_ (fun r9 => ?_)
    · exact sim_loop (V := (V_C_psalm_61 r6)) (fun sz => s_B_C_psalm_61 hC r6 sz) (((-1), 0, 0))
    · show SimK Ok (96, [(2, vI r9)], [], r6) _ _
      refine sim_blk0 hC [(.iload_n 2, 0, 0, 0, 0)] [(2, vI r9)] [vI r9] r6 97 (by decide +kernel) rfl rfl ?_
      exact sim_rett hC (by decide +kernel) trivial
theorem c_C_psalm {Z : ZT} {l : Launch} (w : Wld) (a1 : Int32) (q : Oc) (w1 : Wld) (h : F_C_psalm w a1 = some (q, w1)) : Con Z l mX10_psalm 7 111 [vR 42, vI a1] w q w1 :=
  Con_of (oc := 9) (by decide +kernel) rfl rfl (fun Ok hC => s_C_psalm hC w a1 (q, w1) h ⟨rfl, rfl⟩)
def V_C_spread_16 (w : Wld) : (Int32 × Int32) → Cfg := fun s => (16, [(0, vR 42), (2, vI s.1), (3, vI s.2)], [], w)
def E_C_spread_16 (w : Wld) : (Int32) → Cfg := fun s => (59, [(2, vI s)], [], w)
noncomputable def K_C_spread_51 (a3 : Int32) (t0 : Int32) (t1 : Int32) (w : Wld) : Option ((Int32 × Int32) ⊕ (Int32)) :=
  bi (t0 + t1) (fun i3 => bi (a3 + 1) (fun i4 => some (.inl ((i3, i4)))))
set_option maxRecDepth 10000 in
theorem s_K_C_spread_51 {Z : ZT} {l : Launch} {o : Oc} {wo : Wld} {Ok : Cfg → Prop} (hC : Clo Z l 9 4 prog_1_method_26_code (some .int) 7 136 o wo Ok) (a3 : Int32) (t0 : Int32) (t1 : Int32) (w : Wld) : SimK Ok (51, [(0, vR 42), (3, vI a3)], [vI t1, vI t0], w) (K_C_spread_51 a3 t0 t1 w) (GLp Ok (V_C_spread_16 w) (GEp Ok (E_C_spread_16 w))) := by
  unfold K_C_spread_51
  refine sim_blk0 hC [(.iadd, 0, 0, 0, 0), (.istore_n 2, 0, 0, 0, 0)] [(0, vR 42), (2, vI (t0 + t1)), (3, vI a3)] [] w 53 (by decide +kernel) rfl rfl ?_
  refine sim_bi (C := fun i3 => (53, [(0, vR 42), (2, vI i3), (3, vI a3)], [], w)) (fun i3 => ?_)
  refine sim_blk0 hC [(.iinc 3 1, 0, 0, 0, 1)] [(0, vR 42), (2, vI i3), (3, vI (a3 + 1))] [] w 56 (by decide +kernel) rfl rfl ?_
  refine sim_bi (C := fun i4 => (56, [(0, vR 42), (2, vI i3), (3, vI i4)], [], w)) (fun i4 => ?_)
  refine sim_goto hC (-40) 16 (by decide +kernel) (by decide) ?_
  exact sim_back (V := (V_C_spread_16 w)) ((i3, i4))
noncomputable def B_C_spread_16 (w : Wld) (s : Int32 × Int32) : Option ((Int32 × Int32) ⊕ (Int32)) :=
  br ((w 56 0) ≤ s.2) (some (.inr s.1)) (bp (F_State_within_84 w s.2 (w 56 1)) (fun i2 => br (¬ i2 = 0) (K_C_spread_51 s.2 s.1 1 w) (K_C_spread_51 s.2 s.1 0 w)))
set_option maxRecDepth 10000 in
theorem s_B_C_spread_16 {Z : ZT} {l : Launch} {o : Oc} {wo : Wld} {Ok : Cfg → Prop} (hC : Clo Z l 9 4 prog_1_method_26_code (some .int) 7 136 o wo Ok) (w : Wld) (s : Int32 × Int32) : SimK Ok (V_C_spread_16 w s) (B_C_spread_16 w s) (GLp Ok (V_C_spread_16 w) (GEp Ok (E_C_spread_16 w))) := by
  unfold B_C_spread_16
  show SimK Ok (16, [(0, vR 42), (2, vI s.1), (3, vI s.2)], [], w) _ _
  refine sim_blk0 hC [(.iload_n 3, 0, 0, 0, 0), (.aload_n 0, 0, 0, 0, 0), (.getfield 38, 42, 5, 58, 0), (.getfield 125, 56, 0, 0, 0)] [(0, vR 42), (2, vI s.1), (3, vI s.2)] [vI (w 56 0), vI s.2] w 24 (by decide +kernel) rfl rfl ?_
  refine sim_br hC (.if_icmp .ge 35) 59 (by decide +kernel) rfl (by decide) ?_ ?_
  · refine sim_sub hC [1] ?_
    exact sim_exit (E := (E_C_spread_16 w)) s.1
  · refine sim_blk0 hC [(.iload_n 2, 0, 0, 0, 0), (.aload_n 0, 0, 0, 0, 0), (.getfield 56, 42, 9, 86, 0), (.iload_n 3, 0, 0, 0, 0), (.aload_n 0, 0, 0, 0, 0), (.getfield 38, 42, 5, 58, 0), (.getfield 128, 56, 1, 0, 0)] [(0, vR 42), (2, vI s.1), (3, vI s.2)] [vI (w 56 1), vI s.2, vR 84, vI s.1] w 40 (by decide +kernel) rfl rfl ?_
    refine sim_vp hC 164 mX7_within 1 0 84 [vI s.2, vI (w 56 1)] [vI s.1] (by decide +kernel) ml_9_164 rfl rfl rfl rfl rfl rfl (fun rz hz => c_State_within_84 w s.2 (w 56 1) rz hz) (fun i2 => ?_)
    refine sim_br hC (.ifCond .ne 7) 50 (by decide +kernel) rfl (by decide) ?_ ?_
    · refine sim_blk0 hC [(.iconst 1, 0, 0, 0, 1)] [(0, vR 42), (2, vI s.1), (3, vI s.2)] [vI 1, vI s.1] w 51 (by decide +kernel) rfl rfl ?_
      refine sim_sub hC [0, 2] ?_
      exact s_K_C_spread_51 hC s.2 s.1 1 w
    · refine sim_blk0 hC [(.iconst 0, 0, 0, 0, 0)] [(0, vR 42), (2, vI s.1), (3, vI s.2)] [vI 0, vI s.1] w 47 (by decide +kernel) rfl rfl ?_
      refine sim_goto hC 4 51 (by decide +kernel) (by decide) ?_
      refine sim_sub hC [0, 2] ?_
      exact s_K_C_spread_51 hC s.2 s.1 0 w
noncomputable def F_C_spread (w : Wld) (a1 : Int32) : Option (Oc × Wld) :=
  bn (F_C_needWithin w a1 0 60) w (bv (F_C_goAhead w a1) (fun w1 => bl (loop (B_C_spread_16 w1) ((0, 0))) (fun r5 => some ((.inr (some r5), w1)))))
set_option maxRecDepth 10000 in
theorem s_C_spread {Z : ZT} {l : Launch} {o : Oc} {wo : Wld} {Ok : Cfg → Prop} (hC : Clo Z l 9 4 prog_1_method_26_code (some .int) 7 136 o wo Ok) (w : Wld) (a1 : Int32) : SimK Ok (0, [(0, vR 42), (1, vI a1)], [], w) (F_C_spread w a1) (Gt o wo) := by
  unfold F_C_spread
  refine sim_blk0 hC [(.iload_n 1, 0, 0, 0, 0), (.iconst 0, 0, 0, 0, 0), (.bipush 60, 0, 0, 0, 60)] [(0, vR 42), (1, vI a1)] [vI 60, vI 0, vI a1] w 4 (by decide +kernel) rfl rfl ?_
  refine sim_sn hC 77 mX10_needWithin 6 89 [vI a1, vI 0, vI 60] [] (by decide +kernel) ml_9_77 rfl rfl rfl rfl rfl (fun qz hz => c_C_needWithin w a1 0 60 qz hz) ?_
  refine sim_blk0 hC [(.aload_n 0, 0, 0, 0, 0), (.iload_n 1, 0, 0, 0, 0)] [(0, vR 42), (1, vI a1)] [vI a1, vR 42] w 9 (by decide +kernel) rfl rfl ?_
  refine sim_vv hC 200 mX10_goAhead 6 115 42 [vI a1] [] (by decide +kernel) ml_9_200 rfl rfl rfl rfl rfl rfl (fun wz hz => c_C_goAhead w a1 wz hz) (fun w1 => ?_)
  refine sim_blk0 hC [(.iconst 0, 0, 0, 0, 0), (.istore_n 2, 0, 0, 0, 0), (.iconst 0, 0, 0, 0, 0), (.istore_n 3, 0, 0, 0, 0)] [(0, vR 42), (1, vI a1), (2, vI 0), (3, vI 0)] [] w1 16 (by decide +kernel) rfl rfl ?_
  refine sim_bl (E := (E_C_spread_16 w1)) ?_ (fun r5 => ?_)
  · refine sim_sub hC [0, 2, 3] ?_
    exact sim_loop (V := (V_C_spread_16 w1)) (fun sz => s_B_C_spread_16 hC w1 sz) ((0, 0))
  · show SimK Ok (59, [(2, vI r5)], [], w1) _ _
    refine sim_blk0 hC [(.iload_n 2, 0, 0, 0, 0)] [(2, vI r5)] [vI r5] w1 60 (by decide +kernel) rfl rfl ?_
    exact sim_rett hC (by decide +kernel) trivial
theorem c_C_spread {Z : ZT} {l : Launch} (w : Wld) (a1 : Int32) (q : Oc) (w1 : Wld) (h : F_C_spread w a1 = some (q, w1)) : Con Z l mX10_spread 7 136 [vR 42, vI a1] w q w1 :=
  Con_of (oc := 9) (by decide +kernel) rfl rfl (fun Ok hC => s_C_spread hC w a1 (q, w1) h ⟨rfl, rfl⟩)
def V_Heard_lastNight_69_4 (w : Wld) : (Int32 × Int32) → Cfg := fun s => (4, [(0, vR 69), (1, vI s.1), (2, vI s.2)], [], w)
def E_Heard_lastNight_69_4 (w : Wld) : (Int32) → Cfg := fun s => (29, [(1, vI s)], [], w)
noncomputable def B_Heard_lastNight_69_4 (w : Wld) (s : Int32 × Int32) : Option ((Int32 × Int32) ⊕ (Int32)) :=
  br ((w 69 3) ≤ s.2) (some (.inr s.1)) (gd (vp_in s.2 8) (bi (imax s.1 (w 70 (Int32.toNatClampNeg s.2))) (fun i1 => bi (s.2 + 1) (fun i2 => some (.inl ((i1, i2)))))))
set_option maxRecDepth 10000 in
theorem s_B_Heard_lastNight_69_4 {Z : ZT} {l : Launch} {o : Oc} {wo : Wld} {Ok : Cfg → Prop} (hC : Clo Z l 2 3 prog_4_method_5_code (some .int) 1 21 o wo Ok) (w : Wld) (s : Int32 × Int32) : SimK Ok (V_Heard_lastNight_69_4 w s) (B_Heard_lastNight_69_4 w s) (GLp Ok (V_Heard_lastNight_69_4 w) (GEp Ok (E_Heard_lastNight_69_4 w))) := by
  unfold B_Heard_lastNight_69_4
  show SimK Ok (4, [(0, vR 69), (1, vI s.1), (2, vI s.2)], [], w) _ _
  refine sim_blk0 hC [(.iload_n 2, 0, 0, 0, 0), (.aload_n 0, 0, 0, 0, 0), (.getfield 22, 69, 3, 0, 0)] [(0, vR 69), (1, vI s.1), (2, vI s.2)] [vI (w 69 3), vI s.2] w 9 (by decide +kernel) rfl rfl ?_
  refine sim_br hC (.if_icmp .ge 20) 29 (by decide +kernel) rfl (by decide) ?_ ?_
  · refine sim_sub hC [1] ?_
    exact sim_exit (E := (E_Heard_lastNight_69_4 w)) s.1
  · refine sim_blk1 hC [(.iload_n 1, 0, 0, 0, 0), (.aload_n 0, 0, 0, 0, 0), (.getfield 9, 69, 0, 72, 0), (.iload_n 2, 0, 0, 0, 0), (.iaload, 70, 8, 0, 0)] [(0, vR 69), (1, vI s.1), (2, vI s.2)] [vI (w 70 (Int32.toNatClampNeg s.2)), vI s.1] w 19 (by decide +kernel) rfl rfl ?_
    refine sim_max hC 26 (by decide +kernel) ml_2_26 rfl rfl rfl ?_
    refine sim_blk0 hC [(.istore_n 1, 0, 0, 0, 0)] [(0, vR 69), (1, vI (imax s.1 (w 70 (Int32.toNatClampNeg s.2)))), (2, vI s.2)] [] w 23 (by decide +kernel) rfl rfl ?_
    refine sim_bi (C := fun i1 => (23, [(0, vR 69), (1, vI i1), (2, vI s.2)], [], w)) (fun i1 => ?_)
    refine sim_blk0 hC [(.iinc 2 1, 0, 0, 0, 1)] [(0, vR 69), (1, vI i1), (2, vI (s.2 + 1))] [] w 26 (by decide +kernel) rfl rfl ?_
    refine sim_bi (C := fun i2 => (26, [(0, vR 69), (1, vI i1), (2, vI i2)], [], w)) (fun i2 => ?_)
    refine sim_goto hC (-22) 4 (by decide +kernel) (by decide) ?_
    exact sim_back (V := (V_Heard_lastNight_69_4 w)) ((i1, i2))
noncomputable def F_Heard_lastNight_69 (w : Wld) : Option (Int32) :=
  bl (loop (B_Heard_lastNight_69_4 w) ((0, 0))) (fun r3 => some r3)
set_option maxRecDepth 10000 in
theorem s_Heard_lastNight_69 {Z : ZT} {l : Launch} {o : Oc} {wo : Wld} {Ok : Cfg → Prop} (hC : Clo Z l 2 3 prog_4_method_5_code (some .int) 1 21 o wo Ok) (w : Wld) : SimK Ok (0, [(0, vR 69)], [], w) (F_Heard_lastNight_69 w) (Gp o wo w) := by
  unfold F_Heard_lastNight_69
  refine sim_blk0 hC [(.iconst 0, 0, 0, 0, 0), (.istore_n 1, 0, 0, 0, 0), (.iconst 0, 0, 0, 0, 0), (.istore_n 2, 0, 0, 0, 0)] [(0, vR 69), (1, vI 0), (2, vI 0)] [] w 4 (by decide +kernel) rfl rfl ?_
  refine sim_bl (E := (E_Heard_lastNight_69_4 w)) ?_ (fun r3 => ?_)
  · exact sim_loop (V := (V_Heard_lastNight_69_4 w)) (fun sz => s_B_Heard_lastNight_69_4 hC w sz) ((0, 0))
  · show SimK Ok (29, [(1, vI r3)], [], w) _ _
    refine sim_blk0 hC [(.iload_n 1, 0, 0, 0, 0)] [(1, vI r3)] [vI r3] w 30 (by decide +kernel) rfl rfl ?_
    exact sim_retp hC (by decide +kernel) trivial
theorem c_Heard_lastNight_69 {Z : ZT} {l : Launch} (w : Wld) (r : Int32) (h : F_Heard_lastNight_69 w = some r) : Con Z l mX2_lastNight 1 21 [vR 69] w (.inr (some r)) w :=
  Con_of (oc := 2) (by decide +kernel) rfl rfl (fun Ok hC => s_Heard_lastNight_69 hC w r h ⟨rfl, rfl⟩)
def V_Night_wasSung_55_4 (a1 : Int32) (w : Wld) : (Int32 × Int32) → Cfg := fun s => (4, [(0, vR 55), (1, vI a1), (2, vI s.1), (3, vI s.2)], [], w)
def E_Night_wasSung_55_4 (a1 : Int32) (w : Wld) : (Int32) → Cfg := fun s => (59, [(2, vI s)], [], w)
noncomputable def K_Night_wasSung_55_51 (a1 : Int32) (a3 : Int32) (t0 : Int32) (t1 : Int32) (w : Wld) : Option ((Int32 × Int32) ⊕ (Int32)) :=
  bi (t0 ||| t1) (fun i1 => bi (a3 + 1) (fun i2 => some (.inl ((i1, i2)))))
set_option maxRecDepth 10000 in
theorem s_K_Night_wasSung_55_51 {Z : ZT} {l : Launch} {o : Oc} {wo : Wld} {Ok : Cfg → Prop} (hC : Clo Z l 4 4 prog_6_method_11_code (some .boolean) 1 0 o wo Ok) (a1 : Int32) (a3 : Int32) (t0 : Int32) (t1 : Int32) (w : Wld) : SimK Ok (51, [(0, vR 55), (1, vI a1), (3, vI a3)], [vI t1, vI t0], w) (K_Night_wasSung_55_51 a1 a3 t0 t1 w) (GLp Ok (V_Night_wasSung_55_4 a1 w) (GEp Ok (E_Night_wasSung_55_4 a1 w))) := by
  unfold K_Night_wasSung_55_51
  refine sim_blk0 hC [(.ior, 0, 0, 0, 0), (.istore_n 2, 0, 0, 0, 0)] [(0, vR 55), (1, vI a1), (2, vI (t0 ||| t1)), (3, vI a3)] [] w 53 (by decide +kernel) rfl rfl ?_
  refine sim_bi (C := fun i1 => (53, [(0, vR 55), (1, vI a1), (2, vI i1), (3, vI a3)], [], w)) (fun i1 => ?_)
  refine sim_blk0 hC [(.iinc 3 1, 0, 0, 0, 1)] [(0, vR 55), (1, vI a1), (2, vI i1), (3, vI (a3 + 1))] [] w 56 (by decide +kernel) rfl rfl ?_
  refine sim_bi (C := fun i2 => (56, [(0, vR 55), (1, vI a1), (2, vI i1), (3, vI i2)], [], w)) (fun i2 => ?_)
  refine sim_goto hC (-52) 4 (by decide +kernel) (by decide) ?_
  exact sim_back (V := (V_Night_wasSung_55_4 a1 w)) ((i1, i2))
noncomputable def K_Night_wasSung_55_50 (a1 : Int32) (a3 : Int32) (t0 : Int32) (w : Wld) : Option ((Int32 × Int32) ⊕ (Int32)) :=
  K_Night_wasSung_55_51 a1 a3 t0 0 w
set_option maxRecDepth 10000 in
theorem s_K_Night_wasSung_55_50 {Z : ZT} {l : Launch} {o : Oc} {wo : Wld} {Ok : Cfg → Prop} (hC : Clo Z l 4 4 prog_6_method_11_code (some .boolean) 1 0 o wo Ok) (a1 : Int32) (a3 : Int32) (t0 : Int32) (w : Wld) : SimK Ok (50, [(0, vR 55), (1, vI a1), (3, vI a3)], [vI t0], w) (K_Night_wasSung_55_50 a1 a3 t0 w) (GLp Ok (V_Night_wasSung_55_4 a1 w) (GEp Ok (E_Night_wasSung_55_4 a1 w))) := by
  unfold K_Night_wasSung_55_50
  refine sim_blk0 hC [(.iconst 0, 0, 0, 0, 0)] [(0, vR 55), (1, vI a1), (3, vI a3)] [vI 0, vI t0] w 51 (by decide +kernel) rfl rfl ?_
  exact s_K_Night_wasSung_55_51 hC a1 a3 t0 0 w
noncomputable def B_Night_wasSung_55_4 (a1 : Int32) (w : Wld) (s : Int32 × Int32) : Option ((Int32 × Int32) ⊕ (Int32)) :=
  br ((w 56 1) ≤ s.2) (some (.inr s.1)) (br (¬ (((w 55 3) >>> (s.2 &&& 31)) &&& (1 : Int32)) = 1) (K_Night_wasSung_55_50 a1 s.2 s.1 w) (gd (vp_in s.2 8) (gd (vp_in (w 63 (Int32.toNatClampNeg s.2)) 9) (br (¬ (w 57 (Int32.toNatClampNeg (w 63 (Int32.toNatClampNeg s.2)))) = a1) (K_Night_wasSung_55_50 a1 s.2 s.1 w) (K_Night_wasSung_55_51 a1 s.2 s.1 1 w)))))
set_option maxRecDepth 10000 in
theorem s_B_Night_wasSung_55_4 {Z : ZT} {l : Launch} {o : Oc} {wo : Wld} {Ok : Cfg → Prop} (hC : Clo Z l 4 4 prog_6_method_11_code (some .boolean) 1 0 o wo Ok) (a1 : Int32) (w : Wld) (s : Int32 × Int32) : SimK Ok (V_Night_wasSung_55_4 a1 w s) (B_Night_wasSung_55_4 a1 w s) (GLp Ok (V_Night_wasSung_55_4 a1 w) (GEp Ok (E_Night_wasSung_55_4 a1 w))) := by
  unfold B_Night_wasSung_55_4
  show SimK Ok (4, [(0, vR 55), (1, vI a1), (2, vI s.1), (3, vI s.2)], [], w) _ _
  refine sim_blk0 hC [(.iload_n 3, 0, 0, 0, 0), (.aload_n 0, 0, 0, 0, 0), (.getfield 12, 55, 0, 58, 0), (.getfield 57, 56, 1, 0, 0)] [(0, vR 55), (1, vI a1), (2, vI s.1), (3, vI s.2)] [vI (w 56 1), vI s.2] w 12 (by decide +kernel) rfl rfl ?_
  refine sim_br hC (.if_icmp .ge 47) 59 (by decide +kernel) rfl (by decide) ?_ ?_
  · refine sim_sub hC [2] ?_
    exact sim_exit (E := (E_Night_wasSung_55_4 a1 w)) s.1
  · refine sim_blk0 hC [(.iload_n 2, 0, 0, 0, 0), (.aload_n 0, 0, 0, 0, 0), (.getfield 27, 55, 3, 0, 0), (.iload_n 3, 0, 0, 0, 0), (.ishr, 0, 0, 0, 0), (.iconst 1, 0, 0, 0, 1), (.iand, 0, 0, 0, 0), (.iconst 1, 0, 0, 0, 1)] [(0, vR 55), (1, vI a1), (2, vI s.1), (3, vI s.2)] [vI 1, vI (((w 55 3) >>> (s.2 &&& 31)) &&& (1 : Int32)), vI s.1] w 25 (by decide +kernel) rfl rfl ?_
    refine sim_br hC (.if_icmp .ne 25) 50 (by decide +kernel) rfl (by decide) ?_ ?_
    · refine sim_sub hC [0, 1, 3] ?_
      exact s_K_Night_wasSung_55_50 hC a1 s.2 s.1 w
    · refine sim_blk2 hC [(.aload_n 0, 0, 0, 0, 0), (.getfield 12, 55, 0, 58, 0), (.getfield 54, 56, 4, 59, 0), (.aload_n 0, 0, 0, 0, 0), (.getfield 24, 55, 2, 65, 0), (.iload_n 3, 0, 0, 0, 0), (.iaload, 63, 8, 0, 0), (.iaload, 57, 9, 0, 0), (.iload_n 1, 0, 0, 0, 0)] [(0, vR 55), (1, vI a1), (2, vI s.1), (3, vI s.2)] [vI a1, vI (w 57 (Int32.toNatClampNeg (w 63 (Int32.toNatClampNeg s.2)))), vI s.1] w 43 (by decide +kernel) rfl rfl ?_
      refine sim_br hC (.if_icmp .ne 7) 50 (by decide +kernel) rfl (by decide) ?_ ?_
      · refine sim_sub hC [0, 1, 3] ?_
        exact s_K_Night_wasSung_55_50 hC a1 s.2 s.1 w
      · refine sim_blk0 hC [(.iconst 1, 0, 0, 0, 1)] [(0, vR 55), (1, vI a1), (2, vI s.1), (3, vI s.2)] [vI 1, vI s.1] w 47 (by decide +kernel) rfl rfl ?_
        refine sim_goto hC 4 51 (by decide +kernel) (by decide) ?_
        refine sim_sub hC [0, 1, 3] ?_
        exact s_K_Night_wasSung_55_51 hC a1 s.2 s.1 1 w
noncomputable def F_Night_wasSung_55 (w : Wld) (a1 : Int32) : Option (Int32) :=
  bl (loop (B_Night_wasSung_55_4 a1 w) ((0, 0))) (fun r3 => gd (r3 = 0 ∨ r3 = 1) (some r3))
set_option maxRecDepth 10000 in
theorem s_Night_wasSung_55 {Z : ZT} {l : Launch} {o : Oc} {wo : Wld} {Ok : Cfg → Prop} (hC : Clo Z l 4 4 prog_6_method_11_code (some .boolean) 1 0 o wo Ok) (w : Wld) (a1 : Int32) : SimK Ok (0, [(0, vR 55), (1, vI a1)], [], w) (F_Night_wasSung_55 w a1) (Gp o wo w) := by
  unfold F_Night_wasSung_55
  refine sim_blk0 hC [(.iconst 0, 0, 0, 0, 0), (.istore_n 2, 0, 0, 0, 0), (.iconst 0, 0, 0, 0, 0), (.istore_n 3, 0, 0, 0, 0)] [(0, vR 55), (1, vI a1), (2, vI 0), (3, vI 0)] [] w 4 (by decide +kernel) rfl rfl ?_
  refine sim_bl (E := (E_Night_wasSung_55_4 a1 w)) ?_ (fun r3 => ?_)
  · exact sim_loop (V := (V_Night_wasSung_55_4 a1 w)) (fun sz => s_B_Night_wasSung_55_4 hC a1 w sz) ((0, 0))
  · show SimK Ok (59, [(2, vI r3)], [], w) _ _
    refine sim_blk0 hC [(.iload_n 2, 0, 0, 0, 0)] [(2, vI r3)] [vI r3] w 60 (by decide +kernel) rfl rfl ?_
    exact sim_retpz hC (by decide +kernel) rfl
theorem c_Night_wasSung_55 {Z : ZT} {l : Launch} (w : Wld) (a1 : Int32) (r : Int32) (h : F_Night_wasSung_55 w a1 = some r) : Con Z l mX4_wasSung 1 0 [vR 55, vI a1] w (.inr (some r)) w :=
  Con_of (oc := 4) (by decide +kernel) rfl rfl (fun Ok hC => s_Night_wasSung_55 hC w a1 r h ⟨rfl, rfl⟩)
def V_Heard_agrees_69_55_2 (a2 : Int32) (w : Wld) : (Int32) → Cfg := fun s => (2, [(0, vR 69), (1, vR 55), (2, vI a2), (3, vI s)], [], w)
def E_Heard_agrees_69_55_2 (a2 : Int32) (w : Wld) : (Unit) → Cfg := fun s => (47, [], [], w)
noncomputable def K_Heard_agrees_69_55_41 (a2 : Int32) (a3 : Int32) (w : Wld) : Option ((Int32) ⊕ ((Unit) ⊕ (Int32))) :=
  bi (a3 + 1) (fun i1 => some (.inl i1))
set_option maxRecDepth 10000 in
theorem s_K_Heard_agrees_69_55_41 {Z : ZT} {l : Launch} {o : Oc} {wo : Wld} {Ok : Cfg → Prop} (hC : Clo Z l 2 4 prog_4_method_6_code (some .boolean) 2 23 o wo Ok) (a2 : Int32) (a3 : Int32) (w : Wld) : SimK Ok (41, [(0, vR 69), (1, vR 55), (2, vI a2), (3, vI a3)], [], w) (K_Heard_agrees_69_55_41 a2 a3 w) (GLp Ok (V_Heard_agrees_69_55_2 a2 w) (GLp Ok (E_Heard_agrees_69_55_2 a2 w) (Gp o wo w))) := by
  unfold K_Heard_agrees_69_55_41
  refine sim_blk0 hC [(.iinc 3 1, 0, 0, 0, 1)] [(0, vR 69), (1, vR 55), (2, vI a2), (3, vI (a3 + 1))] [] w 44 (by decide +kernel) rfl rfl ?_
  refine sim_bi (C := fun i1 => (44, [(0, vR 69), (1, vR 55), (2, vI a2), (3, vI i1)], [], w)) (fun i1 => ?_)
  refine sim_goto hC (-42) 2 (by decide +kernel) (by decide) ?_
  exact sim_back (V := (V_Heard_agrees_69_55_2 a2 w)) i1
noncomputable def B_Heard_agrees_69_55_2 (a2 : Int32) (w : Wld) (s : Int32) : Option ((Int32) ⊕ ((Unit) ⊕ (Int32))) :=
  br ((w 69 3) ≤ s) (some (.inr (.inl (())))) (gd (vp_in s 8) (br (¬ (w 70 (Int32.toNatClampNeg s)) = a2) (K_Heard_agrees_69_55_41 a2 s w) (gd (vp_in s 8) (bp (F_Night_wasSung_55 w (w 71 (Int32.toNatClampNeg s))) (fun i2 => gd (vp_in s 8) (br (i2 = (w 72 (Int32.toNatClampNeg s))) (K_Heard_agrees_69_55_41 a2 s w) (some (.inr (.inr 0)))))))))
set_option maxRecDepth 10000 in
theorem s_B_Heard_agrees_69_55_2 {Z : ZT} {l : Launch} {o : Oc} {wo : Wld} {Ok : Cfg → Prop} (hC : Clo Z l 2 4 prog_4_method_6_code (some .boolean) 2 23 o wo Ok) (a2 : Int32) (w : Wld) (s : Int32) : SimK Ok (V_Heard_agrees_69_55_2 a2 w s) (B_Heard_agrees_69_55_2 a2 w s) (GLp Ok (V_Heard_agrees_69_55_2 a2 w) (GLp Ok (E_Heard_agrees_69_55_2 a2 w) (Gp o wo w))) := by
  unfold B_Heard_agrees_69_55_2
  show SimK Ok (2, [(0, vR 69), (1, vR 55), (2, vI a2), (3, vI s)], [], w) _ _
  refine sim_blk0 hC [(.iload_n 3, 0, 0, 0, 0), (.aload_n 0, 0, 0, 0, 0), (.getfield 22, 69, 3, 0, 0)] [(0, vR 69), (1, vR 55), (2, vI a2), (3, vI s)] [vI (w 69 3), vI s] w 7 (by decide +kernel) rfl rfl ?_
  refine sim_br hC (.if_icmp .ge 40) 47 (by decide +kernel) rfl (by decide) ?_ ?_
  · refine sim_sub hC [] ?_
    exact sim_exitx (E := (E_Heard_agrees_69_55_2 a2 w)) (())
  · refine sim_blk1 hC [(.aload_n 0, 0, 0, 0, 0), (.getfield 9, 69, 0, 72, 0), (.iload_n 3, 0, 0, 0, 0), (.iaload, 70, 8, 0, 0), (.iload_n 2, 0, 0, 0, 0)] [(0, vR 69), (1, vR 55), (2, vI a2), (3, vI s)] [vI a2, vI (w 70 (Int32.toNatClampNeg s))] w 17 (by decide +kernel) rfl rfl ?_
    refine sim_br hC (.if_icmp .ne 24) 41 (by decide +kernel) rfl (by decide) ?_ ?_
    · exact s_K_Heard_agrees_69_55_41 hC a2 s w
    · refine sim_blk1 hC [(.aload_n 1, 0, 0, 0, 0), (.aload_n 0, 0, 0, 0, 0), (.getfield 15, 69, 1, 73, 0), (.iload_n 3, 0, 0, 0, 0), (.iaload, 71, 8, 0, 0)] [(0, vR 69), (1, vR 55), (2, vI a2), (3, vI s)] [vI (w 71 (Int32.toNatClampNeg s)), vR 55] w 27 (by decide +kernel) rfl rfl ?_
      refine sim_vp hC 32 mX4_wasSung 1 0 55 [vI (w 71 (Int32.toNatClampNeg s))] [] (by decide +kernel) ml_2_32 rfl rfl rfl rfl rfl rfl (fun rz hz => c_Night_wasSung_55 w (w 71 (Int32.toNatClampNeg s)) rz hz) (fun i2 => ?_)
      refine sim_blk1 hC [(.aload_n 0, 0, 0, 0, 0), (.getfield 18, 69, 2, 74, 0), (.iload_n 3, 0, 0, 0, 0), (.baload, 72, 8, 2, 0)] [(0, vR 69), (1, vR 55), (2, vI a2), (3, vI s)] [vI (w 72 (Int32.toNatClampNeg s)), vI i2] w 36 (by decide +kernel) rfl rfl ?_
      refine sim_br hC (.if_icmp .eq 5) 41 (by decide +kernel) rfl (by decide) ?_ ?_
      · exact s_K_Heard_agrees_69_55_41 hC a2 s w
      · refine sim_blk0 hC [(.iconst 0, 0, 0, 0, 0)] [(0, vR 69), (1, vR 55), (2, vI a2), (3, vI s)] [vI 0] w 40 (by decide +kernel) rfl rfl ?_
        refine sim_outx ?_
        exact sim_retp hC (by decide +kernel) (Or.inl rfl)
noncomputable def F_Heard_agrees_69_55 (w : Wld) (a2 : Int32) : Option (Int32) :=
  bx (loop (B_Heard_agrees_69_55_2 a2 w) 0) (fun r3 => some 1)
set_option maxRecDepth 10000 in
theorem s_Heard_agrees_69_55 {Z : ZT} {l : Launch} {o : Oc} {wo : Wld} {Ok : Cfg → Prop} (hC : Clo Z l 2 4 prog_4_method_6_code (some .boolean) 2 23 o wo Ok) (w : Wld) (a2 : Int32) : SimK Ok (0, [(0, vR 69), (1, vR 55), (2, vI a2)], [], w) (F_Heard_agrees_69_55 w a2) (Gp o wo w) := by
  unfold F_Heard_agrees_69_55
  refine sim_blk0 hC [(.iconst 0, 0, 0, 0, 0), (.istore_n 3, 0, 0, 0, 0)] [(0, vR 69), (1, vR 55), (2, vI a2), (3, vI 0)] [] w 2 (by decide +kernel) rfl rfl ?_
  refine sim_bx (E := (E_Heard_agrees_69_55_2 a2 w)) ?_ (fun r3 => ?_)
  · exact sim_loop (V := (V_Heard_agrees_69_55_2 a2 w)) (fun sz => s_B_Heard_agrees_69_55_2 hC a2 w sz) 0
  · show SimK Ok (47, [], [], w) _ _
    refine sim_blk0 hC [(.iconst 1, 0, 0, 0, 1)] [] [vI 1] w 48 (by decide +kernel) rfl rfl ?_
    exact sim_retp hC (by decide +kernel) (Or.inr rfl)
theorem c_Heard_agrees_69_55 {Z : ZT} {l : Launch} (w : Wld) (a2 : Int32) (r : Int32) (h : F_Heard_agrees_69_55 w a2 = some r) : Con Z l mX2_agrees 2 23 [vR 69, vR 55, vI a2] w (.inr (some r)) w :=
  Con_of (oc := 2) (by decide +kernel) rfl rfl (fun Ok hC => s_Heard_agrees_69_55 hC w a2 r h ⟨rfl, rfl⟩)
def V_C_heardInTrial_13 (a1 : Int32) : (Int32 × Wld) → Cfg := fun s => (13, [(0, vR 42), (1, vI a1), (2, vI s.1)], [], s.2)
def E_C_heardInTrial_13 (a1 : Int32) : (Wld) → Cfg := fun s => (55, [], [], s)
noncomputable def B_C_heardInTrial_13 (a1 : Int32) (s : Int32 × Wld) : Option ((Int32 × Wld) ⊕ ((Wld) ⊕ (Int32 × Wld))) :=
  br (a1 < s.1) (some (.inr (.inl s.2))) (bv (F_Night_pass_55_84 s.2) (fun w2 => bp (F_Heard_agrees_69_55 w2 s.1) (fun i3 => br (¬ i3 = 0) (bi (s.1 + 1) (fun i4 => some (.inl ((i4, w2))))) (some (.inr (.inr ((0, w2))))))))
set_option maxRecDepth 10000 in
theorem s_B_C_heardInTrial_13 {Z : ZT} {l : Launch} {o : Oc} {wo : Wld} {Ok : Cfg → Prop} (hC : Clo Z l 9 3 prog_1_method_50_code (some .boolean) 5 93 o wo Ok) (a1 : Int32) (s : Int32 × Wld) : SimK Ok (V_C_heardInTrial_13 a1 s) (B_C_heardInTrial_13 a1 s) (GLp Ok (V_C_heardInTrial_13 a1) (GLp Ok (E_C_heardInTrial_13 a1) (Gi o wo))) := by
  unfold B_C_heardInTrial_13
  show SimK Ok (13, [(0, vR 42), (1, vI a1), (2, vI s.1)], [], s.2) _ _
  refine sim_blk0 hC [(.iload_n 2, 0, 0, 0, 0), (.iload_n 1, 0, 0, 0, 0)] [(0, vR 42), (1, vI a1), (2, vI s.1)] [vI a1, vI s.1] s.2 15 (by decide +kernel) rfl rfl ?_
  refine sim_br hC (.if_icmp .gt 40) 55 (by decide +kernel) rfl (by decide) ?_ ?_
  · refine sim_sub hC [] ?_
    exact sim_exitx (E := (E_C_heardInTrial_13 a1)) s.2
  · refine sim_blk0 hC [(.aload_n 0, 0, 0, 0, 0), (.getfield 30, 42, 4, 57, 0), (.aload_n 0, 0, 0, 0, 0), (.getfield 56, 42, 9, 86, 0)] [(0, vR 42), (1, vI a1), (2, vI s.1)] [vR 84, vR 55] s.2 26 (by decide +kernel) rfl rfl ?_
    refine sim_vv hC 185 mX4_pass 4 69 55 [vR 84] [] (by decide +kernel) ml_9_185 rfl rfl rfl rfl rfl rfl (fun wz hz => c_Night_pass_55_84 s.2 wz hz) (fun w2 => ?_)
    refine sim_blk0 hC [(.aload_n 0, 0, 0, 0, 0), (.getfield 42, 42, 6, 66, 0), (.getfield 118, 64, 2, 71, 0), (.aload_n 0, 0, 0, 0, 0), (.getfield 30, 42, 4, 57, 0), (.iload_n 2, 0, 0, 0, 0)] [(0, vR 42), (1, vI a1), (2, vI s.1)] [vI s.1, vR 55, vR 69] w2 41 (by decide +kernel) rfl rfl ?_
    refine sim_vp hC 284 mX2_agrees 2 23 69 [vR 55, vI s.1] [] (by decide +kernel) ml_9_284 rfl rfl rfl rfl rfl rfl (fun rz hz => c_Heard_agrees_69_55 w2 s.1 rz hz) (fun i3 => ?_)
    refine sim_br hC (.ifCond .ne 5) 49 (by decide +kernel) rfl (by decide) ?_ ?_
    · refine sim_blk0 hC [(.iinc 2 1, 0, 0, 0, 1)] [(0, vR 42), (1, vI a1), (2, vI (s.1 + 1))] [] w2 52 (by decide +kernel) rfl rfl ?_
      refine sim_bi (C := fun i4 => (52, [(0, vR 42), (1, vI a1), (2, vI i4)], [], w2)) (fun i4 => ?_)
      refine sim_goto hC (-39) 13 (by decide +kernel) (by decide) ?_
      exact sim_back (V := (V_C_heardInTrial_13 a1)) ((i4, w2))
    · refine sim_blk0 hC [(.iconst 0, 0, 0, 0, 0)] [(0, vR 42), (1, vI a1), (2, vI s.1)] [vI 0] w2 48 (by decide +kernel) rfl rfl ?_
      refine sim_outx ?_
      exact sim_reti hC (by decide +kernel) (Or.inl rfl)
noncomputable def F_C_heardInTrial (w : Wld) : Option (Int32 × Wld) :=
  bp (F_Heard_lastNight_69 w) (fun i1 => bx (loop (B_C_heardInTrial_13 i1) ((1, w))) (fun r5 => some ((1, r5))))
set_option maxRecDepth 10000 in
theorem s_C_heardInTrial {Z : ZT} {l : Launch} {o : Oc} {wo : Wld} {Ok : Cfg → Prop} (hC : Clo Z l 9 3 prog_1_method_50_code (some .boolean) 5 93 o wo Ok) (w : Wld) : SimK Ok (0, [(0, vR 42)], [], w) (F_C_heardInTrial w) (Gi o wo) := by
  unfold F_C_heardInTrial
  refine sim_blk0 hC [(.aload_n 0, 0, 0, 0, 0), (.getfield 42, 42, 6, 66, 0), (.getfield 118, 64, 2, 71, 0)] [(0, vR 42)] [vR 69] w 7 (by decide +kernel) rfl rfl ?_
  refine sim_vp hC 281 mX2_lastNight 1 21 69 [] [] (by decide +kernel) ml_9_281 rfl rfl rfl rfl rfl rfl (fun rz hz => c_Heard_lastNight_69 w rz hz) (fun i1 => ?_)
  refine sim_blk0 hC [(.istore_n 1, 0, 0, 0, 0), (.iconst 1, 0, 0, 0, 1), (.istore_n 2, 0, 0, 0, 0)] [(0, vR 42), (1, vI i1), (2, vI 1)] [] w 13 (by decide +kernel) rfl rfl ?_
  refine sim_bx (E := (E_C_heardInTrial_13 i1)) ?_ (fun r5 => ?_)
  · exact sim_loop (V := (V_C_heardInTrial_13 i1)) (fun sz => s_B_C_heardInTrial_13 hC i1 sz) ((1, w))
  · show SimK Ok (55, [], [], r5) _ _
    refine sim_blk0 hC [(.iconst 1, 0, 0, 0, 1)] [] [vI 1] r5 56 (by decide +kernel) rfl rfl ?_
    exact sim_reti hC (by decide +kernel) (Or.inr rfl)
theorem c_C_heardInTrial {Z : ZT} {l : Launch} (w : Wld) (r : Int32) (w1 : Wld) (h : F_C_heardInTrial w = some (r, w1)) : Con Z l mX10_heardInTrial 5 93 [vR 42] w (.inr (some r)) w1 :=
  Con_of (oc := 9) (by decide +kernel) rfl rfl (fun Ok hC => s_C_heardInTrial hC w (r, w1) h ⟨rfl, rfl⟩)
noncomputable def F_C_couldHaveEaten (w : Wld) (a1 : Int32) (a2 : Int32) : Option (Int32 × Wld) :=
  gd (vp_in ((8 : Int32) + a1) 53) (br (¬ (w 66 (Int32.toNatClampNeg ((8 : Int32) + a1))) = a2) (bv (F_C_beginTrial w) (fun w1 => gd (vp_in ((8 : Int32) + a1) 53) (bw (wup w1 85 (Int32.toNatClampNeg ((8 : Int32) + a1)) a2) (fun w2 => bd (F_C_heardInTrial w2) (fun i3 w4 => gd (i3 = 0 ∨ i3 = 1) (some ((i3, w4)))))))) (some ((0, w))))
set_option maxRecDepth 10000 in
theorem s_C_couldHaveEaten {Z : ZT} {l : Launch} {o : Oc} {wo : Wld} {Ok : Cfg → Prop} (hC : Clo Z l 9 3 prog_1_method_49_code (some .boolean) 6 115 o wo Ok) (w : Wld) (a1 : Int32) (a2 : Int32) : SimK Ok (0, [(0, vR 42), (1, vI a1), (2, vI a2)], [], w) (F_C_couldHaveEaten w a1 a2) (Gi o wo) := by
  unfold F_C_couldHaveEaten
  refine sim_blk1 hC [(.aload_n 0, 0, 0, 0, 0), (.getfield 42, 42, 6, 66, 0), (.getfield 100, 64, 0, 67, 0), (.getfield 137, 65, 0, 68, 0), (.bipush 8, 0, 0, 0, 8), (.iload_n 1, 0, 0, 0, 0), (.iadd, 0, 0, 0, 0), (.iaload, 66, 53, 0, 0), (.iload_n 2, 0, 0, 0, 0)] [(0, vR 42), (1, vI a1), (2, vI a2)] [vI a2, vI (w 66 (Int32.toNatClampNeg ((8 : Int32) + a1)))] w 16 (by decide +kernel) rfl rfl ?_
  refine sim_br hC (.if_icmp .ne 5) 21 (by decide +kernel) rfl (by decide) ?_ ?_
  · refine sim_blk0 hC [(.aload_n 0, 0, 0, 0, 0)] [(0, vR 42), (1, vI a1), (2, vI a2)] [vR 42] w 22 (by decide +kernel) rfl rfl ?_
    refine sim_vv hC 212 mX10_beginTrial 2 81 42 [] [] (by decide +kernel) ml_9_212 rfl rfl rfl rfl rfl rfl (fun wz hz => c_C_beginTrial w wz hz) (fun w1 => ?_)
    refine sim_blk1 hC [(.aload_n 0, 0, 0, 0, 0), (.getfield 56, 42, 9, 86, 0), (.getfield 137, 84, 0, 87, 0), (.bipush 8, 0, 0, 0, 8), (.iload_n 1, 0, 0, 0, 0), (.iadd, 0, 0, 0, 0), (.iload_n 2, 0, 0, 0, 0), (.iastore, 85, 53, 0, 0)] [(0, vR 42), (1, vI a1), (2, vI a2)] [] (wup w1 85 (Int32.toNatClampNeg ((8 : Int32) + a1)) a2) 38 (by decide +kernel) rfl rfl ?_
    refine sim_bw (C := fun w2 => (38, [(0, vR 42), (1, vI a1), (2, vI a2)], [], w2)) (fun w2 => ?_)
    refine sim_blk0 hC [(.aload_n 0, 0, 0, 0, 0)] [(0, vR 42), (1, vI a1), (2, vI a2)] [vR 42] w2 39 (by decide +kernel) rfl rfl ?_
    refine sim_vd hC 273 mX10_heardInTrial 5 93 42 [] [] (by decide +kernel) ml_9_273 rfl rfl rfl rfl rfl rfl (fun rz wz hz => c_C_heardInTrial w2 rz wz hz) (fun i3 w4 => ?_)
    exact sim_retiz hC (by decide +kernel) rfl
  · refine sim_blk0 hC [(.iconst 0, 0, 0, 0, 0)] [(0, vR 42), (1, vI a1), (2, vI a2)] [vI 0] w 20 (by decide +kernel) rfl rfl ?_
    exact sim_reti hC (by decide +kernel) (Or.inl rfl)
theorem c_C_couldHaveEaten {Z : ZT} {l : Launch} (w : Wld) (a1 : Int32) (a2 : Int32) (r : Int32) (w1 : Wld) (h : F_C_couldHaveEaten w a1 a2 = some (r, w1)) : Con Z l mX10_couldHaveEaten 6 115 [vR 42, vI a1, vI a2] w (.inr (some r)) w1 :=
  Con_of (oc := 9) (by decide +kernel) rfl rfl (fun Ok hC => s_C_couldHaveEaten hC w a1 a2 (r, w1) h ⟨rfl, rfl⟩)
def V_C_eaten_34 (a1 : Int32) : (Int32 × Int32 × Int32 × Wld) → Cfg := fun s => (34, [(0, vR 42), (1, vI a1), (2, vI s.1), (3, vI s.2.1), (4, vI s.2.2.1)], [], s.2.2.2)
def E_C_eaten_34 (a1 : Int32) : (Int32 × Int32 × Wld) → Cfg := fun s => (99, [(1, vI a1), (2, vI s.1), (3, vI s.2.1)], [], s.2.2)
def V_C_eaten_49 (a1 : Int32) (a4 : Int32) : (Int32 × Int32 × Int32 × Wld) → Cfg := fun s => (49, [(0, vR 42), (1, vI a1), (2, vI s.1), (3, vI s.2.1), (4, vI a4), (5, vI s.2.2.1)], [], s.2.2.2)
def E_C_eaten_49 (a1 : Int32) (a4 : Int32) : (Int32 × Int32 × Wld) → Cfg := fun s => (93, [(0, vR 42), (1, vI a1), (2, vI s.1), (3, vI s.2.1), (4, vI a4)], [], s.2.2)
noncomputable def K_C_eaten_87 (a1 : Int32) (a2 : Int32) (a3 : Int32) (a4 : Int32) (a5 : Int32) (w : Wld) : Option ((Int32 × Int32 × Int32 × Wld) ⊕ (Int32 × Int32 × Wld)) :=
  bi (a5 + 1) (fun i3 => some (.inl ((a2, a3, i3, w))))
set_option maxRecDepth 10000 in
theorem s_K_C_eaten_87 {Z : ZT} {l : Launch} {o : Oc} {wo : Wld} {Ok : Cfg → Prop} (hC : Clo Z l 9 6 prog_1_method_48_code (some .int) 7 137 o wo Ok) (a1 : Int32) (a2 : Int32) (a3 : Int32) (a4 : Int32) (a5 : Int32) (w : Wld) : SimK Ok (87, [(0, vR 42), (1, vI a1), (2, vI a2), (3, vI a3), (4, vI a4), (5, vI a5)], [], w) (K_C_eaten_87 a1 a2 a3 a4 a5 w) (GLp Ok (V_C_eaten_49 a1 a4) (GEp Ok (E_C_eaten_49 a1 a4))) := by
  unfold K_C_eaten_87
  refine sim_blk0 hC [(.iinc 5 1, 0, 0, 0, 1)] [(0, vR 42), (1, vI a1), (2, vI a2), (3, vI a3), (4, vI a4), (5, vI (a5 + 1))] [] w 90 (by decide +kernel) rfl rfl ?_
  refine sim_bi (C := fun i3 => (90, [(0, vR 42), (1, vI a1), (2, vI a2), (3, vI a3), (4, vI a4), (5, vI i3)], [], w)) (fun i3 => ?_)
  refine sim_goto hC (-41) 49 (by decide +kernel) (by decide) ?_
  exact sim_back (V := (V_C_eaten_49 a1 a4)) ((a2, a3, i3, w))
noncomputable def K_C_eaten_83 (a1 : Int32) (a2 : Int32) (a4 : Int32) (a5 : Int32) (t0 : Int32) (w : Wld) : Option ((Int32 × Int32 × Int32 × Wld) ⊕ (Int32 × Int32 × Wld)) :=
  bi (a2 + 1) (fun i4 => K_C_eaten_87 a1 i4 t0 a4 a5 w)
set_option maxRecDepth 10000 in
theorem s_K_C_eaten_83 {Z : ZT} {l : Launch} {o : Oc} {wo : Wld} {Ok : Cfg → Prop} (hC : Clo Z l 9 6 prog_1_method_48_code (some .int) 7 137 o wo Ok) (a1 : Int32) (a2 : Int32) (a4 : Int32) (a5 : Int32) (t0 : Int32) (w : Wld) : SimK Ok (83, [(0, vR 42), (1, vI a1), (2, vI a2), (4, vI a4), (5, vI a5)], [vI t0], w) (K_C_eaten_83 a1 a2 a4 a5 t0 w) (GLp Ok (V_C_eaten_49 a1 a4) (GEp Ok (E_C_eaten_49 a1 a4))) := by
  unfold K_C_eaten_83
  refine sim_blk0 hC [(.istore_n 3, 0, 0, 0, 0), (.iinc 2 1, 0, 0, 0, 1)] [(0, vR 42), (1, vI a1), (2, vI (a2 + 1)), (3, vI t0), (4, vI a4), (5, vI a5)] [] w 87 (by decide +kernel) rfl rfl ?_
  refine sim_bi (C := fun i4 => (87, [(0, vR 42), (1, vI a1), (2, vI i4), (3, vI t0), (4, vI a4), (5, vI a5)], [], w)) (fun i4 => ?_)
  exact s_K_C_eaten_87 hC a1 i4 t0 a4 a5 w
noncomputable def B_C_eaten_49 (a1 : Int32) (a4 : Int32) (s : Int32 × Int32 × Int32 × Wld) : Option ((Int32 × Int32 × Int32 × Wld) ⊕ (Int32 × Int32 × Wld)) :=
  br ((9 : Int32) < s.2.2.1) (some (.inr ((s.1, s.2.1, s.2.2.2)))) (bd (F_C_couldHaveEaten s.2.2.2 a4 s.2.2.1) (fun i1 w2 => br (i1 = 0) (K_C_eaten_87 a1 s.1 s.2.1 a4 s.2.2.1 w2) (br (¬ s.1 = 0) (K_C_eaten_83 a1 s.1 a4 s.2.2.1 s.2.1 w2) (K_C_eaten_83 a1 s.1 a4 s.2.2.1 (((10 : Int32) * a4) + s.2.2.1) w2))))
set_option maxRecDepth 10000 in
theorem s_B_C_eaten_49 {Z : ZT} {l : Launch} {o : Oc} {wo : Wld} {Ok : Cfg → Prop} (hC : Clo Z l 9 6 prog_1_method_48_code (some .int) 7 137 o wo Ok) (a1 : Int32) (a4 : Int32) (s : Int32 × Int32 × Int32 × Wld) : SimK Ok (V_C_eaten_49 a1 a4 s) (B_C_eaten_49 a1 a4 s) (GLp Ok (V_C_eaten_49 a1 a4) (GEp Ok (E_C_eaten_49 a1 a4))) := by
  unfold B_C_eaten_49
  show SimK Ok (49, [(0, vR 42), (1, vI a1), (2, vI s.1), (3, vI s.2.1), (4, vI a4), (5, vI s.2.2.1)], [], s.2.2.2) _ _
  refine sim_blk0 hC [(.iload 5, 0, 0, 0, 0), (.bipush 9, 0, 0, 0, 9)] [(0, vR 42), (1, vI a1), (2, vI s.1), (3, vI s.2.1), (4, vI a4), (5, vI s.2.2.1)] [vI 9, vI s.2.2.1] s.2.2.2 53 (by decide +kernel) rfl rfl ?_
  refine sim_br hC (.if_icmp .gt 40) 93 (by decide +kernel) rfl (by decide) ?_ ?_
  · refine sim_sub hC [0, 1, 2, 3, 4] ?_
    exact sim_exit (E := (E_C_eaten_49 a1 a4)) ((s.1, s.2.1, s.2.2.2))
  · refine sim_blk0 hC [(.aload_n 0, 0, 0, 0, 0), (.iload 4, 0, 0, 0, 0), (.iload 5, 0, 0, 0, 0)] [(0, vR 42), (1, vI a1), (2, vI s.1), (3, vI s.2.1), (4, vI a4), (5, vI s.2.2.1)] [vI s.2.2.1, vI a4, vR 42] s.2.2.2 61 (by decide +kernel) rfl rfl ?_
    refine sim_vd hC 277 mX10_couldHaveEaten 6 115 42 [vI a4, vI s.2.2.1] [] (by decide +kernel) ml_9_277 rfl rfl rfl rfl rfl rfl (fun rz wz hz => c_C_couldHaveEaten s.2.2.2 a4 s.2.2.1 rz wz hz) (fun i1 w2 => ?_)
    refine sim_br hC (.ifCond .eq 23) 87 (by decide +kernel) rfl (by decide) ?_ ?_
    · exact s_K_C_eaten_87 hC a1 s.1 s.2.1 a4 s.2.2.1 w2
    · refine sim_blk0 hC [(.iload_n 2, 0, 0, 0, 0)] [(0, vR 42), (1, vI a1), (2, vI s.1), (3, vI s.2.1), (4, vI a4), (5, vI s.2.2.1)] [vI s.1] w2 68 (by decide +kernel) rfl rfl ?_
      refine sim_br hC (.ifCond .ne 14) 82 (by decide +kernel) rfl (by decide) ?_ ?_
      · refine sim_blk0 hC [(.iload_n 3, 0, 0, 0, 0)] [(0, vR 42), (1, vI a1), (2, vI s.1), (3, vI s.2.1), (4, vI a4), (5, vI s.2.2.1)] [vI s.2.1] w2 83 (by decide +kernel) rfl rfl ?_
        refine sim_sub hC [0, 1, 2, 4, 5] ?_
        exact s_K_C_eaten_83 hC a1 s.1 a4 s.2.2.1 s.2.1 w2
      · refine sim_blk0 hC [(.bipush 10, 0, 0, 0, 10), (.iload 4, 0, 0, 0, 0), (.imul, 0, 0, 0, 0), (.iload 5, 0, 0, 0, 0), (.iadd, 0, 0, 0, 0)] [(0, vR 42), (1, vI a1), (2, vI s.1), (3, vI s.2.1), (4, vI a4), (5, vI s.2.2.1)] [vI (((10 : Int32) * a4) + s.2.2.1)] w2 79 (by decide +kernel) rfl rfl ?_
        refine sim_goto hC 4 83 (by decide +kernel) (by decide) ?_
        refine sim_sub hC [0, 1, 2, 4, 5] ?_
        exact s_K_C_eaten_83 hC a1 s.1 a4 s.2.2.1 (((10 : Int32) * a4) + s.2.2.1) w2
noncomputable def B_C_eaten_34 (a1 : Int32) (s : Int32 × Int32 × Int32 × Wld) : Option ((Int32 × Int32 × Int32 × Wld) ⊕ (Int32 × Int32 × Wld)) :=
  br ((s.2.2.2 56 1) ≤ s.2.2.1) (some (.inr ((s.1, s.2.1, s.2.2.2)))) (bl (loop (B_C_eaten_49 a1 s.2.2.1) ((s.1, s.2.1, 0, s.2.2.2))) (fun r5 => bi (s.2.2.1 + 1) (fun i6 => some (.inl ((r5.1, r5.2.1, i6, r5.2.2))))))
set_option maxRecDepth 10000 in
theorem s_B_C_eaten_34 {Z : ZT} {l : Launch} {o : Oc} {wo : Wld} {Ok : Cfg → Prop} (hC : Clo Z l 9 6 prog_1_method_48_code (some .int) 7 137 o wo Ok) (a1 : Int32) (s : Int32 × Int32 × Int32 × Wld) : SimK Ok (V_C_eaten_34 a1 s) (B_C_eaten_34 a1 s) (GLp Ok (V_C_eaten_34 a1) (GEp Ok (E_C_eaten_34 a1))) := by
  unfold B_C_eaten_34
  show SimK Ok (34, [(0, vR 42), (1, vI a1), (2, vI s.1), (3, vI s.2.1), (4, vI s.2.2.1)], [], s.2.2.2) _ _
  refine sim_blk0 hC [(.iload 4, 0, 0, 0, 0), (.aload_n 0, 0, 0, 0, 0), (.getfield 38, 42, 5, 58, 0), (.getfield 128, 56, 1, 0, 0)] [(0, vR 42), (1, vI a1), (2, vI s.1), (3, vI s.2.1), (4, vI s.2.2.1)] [vI (s.2.2.2 56 1), vI s.2.2.1] s.2.2.2 43 (by decide +kernel) rfl rfl ?_
  refine sim_br hC (.if_icmp .ge 56) 99 (by decide +kernel) rfl (by decide) ?_ ?_
  · refine sim_sub hC [1, 2, 3] ?_
    exact sim_exit (E := (E_C_eaten_34 a1)) ((s.1, s.2.1, s.2.2.2))
  · refine sim_blk0 hC [(.iconst 0, 0, 0, 0, 0), (.istore 5, 0, 0, 0, 0)] [(0, vR 42), (1, vI a1), (2, vI s.1), (3, vI s.2.1), (4, vI s.2.2.1), (5, vI 0)] [] s.2.2.2 49 (by decide +kernel) rfl rfl ?_
    refine sim_bl (E := (E_C_eaten_49 a1 s.2.2.1)) ?_ (fun r5 => ?_)
    · exact sim_loop (V := (V_C_eaten_49 a1 s.2.2.1)) (fun sz => s_B_C_eaten_49 hC a1 s.2.2.1 sz) ((s.1, s.2.1, 0, s.2.2.2))
    · show SimK Ok (93, [(0, vR 42), (1, vI a1), (2, vI r5.1), (3, vI r5.2.1), (4, vI s.2.2.1)], [], r5.2.2) _ _
      refine sim_blk0 hC [(.iinc 4 1, 0, 0, 0, 1)] [(0, vR 42), (1, vI a1), (2, vI r5.1), (3, vI r5.2.1), (4, vI (s.2.2.1 + 1))] [] r5.2.2 96 (by decide +kernel) rfl rfl ?_
      refine sim_bi (C := fun i6 => (96, [(0, vR 42), (1, vI a1), (2, vI r5.1), (3, vI r5.2.1), (4, vI i6)], [], r5.2.2)) (fun i6 => ?_)
      refine sim_goto hC (-62) 34 (by decide +kernel) (by decide) ?_
      exact sim_back (V := (V_C_eaten_34 a1)) ((r5.1, r5.2.1, i6, r5.2.2))
noncomputable def K_C_eaten_108 (t0 : Int32) (w : Wld) : Option (Oc × Wld) :=
  some ((.inr (some t0), w))
set_option maxRecDepth 10000 in
theorem s_K_C_eaten_108 {Z : ZT} {l : Launch} {o : Oc} {wo : Wld} {Ok : Cfg → Prop} (hC : Clo Z l 9 6 prog_1_method_48_code (some .int) 7 137 o wo Ok) (t0 : Int32) (w : Wld) : SimK Ok (108, [], [vI t0], w) (K_C_eaten_108 t0 w) (Gt o wo) := by
  unfold K_C_eaten_108
  exact sim_rett hC (by decide +kernel) trivial
noncomputable def K_C_eaten_26 (t0 : Int32) (w : Wld) : Option (Oc × Wld) :=
  some ((.inr (some t0), w))
set_option maxRecDepth 10000 in
theorem s_K_C_eaten_26 {Z : ZT} {l : Launch} {o : Oc} {wo : Wld} {Ok : Cfg → Prop} (hC : Clo Z l 9 6 prog_1_method_48_code (some .int) 7 137 o wo Ok) (t0 : Int32) (w : Wld) : SimK Ok (26, [], [vI t0], w) (K_C_eaten_26 t0 w) (Gt o wo) := by
  unfold K_C_eaten_26
  exact sim_rett hC (by decide +kernel) trivial
noncomputable def F_C_eaten (w : Wld) (a1 : Int32) : Option (Oc × Wld) :=
  bn (F_C_needWhat w a1 2) w (br (¬ a1 = 2) (bl (loop (B_C_eaten_34 a1) ((0, (-1), 0, w))) (fun r7 => br (¬ a1 = 0) (K_C_eaten_108 r7.2.1 r7.2.2) (K_C_eaten_108 r7.1 r7.2.2))) (bv (F_C_beginTrial w) (fun w8 => bd (F_C_heardInTrial w8) (fun i9 w10 => br (i9 = 0) (K_C_eaten_26 0 w10) (K_C_eaten_26 1 w10)))))
set_option maxRecDepth 10000 in
theorem s_C_eaten {Z : ZT} {l : Launch} {o : Oc} {wo : Wld} {Ok : Cfg → Prop} (hC : Clo Z l 9 6 prog_1_method_48_code (some .int) 7 137 o wo Ok) (w : Wld) (a1 : Int32) : SimK Ok (0, [(0, vR 42), (1, vI a1)], [], w) (F_C_eaten w a1) (Gt o wo) := by
  unfold F_C_eaten
  refine sim_blk0 hC [(.iload_n 1, 0, 0, 0, 0), (.iconst 2, 0, 0, 0, 2)] [(0, vR 42), (1, vI a1)] [vI 2, vI a1] w 2 (by decide +kernel) rfl rfl ?_
  refine sim_sn hC 157 mX10_needWhat 6 89 [vI a1, vI 2] [] (by decide +kernel) ml_9_157 rfl rfl rfl rfl rfl (fun qz hz => c_C_needWhat w a1 2 qz hz) ?_
  refine sim_blk0 hC [(.iload_n 1, 0, 0, 0, 0), (.iconst 2, 0, 0, 0, 2)] [(0, vR 42), (1, vI a1)] [vI 2, vI a1] w 7 (by decide +kernel) rfl rfl ?_
  refine sim_br hC (.if_icmp .ne 20) 27 (by decide +kernel) rfl (by decide) ?_ ?_
  · refine sim_blk0 hC [(.iconst 0, 0, 0, 0, 0), (.istore_n 2, 0, 0, 0, 0), (.iconst (-1), 0, 0, 0, (-1)), (.istore_n 3, 0, 0, 0, 0), (.iconst 0, 0, 0, 0, 0), (.istore 4, 0, 0, 0, 0)] [(0, vR 42), (1, vI a1), (2, vI 0), (3, vI (-1)), (4, vI 0)] [] w 34 (by decide +kernel) rfl rfl ?_
    refine sim_bl (E := (E_C_eaten_34 a1)) ?_ (fun r7 => ?_)
    · exact sim_loop (V := (V_C_eaten_34 a1)) (fun sz => s_B_C_eaten_34 hC a1 sz) ((0, (-1), 0, w))
    · show SimK Ok (99, [(1, vI a1), (2, vI r7.1), (3, vI r7.2.1)], [], r7.2.2) _ _
      refine sim_blk0 hC [(.iload_n 1, 0, 0, 0, 0)] [(1, vI a1), (2, vI r7.1), (3, vI r7.2.1)] [vI a1] r7.2.2 100 (by decide +kernel) rfl rfl ?_
      refine sim_br hC (.ifCond .ne 7) 107 (by decide +kernel) rfl (by decide) ?_ ?_
      · refine sim_blk0 hC [(.iload_n 3, 0, 0, 0, 0)] [(1, vI a1), (2, vI r7.1), (3, vI r7.2.1)] [vI r7.2.1] r7.2.2 108 (by decide +kernel) rfl rfl ?_
        refine sim_sub hC [] ?_
        exact s_K_C_eaten_108 hC r7.2.1 r7.2.2
      · refine sim_blk0 hC [(.iload_n 2, 0, 0, 0, 0)] [(1, vI a1), (2, vI r7.1), (3, vI r7.2.1)] [vI r7.1] r7.2.2 104 (by decide +kernel) rfl rfl ?_
        refine sim_goto hC 4 108 (by decide +kernel) (by decide) ?_
        refine sim_sub hC [] ?_
        exact s_K_C_eaten_108 hC r7.1 r7.2.2
  · refine sim_blk0 hC [(.aload_n 0, 0, 0, 0, 0)] [(0, vR 42), (1, vI a1)] [vR 42] w 11 (by decide +kernel) rfl rfl ?_
    refine sim_vv hC 212 mX10_beginTrial 2 81 42 [] [] (by decide +kernel) ml_9_212 rfl rfl rfl rfl rfl rfl (fun wz hz => c_C_beginTrial w wz hz) (fun w8 => ?_)
    refine sim_blk0 hC [(.aload_n 0, 0, 0, 0, 0)] [(0, vR 42), (1, vI a1)] [vR 42] w8 15 (by decide +kernel) rfl rfl ?_
    refine sim_vd hC 273 mX10_heardInTrial 5 93 42 [] [] (by decide +kernel) ml_9_273 rfl rfl rfl rfl rfl rfl (fun rz wz hz => c_C_heardInTrial w8 rz wz hz) (fun i9 w10 => ?_)
    refine sim_br hC (.ifCond .eq 7) 25 (by decide +kernel) rfl (by decide) ?_ ?_
    · refine sim_blk0 hC [(.iconst 0, 0, 0, 0, 0)] [(0, vR 42), (1, vI a1)] [vI 0] w10 26 (by decide +kernel) rfl rfl ?_
      refine sim_sub hC [] ?_
      exact s_K_C_eaten_26 hC 0 w10
    · refine sim_blk0 hC [(.iconst 1, 0, 0, 0, 1)] [(0, vR 42), (1, vI a1)] [vI 1] w10 22 (by decide +kernel) rfl rfl ?_
      refine sim_goto hC 4 26 (by decide +kernel) (by decide) ?_
      refine sim_sub hC [] ?_
      exact s_K_C_eaten_26 hC 1 w10
theorem c_C_eaten {Z : ZT} {l : Launch} (w : Wld) (a1 : Int32) (q : Oc) (w1 : Wld) (h : F_C_eaten w a1 = some (q, w1)) : Con Z l mX10_eaten 7 137 [vR 42, vI a1] w q w1 :=
  Con_of (oc := 9) (by decide +kernel) rfl rfl (fun Ok hC => s_C_eaten hC w a1 (q, w1) h ⟨rfl, rfl⟩)
def V_C_noteSongs_20 (a3 : Int32) : (Int32 × Wld) → Cfg := fun s => (20, [(0, vR 42), (3, vI a3), (4, vI s.1)], [], s.2)
def E_C_noteSongs_20 (a3 : Int32) : (Wld) → Cfg := fun s => (72, [], [], s)
noncomputable def B_C_noteSongs_20 (a3 : Int32) (s : Int32 × Wld) : Option ((Int32 × Wld) ⊕ (Wld)) :=
  br ((20 : Int32) ≤ s.1) (some (.inr s.2)) (br ((1440 : Int32) ≤ (a3 + s.1)) (some (.inr s.2)) (bv (F_Night_pass_55_84 s.2) (fun w3 => bp (F_Night_matins_55 w3) (fun i4 => gd (vp_in (a3 + s.1) 1440) (bw (wup w3 89 (Int32.toNatClampNeg (a3 + s.1)) i4) (fun w5 => bi (s.1 + 1) (fun i6 => some (.inl ((i6, w5))))))))))
set_option maxRecDepth 10000 in
theorem s_B_C_noteSongs_20 {Z : ZT} {l : Launch} {o : Oc} {wo : Wld} {Ok : Cfg → Prop} (hC : Clo Z l 9 5 prog_1_method_52_code none 5 101 o wo Ok) (a3 : Int32) (s : Int32 × Wld) : SimK Ok (V_C_noteSongs_20 a3 s) (B_C_noteSongs_20 a3 s) (GLp Ok (V_C_noteSongs_20 a3) (GEp Ok (E_C_noteSongs_20 a3))) := by
  unfold B_C_noteSongs_20
  show SimK Ok (20, [(0, vR 42), (3, vI a3), (4, vI s.1)], [], s.2) _ _
  refine sim_blk0 hC [(.iload 4, 0, 0, 0, 0), (.bipush 20, 0, 0, 0, 20)] [(0, vR 42), (3, vI a3), (4, vI s.1)] [vI 20, vI s.1] s.2 24 (by decide +kernel) rfl rfl ?_
  refine sim_br hC (.if_icmp .ge 48) 72 (by decide +kernel) rfl (by decide) ?_ ?_
  · refine sim_sub hC [] ?_
    exact sim_exit (E := (E_C_noteSongs_20 a3)) s.2
  · refine sim_blk0 hC [(.iload_n 3, 0, 0, 0, 0), (.iload 4, 0, 0, 0, 0), (.iadd, 0, 0, 0, 0), (.aload_n 0, 0, 0, 0, 0), (.getfield 70, 42, 13, 91, 0), (.arraylength, 89, 1440, 0, 1440)] [(0, vR 42), (3, vI a3), (4, vI s.1)] [vI 1440, vI (a3 + s.1)] s.2 36 (by decide +kernel) rfl rfl ?_
    refine sim_br hC (.if_icmp .ge 36) 72 (by decide +kernel) rfl (by decide) ?_ ?_
    · refine sim_sub hC [] ?_
      exact sim_exit (E := (E_C_noteSongs_20 a3)) s.2
    · refine sim_blk0 hC [(.aload_n 0, 0, 0, 0, 0), (.getfield 30, 42, 4, 57, 0), (.aload_n 0, 0, 0, 0, 0), (.getfield 56, 42, 9, 86, 0)] [(0, vR 42), (3, vI a3), (4, vI s.1)] [vR 84, vR 55] s.2 47 (by decide +kernel) rfl rfl ?_
      refine sim_vv hC 185 mX4_pass 4 69 55 [vR 84] [] (by decide +kernel) ml_9_185 rfl rfl rfl rfl rfl rfl (fun wz hz => c_Night_pass_55_84 s.2 wz hz) (fun w3 => ?_)
      refine sim_blk0 hC [(.aload_n 0, 0, 0, 0, 0), (.getfield 70, 42, 13, 91, 0), (.iload_n 3, 0, 0, 0, 0), (.iload 4, 0, 0, 0, 0), (.iadd, 0, 0, 0, 0), (.aload_n 0, 0, 0, 0, 0), (.getfield 30, 42, 4, 57, 0)] [(0, vR 42), (3, vI a3), (4, vI s.1)] [vR 55, vI (a3 + s.1), vR 89] w3 62 (by decide +kernel) rfl rfl ?_
      refine sim_vp hC 206 mX4_matins 1 0 55 [] [vI (a3 + s.1), vR 89] (by decide +kernel) ml_9_206 rfl rfl rfl rfl rfl rfl (fun rz hz => c_Night_matins_55 w3 rz hz) (fun i4 => ?_)
      refine sim_blk1 hC [(.iastore, 89, 1440, 0, 0)] [(0, vR 42), (3, vI a3), (4, vI s.1)] [] (wup w3 89 (Int32.toNatClampNeg (a3 + s.1)) i4) 66 (by decide +kernel) rfl rfl ?_
      refine sim_bw (C := fun w5 => (66, [(0, vR 42), (3, vI a3), (4, vI s.1)], [], w5)) (fun w5 => ?_)
      refine sim_blk0 hC [(.iinc 4 1, 0, 0, 0, 1)] [(0, vR 42), (3, vI a3), (4, vI (s.1 + 1))] [] w5 69 (by decide +kernel) rfl rfl ?_
      refine sim_bi (C := fun i6 => (69, [(0, vR 42), (3, vI a3), (4, vI i6)], [], w5)) (fun i6 => ?_)
      refine sim_goto hC (-49) 20 (by decide +kernel) (by decide) ?_
      exact sim_back (V := (V_C_noteSongs_20 a3)) ((i6, w5))
noncomputable def F_C_noteSongs (w : Wld) (a1 : Int32) (a2 : Int32) (a3 : Int32) : Option (Wld) :=
  bv (F_C_beginTrial w) (fun w1 => gd (vp_in ((8 : Int32) + a1) 53) (bw (wup w1 85 (Int32.toNatClampNeg ((8 : Int32) + a1)) a2) (fun w2 => bl (loop (B_C_noteSongs_20 a3) ((0, w2))) (fun r7 => some r7))))
set_option maxRecDepth 10000 in
theorem s_C_noteSongs {Z : ZT} {l : Launch} {o : Oc} {wo : Wld} {Ok : Cfg → Prop} (hC : Clo Z l 9 5 prog_1_method_52_code none 5 101 o wo Ok) (w : Wld) (a1 : Int32) (a2 : Int32) (a3 : Int32) : SimK Ok (0, [(0, vR 42), (1, vI a1), (2, vI a2), (3, vI a3)], [], w) (F_C_noteSongs w a1 a2 a3) (Gv o wo) := by
  unfold F_C_noteSongs
  refine sim_blk0 hC [(.aload_n 0, 0, 0, 0, 0)] [(0, vR 42), (1, vI a1), (2, vI a2), (3, vI a3)] [vR 42] w 1 (by decide +kernel) rfl rfl ?_
  refine sim_vv hC 212 mX10_beginTrial 2 81 42 [] [] (by decide +kernel) ml_9_212 rfl rfl rfl rfl rfl rfl (fun wz hz => c_C_beginTrial w wz hz) (fun w1 => ?_)
  refine sim_blk1 hC [(.aload_n 0, 0, 0, 0, 0), (.getfield 56, 42, 9, 86, 0), (.getfield 137, 84, 0, 87, 0), (.bipush 8, 0, 0, 0, 8), (.iload_n 1, 0, 0, 0, 0), (.iadd, 0, 0, 0, 0), (.iload_n 2, 0, 0, 0, 0), (.iastore, 85, 53, 0, 0)] [(0, vR 42), (1, vI a1), (2, vI a2), (3, vI a3)] [] (wup w1 85 (Int32.toNatClampNeg ((8 : Int32) + a1)) a2) 17 (by decide +kernel) rfl rfl ?_
  refine sim_bw (C := fun w2 => (17, [(0, vR 42), (1, vI a1), (2, vI a2), (3, vI a3)], [], w2)) (fun w2 => ?_)
  refine sim_blk0 hC [(.iconst 0, 0, 0, 0, 0), (.istore 4, 0, 0, 0, 0)] [(0, vR 42), (1, vI a1), (2, vI a2), (3, vI a3), (4, vI 0)] [] w2 20 (by decide +kernel) rfl rfl ?_
  refine sim_bl (E := (E_C_noteSongs_20 a3)) ?_ (fun r7 => ?_)
  · refine sim_sub hC [0, 3, 4] ?_
    exact sim_loop (V := (V_C_noteSongs_20 a3)) (fun sz => s_B_C_noteSongs_20 hC a3 sz) ((0, w2))
  · show SimK Ok (72, [], [], r7) _ _
    exact sim_retv hC (by decide +kernel)
theorem c_C_noteSongs {Z : ZT} {l : Launch} (w : Wld) (a1 : Int32) (a2 : Int32) (a3 : Int32) (w1 : Wld) (h : F_C_noteSongs w a1 a2 a3 = some w1) : Con Z l mX10_noteSongs 5 101 [vR 42, vI a1, vI a2, vI a3] w (.inr none) w1 :=
  Con_of (oc := 9) (by decide +kernel) rfl rfl (fun Ok hC => s_C_noteSongs hC w a1 a2 a3 w1 h ⟨rfl, rfl⟩)
def V_C_unlikeSongs_5 (a1 : Int32) (a2 : Int32) (w : Wld) : (Int32 × Int32) → Cfg := fun s => (5, [(0, vR 42), (1, vI a1), (2, vI a2), (3, vI s.1), (4, vI s.2)], [], w)
def E_C_unlikeSongs_5 (a1 : Int32) (a2 : Int32) (w : Wld) : (Int32) → Cfg := fun s => (92, [(3, vI s)], [], w)
def V_C_unlikeSongs_17 (a1 : Int32) (a2 : Int32) (a3 : Int32) (a4 : Int32) (w : Wld) : (Int32 × Int32) → Cfg := fun s => (17, [(0, vR 42), (1, vI a1), (2, vI a2), (3, vI a3), (4, vI a4), (5, vI s.1), (6, vI s.2)], [], w)
def E_C_unlikeSongs_17 (a1 : Int32) (a2 : Int32) (a3 : Int32) (a4 : Int32) (w : Wld) : (Int32) → Cfg := fun s => (73, [(0, vR 42), (1, vI a1), (2, vI a2), (3, vI a3), (4, vI a4), (5, vI s)], [], w)
noncomputable def K_C_unlikeSongs_65 (a1 : Int32) (a2 : Int32) (a3 : Int32) (a4 : Int32) (a6 : Int32) (t0 : Int32) (w : Wld) : Option ((Int32 × Int32) ⊕ (Int32)) :=
  bi (a6 + 1) (fun i1 => some (.inl ((t0, i1))))
set_option maxRecDepth 10000 in
theorem s_K_C_unlikeSongs_65 {Z : ZT} {l : Launch} {o : Oc} {wo : Wld} {Ok : Cfg → Prop} (hC : Clo Z l 9 7 prog_1_method_53_code (some .int) 1 0 o wo Ok) (a1 : Int32) (a2 : Int32) (a3 : Int32) (a4 : Int32) (a6 : Int32) (t0 : Int32) (w : Wld) : SimK Ok (65, [(0, vR 42), (1, vI a1), (2, vI a2), (3, vI a3), (4, vI a4), (6, vI a6)], [vI t0], w) (K_C_unlikeSongs_65 a1 a2 a3 a4 a6 t0 w) (GLp Ok (V_C_unlikeSongs_17 a1 a2 a3 a4 w) (GEp Ok (E_C_unlikeSongs_17 a1 a2 a3 a4 w))) := by
  unfold K_C_unlikeSongs_65
  refine sim_blk0 hC [(.istore 5, 0, 0, 0, 0), (.iinc 6 1, 0, 0, 0, 1)] [(0, vR 42), (1, vI a1), (2, vI a2), (3, vI a3), (4, vI a4), (5, vI t0), (6, vI (a6 + 1))] [] w 70 (by decide +kernel) rfl rfl ?_
  refine sim_bi (C := fun i1 => (70, [(0, vR 42), (1, vI a1), (2, vI a2), (3, vI a3), (4, vI a4), (5, vI t0), (6, vI i1)], [], w)) (fun i1 => ?_)
  refine sim_goto hC (-53) 17 (by decide +kernel) (by decide) ?_
  exact sim_back (V := (V_C_unlikeSongs_17 a1 a2 a3 a4 w)) ((t0, i1))
noncomputable def B_C_unlikeSongs_17 (a1 : Int32) (a2 : Int32) (a3 : Int32) (a4 : Int32) (w : Wld) (s : Int32 × Int32) : Option ((Int32 × Int32) ⊕ (Int32)) :=
  br (a4 ≤ s.2) (some (.inr s.1)) (br (s.1 = 0) (some (.inr s.1)) (gd (vp_in (((s.2 * (20 : Int32)) + a1) - (1 : Int32)) 1440) (gd (vp_in (((a4 * (20 : Int32)) + a1) - (1 : Int32)) 1440) (br ((w 89 (Int32.toNatClampNeg (((s.2 * (20 : Int32)) + a1) - (1 : Int32)))) = (w 89 (Int32.toNatClampNeg (((a4 * (20 : Int32)) + a1) - (1 : Int32))))) (K_C_unlikeSongs_65 a1 a2 a3 a4 s.2 0 w) (K_C_unlikeSongs_65 a1 a2 a3 a4 s.2 1 w)))))
set_option maxRecDepth 10000 in
theorem s_B_C_unlikeSongs_17 {Z : ZT} {l : Launch} {o : Oc} {wo : Wld} {Ok : Cfg → Prop} (hC : Clo Z l 9 7 prog_1_method_53_code (some .int) 1 0 o wo Ok) (a1 : Int32) (a2 : Int32) (a3 : Int32) (a4 : Int32) (w : Wld) (s : Int32 × Int32) : SimK Ok (V_C_unlikeSongs_17 a1 a2 a3 a4 w s) (B_C_unlikeSongs_17 a1 a2 a3 a4 w s) (GLp Ok (V_C_unlikeSongs_17 a1 a2 a3 a4 w) (GEp Ok (E_C_unlikeSongs_17 a1 a2 a3 a4 w))) := by
  unfold B_C_unlikeSongs_17
  show SimK Ok (17, [(0, vR 42), (1, vI a1), (2, vI a2), (3, vI a3), (4, vI a4), (5, vI s.1), (6, vI s.2)], [], w) _ _
  refine sim_blk0 hC [(.iload 6, 0, 0, 0, 0), (.iload 4, 0, 0, 0, 0)] [(0, vR 42), (1, vI a1), (2, vI a2), (3, vI a3), (4, vI a4), (5, vI s.1), (6, vI s.2)] [vI a4, vI s.2] w 21 (by decide +kernel) rfl rfl ?_
  refine sim_br hC (.if_icmp .ge 52) 73 (by decide +kernel) rfl (by decide) ?_ ?_
  · refine sim_sub hC [0, 1, 2, 3, 4, 5] ?_
    exact sim_exit (E := (E_C_unlikeSongs_17 a1 a2 a3 a4 w)) s.1
  · refine sim_blk0 hC [(.iload 5, 0, 0, 0, 0)] [(0, vR 42), (1, vI a1), (2, vI a2), (3, vI a3), (4, vI a4), (5, vI s.1), (6, vI s.2)] [vI s.1] w 26 (by decide +kernel) rfl rfl ?_
    refine sim_br hC (.ifCond .eq 47) 73 (by decide +kernel) rfl (by decide) ?_ ?_
    · refine sim_sub hC [0, 1, 2, 3, 4, 5] ?_
      exact sim_exit (E := (E_C_unlikeSongs_17 a1 a2 a3 a4 w)) s.1
    · refine sim_blk2 hC [(.aload_n 0, 0, 0, 0, 0), (.getfield 70, 42, 13, 91, 0), (.iload 6, 0, 0, 0, 0), (.bipush 20, 0, 0, 0, 20), (.imul, 0, 0, 0, 0), (.iload_n 1, 0, 0, 0, 0), (.iadd, 0, 0, 0, 0), (.iconst 1, 0, 0, 0, 1), (.isub, 0, 0, 0, 0), (.iaload, 89, 1440, 0, 0), (.aload_n 0, 0, 0, 0, 0), (.getfield 70, 42, 13, 91, 0), (.iload 4, 0, 0, 0, 0), (.bipush 20, 0, 0, 0, 20), (.imul, 0, 0, 0, 0), (.iload_n 1, 0, 0, 0, 0), (.iadd, 0, 0, 0, 0), (.iconst 1, 0, 0, 0, 1), (.isub, 0, 0, 0, 0), (.iaload, 89, 1440, 0, 0)] [(0, vR 42), (1, vI a1), (2, vI a2), (3, vI a3), (4, vI a4), (5, vI s.1), (6, vI s.2)] [vI (w 89 (Int32.toNatClampNeg (((a4 * (20 : Int32)) + a1) - (1 : Int32)))), vI (w 89 (Int32.toNatClampNeg (((s.2 * (20 : Int32)) + a1) - (1 : Int32))))] w 57 (by decide +kernel) rfl rfl ?_
      refine sim_br hC (.if_icmp .eq 7) 64 (by decide +kernel) rfl (by decide) ?_ ?_
      · refine sim_blk0 hC [(.iconst 0, 0, 0, 0, 0)] [(0, vR 42), (1, vI a1), (2, vI a2), (3, vI a3), (4, vI a4), (5, vI s.1), (6, vI s.2)] [vI 0] w 65 (by decide +kernel) rfl rfl ?_
        refine sim_sub hC [0, 1, 2, 3, 4, 6] ?_
        exact s_K_C_unlikeSongs_65 hC a1 a2 a3 a4 s.2 0 w
      · refine sim_blk0 hC [(.iconst 1, 0, 0, 0, 1)] [(0, vR 42), (1, vI a1), (2, vI a2), (3, vI a3), (4, vI a4), (5, vI s.1), (6, vI s.2)] [vI 1] w 61 (by decide +kernel) rfl rfl ?_
        refine sim_goto hC 4 65 (by decide +kernel) (by decide) ?_
        refine sim_sub hC [0, 1, 2, 3, 4, 6] ?_
        exact s_K_C_unlikeSongs_65 hC a1 a2 a3 a4 s.2 1 w
noncomputable def K_C_unlikeSongs_84 (a1 : Int32) (a2 : Int32) (a4 : Int32) (t0 : Int32) (t1 : Int32) (w : Wld) : Option ((Int32 × Int32) ⊕ (Int32)) :=
  bi (t0 + t1) (fun i3 => bi (a4 + 1) (fun i4 => some (.inl ((i3, i4)))))
set_option maxRecDepth 10000 in
theorem s_K_C_unlikeSongs_84 {Z : ZT} {l : Launch} {o : Oc} {wo : Wld} {Ok : Cfg → Prop} (hC : Clo Z l 9 7 prog_1_method_53_code (some .int) 1 0 o wo Ok) (a1 : Int32) (a2 : Int32) (a4 : Int32) (t0 : Int32) (t1 : Int32) (w : Wld) : SimK Ok (84, [(0, vR 42), (1, vI a1), (2, vI a2), (4, vI a4)], [vI t1, vI t0], w) (K_C_unlikeSongs_84 a1 a2 a4 t0 t1 w) (GLp Ok (V_C_unlikeSongs_5 a1 a2 w) (GEp Ok (E_C_unlikeSongs_5 a1 a2 w))) := by
  unfold K_C_unlikeSongs_84
  refine sim_blk0 hC [(.iadd, 0, 0, 0, 0), (.istore_n 3, 0, 0, 0, 0)] [(0, vR 42), (1, vI a1), (2, vI a2), (3, vI (t0 + t1)), (4, vI a4)] [] w 86 (by decide +kernel) rfl rfl ?_
  refine sim_bi (C := fun i3 => (86, [(0, vR 42), (1, vI a1), (2, vI a2), (3, vI i3), (4, vI a4)], [], w)) (fun i3 => ?_)
  refine sim_blk0 hC [(.iinc 4 1, 0, 0, 0, 1)] [(0, vR 42), (1, vI a1), (2, vI a2), (3, vI i3), (4, vI (a4 + 1))] [] w 89 (by decide +kernel) rfl rfl ?_
  refine sim_bi (C := fun i4 => (89, [(0, vR 42), (1, vI a1), (2, vI a2), (3, vI i3), (4, vI i4)], [], w)) (fun i4 => ?_)
  refine sim_goto hC (-84) 5 (by decide +kernel) (by decide) ?_
  exact sim_back (V := (V_C_unlikeSongs_5 a1 a2 w)) ((i3, i4))
noncomputable def B_C_unlikeSongs_5 (a1 : Int32) (a2 : Int32) (w : Wld) (s : Int32 × Int32) : Option ((Int32 × Int32) ⊕ (Int32)) :=
  br (a2 ≤ s.2) (some (.inr s.1)) (bl (loop (B_C_unlikeSongs_17 a1 a2 s.1 s.2 w) ((1, 0))) (fun r2 => br (r2 = 0) (K_C_unlikeSongs_84 a1 a2 s.2 s.1 0 w) (K_C_unlikeSongs_84 a1 a2 s.2 s.1 1 w)))
set_option maxRecDepth 10000 in
theorem s_B_C_unlikeSongs_5 {Z : ZT} {l : Launch} {o : Oc} {wo : Wld} {Ok : Cfg → Prop} (hC : Clo Z l 9 7 prog_1_method_53_code (some .int) 1 0 o wo Ok) (a1 : Int32) (a2 : Int32) (w : Wld) (s : Int32 × Int32) : SimK Ok (V_C_unlikeSongs_5 a1 a2 w s) (B_C_unlikeSongs_5 a1 a2 w s) (GLp Ok (V_C_unlikeSongs_5 a1 a2 w) (GEp Ok (E_C_unlikeSongs_5 a1 a2 w))) := by
  unfold B_C_unlikeSongs_5
  show SimK Ok (5, [(0, vR 42), (1, vI a1), (2, vI a2), (3, vI s.1), (4, vI s.2)], [], w) _ _
  refine sim_blk0 hC [(.iload 4, 0, 0, 0, 0), (.iload_n 2, 0, 0, 0, 0)] [(0, vR 42), (1, vI a1), (2, vI a2), (3, vI s.1), (4, vI s.2)] [vI a2, vI s.2] w 8 (by decide +kernel) rfl rfl ?_
  refine sim_br hC (.if_icmp .ge 84) 92 (by decide +kernel) rfl (by decide) ?_ ?_
  · refine sim_sub hC [3] ?_
    exact sim_exit (E := (E_C_unlikeSongs_5 a1 a2 w)) s.1
  · refine sim_blk0 hC [(.iconst 1, 0, 0, 0, 1), (.istore 5, 0, 0, 0, 0), (.iconst 0, 0, 0, 0, 0), (.istore 6, 0, 0, 0, 0)] [(0, vR 42), (1, vI a1), (2, vI a2), (3, vI s.1), (4, vI s.2), (5, vI 1), (6, vI 0)] [] w 17 (by decide +kernel) rfl rfl ?_
    refine sim_bl (E := (E_C_unlikeSongs_17 a1 a2 s.1 s.2 w)) ?_ (fun r2 => ?_)
    · exact sim_loop (V := (V_C_unlikeSongs_17 a1 a2 s.1 s.2 w)) (fun sz => s_B_C_unlikeSongs_17 hC a1 a2 s.1 s.2 w sz) ((1, 0))
    · show SimK Ok (73, [(0, vR 42), (1, vI a1), (2, vI a2), (3, vI s.1), (4, vI s.2), (5, vI r2)], [], w) _ _
      refine sim_blk0 hC [(.iload_n 3, 0, 0, 0, 0), (.iload 5, 0, 0, 0, 0)] [(0, vR 42), (1, vI a1), (2, vI a2), (3, vI s.1), (4, vI s.2), (5, vI r2)] [vI r2, vI s.1] w 76 (by decide +kernel) rfl rfl ?_
      refine sim_br hC (.ifCond .eq 7) 83 (by decide +kernel) rfl (by decide) ?_ ?_
      · refine sim_blk0 hC [(.iconst 0, 0, 0, 0, 0)] [(0, vR 42), (1, vI a1), (2, vI a2), (3, vI s.1), (4, vI s.2), (5, vI r2)] [vI 0, vI s.1] w 84 (by decide +kernel) rfl rfl ?_
        refine sim_sub hC [0, 1, 2, 4] ?_
        exact s_K_C_unlikeSongs_84 hC a1 a2 s.2 s.1 0 w
      · refine sim_blk0 hC [(.iconst 1, 0, 0, 0, 1)] [(0, vR 42), (1, vI a1), (2, vI a2), (3, vI s.1), (4, vI s.2), (5, vI r2)] [vI 1, vI s.1] w 80 (by decide +kernel) rfl rfl ?_
        refine sim_goto hC 4 84 (by decide +kernel) (by decide) ?_
        refine sim_sub hC [0, 1, 2, 4] ?_
        exact s_K_C_unlikeSongs_84 hC a1 a2 s.2 s.1 1 w
noncomputable def F_C_unlikeSongs (w : Wld) (a1 : Int32) (a2 : Int32) : Option (Int32) :=
  bl (loop (B_C_unlikeSongs_5 a1 a2 w) ((0, 0))) (fun r5 => some r5)
set_option maxRecDepth 10000 in
theorem s_C_unlikeSongs {Z : ZT} {l : Launch} {o : Oc} {wo : Wld} {Ok : Cfg → Prop} (hC : Clo Z l 9 7 prog_1_method_53_code (some .int) 1 0 o wo Ok) (w : Wld) (a1 : Int32) (a2 : Int32) : SimK Ok (0, [(0, vR 42), (1, vI a1), (2, vI a2)], [], w) (F_C_unlikeSongs w a1 a2) (Gp o wo w) := by
  unfold F_C_unlikeSongs
  refine sim_blk0 hC [(.iconst 0, 0, 0, 0, 0), (.istore_n 3, 0, 0, 0, 0), (.iconst 0, 0, 0, 0, 0), (.istore 4, 0, 0, 0, 0)] [(0, vR 42), (1, vI a1), (2, vI a2), (3, vI 0), (4, vI 0)] [] w 5 (by decide +kernel) rfl rfl ?_
  refine sim_bl (E := (E_C_unlikeSongs_5 a1 a2 w)) ?_ (fun r5 => ?_)
  · exact sim_loop (V := (V_C_unlikeSongs_5 a1 a2 w)) (fun sz => s_B_C_unlikeSongs_5 hC a1 a2 w sz) ((0, 0))
  · show SimK Ok (92, [(3, vI r5)], [], w) _ _
    refine sim_blk0 hC [(.iload_n 3, 0, 0, 0, 0)] [(3, vI r5)] [vI r5] w 93 (by decide +kernel) rfl rfl ?_
    exact sim_retp hC (by decide +kernel) trivial
theorem c_C_unlikeSongs {Z : ZT} {l : Launch} (w : Wld) (a1 : Int32) (a2 : Int32) (r : Int32) (h : F_C_unlikeSongs w a1 a2 = some r) : Con Z l mX10_unlikeSongs 1 0 [vR 42, vI a1, vI a2] w (.inr (some r)) w :=
  Con_of (oc := 9) (by decide +kernel) rfl rfl (fun Ok hC => s_C_unlikeSongs hC w a1 a2 r h ⟨rfl, rfl⟩)
def V_C_listen_9 (a1 : Int32) : (Int32 × Int32 × Wld) → Cfg := fun s => (9, [(0, vR 42), (1, vI a1), (2, vI s.1), (3, vI s.2.1)], [], s.2.2)
def E_C_listen_9 (a1 : Int32) : (Int32 × Wld) → Cfg := fun s => (66, [(0, vR 42), (1, vI a1), (2, vI s.1)], [], s.2)
def V_C_listen_23 (a1 : Int32) (a3 : Int32) : (Int32 × Int32 × Wld) → Cfg := fun s => (23, [(0, vR 42), (1, vI a1), (2, vI s.1), (3, vI a3), (4, vI s.2.1)], [], s.2.2)
def E_C_listen_23 (a1 : Int32) (a3 : Int32) : (Int32 × Wld) → Cfg := fun s => (60, [(0, vR 42), (1, vI a1), (2, vI s.1), (3, vI a3)], [], s.2)
noncomputable def K_C_listen_54 (a1 : Int32) (a2 : Int32) (a3 : Int32) (a4 : Int32) (w : Wld) : Option ((Int32 × Int32 × Wld) ⊕ (Int32 × Wld)) :=
  bi (a4 + 1) (fun i3 => some (.inl ((a2, i3, w))))
set_option maxRecDepth 10000 in
theorem s_K_C_listen_54 {Z : ZT} {l : Launch} {o : Oc} {wo : Wld} {Ok : Cfg → Prop} (hC : Clo Z l 9 7 prog_1_method_51_code (some .int) 7 137 o wo Ok) (a1 : Int32) (a2 : Int32) (a3 : Int32) (a4 : Int32) (w : Wld) : SimK Ok (54, [(0, vR 42), (1, vI a1), (2, vI a2), (3, vI a3), (4, vI a4)], [], w) (K_C_listen_54 a1 a2 a3 a4 w) (GLp Ok (V_C_listen_23 a1 a3) (GEp Ok (E_C_listen_23 a1 a3))) := by
  unfold K_C_listen_54
  refine sim_blk0 hC [(.iinc 4 1, 0, 0, 0, 1)] [(0, vR 42), (1, vI a1), (2, vI a2), (3, vI a3), (4, vI (a4 + 1))] [] w 57 (by decide +kernel) rfl rfl ?_
  refine sim_bi (C := fun i3 => (57, [(0, vR 42), (1, vI a1), (2, vI a2), (3, vI a3), (4, vI i3)], [], w)) (fun i3 => ?_)
  refine sim_goto hC (-34) 23 (by decide +kernel) (by decide) ?_
  exact sim_back (V := (V_C_listen_23 a1 a3)) ((a2, i3, w))
noncomputable def B_C_listen_23 (a1 : Int32) (a3 : Int32) (s : Int32 × Int32 × Wld) : Option ((Int32 × Int32 × Wld) ⊕ (Int32 × Wld)) :=
  br ((9 : Int32) < s.2.1) (some (.inr ((s.1, s.2.2)))) (bd (F_C_couldHaveEaten s.2.2 a3 s.2.1) (fun i1 w2 => br (i1 = 0) (K_C_listen_54 a1 s.1 a3 s.2.1 w2) (bv (F_C_noteSongs w2 a3 s.2.1 (s.1 * (20 : Int32))) (fun w4 => bi (s.1 + 1) (fun i5 => K_C_listen_54 a1 i5 a3 s.2.1 w4)))))
set_option maxRecDepth 10000 in
theorem s_B_C_listen_23 {Z : ZT} {l : Launch} {o : Oc} {wo : Wld} {Ok : Cfg → Prop} (hC : Clo Z l 9 7 prog_1_method_51_code (some .int) 7 137 o wo Ok) (a1 : Int32) (a3 : Int32) (s : Int32 × Int32 × Wld) : SimK Ok (V_C_listen_23 a1 a3 s) (B_C_listen_23 a1 a3 s) (GLp Ok (V_C_listen_23 a1 a3) (GEp Ok (E_C_listen_23 a1 a3))) := by
  unfold B_C_listen_23
  show SimK Ok (23, [(0, vR 42), (1, vI a1), (2, vI s.1), (3, vI a3), (4, vI s.2.1)], [], s.2.2) _ _
  refine sim_blk0 hC [(.iload 4, 0, 0, 0, 0), (.bipush 9, 0, 0, 0, 9)] [(0, vR 42), (1, vI a1), (2, vI s.1), (3, vI a3), (4, vI s.2.1)] [vI 9, vI s.2.1] s.2.2 27 (by decide +kernel) rfl rfl ?_
  refine sim_br hC (.if_icmp .gt 33) 60 (by decide +kernel) rfl (by decide) ?_ ?_
  · refine sim_sub hC [0, 1, 2, 3] ?_
    exact sim_exit (E := (E_C_listen_23 a1 a3)) ((s.1, s.2.2))
  · refine sim_blk0 hC [(.aload_n 0, 0, 0, 0, 0), (.iload_n 3, 0, 0, 0, 0), (.iload 4, 0, 0, 0, 0)] [(0, vR 42), (1, vI a1), (2, vI s.1), (3, vI a3), (4, vI s.2.1)] [vI s.2.1, vI a3, vR 42] s.2.2 34 (by decide +kernel) rfl rfl ?_
    refine sim_vd hC 277 mX10_couldHaveEaten 6 115 42 [vI a3, vI s.2.1] [] (by decide +kernel) ml_9_277 rfl rfl rfl rfl rfl rfl (fun rz wz hz => c_C_couldHaveEaten s.2.2 a3 s.2.1 rz wz hz) (fun i1 w2 => ?_)
    refine sim_br hC (.ifCond .eq 17) 54 (by decide +kernel) rfl (by decide) ?_ ?_
    · exact s_K_C_listen_54 hC a1 s.1 a3 s.2.1 w2
    · refine sim_blk0 hC [(.aload_n 0, 0, 0, 0, 0), (.iload_n 3, 0, 0, 0, 0), (.iload 4, 0, 0, 0, 0), (.iload_n 2, 0, 0, 0, 0), (.bipush 20, 0, 0, 0, 20), (.imul, 0, 0, 0, 0)] [(0, vR 42), (1, vI a1), (2, vI s.1), (3, vI a3), (4, vI s.2.1)] [vI (s.1 * (20 : Int32)), vI s.2.1, vI a3, vR 42] w2 48 (by decide +kernel) rfl rfl ?_
      refine sim_vv hC 288 mX10_noteSongs 5 101 42 [vI a3, vI s.2.1, vI (s.1 * (20 : Int32))] [] (by decide +kernel) ml_9_288 rfl rfl rfl rfl rfl rfl (fun wz hz => c_C_noteSongs w2 a3 s.2.1 (s.1 * (20 : Int32)) wz hz) (fun w4 => ?_)
      refine sim_blk0 hC [(.iinc 2 1, 0, 0, 0, 1)] [(0, vR 42), (1, vI a1), (2, vI (s.1 + 1)), (3, vI a3), (4, vI s.2.1)] [] w4 54 (by decide +kernel) rfl rfl ?_
      refine sim_bi (C := fun i5 => (54, [(0, vR 42), (1, vI a1), (2, vI i5), (3, vI a3), (4, vI s.2.1)], [], w4)) (fun i5 => ?_)
      exact s_K_C_listen_54 hC a1 i5 a3 s.2.1 w4
noncomputable def B_C_listen_9 (a1 : Int32) (s : Int32 × Int32 × Wld) : Option ((Int32 × Int32 × Wld) ⊕ (Int32 × Wld)) :=
  br ((s.2.2 56 1) ≤ s.2.1) (some (.inr ((s.1, s.2.2)))) (bl (loop (B_C_listen_23 a1 s.2.1) ((s.1, 0, s.2.2))) (fun r6 => bi (s.2.1 + 1) (fun i7 => some (.inl ((r6.1, i7, r6.2))))))
set_option maxRecDepth 10000 in
theorem s_B_C_listen_9 {Z : ZT} {l : Launch} {o : Oc} {wo : Wld} {Ok : Cfg → Prop} (hC : Clo Z l 9 7 prog_1_method_51_code (some .int) 7 137 o wo Ok) (a1 : Int32) (s : Int32 × Int32 × Wld) : SimK Ok (V_C_listen_9 a1 s) (B_C_listen_9 a1 s) (GLp Ok (V_C_listen_9 a1) (GEp Ok (E_C_listen_9 a1))) := by
  unfold B_C_listen_9
  show SimK Ok (9, [(0, vR 42), (1, vI a1), (2, vI s.1), (3, vI s.2.1)], [], s.2.2) _ _
  refine sim_blk0 hC [(.iload_n 3, 0, 0, 0, 0), (.aload_n 0, 0, 0, 0, 0), (.getfield 38, 42, 5, 58, 0), (.getfield 128, 56, 1, 0, 0)] [(0, vR 42), (1, vI a1), (2, vI s.1), (3, vI s.2.1)] [vI (s.2.2 56 1), vI s.2.1] s.2.2 17 (by decide +kernel) rfl rfl ?_
  refine sim_br hC (.if_icmp .ge 49) 66 (by decide +kernel) rfl (by decide) ?_ ?_
  · refine sim_sub hC [0, 1, 2] ?_
    exact sim_exit (E := (E_C_listen_9 a1)) ((s.1, s.2.2))
  · refine sim_blk0 hC [(.iconst 0, 0, 0, 0, 0), (.istore 4, 0, 0, 0, 0)] [(0, vR 42), (1, vI a1), (2, vI s.1), (3, vI s.2.1), (4, vI 0)] [] s.2.2 23 (by decide +kernel) rfl rfl ?_
    refine sim_bl (E := (E_C_listen_23 a1 s.2.1)) ?_ (fun r6 => ?_)
    · exact sim_loop (V := (V_C_listen_23 a1 s.2.1)) (fun sz => s_B_C_listen_23 hC a1 s.2.1 sz) ((s.1, 0, s.2.2))
    · show SimK Ok (60, [(0, vR 42), (1, vI a1), (2, vI r6.1), (3, vI s.2.1)], [], r6.2) _ _
      refine sim_blk0 hC [(.iinc 3 1, 0, 0, 0, 1)] [(0, vR 42), (1, vI a1), (2, vI r6.1), (3, vI (s.2.1 + 1))] [] r6.2 63 (by decide +kernel) rfl rfl ?_
      refine sim_bi (C := fun i7 => (63, [(0, vR 42), (1, vI a1), (2, vI r6.1), (3, vI i7)], [], r6.2)) (fun i7 => ?_)
      refine sim_goto hC (-54) 9 (by decide +kernel) (by decide) ?_
      exact sim_back (V := (V_C_listen_9 a1)) ((r6.1, i7, r6.2))
def V_C_listen_74 (a1 : Int32) (a2 : Int32) (w : Wld) : (Int32 × Int32 × Int32) → Cfg := fun s => (74, [(0, vR 42), (1, vI a1), (2, vI a2), (3, vI s.1), (4, vI s.2.1), (5, vI s.2.2)], [], w)
def E_C_listen_74 (a1 : Int32) (a2 : Int32) (w : Wld) : (Int32 × Int32) → Cfg := fun s => (110, [(1, vI a1), (3, vI s.1), (4, vI s.2)], [], w)
noncomputable def K_C_listen_104 (a1 : Int32) (a2 : Int32) (a3 : Int32) (a4 : Int32) (a5 : Int32) (w : Wld) : Option ((Int32 × Int32 × Int32) ⊕ (Int32 × Int32)) :=
  bi (a5 + 1) (fun i10 => some (.inl ((a3, a4, i10))))
set_option maxRecDepth 10000 in
theorem s_K_C_listen_104 {Z : ZT} {l : Launch} {o : Oc} {wo : Wld} {Ok : Cfg → Prop} (hC : Clo Z l 9 7 prog_1_method_51_code (some .int) 7 137 o wo Ok) (a1 : Int32) (a2 : Int32) (a3 : Int32) (a4 : Int32) (a5 : Int32) (w : Wld) : SimK Ok (104, [(0, vR 42), (1, vI a1), (2, vI a2), (3, vI a3), (4, vI a4), (5, vI a5)], [], w) (K_C_listen_104 a1 a2 a3 a4 a5 w) (GLp Ok (V_C_listen_74 a1 a2 w) (GEp Ok (E_C_listen_74 a1 a2 w))) := by
  unfold K_C_listen_104
  refine sim_blk0 hC [(.iinc 5 1, 0, 0, 0, 1)] [(0, vR 42), (1, vI a1), (2, vI a2), (3, vI a3), (4, vI a4), (5, vI (a5 + 1))] [] w 107 (by decide +kernel) rfl rfl ?_
  refine sim_bi (C := fun i10 => (107, [(0, vR 42), (1, vI a1), (2, vI a2), (3, vI a3), (4, vI a4), (5, vI i10)], [], w)) (fun i10 => ?_)
  refine sim_goto hC (-33) 74 (by decide +kernel) (by decide) ?_
  exact sim_back (V := (V_C_listen_74 a1 a2 w)) ((a3, a4, i10))
noncomputable def B_C_listen_74 (a1 : Int32) (a2 : Int32) (w : Wld) (s : Int32 × Int32 × Int32) : Option ((Int32 × Int32 × Int32) ⊕ (Int32 × Int32)) :=
  br ((20 : Int32) < s.2.2) (some (.inr ((s.1, s.2.1)))) (bp (F_C_unlikeSongs w s.2.2 a2) (fun i9 => br (i9 ≤ s.2.1) (K_C_listen_104 a1 a2 s.1 s.2.1 s.2.2 w) (K_C_listen_104 a1 a2 s.2.2 i9 s.2.2 w)))
set_option maxRecDepth 10000 in
theorem s_B_C_listen_74 {Z : ZT} {l : Launch} {o : Oc} {wo : Wld} {Ok : Cfg → Prop} (hC : Clo Z l 9 7 prog_1_method_51_code (some .int) 7 137 o wo Ok) (a1 : Int32) (a2 : Int32) (w : Wld) (s : Int32 × Int32 × Int32) : SimK Ok (V_C_listen_74 a1 a2 w s) (B_C_listen_74 a1 a2 w s) (GLp Ok (V_C_listen_74 a1 a2 w) (GEp Ok (E_C_listen_74 a1 a2 w))) := by
  unfold B_C_listen_74
  show SimK Ok (74, [(0, vR 42), (1, vI a1), (2, vI a2), (3, vI s.1), (4, vI s.2.1), (5, vI s.2.2)], [], w) _ _
  refine sim_blk0 hC [(.iload 5, 0, 0, 0, 0), (.bipush 20, 0, 0, 0, 20)] [(0, vR 42), (1, vI a1), (2, vI a2), (3, vI s.1), (4, vI s.2.1), (5, vI s.2.2)] [vI 20, vI s.2.2] w 78 (by decide +kernel) rfl rfl ?_
  refine sim_br hC (.if_icmp .gt 32) 110 (by decide +kernel) rfl (by decide) ?_ ?_
  · refine sim_sub hC [1, 3, 4] ?_
    exact sim_exit (E := (E_C_listen_74 a1 a2 w)) ((s.1, s.2.1))
  · refine sim_blk0 hC [(.aload_n 0, 0, 0, 0, 0), (.iload 5, 0, 0, 0, 0), (.iload_n 2, 0, 0, 0, 0)] [(0, vR 42), (1, vI a1), (2, vI a2), (3, vI s.1), (4, vI s.2.1), (5, vI s.2.2)] [vI a2, vI s.2.2, vR 42] w 85 (by decide +kernel) rfl rfl ?_
    refine sim_vp hC 291 mX10_unlikeSongs 1 0 42 [vI s.2.2, vI a2] [] (by decide +kernel) ml_9_291 rfl rfl rfl rfl rfl rfl (fun rz hz => c_C_unlikeSongs w s.2.2 a2 rz hz) (fun i9 => ?_)
    refine sim_blk0 hC [(.istore 6, 0, 0, 0, 0), (.iload 6, 0, 0, 0, 0), (.iload 4, 0, 0, 0, 0)] [(0, vR 42), (1, vI a1), (2, vI a2), (3, vI s.1), (4, vI s.2.1), (5, vI s.2.2), (6, vI i9)] [vI s.2.1, vI i9] w 94 (by decide +kernel) rfl rfl ?_
    refine sim_br hC (.if_icmp .le 10) 104 (by decide +kernel) rfl (by decide) ?_ ?_
    · refine sim_sub hC [0, 1, 2, 3, 4, 5] ?_
      exact s_K_C_listen_104 hC a1 a2 s.1 s.2.1 s.2.2 w
    · refine sim_blk0 hC [(.iload 6, 0, 0, 0, 0), (.istore 4, 0, 0, 0, 0), (.iload 5, 0, 0, 0, 0), (.istore_n 3, 0, 0, 0, 0)] [(0, vR 42), (1, vI a1), (2, vI a2), (3, vI s.2.2), (4, vI i9), (5, vI s.2.2), (6, vI i9)] [] w 104 (by decide +kernel) rfl rfl ?_
      refine sim_sub hC [0, 1, 2, 3, 4, 5] ?_
      exact s_K_C_listen_104 hC a1 a2 s.2.2 i9 s.2.2 w
noncomputable def K_C_listen_120 (t0 : Int32) (w : Wld) : Option (Oc × Wld) :=
  some ((.inr (some t0), w))
set_option maxRecDepth 10000 in
theorem s_K_C_listen_120 {Z : ZT} {l : Launch} {o : Oc} {wo : Wld} {Ok : Cfg → Prop} (hC : Clo Z l 9 7 prog_1_method_51_code (some .int) 7 137 o wo Ok) (t0 : Int32) (w : Wld) : SimK Ok (120, [], [vI t0], w) (K_C_listen_120 t0 w) (Gt o wo) := by
  unfold K_C_listen_120
  exact sim_rett hC (by decide +kernel) trivial
noncomputable def F_C_listen (w : Wld) (a1 : Int32) : Option (Oc × Wld) :=
  bn (F_C_needWhat w a1 1) w (bl (loop (B_C_listen_9 a1) ((0, 0, w))) (fun r8 => bl (loop (B_C_listen_74 a1 r8.1 r8.2) (((-1), 0, 1))) (fun r11 => br (¬ a1 = 0) (K_C_listen_120 r11.2 r8.2) (K_C_listen_120 r11.1 r8.2))))
set_option maxRecDepth 10000 in
theorem s_C_listen {Z : ZT} {l : Launch} {o : Oc} {wo : Wld} {Ok : Cfg → Prop} (hC : Clo Z l 9 7 prog_1_method_51_code (some .int) 7 137 o wo Ok) (w : Wld) (a1 : Int32) : SimK Ok (0, [(0, vR 42), (1, vI a1)], [], w) (F_C_listen w a1) (Gt o wo) := by
  unfold F_C_listen
  refine sim_blk0 hC [(.iload_n 1, 0, 0, 0, 0), (.iconst 1, 0, 0, 0, 1)] [(0, vR 42), (1, vI a1)] [vI 1, vI a1] w 2 (by decide +kernel) rfl rfl ?_
  refine sim_sn hC 157 mX10_needWhat 6 89 [vI a1, vI 1] [] (by decide +kernel) ml_9_157 rfl rfl rfl rfl rfl (fun qz hz => c_C_needWhat w a1 1 qz hz) ?_
  refine sim_blk0 hC [(.iconst 0, 0, 0, 0, 0), (.istore_n 2, 0, 0, 0, 0), (.iconst 0, 0, 0, 0, 0), (.istore_n 3, 0, 0, 0, 0)] [(0, vR 42), (1, vI a1), (2, vI 0), (3, vI 0)] [] w 9 (by decide +kernel) rfl rfl ?_
  refine sim_bl (E := (E_C_listen_9 a1)) ?_ (fun r8 => ?_)
  · exact sim_loop (V := (V_C_listen_9 a1)) (fun sz => s_B_C_listen_9 hC a1 sz) ((0, 0, w))
  · show SimK Ok (66, [(0, vR 42), (1, vI a1), (2, vI r8.1)], [], r8.2) _ _
    refine sim_blk0 hC [(.iconst (-1), 0, 0, 0, (-1)), (.istore_n 3, 0, 0, 0, 0), (.iconst 0, 0, 0, 0, 0), (.istore 4, 0, 0, 0, 0), (.iconst 1, 0, 0, 0, 1), (.istore 5, 0, 0, 0, 0)] [(0, vR 42), (1, vI a1), (2, vI r8.1), (3, vI (-1)), (4, vI 0), (5, vI 1)] [] r8.2 74 (by decide +kernel) rfl rfl ?_
    refine sim_bl (E := (E_C_listen_74 a1 r8.1 r8.2)) ?_ (fun r11 => ?_)
    · exact sim_loop (V := (V_C_listen_74 a1 r8.1 r8.2)) (fun sz => s_B_C_listen_74 hC a1 r8.1 r8.2 sz) (((-1), 0, 1))
    · show SimK Ok (110, [(1, vI a1), (3, vI r11.1), (4, vI r11.2)], [], r8.2) _ _
      refine sim_blk0 hC [(.iload_n 1, 0, 0, 0, 0)] [(1, vI a1), (3, vI r11.1), (4, vI r11.2)] [vI a1] r8.2 111 (by decide +kernel) rfl rfl ?_
      refine sim_br hC (.ifCond .ne 7) 118 (by decide +kernel) rfl (by decide) ?_ ?_
      · refine sim_blk0 hC [(.iload 4, 0, 0, 0, 0)] [(1, vI a1), (3, vI r11.1), (4, vI r11.2)] [vI r11.2] r8.2 120 (by decide +kernel) rfl rfl ?_
        refine sim_sub hC [] ?_
        exact s_K_C_listen_120 hC r11.2 r8.2
      · refine sim_blk0 hC [(.iload_n 3, 0, 0, 0, 0)] [(1, vI a1), (3, vI r11.1), (4, vI r11.2)] [vI r11.1] r8.2 115 (by decide +kernel) rfl rfl ?_
        refine sim_goto hC 5 120 (by decide +kernel) (by decide) ?_
        refine sim_sub hC [] ?_
        exact s_K_C_listen_120 hC r11.1 r8.2
theorem c_C_listen {Z : ZT} {l : Launch} (w : Wld) (a1 : Int32) (q : Oc) (w1 : Wld) (h : F_C_listen w a1 = some (q, w1)) : Con Z l mX10_listen 7 137 [vR 42, vI a1] w q w1 :=
  Con_of (oc := 9) (by decide +kernel) rfl rfl (fun Ok hC => s_C_listen hC w a1 (q, w1) h ⟨rfl, rfl⟩)
noncomputable def F_State_addFish_84 (w : Wld) (a1 : Int32) (a2 : Int32) : Option (Wld) :=
  gd (vp_in ((8 : Int32) + a1) 53) (gd (vp_in ((8 : Int32) + a1) 53) (bw (wup w 85 (Int32.toNatClampNeg ((8 : Int32) + a1)) (imin 9 ((w 85 (Int32.toNatClampNeg ((8 : Int32) + a1))) + a2))) (fun w1 => some w1)))
set_option maxRecDepth 10000 in
theorem s_State_addFish_84 {Z : ZT} {l : Launch} {o : Oc} {wo : Wld} {Ok : Cfg → Prop} (hC : Clo Z l 7 3 prog_9_method_4_code none 1 21 o wo Ok) (w : Wld) (a1 : Int32) (a2 : Int32) : SimK Ok (0, [(0, vR 84), (1, vI a1), (2, vI a2)], [], w) (F_State_addFish_84 w a1 a2) (Gv o wo) := by
  unfold F_State_addFish_84
  refine sim_blk1 hC [(.aload_n 0, 0, 0, 0, 0), (.getfield 11, 84, 0, 87, 0), (.bipush 8, 0, 0, 0, 8), (.iload_n 1, 0, 0, 0, 0), (.iadd, 0, 0, 0, 0), (.bipush 9, 0, 0, 0, 9), (.aload_n 0, 0, 0, 0, 0), (.getfield 11, 84, 0, 87, 0), (.bipush 8, 0, 0, 0, 8), (.iload_n 1, 0, 0, 0, 0), (.iadd, 0, 0, 0, 0), (.iaload, 85, 53, 0, 0), (.iload_n 2, 0, 0, 0, 0), (.iadd, 0, 0, 0, 0)] [(0, vR 84), (1, vI a1), (2, vI a2)] [vI ((w 85 (Int32.toNatClampNeg ((8 : Int32) + a1))) + a2), vI 9, vI ((8 : Int32) + a1), vR 85] w 21 (by decide +kernel) rfl rfl ?_
  refine sim_min hC 27 (by decide +kernel) ml_7_27 rfl rfl rfl ?_
  refine sim_blk1 hC [(.iastore, 85, 53, 0, 0)] [(0, vR 84), (1, vI a1), (2, vI a2)] [] (wup w 85 (Int32.toNatClampNeg ((8 : Int32) + a1)) (imin 9 ((w 85 (Int32.toNatClampNeg ((8 : Int32) + a1))) + a2))) 25 (by decide +kernel) rfl rfl ?_
  refine sim_bw (C := fun w1 => (25, [(0, vR 84), (1, vI a1), (2, vI a2)], [], w1)) (fun w1 => ?_)
  exact sim_retv hC (by decide +kernel)
theorem c_State_addFish_84 {Z : ZT} {l : Launch} (w : Wld) (a1 : Int32) (a2 : Int32) (w1 : Wld) (h : F_State_addFish_84 w a1 a2 = some w1) : Con Z l mX7_addFish 1 21 [vR 84, vI a1, vI a2] w (.inr none) w1 :=
  Con_of (oc := 7) (by decide +kernel) rfl rfl (fun Ok hC => s_State_addFish_84 hC w a1 a2 w1 h ⟨rfl, rfl⟩)
noncomputable def F_C_choose (w : Wld) (a1 : Int32) (a2 : Int32) : Option (Int32 × Wld) :=
  br (¬ a2 = 0) (gd (vp_in ((0 : Int32) + a1) 53) (bw (wup w 85 (Int32.toNatClampNeg ((0 : Int32) + a1)) 99) (fun w1 => some ((0, w1))))) (bv (F_State_addFish_84 w a1 3) (fun w2 => some (((-1), w2))))
set_option maxRecDepth 10000 in
theorem s_C_choose {Z : ZT} {l : Launch} {o : Oc} {wo : Wld} {Ok : Cfg → Prop} (hC : Clo Z l 9 3 prog_1_method_57_code (some .int) 2 43 o wo Ok) (w : Wld) (a1 : Int32) (a2 : Int32) : SimK Ok (0, [(0, vR 42), (1, vI a1), (2, vI a2)], [], w) (F_C_choose w a1 a2) (Gi o wo) := by
  unfold F_C_choose
  refine sim_blk0 hC [(.iload_n 2, 0, 0, 0, 0)] [(0, vR 42), (1, vI a1), (2, vI a2)] [vI a2] w 1 (by decide +kernel) rfl rfl ?_
  refine sim_br hC (.ifCond .ne 14) 15 (by decide +kernel) rfl (by decide) ?_ ?_
  · refine sim_blk1 hC [(.aload_n 0, 0, 0, 0, 0), (.getfield 56, 42, 9, 86, 0), (.getfield 137, 84, 0, 87, 0), (.iconst 0, 0, 0, 0, 0), (.iload_n 1, 0, 0, 0, 0), (.iadd, 0, 0, 0, 0), (.bipush 99, 0, 0, 0, 99), (.iastore, 85, 53, 0, 0)] [(0, vR 42), (1, vI a1), (2, vI a2)] [] (wup w 85 (Int32.toNatClampNeg ((0 : Int32) + a1)) 99) 28 (by decide +kernel) rfl rfl ?_
    refine sim_bw (C := fun w1 => (28, [(0, vR 42), (1, vI a1), (2, vI a2)], [], w1)) (fun w1 => ?_)
    refine sim_blk0 hC [(.iconst 0, 0, 0, 0, 0)] [(0, vR 42), (1, vI a1), (2, vI a2)] [vI 0] w1 29 (by decide +kernel) rfl rfl ?_
    exact sim_reti hC (by decide +kernel) trivial
  · refine sim_blk0 hC [(.aload_n 0, 0, 0, 0, 0), (.getfield 56, 42, 9, 86, 0), (.iload_n 1, 0, 0, 0, 0), (.iconst 3, 0, 0, 0, 3)] [(0, vR 42), (1, vI a1), (2, vI a2)] [vI 3, vI a1, vR 84] w 10 (by decide +kernel) rfl rfl ?_
    refine sim_vv hC 188 mX7_addFish 1 21 84 [vI a1, vI 3] [] (by decide +kernel) ml_9_188 rfl rfl rfl rfl rfl rfl (fun wz hz => c_State_addFish_84 w a1 3 wz hz) (fun w2 => ?_)
    refine sim_blk0 hC [(.iconst (-1), 0, 0, 0, (-1))] [(0, vR 42), (1, vI a1), (2, vI a2)] [vI (-1)] w2 14 (by decide +kernel) rfl rfl ?_
    exact sim_reti hC (by decide +kernel) trivial
theorem c_C_choose {Z : ZT} {l : Launch} (w : Wld) (a1 : Int32) (a2 : Int32) (r : Int32) (w1 : Wld) (h : F_C_choose w a1 a2 = some (r, w1)) : Con Z l mX10_choose 2 43 [vR 42, vI a1, vI a2] w (.inr (some r)) w1 :=
  Con_of (oc := 9) (by decide +kernel) rfl rfl (fun Ok hC => s_C_choose hC w a1 a2 (r, w1) h ⟨rfl, rfl⟩)
noncomputable def K_Night_sangTogether_55_38 (t0 : Int32) (w : Wld) : Option (Int32) :=
  gd (t0 = 0 ∨ t0 = 1) (some t0)
set_option maxRecDepth 10000 in
theorem s_K_Night_sangTogether_55_38 {Z : ZT} {l : Launch} {o : Oc} {wo : Wld} {Ok : Cfg → Prop} (hC : Clo Z l 4 4 prog_6_method_10_code (some .boolean) 1 0 o wo Ok) (t0 : Int32) (w : Wld) : SimK Ok (38, [], [vI t0], w) (K_Night_sangTogether_55_38 t0 w) (Gp o wo w) := by
  unfold K_Night_sangTogether_55_38
  exact sim_retpz hC (by decide +kernel) rfl
noncomputable def K_Night_sangTogether_55_37 (w : Wld) : Option (Int32) :=
  K_Night_sangTogether_55_38 0 w
set_option maxRecDepth 10000 in
theorem s_K_Night_sangTogether_55_37 {Z : ZT} {l : Launch} {o : Oc} {wo : Wld} {Ok : Cfg → Prop} (hC : Clo Z l 4 4 prog_6_method_10_code (some .boolean) 1 0 o wo Ok) (w : Wld) : SimK Ok (37, [], [], w) (K_Night_sangTogether_55_37 w) (Gp o wo w) := by
  unfold K_Night_sangTogether_55_37
  refine sim_blk0 hC [(.iconst 0, 0, 0, 0, 0)] [] [vI 0] w 38 (by decide +kernel) rfl rfl ?_
  exact s_K_Night_sangTogether_55_38 hC 0 w
noncomputable def F_Night_sangTogether_55 (w : Wld) (a1 : Int32) (a2 : Int32) : Option (Int32) :=
  bi (((1 : Int32) <<< (a1 &&& 31)) ||| ((1 : Int32) <<< (a2 &&& 31))) (fun i1 => br (¬ ((w 55 3) &&& i1) = i1) (K_Night_sangTogether_55_37 w) (gd (vp_in a1 8) (gd (vp_in a2 8) (br (¬ (w 63 (Int32.toNatClampNeg a1)) = (w 63 (Int32.toNatClampNeg a2))) (K_Night_sangTogether_55_37 w) (K_Night_sangTogether_55_38 1 w)))))
set_option maxRecDepth 10000 in
theorem s_Night_sangTogether_55 {Z : ZT} {l : Launch} {o : Oc} {wo : Wld} {Ok : Cfg → Prop} (hC : Clo Z l 4 4 prog_6_method_10_code (some .boolean) 1 0 o wo Ok) (w : Wld) (a1 : Int32) (a2 : Int32) : SimK Ok (0, [(0, vR 55), (1, vI a1), (2, vI a2)], [], w) (F_Night_sangTogether_55 w a1 a2) (Gp o wo w) := by
  unfold F_Night_sangTogether_55
  refine sim_blk0 hC [(.iconst 1, 0, 0, 0, 1), (.iload_n 1, 0, 0, 0, 0), (.ishl, 0, 0, 0, 0), (.iconst 1, 0, 0, 0, 1), (.iload_n 2, 0, 0, 0, 0), (.ishl, 0, 0, 0, 0), (.ior, 0, 0, 0, 0), (.istore_n 3, 0, 0, 0, 0)] [(0, vR 55), (1, vI a1), (2, vI a2), (3, vI (((1 : Int32) <<< (a1 &&& 31)) ||| ((1 : Int32) <<< (a2 &&& 31))))] [] w 8 (by decide +kernel) rfl rfl ?_
  refine sim_bi (C := fun i1 => (8, [(0, vR 55), (1, vI a1), (2, vI a2), (3, vI i1)], [], w)) (fun i1 => ?_)
  refine sim_blk0 hC [(.aload_n 0, 0, 0, 0, 0), (.getfield 27, 55, 3, 0, 0), (.iload_n 3, 0, 0, 0, 0), (.iand, 0, 0, 0, 0), (.iload_n 3, 0, 0, 0, 0)] [(0, vR 55), (1, vI a1), (2, vI a2), (3, vI i1)] [vI i1, vI ((w 55 3) &&& i1)] w 15 (by decide +kernel) rfl rfl ?_
  refine sim_br hC (.if_icmp .ne 22) 37 (by decide +kernel) rfl (by decide) ?_ ?_
  · refine sim_sub hC [] ?_
    exact s_K_Night_sangTogether_55_37 hC w
  · refine sim_blk2 hC [(.aload_n 0, 0, 0, 0, 0), (.getfield 24, 55, 2, 65, 0), (.iload_n 1, 0, 0, 0, 0), (.iaload, 63, 8, 0, 0), (.aload_n 0, 0, 0, 0, 0), (.getfield 24, 55, 2, 65, 0), (.iload_n 2, 0, 0, 0, 0), (.iaload, 63, 8, 0, 0)] [(0, vR 55), (1, vI a1), (2, vI a2), (3, vI i1)] [vI (w 63 (Int32.toNatClampNeg a2)), vI (w 63 (Int32.toNatClampNeg a1))] w 30 (by decide +kernel) rfl rfl ?_
    refine sim_br hC (.if_icmp .ne 7) 37 (by decide +kernel) rfl (by decide) ?_ ?_
    · refine sim_sub hC [] ?_
      exact s_K_Night_sangTogether_55_37 hC w
    · refine sim_blk0 hC [(.iconst 1, 0, 0, 0, 1)] [(0, vR 55), (1, vI a1), (2, vI a2), (3, vI i1)] [vI 1] w 34 (by decide +kernel) rfl rfl ?_
      refine sim_goto hC 4 38 (by decide +kernel) (by decide) ?_
      refine sim_sub hC [] ?_
      exact s_K_Night_sangTogether_55_38 hC 1 w
theorem c_Night_sangTogether_55 {Z : ZT} {l : Launch} (w : Wld) (a1 : Int32) (a2 : Int32) (r : Int32) (h : F_Night_sangTogether_55 w a1 a2 = some r) : Con Z l mX4_sangTogether 1 0 [vR 55, vI a1, vI a2] w (.inr (some r)) w :=
  Con_of (oc := 4) (by decide +kernel) rfl rfl (fun Ok hC => s_Night_sangTogether_55 hC w a1 a2 r h ⟨rfl, rfl⟩)
def V_C_play_27 (a1 : Int32) (a2 : Int32) (a3 : Int32) : (Int32 × Int32 × Int32 × Wld) → Cfg := fun s => (27, [(0, vR 42), (1, vI a1), (2, vI a2), (3, vI a3), (4, vI s.1), (5, vI s.2.1), (6, vI s.2.2.1)], [], s.2.2.2)
def E_C_play_27 (a1 : Int32) (a2 : Int32) (a3 : Int32) : (Int32 × Int32 × Wld) → Cfg := fun s => (116, [(0, vR 42), (3, vI a3), (4, vI s.1), (5, vI s.2.1)], [], s.2.2)
noncomputable def K_C_play_106 (a1 : Int32) (a2 : Int32) (a3 : Int32) (a4 : Int32) (a6 : Int32) (t0 : Int32) (t1 : Int32) (t2 : Int32) (w : Wld) : Option ((Int32 × Int32 × Int32 × Wld) ⊕ (Int32 × Int32 × Wld)) :=
  bi (t0 + (t1 + t2)) (fun i9 => bi (a6 + 1) (fun i10 => some (.inl ((a4, i9, i10, w)))))
set_option maxRecDepth 10000 in
theorem s_K_C_play_106 {Z : ZT} {l : Launch} {o : Oc} {wo : Wld} {Ok : Cfg → Prop} (hC : Clo Z l 9 8 prog_1_method_56_code none 5 101 o wo Ok) (a1 : Int32) (a2 : Int32) (a3 : Int32) (a4 : Int32) (a6 : Int32) (t0 : Int32) (t1 : Int32) (t2 : Int32) (w : Wld) : SimK Ok (106, [(0, vR 42), (1, vI a1), (2, vI a2), (3, vI a3), (4, vI a4), (6, vI a6)], [vI t2, vI t1, vI t0], w) (K_C_play_106 a1 a2 a3 a4 a6 t0 t1 t2 w) (GLp Ok (V_C_play_27 a1 a2 a3) (GEp Ok (E_C_play_27 a1 a2 a3))) := by
  unfold K_C_play_106
  refine sim_blk0 hC [(.iadd, 0, 0, 0, 0), (.iadd, 0, 0, 0, 0), (.istore 5, 0, 0, 0, 0)] [(0, vR 42), (1, vI a1), (2, vI a2), (3, vI a3), (4, vI a4), (5, vI (t0 + (t1 + t2))), (6, vI a6)] [] w 110 (by decide +kernel) rfl rfl ?_
  refine sim_bi (C := fun i9 => (110, [(0, vR 42), (1, vI a1), (2, vI a2), (3, vI a3), (4, vI a4), (5, vI i9), (6, vI a6)], [], w)) (fun i9 => ?_)
  refine sim_blk0 hC [(.iinc 6 1, 0, 0, 0, 1)] [(0, vR 42), (1, vI a1), (2, vI a2), (3, vI a3), (4, vI a4), (5, vI i9), (6, vI (a6 + 1))] [] w 113 (by decide +kernel) rfl rfl ?_
  refine sim_bi (C := fun i10 => (113, [(0, vR 42), (1, vI a1), (2, vI a2), (3, vI a3), (4, vI a4), (5, vI i9), (6, vI i10)], [], w)) (fun i10 => ?_)
  refine sim_goto hC (-86) 27 (by decide +kernel) (by decide) ?_
  exact sim_back (V := (V_C_play_27 a1 a2 a3)) ((a4, i9, i10, w))
noncomputable def K_C_play_79 (a1 : Int32) (a2 : Int32) (a3 : Int32) (a5 : Int32) (a6 : Int32) (a7 : Int32) (t0 : Int32) (t1 : Int32) (t2 : Int32) (w : Wld) : Option ((Int32 × Int32 × Int32 × Wld) ⊕ (Int32 × Int32 × Wld)) :=
  bi (t0 + (t1 + t2)) (fun i8 => br (a7 = 0) (K_C_play_106 a1 a2 a3 i8 a6 a5 (((w 55 3) >>> (a2 &&& 31)) &&& (1 : Int32)) 0 w) (K_C_play_106 a1 a2 a3 i8 a6 a5 (((w 55 3) >>> (a2 &&& 31)) &&& (1 : Int32)) 3 w))
set_option maxRecDepth 10000 in
theorem s_K_C_play_79 {Z : ZT} {l : Launch} {o : Oc} {wo : Wld} {Ok : Cfg → Prop} (hC : Clo Z l 9 8 prog_1_method_56_code none 5 101 o wo Ok) (a1 : Int32) (a2 : Int32) (a3 : Int32) (a5 : Int32) (a6 : Int32) (a7 : Int32) (t0 : Int32) (t1 : Int32) (t2 : Int32) (w : Wld) : SimK Ok (79, [(0, vR 42), (1, vI a1), (2, vI a2), (3, vI a3), (5, vI a5), (6, vI a6), (7, vI a7)], [vI t2, vI t1, vI t0], w) (K_C_play_79 a1 a2 a3 a5 a6 a7 t0 t1 t2 w) (GLp Ok (V_C_play_27 a1 a2 a3) (GEp Ok (E_C_play_27 a1 a2 a3))) := by
  unfold K_C_play_79
  refine sim_blk0 hC [(.iadd, 0, 0, 0, 0), (.iadd, 0, 0, 0, 0), (.istore 4, 0, 0, 0, 0)] [(0, vR 42), (1, vI a1), (2, vI a2), (3, vI a3), (4, vI (t0 + (t1 + t2))), (5, vI a5), (6, vI a6), (7, vI a7)] [] w 83 (by decide +kernel) rfl rfl ?_
  refine sim_bi (C := fun i8 => (83, [(0, vR 42), (1, vI a1), (2, vI a2), (3, vI a3), (4, vI i8), (5, vI a5), (6, vI a6), (7, vI a7)], [], w)) (fun i8 => ?_)
  refine sim_blk0 hC [(.iload 5, 0, 0, 0, 0), (.aload_n 0, 0, 0, 0, 0), (.getfield 30, 42, 4, 57, 0), (.getfield 203, 55, 3, 0, 0), (.iload_n 2, 0, 0, 0, 0), (.ishr, 0, 0, 0, 0), (.iconst 1, 0, 0, 0, 1), (.iand, 0, 0, 0, 0), (.iload 7, 0, 0, 0, 0)] [(0, vR 42), (1, vI a1), (2, vI a2), (3, vI a3), (4, vI i8), (5, vI a5), (6, vI a6), (7, vI a7)] [vI a7, vI (((w 55 3) >>> (a2 &&& 31)) &&& (1 : Int32)), vI a5] w 98 (by decide +kernel) rfl rfl ?_
  refine sim_br hC (.ifCond .eq 7) 105 (by decide +kernel) rfl (by decide) ?_ ?_
  · refine sim_blk0 hC [(.iconst 0, 0, 0, 0, 0)] [(0, vR 42), (1, vI a1), (2, vI a2), (3, vI a3), (4, vI i8), (5, vI a5), (6, vI a6), (7, vI a7)] [vI 0, vI (((w 55 3) >>> (a2 &&& 31)) &&& (1 : Int32)), vI a5] w 106 (by decide +kernel) rfl rfl ?_
    refine sim_sub hC [0, 1, 2, 3, 4, 6] ?_
    exact s_K_C_play_106 hC a1 a2 a3 i8 a6 a5 (((w 55 3) >>> (a2 &&& 31)) &&& (1 : Int32)) 0 w
  · refine sim_blk0 hC [(.iconst 3, 0, 0, 0, 3)] [(0, vR 42), (1, vI a1), (2, vI a2), (3, vI a3), (4, vI i8), (5, vI a5), (6, vI a6), (7, vI a7)] [vI 3, vI (((w 55 3) >>> (a2 &&& 31)) &&& (1 : Int32)), vI a5] w 102 (by decide +kernel) rfl rfl ?_
    refine sim_goto hC 4 106 (by decide +kernel) (by decide) ?_
    refine sim_sub hC [0, 1, 2, 3, 4, 6] ?_
    exact s_K_C_play_106 hC a1 a2 a3 i8 a6 a5 (((w 55 3) >>> (a2 &&& 31)) &&& (1 : Int32)) 3 w
noncomputable def B_C_play_27 (a1 : Int32) (a2 : Int32) (a3 : Int32) (s : Int32 × Int32 × Int32 × Wld) : Option ((Int32 × Int32 × Int32 × Wld) ⊕ (Int32 × Int32 × Wld)) :=
  br ((10 : Int32) ≤ s.2.2.1) (some (.inr ((s.1, s.2.1, s.2.2.2)))) (bv (F_Night_pass_55_84 s.2.2.2) (fun w6 => bp (F_Night_sangTogether_55 w6 a1 a2) (fun i7 => br (i7 = 0) (K_C_play_79 a1 a2 a3 s.2.1 s.2.2.1 i7 s.1 (((w6 55 3) >>> (a1 &&& 31)) &&& (1 : Int32)) 0 w6) (K_C_play_79 a1 a2 a3 s.2.1 s.2.2.1 i7 s.1 (((w6 55 3) >>> (a1 &&& 31)) &&& (1 : Int32)) 3 w6))))
set_option maxRecDepth 10000 in
theorem s_B_C_play_27 {Z : ZT} {l : Launch} {o : Oc} {wo : Wld} {Ok : Cfg → Prop} (hC : Clo Z l 9 8 prog_1_method_56_code none 5 101 o wo Ok) (a1 : Int32) (a2 : Int32) (a3 : Int32) (s : Int32 × Int32 × Int32 × Wld) : SimK Ok (V_C_play_27 a1 a2 a3 s) (B_C_play_27 a1 a2 a3 s) (GLp Ok (V_C_play_27 a1 a2 a3) (GEp Ok (E_C_play_27 a1 a2 a3))) := by
  unfold B_C_play_27
  show SimK Ok (27, [(0, vR 42), (1, vI a1), (2, vI a2), (3, vI a3), (4, vI s.1), (5, vI s.2.1), (6, vI s.2.2.1)], [], s.2.2.2) _ _
  refine sim_blk0 hC [(.iload 6, 0, 0, 0, 0), (.bipush 10, 0, 0, 0, 10)] [(0, vR 42), (1, vI a1), (2, vI a2), (3, vI a3), (4, vI s.1), (5, vI s.2.1), (6, vI s.2.2.1)] [vI 10, vI s.2.2.1] s.2.2.2 31 (by decide +kernel) rfl rfl ?_
  refine sim_br hC (.if_icmp .ge 85) 116 (by decide +kernel) rfl (by decide) ?_ ?_
  · refine sim_sub hC [0, 3, 4, 5] ?_
    exact sim_exit (E := (E_C_play_27 a1 a2 a3)) ((s.1, s.2.1, s.2.2.2))
  · refine sim_blk0 hC [(.aload_n 0, 0, 0, 0, 0), (.getfield 30, 42, 4, 57, 0), (.aload_n 0, 0, 0, 0, 0), (.getfield 56, 42, 9, 86, 0)] [(0, vR 42), (1, vI a1), (2, vI a2), (3, vI a3), (4, vI s.1), (5, vI s.2.1), (6, vI s.2.2.1)] [vR 84, vR 55] s.2.2.2 42 (by decide +kernel) rfl rfl ?_
    refine sim_vv hC 185 mX4_pass 4 69 55 [vR 84] [] (by decide +kernel) ml_9_185 rfl rfl rfl rfl rfl rfl (fun wz hz => c_Night_pass_55_84 s.2.2.2 wz hz) (fun w6 => ?_)
    refine sim_blk0 hC [(.aload_n 0, 0, 0, 0, 0), (.getfield 30, 42, 4, 57, 0), (.iload_n 1, 0, 0, 0, 0), (.iload_n 2, 0, 0, 0, 0)] [(0, vR 42), (1, vI a1), (2, vI a2), (3, vI a3), (4, vI s.1), (5, vI s.2.1), (6, vI s.2.2.1)] [vI a2, vI a1, vR 55] w6 51 (by decide +kernel) rfl rfl ?_
    refine sim_vp hC 307 mX4_sangTogether 1 0 55 [vI a1, vI a2] [] (by decide +kernel) ml_9_307 rfl rfl rfl rfl rfl rfl (fun rz hz => c_Night_sangTogether_55 w6 a1 a2 rz hz) (fun i7 => ?_)
    refine sim_blk0 hC [(.istore 7, 0, 0, 0, 0), (.iload 4, 0, 0, 0, 0), (.aload_n 0, 0, 0, 0, 0), (.getfield 30, 42, 4, 57, 0), (.getfield 203, 55, 3, 0, 0), (.iload_n 1, 0, 0, 0, 0), (.ishr, 0, 0, 0, 0), (.iconst 1, 0, 0, 0, 1), (.iand, 0, 0, 0, 0), (.iload 7, 0, 0, 0, 0)] [(0, vR 42), (1, vI a1), (2, vI a2), (3, vI a3), (4, vI s.1), (5, vI s.2.1), (6, vI s.2.2.1), (7, vI i7)] [vI i7, vI (((w6 55 3) >>> (a1 &&& 31)) &&& (1 : Int32)), vI s.1] w6 71 (by decide +kernel) rfl rfl ?_
    refine sim_br hC (.ifCond .eq 7) 78 (by decide +kernel) rfl (by decide) ?_ ?_
    · refine sim_blk0 hC [(.iconst 0, 0, 0, 0, 0)] [(0, vR 42), (1, vI a1), (2, vI a2), (3, vI a3), (4, vI s.1), (5, vI s.2.1), (6, vI s.2.2.1), (7, vI i7)] [vI 0, vI (((w6 55 3) >>> (a1 &&& 31)) &&& (1 : Int32)), vI s.1] w6 79 (by decide +kernel) rfl rfl ?_
      refine sim_sub hC [0, 1, 2, 3, 5, 6, 7] ?_
      exact s_K_C_play_79 hC a1 a2 a3 s.2.1 s.2.2.1 i7 s.1 (((w6 55 3) >>> (a1 &&& 31)) &&& (1 : Int32)) 0 w6
    · refine sim_blk0 hC [(.iconst 3, 0, 0, 0, 3)] [(0, vR 42), (1, vI a1), (2, vI a2), (3, vI a3), (4, vI s.1), (5, vI s.2.1), (6, vI s.2.2.1), (7, vI i7)] [vI 3, vI (((w6 55 3) >>> (a1 &&& 31)) &&& (1 : Int32)), vI s.1] w6 75 (by decide +kernel) rfl rfl ?_
      refine sim_goto hC 4 79 (by decide +kernel) (by decide) ?_
      refine sim_sub hC [0, 1, 2, 3, 5, 6, 7] ?_
      exact s_K_C_play_79 hC a1 a2 a3 s.2.1 s.2.2.1 i7 s.1 (((w6 55 3) >>> (a1 &&& 31)) &&& (1 : Int32)) 3 w6
noncomputable def F_C_play (w : Wld) (a1 : Int32) (a2 : Int32) (a3 : Int32) : Option (Wld) :=
  bv (F_C_beginTrial w) (fun w1 => bd (F_C_choose w1 a1 (a3 >>> ((1 : Int32) &&& 31))) (fun i2 w3 => bd (F_C_choose w3 a2 (a3 &&& (1 : Int32))) (fun i4 w5 => bl (loop (B_C_play_27 a1 a2 a3) ((i2, i4, 0, w5))) (fun r11 => gd (vp_in ((2 : Int32) * a3) 8) (bw (wup r11.2.2 88 (Int32.toNatClampNeg ((2 : Int32) * a3)) r11.1) (fun w12 => gd (vp_in (((2 : Int32) * a3) + (1 : Int32)) 8) (bw (wup w12 88 (Int32.toNatClampNeg (((2 : Int32) * a3) + (1 : Int32))) r11.2.1) (fun w13 => some w13))))))))
set_option maxRecDepth 10000 in
theorem s_C_play {Z : ZT} {l : Launch} {o : Oc} {wo : Wld} {Ok : Cfg → Prop} (hC : Clo Z l 9 8 prog_1_method_56_code none 5 101 o wo Ok) (w : Wld) (a1 : Int32) (a2 : Int32) (a3 : Int32) : SimK Ok (0, [(0, vR 42), (1, vI a1), (2, vI a2), (3, vI a3)], [], w) (F_C_play w a1 a2 a3) (Gv o wo) := by
  unfold F_C_play
  refine sim_blk0 hC [(.aload_n 0, 0, 0, 0, 0)] [(0, vR 42), (1, vI a1), (2, vI a2), (3, vI a3)] [vR 42] w 1 (by decide +kernel) rfl rfl ?_
  refine sim_vv hC 212 mX10_beginTrial 2 81 42 [] [] (by decide +kernel) ml_9_212 rfl rfl rfl rfl rfl rfl (fun wz hz => c_C_beginTrial w wz hz) (fun w1 => ?_)
  refine sim_blk0 hC [(.aload_n 0, 0, 0, 0, 0), (.iload_n 1, 0, 0, 0, 0), (.iload_n 3, 0, 0, 0, 0), (.iconst 1, 0, 0, 0, 1), (.ishr, 0, 0, 0, 0)] [(0, vR 42), (1, vI a1), (2, vI a2), (3, vI a3)] [vI (a3 >>> ((1 : Int32) &&& 31)), vI a1, vR 42] w1 9 (by decide +kernel) rfl rfl ?_
  refine sim_vd hC 304 mX10_choose 2 43 42 [vI a1, vI (a3 >>> ((1 : Int32) &&& 31))] [] (by decide +kernel) ml_9_304 rfl rfl rfl rfl rfl rfl (fun rz wz hz => c_C_choose w1 a1 (a3 >>> ((1 : Int32) &&& 31)) rz wz hz) (fun i2 w3 => ?_)
  refine sim_blk0 hC [(.istore 4, 0, 0, 0, 0), (.aload_n 0, 0, 0, 0, 0), (.iload_n 2, 0, 0, 0, 0), (.iload_n 3, 0, 0, 0, 0), (.iconst 1, 0, 0, 0, 1), (.iand, 0, 0, 0, 0)] [(0, vR 42), (1, vI a1), (2, vI a2), (3, vI a3), (4, vI i2)] [vI (a3 &&& (1 : Int32)), vI a2, vR 42] w3 19 (by decide +kernel) rfl rfl ?_
  refine sim_vd hC 304 mX10_choose 2 43 42 [vI a2, vI (a3 &&& (1 : Int32))] [] (by decide +kernel) ml_9_304 rfl rfl rfl rfl rfl rfl (fun rz wz hz => c_C_choose w3 a2 (a3 &&& (1 : Int32)) rz wz hz) (fun i4 w5 => ?_)
  refine sim_blk0 hC [(.istore 5, 0, 0, 0, 0), (.iconst 0, 0, 0, 0, 0), (.istore 6, 0, 0, 0, 0)] [(0, vR 42), (1, vI a1), (2, vI a2), (3, vI a3), (4, vI i2), (5, vI i4), (6, vI 0)] [] w5 27 (by decide +kernel) rfl rfl ?_
  refine sim_bl (E := (E_C_play_27 a1 a2 a3)) ?_ (fun r11 => ?_)
  · exact sim_loop (V := (V_C_play_27 a1 a2 a3)) (fun sz => s_B_C_play_27 hC a1 a2 a3 sz) ((i2, i4, 0, w5))
  · show SimK Ok (116, [(0, vR 42), (3, vI a3), (4, vI r11.1), (5, vI r11.2.1)], [], r11.2.2) _ _
    refine sim_blk1 hC [(.aload_n 0, 0, 0, 0, 0), (.getfield 67, 42, 12, 90, 0), (.iconst 2, 0, 0, 0, 2), (.iload_n 3, 0, 0, 0, 0), (.imul, 0, 0, 0, 0), (.iload 4, 0, 0, 0, 0), (.iastore, 88, 8, 0, 0)] [(0, vR 42), (3, vI a3), (4, vI r11.1), (5, vI r11.2.1)] [] (wup r11.2.2 88 (Int32.toNatClampNeg ((2 : Int32) * a3)) r11.1) 126 (by decide +kernel) rfl rfl ?_
    refine sim_bw (C := fun w12 => (126, [(0, vR 42), (3, vI a3), (4, vI r11.1), (5, vI r11.2.1)], [], w12)) (fun w12 => ?_)
    refine sim_blk1 hC [(.aload_n 0, 0, 0, 0, 0), (.getfield 67, 42, 12, 90, 0), (.iconst 2, 0, 0, 0, 2), (.iload_n 3, 0, 0, 0, 0), (.imul, 0, 0, 0, 0), (.iconst 1, 0, 0, 0, 1), (.iadd, 0, 0, 0, 0), (.iload 5, 0, 0, 0, 0), (.iastore, 88, 8, 0, 0)] [(0, vR 42), (3, vI a3), (4, vI r11.1), (5, vI r11.2.1)] [] (wup w12 88 (Int32.toNatClampNeg (((2 : Int32) * a3) + (1 : Int32))) r11.2.1) 138 (by decide +kernel) rfl rfl ?_
    refine sim_bw (C := fun w13 => (138, [(0, vR 42), (3, vI a3), (4, vI r11.1), (5, vI r11.2.1)], [], w13)) (fun w13 => ?_)
    exact sim_retv hC (by decide +kernel)
theorem c_C_play {Z : ZT} {l : Launch} (w : Wld) (a1 : Int32) (a2 : Int32) (a3 : Int32) (w1 : Wld) (h : F_C_play w a1 a2 a3 = some w1) : Con Z l mX10_play 5 101 [vR 42, vI a1, vI a2, vI a3] w (.inr none) w1 :=
  Con_of (oc := 9) (by decide +kernel) rfl rfl (fun Ok hC => s_C_play hC w a1 a2 a3 w1 h ⟨rfl, rfl⟩)
