noncomputable def K_C_atRest_51 (t0 : Int32) (w : Wld) : Option (Int32) :=
  gd (t0 = 0 ∨ t0 = 1) (some t0)
set_option maxRecDepth 10000 in
theorem s_K_C_atRest_51 {Z : ZT} {l : Launch} {o : Oc} {wo : Wld} {Ok : Cfg → Prop} (hC : Clo Z l 9 2 prog_1_method_58_code (some .boolean) 1 0 o wo Ok) (t0 : Int32) (w : Wld) : SimK Ok (51, [], [vI t0], w) (K_C_atRest_51 t0 w) (Gp o wo w) := by
  unfold K_C_atRest_51
  exact sim_retpz hC (by decide +kernel) rfl
noncomputable def K_C_atRest_50 (w : Wld) : Option (Int32) :=
  K_C_atRest_51 0 w
set_option maxRecDepth 10000 in
theorem s_K_C_atRest_50 {Z : ZT} {l : Launch} {o : Oc} {wo : Wld} {Ok : Cfg → Prop} (hC : Clo Z l 9 2 prog_1_method_58_code (some .boolean) 1 0 o wo Ok) (w : Wld) : SimK Ok (50, [], [], w) (K_C_atRest_50 w) (Gp o wo w) := by
  unfold K_C_atRest_50
  refine sim_blk0 hC [(.iconst 0, 0, 0, 0, 0)] [] [vI 0] w 51 (by decide +kernel) rfl rfl ?_
  exact s_K_C_atRest_51 hC 0 w
noncomputable def F_C_atRest (w : Wld) (a1 : Int32) : Option (Int32) :=
  gd (vp_in ((2 : Int32) * a1) 8) (gd (vp_in ((2 : Int32) * (a1 ^^^ (2 : Int32))) 8) (br ((w 88 (Int32.toNatClampNeg ((2 : Int32) * a1))) < (w 88 (Int32.toNatClampNeg ((2 : Int32) * (a1 ^^^ (2 : Int32)))))) (K_C_atRest_50 w) (gd (vp_in (((2 : Int32) * a1) + (1 : Int32)) 8) (gd (vp_in (((2 : Int32) * (a1 ^^^ (1 : Int32))) + (1 : Int32)) 8) (br ((w 88 (Int32.toNatClampNeg (((2 : Int32) * a1) + (1 : Int32)))) < (w 88 (Int32.toNatClampNeg (((2 : Int32) * (a1 ^^^ (1 : Int32))) + (1 : Int32))))) (K_C_atRest_50 w) (K_C_atRest_51 1 w))))))
set_option maxRecDepth 10000 in
theorem s_C_atRest {Z : ZT} {l : Launch} {o : Oc} {wo : Wld} {Ok : Cfg → Prop} (hC : Clo Z l 9 2 prog_1_method_58_code (some .boolean) 1 0 o wo Ok) (w : Wld) (a1 : Int32) : SimK Ok (0, [(0, vR 42), (1, vI a1)], [], w) (F_C_atRest w a1) (Gp o wo w) := by
  unfold F_C_atRest
  refine sim_blk2 hC [(.aload_n 0, 0, 0, 0, 0), (.getfield 67, 42, 12, 90, 0), (.iconst 2, 0, 0, 0, 2), (.iload_n 1, 0, 0, 0, 0), (.imul, 0, 0, 0, 0), (.iaload, 88, 8, 0, 0), (.aload_n 0, 0, 0, 0, 0), (.getfield 67, 42, 12, 90, 0), (.iconst 2, 0, 0, 0, 2), (.iload_n 1, 0, 0, 0, 0), (.iconst 2, 0, 0, 0, 2), (.ixor, 0, 0, 0, 0), (.imul, 0, 0, 0, 0), (.iaload, 88, 8, 0, 0)] [(0, vR 42), (1, vI a1)] [vI (w 88 (Int32.toNatClampNeg ((2 : Int32) * (a1 ^^^ (2 : Int32))))), vI (w 88 (Int32.toNatClampNeg ((2 : Int32) * a1)))] w 18 (by decide +kernel) rfl rfl ?_
  refine sim_br hC (.if_icmp .lt 32) 50 (by decide +kernel) rfl (by decide) ?_ ?_
  · refine sim_sub hC [] ?_
    exact s_K_C_atRest_50 hC w
  · refine sim_blk2 hC [(.aload_n 0, 0, 0, 0, 0), (.getfield 67, 42, 12, 90, 0), (.iconst 2, 0, 0, 0, 2), (.iload_n 1, 0, 0, 0, 0), (.imul, 0, 0, 0, 0), (.iconst 1, 0, 0, 0, 1), (.iadd, 0, 0, 0, 0), (.iaload, 88, 8, 0, 0), (.aload_n 0, 0, 0, 0, 0), (.getfield 67, 42, 12, 90, 0), (.iconst 2, 0, 0, 0, 2), (.iload_n 1, 0, 0, 0, 0), (.iconst 1, 0, 0, 0, 1), (.ixor, 0, 0, 0, 0), (.imul, 0, 0, 0, 0), (.iconst 1, 0, 0, 0, 1), (.iadd, 0, 0, 0, 0), (.iaload, 88, 8, 0, 0)] [(0, vR 42), (1, vI a1)] [vI (w 88 (Int32.toNatClampNeg (((2 : Int32) * (a1 ^^^ (1 : Int32))) + (1 : Int32)))), vI (w 88 (Int32.toNatClampNeg (((2 : Int32) * a1) + (1 : Int32))))] w 43 (by decide +kernel) rfl rfl ?_
    refine sim_br hC (.if_icmp .lt 7) 50 (by decide +kernel) rfl (by decide) ?_ ?_
    · refine sim_sub hC [] ?_
      exact s_K_C_atRest_50 hC w
    · refine sim_blk0 hC [(.iconst 1, 0, 0, 0, 1)] [(0, vR 42), (1, vI a1)] [vI 1] w 47 (by decide +kernel) rfl rfl ?_
      refine sim_goto hC 4 51 (by decide +kernel) (by decide) ?_
      refine sim_sub hC [] ?_
      exact s_K_C_atRest_51 hC 1 w
theorem c_C_atRest {Z : ZT} {l : Launch} (w : Wld) (a1 : Int32) (r : Int32) (h : F_C_atRest w a1 = some r) : Con Z l mX10_atRest 1 0 [vR 42, vI a1] w (.inr (some r)) w :=
  Con_of (oc := 9) (by decide +kernel) rfl rfl (fun Ok hC => s_C_atRest hC w a1 r h ⟨rfl, rfl⟩)
def V_C_game_31 (a1 : Int32) (a2 : Int32) (a3 : Int32) : (Int32 × Wld) → Cfg := fun s => (31, [(0, vR 42), (1, vI a1), (2, vI a2), (3, vI a3), (4, vI s.1)], [], s.2)
def E_C_game_31 (a1 : Int32) (a2 : Int32) (a3 : Int32) : (Wld) → Cfg := fun s => (51, [(0, vR 42), (3, vI a3)], [], s)
noncomputable def B_C_game_31 (a1 : Int32) (a2 : Int32) (a3 : Int32) (s : Int32 × Wld) : Option ((Int32 × Wld) ⊕ (Wld)) :=
  br ((4 : Int32) ≤ s.1) (some (.inr s.2)) (bv (F_C_play s.2 a1 a2 s.1) (fun w1 => bi (s.1 + 1) (fun i2 => some (.inl ((i2, w1))))))
set_option maxRecDepth 10000 in
theorem s_B_C_game_31 {Z : ZT} {l : Launch} {o : Oc} {wo : Wld} {Ok : Cfg → Prop} (hC : Clo Z l 9 7 prog_1_method_55_code (some .int) 7 128 o wo Ok) (a1 : Int32) (a2 : Int32) (a3 : Int32) (s : Int32 × Wld) : SimK Ok (V_C_game_31 a1 a2 a3 s) (B_C_game_31 a1 a2 a3 s) (GLp Ok (V_C_game_31 a1 a2 a3) (GEp Ok (E_C_game_31 a1 a2 a3))) := by
  unfold B_C_game_31
  show SimK Ok (31, [(0, vR 42), (1, vI a1), (2, vI a2), (3, vI a3), (4, vI s.1)], [], s.2) _ _
  refine sim_blk0 hC [(.iload 4, 0, 0, 0, 0), (.iconst 4, 0, 0, 0, 4)] [(0, vR 42), (1, vI a1), (2, vI a2), (3, vI a3), (4, vI s.1)] [vI 4, vI s.1] s.2 34 (by decide +kernel) rfl rfl ?_
  refine sim_br hC (.if_icmp .ge 17) 51 (by decide +kernel) rfl (by decide) ?_ ?_
  · refine sim_sub hC [0, 3] ?_
    exact sim_exit (E := (E_C_game_31 a1 a2 a3)) s.2
  · refine sim_blk0 hC [(.aload_n 0, 0, 0, 0, 0), (.iload_n 1, 0, 0, 0, 0), (.iload_n 2, 0, 0, 0, 0), (.iload 4, 0, 0, 0, 0)] [(0, vR 42), (1, vI a1), (2, vI a2), (3, vI a3), (4, vI s.1)] [vI s.1, vI a2, vI a1, vR 42] s.2 42 (by decide +kernel) rfl rfl ?_
    refine sim_vv hC 297 mX10_play 5 101 42 [vI a1, vI a2, vI s.1] [] (by decide +kernel) ml_9_297 rfl rfl rfl rfl rfl rfl (fun wz hz => c_C_play s.2 a1 a2 s.1 wz hz) (fun w1 => ?_)
    refine sim_blk0 hC [(.iinc 4 1, 0, 0, 0, 1)] [(0, vR 42), (1, vI a1), (2, vI a2), (3, vI a3), (4, vI (s.1 + 1))] [] w1 48 (by decide +kernel) rfl rfl ?_
    refine sim_bi (C := fun i2 => (48, [(0, vR 42), (1, vI a1), (2, vI a2), (3, vI a3), (4, vI i2)], [], w1)) (fun i2 => ?_)
    refine sim_goto hC (-17) 31 (by decide +kernel) (by decide) ?_
    exact sim_back (V := (V_C_game_31 a1 a2 a3)) ((i2, w1))
def V_C_game_60 (a3 : Int32) (w : Wld) : (Int32 × Int32 × Int32) → Cfg := fun s => (60, [(0, vR 42), (3, vI a3), (4, vI s.1), (5, vI s.2.1), (6, vI s.2.2)], [], w)
def E_C_game_60 (a3 : Int32) (w : Wld) : (Int32 × Int32) → Cfg := fun s => (108, [(3, vI a3), (4, vI s.1), (5, vI s.2)], [], w)
noncomputable def K_C_game_102 (a3 : Int32) (a4 : Int32) (a5 : Int32) (a6 : Int32) (w : Wld) : Option ((Int32 × Int32 × Int32) ⊕ (Int32 × Int32)) :=
  bi (a6 + 1) (fun i5 => some (.inl ((a4, a5, i5))))
set_option maxRecDepth 10000 in
theorem s_K_C_game_102 {Z : ZT} {l : Launch} {o : Oc} {wo : Wld} {Ok : Cfg → Prop} (hC : Clo Z l 9 7 prog_1_method_55_code (some .int) 7 128 o wo Ok) (a3 : Int32) (a4 : Int32) (a5 : Int32) (a6 : Int32) (w : Wld) : SimK Ok (102, [(0, vR 42), (3, vI a3), (4, vI a4), (5, vI a5), (6, vI a6)], [], w) (K_C_game_102 a3 a4 a5 a6 w) (GLp Ok (V_C_game_60 a3 w) (GEp Ok (E_C_game_60 a3 w))) := by
  unfold K_C_game_102
  refine sim_blk0 hC [(.iinc 6 1, 0, 0, 0, 1)] [(0, vR 42), (3, vI a3), (4, vI a4), (5, vI a5), (6, vI (a6 + 1))] [] w 105 (by decide +kernel) rfl rfl ?_
  refine sim_bi (C := fun i5 => (105, [(0, vR 42), (3, vI a3), (4, vI a4), (5, vI a5), (6, vI i5)], [], w)) (fun i5 => ?_)
  refine sim_goto hC (-45) 60 (by decide +kernel) (by decide) ?_
  exact sim_back (V := (V_C_game_60 a3 w)) ((a4, a5, i5))
noncomputable def K_C_game_97 (a3 : Int32) (a4 : Int32) (a6 : Int32) (t0 : Int32) (w : Wld) : Option ((Int32 × Int32 × Int32) ⊕ (Int32 × Int32)) :=
  bi (a4 + 1) (fun i6 => K_C_game_102 a3 i6 t0 a6 w)
set_option maxRecDepth 10000 in
theorem s_K_C_game_97 {Z : ZT} {l : Launch} {o : Oc} {wo : Wld} {Ok : Cfg → Prop} (hC : Clo Z l 9 7 prog_1_method_55_code (some .int) 7 128 o wo Ok) (a3 : Int32) (a4 : Int32) (a6 : Int32) (t0 : Int32) (w : Wld) : SimK Ok (97, [(0, vR 42), (3, vI a3), (4, vI a4), (6, vI a6)], [vI t0], w) (K_C_game_97 a3 a4 a6 t0 w) (GLp Ok (V_C_game_60 a3 w) (GEp Ok (E_C_game_60 a3 w))) := by
  unfold K_C_game_97
  refine sim_blk0 hC [(.istore 5, 0, 0, 0, 0), (.iinc 4 1, 0, 0, 0, 1)] [(0, vR 42), (3, vI a3), (4, vI (a4 + 1)), (5, vI t0), (6, vI a6)] [] w 102 (by decide +kernel) rfl rfl ?_
  refine sim_bi (C := fun i6 => (102, [(0, vR 42), (3, vI a3), (4, vI i6), (5, vI t0), (6, vI a6)], [], w)) (fun i6 => ?_)
  exact s_K_C_game_102 hC a3 i6 t0 a6 w
noncomputable def B_C_game_60 (a3 : Int32) (w : Wld) (s : Int32 × Int32 × Int32) : Option ((Int32 × Int32 × Int32) ⊕ (Int32 × Int32)) :=
  br ((4 : Int32) ≤ s.2.2) (some (.inr ((s.1, s.2.1)))) (bp (F_C_atRest w s.2.2) (fun i4 => br (i4 = 0) (K_C_game_102 a3 s.1 s.2.1 s.2.2 w) (br (¬ s.1 = 0) (K_C_game_97 a3 s.1 s.2.2 s.2.1 w) (K_C_game_97 a3 s.1 s.2.2 (((10 : Int32) * (s.2.2 >>> ((1 : Int32) &&& 31))) + (s.2.2 &&& (1 : Int32))) w))))
set_option maxRecDepth 10000 in
theorem s_B_C_game_60 {Z : ZT} {l : Launch} {o : Oc} {wo : Wld} {Ok : Cfg → Prop} (hC : Clo Z l 9 7 prog_1_method_55_code (some .int) 7 128 o wo Ok) (a3 : Int32) (w : Wld) (s : Int32 × Int32 × Int32) : SimK Ok (V_C_game_60 a3 w s) (B_C_game_60 a3 w s) (GLp Ok (V_C_game_60 a3 w) (GEp Ok (E_C_game_60 a3 w))) := by
  unfold B_C_game_60
  show SimK Ok (60, [(0, vR 42), (3, vI a3), (4, vI s.1), (5, vI s.2.1), (6, vI s.2.2)], [], w) _ _
  refine sim_blk0 hC [(.iload 6, 0, 0, 0, 0), (.iconst 4, 0, 0, 0, 4)] [(0, vR 42), (3, vI a3), (4, vI s.1), (5, vI s.2.1), (6, vI s.2.2)] [vI 4, vI s.2.2] w 63 (by decide +kernel) rfl rfl ?_
  refine sim_br hC (.if_icmp .ge 45) 108 (by decide +kernel) rfl (by decide) ?_ ?_
  · refine sim_sub hC [1, 2, 3] ?_
    exact sim_exit (E := (E_C_game_60 a3 w)) ((s.1, s.2.1))
  · refine sim_blk0 hC [(.aload_n 0, 0, 0, 0, 0), (.iload 6, 0, 0, 0, 0)] [(0, vR 42), (3, vI a3), (4, vI s.1), (5, vI s.2.1), (6, vI s.2.2)] [vI s.2.2, vR 42] w 69 (by decide +kernel) rfl rfl ?_
    refine sim_vp hC 300 mX10_atRest 1 0 42 [vI s.2.2] [] (by decide +kernel) ml_9_300 rfl rfl rfl rfl rfl rfl (fun rz hz => c_C_atRest w s.2.2 rz hz) (fun i4 => ?_)
    refine sim_br hC (.ifCond .eq 30) 102 (by decide +kernel) rfl (by decide) ?_ ?_
    · exact s_K_C_game_102 hC a3 s.1 s.2.1 s.2.2 w
    · refine sim_blk0 hC [(.iload 4, 0, 0, 0, 0)] [(0, vR 42), (3, vI a3), (4, vI s.1), (5, vI s.2.1), (6, vI s.2.2)] [vI s.1] w 77 (by decide +kernel) rfl rfl ?_
      refine sim_br hC (.ifCond .ne 18) 95 (by decide +kernel) rfl (by decide) ?_ ?_
      · refine sim_blk0 hC [(.iload 5, 0, 0, 0, 0)] [(0, vR 42), (3, vI a3), (4, vI s.1), (5, vI s.2.1), (6, vI s.2.2)] [vI s.2.1] w 97 (by decide +kernel) rfl rfl ?_
        refine sim_sub hC [0, 1, 2, 4] ?_
        exact s_K_C_game_97 hC a3 s.1 s.2.2 s.2.1 w
      · refine sim_blk0 hC [(.bipush 10, 0, 0, 0, 10), (.iload 6, 0, 0, 0, 0), (.iconst 1, 0, 0, 0, 1), (.ishr, 0, 0, 0, 0), (.imul, 0, 0, 0, 0), (.iload 6, 0, 0, 0, 0), (.iconst 1, 0, 0, 0, 1), (.iand, 0, 0, 0, 0), (.iadd, 0, 0, 0, 0)] [(0, vR 42), (3, vI a3), (4, vI s.1), (5, vI s.2.1), (6, vI s.2.2)] [vI (((10 : Int32) * (s.2.2 >>> ((1 : Int32) &&& 31))) + (s.2.2 &&& (1 : Int32)))] w 92 (by decide +kernel) rfl rfl ?_
        refine sim_goto hC 5 97 (by decide +kernel) (by decide) ?_
        refine sim_sub hC [0, 1, 2, 4] ?_
        exact s_K_C_game_97 hC a3 s.1 s.2.2 (((10 : Int32) * (s.2.2 >>> ((1 : Int32) &&& 31))) + (s.2.2 &&& (1 : Int32))) w
noncomputable def K_C_game_119 (t0 : Int32) (w : Wld) : Option (Oc × Wld) :=
  some ((.inr (some t0), w))
set_option maxRecDepth 10000 in
theorem s_K_C_game_119 {Z : ZT} {l : Launch} {o : Oc} {wo : Wld} {Ok : Cfg → Prop} (hC : Clo Z l 9 7 prog_1_method_55_code (some .int) 7 128 o wo Ok) (t0 : Int32) (w : Wld) : SimK Ok (119, [], [vI t0], w) (K_C_game_119 t0 w) (Gt o wo) := by
  unfold K_C_game_119
  exact sim_rett hC (by decide +kernel) trivial
noncomputable def F_C_game (w : Wld) (a1 : Int32) (a2 : Int32) (a3 : Int32) : Option (Oc × Wld) :=
  bn (F_C_needMonk w a1) w (bn (F_C_needMonk w a2) w (bn (F_C_needWhat w a3 1) w (br (¬ a1 = a2) (bl (loop (B_C_game_31 a1 a2 a3) ((0, w))) (fun r3 => bl (loop (B_C_game_60 a3 r3) ((0, (-1), 0))) (fun r7 => br (¬ a3 = 0) (K_C_game_119 r7.2 r3) (K_C_game_119 r7.1 r3)))) (some (.inl 1, w)))))
set_option maxRecDepth 10000 in
theorem s_C_game {Z : ZT} {l : Launch} {o : Oc} {wo : Wld} {Ok : Cfg → Prop} (hC : Clo Z l 9 7 prog_1_method_55_code (some .int) 7 128 o wo Ok) (w : Wld) (a1 : Int32) (a2 : Int32) (a3 : Int32) : SimK Ok (0, [(0, vR 42), (1, vI a1), (2, vI a2), (3, vI a3)], [], w) (F_C_game w a1 a2 a3) (Gt o wo) := by
  unfold F_C_game
  refine sim_blk0 hC [(.aload_n 0, 0, 0, 0, 0), (.iload_n 1, 0, 0, 0, 0)] [(0, vR 42), (1, vI a1), (2, vI a2), (3, vI a3)] [vI a1, vR 42] w 2 (by decide +kernel) rfl rfl ?_
  refine sim_vn hC 168 mX10_needMonk 6 89 42 [vI a1] [] (by decide +kernel) ml_9_168 rfl rfl rfl rfl rfl rfl (fun qz hz => c_C_needMonk w a1 qz hz) ?_
  refine sim_blk0 hC [(.aload_n 0, 0, 0, 0, 0), (.iload_n 2, 0, 0, 0, 0)] [(0, vR 42), (1, vI a1), (2, vI a2), (3, vI a3)] [vI a2, vR 42] w 7 (by decide +kernel) rfl rfl ?_
  refine sim_vn hC 168 mX10_needMonk 6 89 42 [vI a2] [] (by decide +kernel) ml_9_168 rfl rfl rfl rfl rfl rfl (fun qz hz => c_C_needMonk w a2 qz hz) ?_
  refine sim_blk0 hC [(.iload_n 3, 0, 0, 0, 0), (.iconst 1, 0, 0, 0, 1)] [(0, vR 42), (1, vI a1), (2, vI a2), (3, vI a3)] [vI 1, vI a3] w 12 (by decide +kernel) rfl rfl ?_
  refine sim_sn hC 157 mX10_needWhat 6 89 [vI a3, vI 1] [] (by decide +kernel) ml_9_157 rfl rfl rfl rfl rfl (fun qz hz => c_C_needWhat w a3 1 qz hz) ?_
  refine sim_blk0 hC [(.iload_n 1, 0, 0, 0, 0), (.iload_n 2, 0, 0, 0, 0)] [(0, vR 42), (1, vI a1), (2, vI a2), (3, vI a3)] [vI a2, vI a1] w 17 (by decide +kernel) rfl rfl ?_
  refine sim_br hC (.if_icmp .ne 11) 28 (by decide +kernel) rfl (by decide) ?_ ?_
  · refine sim_blk0 hC [(.iconst 0, 0, 0, 0, 0), (.istore 4, 0, 0, 0, 0)] [(0, vR 42), (1, vI a1), (2, vI a2), (3, vI a3), (4, vI 0)] [] w 31 (by decide +kernel) rfl rfl ?_
    refine sim_bl (E := (E_C_game_31 a1 a2 a3)) ?_ (fun r3 => ?_)
    · exact sim_loop (V := (V_C_game_31 a1 a2 a3)) (fun sz => s_B_C_game_31 hC a1 a2 a3 sz) ((0, w))
    · show SimK Ok (51, [(0, vR 42), (3, vI a3)], [], r3) _ _
      refine sim_blk0 hC [(.iconst 0, 0, 0, 0, 0), (.istore 4, 0, 0, 0, 0), (.iconst (-1), 0, 0, 0, (-1)), (.istore 5, 0, 0, 0, 0), (.iconst 0, 0, 0, 0, 0), (.istore 6, 0, 0, 0, 0)] [(0, vR 42), (3, vI a3), (4, vI 0), (5, vI (-1)), (6, vI 0)] [] r3 60 (by decide +kernel) rfl rfl ?_
      refine sim_bl (E := (E_C_game_60 a3 r3)) ?_ (fun r7 => ?_)
      · exact sim_loop (V := (V_C_game_60 a3 r3)) (fun sz => s_B_C_game_60 hC a3 r3 sz) ((0, (-1), 0))
      · show SimK Ok (108, [(3, vI a3), (4, vI r7.1), (5, vI r7.2)], [], r3) _ _
        refine sim_blk0 hC [(.iload_n 3, 0, 0, 0, 0)] [(3, vI a3), (4, vI r7.1), (5, vI r7.2)] [vI a3] r3 109 (by decide +kernel) rfl rfl ?_
        refine sim_br hC (.ifCond .ne 8) 117 (by decide +kernel) rfl (by decide) ?_ ?_
        · refine sim_blk0 hC [(.iload 5, 0, 0, 0, 0)] [(3, vI a3), (4, vI r7.1), (5, vI r7.2)] [vI r7.2] r3 119 (by decide +kernel) rfl rfl ?_
          refine sim_sub hC [] ?_
          exact s_K_C_game_119 hC r7.2 r3
        · refine sim_blk0 hC [(.iload 4, 0, 0, 0, 0)] [(3, vI a3), (4, vI r7.1), (5, vI r7.2)] [vI r7.1] r3 114 (by decide +kernel) rfl rfl ?_
          refine sim_goto hC 5 119 (by decide +kernel) (by decide) ?_
          refine sim_sub hC [] ?_
          exact s_K_C_game_119 hC r7.1 r3
  · exact sim_thrt hC 294 296 1 (by decide +kernel) (by decide +kernel) (by decide +kernel) (by decide +kernel) rfl rfl rfl rfl
theorem c_C_game {Z : ZT} {l : Launch} (w : Wld) (a1 : Int32) (a2 : Int32) (a3 : Int32) (q : Oc) (w1 : Wld) (h : F_C_game w a1 a2 a3 = some (q, w1)) : Con Z l mX10_game 7 128 [vR 42, vI a1, vI a2, vI a3] w q w1 :=
  Con_of (oc := 9) (by decide +kernel) rfl rfl (fun Ok hC => s_C_game hC w a1 a2 a3 (q, w1) h ⟨rfl, rfl⟩)
def V_State_metCouples_84_4 (a1 : Int32) (w : Wld) : (Int32 × Int32) → Cfg := fun s => (4, [(0, vR 84), (1, vI a1), (2, vI s.1), (3, vI s.2)], [], w)
def E_State_metCouples_84_4 (a1 : Int32) (w : Wld) : (Int32) → Cfg := fun s => (30, [(2, vI s)], [], w)
noncomputable def B_State_metCouples_84_4 (a1 : Int32) (w : Wld) (s : Int32 × Int32) : Option ((Int32 × Int32) ⊕ (Int32)) :=
  br (a1 ≤ s.2) (some (.inr s.1)) (gd (vp_in ((24 : Int32) + s.2) 53) (bp (F_JI_bitCount w (w 85 (Int32.toNatClampNeg ((24 : Int32) + s.2)))) (fun i1 => bi (s.1 + i1) (fun i2 => bi (s.2 + 1) (fun i3 => some (.inl ((i2, i3))))))))
set_option maxRecDepth 10000 in
theorem s_B_State_metCouples_84_4 {Z : ZT} {l : Launch} {o : Oc} {wo : Wld} {Ok : Cfg → Prop} (hC : Clo Z l 7 4 prog_9_method_7_code (some .int) 2 20 o wo Ok) (a1 : Int32) (w : Wld) (s : Int32 × Int32) : SimK Ok (V_State_metCouples_84_4 a1 w s) (B_State_metCouples_84_4 a1 w s) (GLp Ok (V_State_metCouples_84_4 a1 w) (GEp Ok (E_State_metCouples_84_4 a1 w))) := by
  unfold B_State_metCouples_84_4
  show SimK Ok (4, [(0, vR 84), (1, vI a1), (2, vI s.1), (3, vI s.2)], [], w) _ _
  refine sim_blk0 hC [(.iload_n 3, 0, 0, 0, 0), (.iload_n 1, 0, 0, 0, 0)] [(0, vR 84), (1, vI a1), (2, vI s.1), (3, vI s.2)] [vI a1, vI s.2] w 6 (by decide +kernel) rfl rfl ?_
  refine sim_br hC (.if_icmp .ge 24) 30 (by decide +kernel) rfl (by decide) ?_ ?_
  · refine sim_sub hC [2] ?_
    exact sim_exit (E := (E_State_metCouples_84_4 a1 w)) s.1
  · refine sim_blk1 hC [(.iload_n 2, 0, 0, 0, 0), (.aload_n 0, 0, 0, 0, 0), (.getfield 11, 84, 0, 87, 0), (.bipush 24, 0, 0, 0, 24), (.iload_n 3, 0, 0, 0, 0), (.iadd, 0, 0, 0, 0), (.iaload, 85, 53, 0, 0)] [(0, vR 84), (1, vI a1), (2, vI s.1), (3, vI s.2)] [vI (w 85 (Int32.toNatClampNeg ((24 : Int32) + s.2))), vI s.1] w 19 (by decide +kernel) rfl rfl ?_
    refine sim_sp hC 33 mJ6_bitCount_0f7a4 1 0 [vI (w 85 (Int32.toNatClampNeg ((24 : Int32) + s.2)))] [vI s.1] (by decide +kernel) ml_7_33 rfl rfl rfl rfl rfl (fun rz hz => c_JI_bitCount w (w 85 (Int32.toNatClampNeg ((24 : Int32) + s.2))) rz hz) (fun i1 => ?_)
    refine sim_blk0 hC [(.iadd, 0, 0, 0, 0), (.istore_n 2, 0, 0, 0, 0)] [(0, vR 84), (1, vI a1), (2, vI (s.1 + i1)), (3, vI s.2)] [] w 24 (by decide +kernel) rfl rfl ?_
    refine sim_bi (C := fun i2 => (24, [(0, vR 84), (1, vI a1), (2, vI i2), (3, vI s.2)], [], w)) (fun i2 => ?_)
    refine sim_blk0 hC [(.iinc 3 1, 0, 0, 0, 1)] [(0, vR 84), (1, vI a1), (2, vI i2), (3, vI (s.2 + 1))] [] w 27 (by decide +kernel) rfl rfl ?_
    refine sim_bi (C := fun i3 => (27, [(0, vR 84), (1, vI a1), (2, vI i2), (3, vI i3)], [], w)) (fun i3 => ?_)
    refine sim_goto hC (-23) 4 (by decide +kernel) (by decide) ?_
    exact sim_back (V := (V_State_metCouples_84_4 a1 w)) ((i2, i3))
noncomputable def F_State_metCouples_84 (w : Wld) (a1 : Int32) : Option (Int32) :=
  bl (loop (B_State_metCouples_84_4 a1 w) ((0, 0))) (fun r4 => gd (¬ (2 : Int32) = 0) (some (r4 / (2 : Int32))))
set_option maxRecDepth 10000 in
theorem s_State_metCouples_84 {Z : ZT} {l : Launch} {o : Oc} {wo : Wld} {Ok : Cfg → Prop} (hC : Clo Z l 7 4 prog_9_method_7_code (some .int) 2 20 o wo Ok) (w : Wld) (a1 : Int32) : SimK Ok (0, [(0, vR 84), (1, vI a1)], [], w) (F_State_metCouples_84 w a1) (Gp o wo w) := by
  unfold F_State_metCouples_84
  refine sim_blk0 hC [(.iconst 0, 0, 0, 0, 0), (.istore_n 2, 0, 0, 0, 0), (.iconst 0, 0, 0, 0, 0), (.istore_n 3, 0, 0, 0, 0)] [(0, vR 84), (1, vI a1), (2, vI 0), (3, vI 0)] [] w 4 (by decide +kernel) rfl rfl ?_
  refine sim_bl (E := (E_State_metCouples_84_4 a1 w)) ?_ (fun r4 => ?_)
  · exact sim_loop (V := (V_State_metCouples_84_4 a1 w)) (fun sz => s_B_State_metCouples_84_4 hC a1 w sz) ((0, 0))
  · show SimK Ok (30, [(2, vI r4)], [], w) _ _
    refine sim_blk1 hC [(.iload_n 2, 0, 0, 0, 0), (.iconst 2, 0, 0, 0, 2), (.idiv, 0, 0, 0, 0)] [(2, vI r4)] [vI (r4 / (2 : Int32))] w 33 (by decide +kernel) rfl rfl ?_
    exact sim_retp hC (by decide +kernel) trivial
theorem c_State_metCouples_84 {Z : ZT} {l : Launch} (w : Wld) (a1 : Int32) (r : Int32) (h : F_State_metCouples_84 w a1 = some r) : Con Z l mX7_metCouples 2 20 [vR 84, vI a1] w (.inr (some r)) w :=
  Con_of (oc := 7) (by decide +kernel) rfl rfl (fun Ok hC => s_State_metCouples_84 hC w a1 r h ⟨rfl, rfl⟩)
noncomputable def F_C_nextSeed (w : Wld) (a0 : Int32) : Option (Int32) :=
  some ((a0 * (1103515245 : Int32)) + (12345 : Int32))
set_option maxRecDepth 10000 in
theorem s_C_nextSeed {Z : ZT} {l : Launch} {o : Oc} {wo : Wld} {Ok : Cfg → Prop} (hC : Clo Z l 9 1 prog_1_method_61_code (some .int) 1 0 o wo Ok) (w : Wld) (a0 : Int32) : SimK Ok (0, [(0, vI a0)], [], w) (F_C_nextSeed w a0) (Gp o wo w) := by
  unfold F_C_nextSeed
  refine sim_blk0 hC [(.iload_n 0, 0, 0, 0, 0), (.ldc_w 319, 0, 0, 0, 1103515245), (.imul, 0, 0, 0, 0), (.sipush 12345, 0, 0, 0, 12345), (.iadd, 0, 0, 0, 0)] [(0, vI a0)] [vI ((a0 * (1103515245 : Int32)) + (12345 : Int32))] w 9 (by decide +kernel) rfl rfl ?_
  exact sim_retp hC (by decide +kernel) trivial
theorem c_C_nextSeed {Z : ZT} {l : Launch} (w : Wld) (a0 : Int32) (r : Int32) (h : F_C_nextSeed w a0 = some r) : Con Z l mX10_nextSeed 1 0 [vI a0] w (.inr (some r)) w :=
  Con_of (oc := 9) (by decide +kernel) rfl rfl (fun Ok hC => s_C_nextSeed hC w a0 r h ⟨rfl, rfl⟩)
noncomputable def F_C_drawn (w : Wld) (a0 : Int32) : Option (Int32) :=
  some ((a0 >>> ((16 : Int32) &&& 31)) &&& (32767 : Int32))
set_option maxRecDepth 10000 in
theorem s_C_drawn {Z : ZT} {l : Launch} {o : Oc} {wo : Wld} {Ok : Cfg → Prop} (hC : Clo Z l 9 1 prog_1_method_62_code (some .int) 1 0 o wo Ok) (w : Wld) (a0 : Int32) : SimK Ok (0, [(0, vI a0)], [], w) (F_C_drawn w a0) (Gp o wo w) := by
  unfold F_C_drawn
  refine sim_blk0 hC [(.iload_n 0, 0, 0, 0, 0), (.bipush 16, 0, 0, 0, 16), (.ishr, 0, 0, 0, 0), (.sipush 32767, 0, 0, 0, 32767), (.iand, 0, 0, 0, 0)] [(0, vI a0)] [vI ((a0 >>> ((16 : Int32) &&& 31)) &&& (32767 : Int32))] w 8 (by decide +kernel) rfl rfl ?_
  exact sim_retp hC (by decide +kernel) trivial
theorem c_C_drawn {Z : ZT} {l : Launch} (w : Wld) (a0 : Int32) (r : Int32) (h : F_C_drawn w a0 = some r) : Con Z l mX10_drawn 1 0 [vI a0] w (.inr (some r)) w :=
  Con_of (oc := 9) (by decide +kernel) rfl rfl (fun Ok hC => s_C_drawn hC w a0 r h ⟨rfl, rfl⟩)
noncomputable def K_C_chance_27 (a2 : Int32) (w : Wld) : Option (Int32 × Wld) :=
  some ((a2, w))
set_option maxRecDepth 10000 in
theorem s_K_C_chance_27 {Z : ZT} {l : Launch} {o : Oc} {wo : Wld} {Ok : Cfg → Prop} (hC : Clo Z l 9 5 prog_1_method_60_code (some .int) 2 43 o wo Ok) (a2 : Int32) (w : Wld) : SimK Ok (27, [(2, vI a2)], [], w) (K_C_chance_27 a2 w) (Gi o wo) := by
  unfold K_C_chance_27
  refine sim_blk0 hC [(.iload_n 2, 0, 0, 0, 0)] [(2, vI a2)] [vI a2] w 28 (by decide +kernel) rfl rfl ?_
  exact sim_reti hC (by decide +kernel) trivial
noncomputable def K_C_chance_79 (a2 : Int32) (w : Wld) : Option (Int32 × Wld) :=
  some ((a2, w))
set_option maxRecDepth 10000 in
theorem s_K_C_chance_79 {Z : ZT} {l : Launch} {o : Oc} {wo : Wld} {Ok : Cfg → Prop} (hC : Clo Z l 9 5 prog_1_method_60_code (some .int) 2 43 o wo Ok) (a2 : Int32) (w : Wld) : SimK Ok (79, [(2, vI a2)], [], w) (K_C_chance_79 a2 w) (Gi o wo) := by
  unfold K_C_chance_79
  refine sim_blk0 hC [(.iload_n 2, 0, 0, 0, 0)] [(2, vI a2)] [vI a2] w 80 (by decide +kernel) rfl rfl ?_
  exact sim_reti hC (by decide +kernel) trivial
noncomputable def F_C_chance (w : Wld) (a1 : Int32) : Option (Int32 × Wld) :=
  bp (F_C_nextSeed w a1) (fun i1 => bp (F_C_drawn w i1) (fun i2 => gd (¬ (5 : Int32) = 0) (bi (i2 - i2 / (5 : Int32) * (5 : Int32)) (fun i3 => br ((1 : Int32) < i3) (K_C_chance_27 i1 w) (br (¬ (w 56 1) = 0) (bp (F_C_nextSeed w i1) (fun i4 => bp (F_C_drawn w i4) (fun i5 => gd (¬ (w 56 1) = 0) (bi (i5 - i5 / (w 56 1) * (w 56 1)) (fun i6 => br (¬ i3 = 0) (gd (vp_in ((0 : Int32) + i6) 53) (bw (wup w 85 (Int32.toNatClampNeg ((0 : Int32) + i6)) 99) (fun w7 => K_C_chance_79 i4 w7))) (bv (F_State_addFish_84 w i6 2) (fun w8 => K_C_chance_79 i4 w8))))))) (K_C_chance_27 i1 w))))))
set_option maxRecDepth 10000 in
theorem s_C_chance {Z : ZT} {l : Launch} {o : Oc} {wo : Wld} {Ok : Cfg → Prop} (hC : Clo Z l 9 5 prog_1_method_60_code (some .int) 2 43 o wo Ok) (w : Wld) (a1 : Int32) : SimK Ok (0, [(0, vR 42), (1, vI a1)], [], w) (F_C_chance w a1) (Gi o wo) := by
  unfold F_C_chance
  refine sim_blk0 hC [(.iload_n 1, 0, 0, 0, 0)] [(0, vR 42), (1, vI a1)] [vI a1] w 1 (by decide +kernel) rfl rfl ?_
  refine sim_sp hC 313 mX10_nextSeed 1 0 [vI a1] [] (by decide +kernel) ml_9_313 rfl rfl rfl rfl rfl (fun rz hz => c_C_nextSeed w a1 rz hz) (fun i1 => ?_)
  refine sim_blk0 hC [(.istore_n 2, 0, 0, 0, 0), (.iload_n 2, 0, 0, 0, 0)] [(0, vR 42), (1, vI a1), (2, vI i1)] [vI i1] w 6 (by decide +kernel) rfl rfl ?_
  refine sim_sp hC 316 mX10_drawn 1 0 [vI i1] [] (by decide +kernel) ml_9_316 rfl rfl rfl rfl rfl (fun rz hz => c_C_drawn w i1 rz hz) (fun i2 => ?_)
  refine sim_blk1 hC [(.iconst 5, 0, 0, 0, 5), (.irem, 0, 0, 0, 0), (.istore_n 3, 0, 0, 0, 0)] [(0, vR 42), (1, vI a1), (2, vI i1), (3, vI (i2 - i2 / (5 : Int32) * (5 : Int32)))] [] w 12 (by decide +kernel) rfl rfl ?_
  refine sim_bi (C := fun i3 => (12, [(0, vR 42), (1, vI a1), (2, vI i1), (3, vI i3)], [], w)) (fun i3 => ?_)
  refine sim_blk0 hC [(.iload_n 3, 0, 0, 0, 0), (.iconst 1, 0, 0, 0, 1)] [(0, vR 42), (1, vI a1), (2, vI i1), (3, vI i3)] [vI 1, vI i3] w 14 (by decide +kernel) rfl rfl ?_
  refine sim_br hC (.if_icmp .gt 13) 27 (by decide +kernel) rfl (by decide) ?_ ?_
  · refine sim_sub hC [2] ?_
    exact s_K_C_chance_27 hC i1 w
  · refine sim_blk0 hC [(.aload_n 0, 0, 0, 0, 0), (.getfield 38, 42, 5, 58, 0), (.getfield 128, 56, 1, 0, 0)] [(0, vR 42), (1, vI a1), (2, vI i1), (3, vI i3)] [vI (w 56 1)] w 24 (by decide +kernel) rfl rfl ?_
    refine sim_br hC (.ifCond .ne 5) 29 (by decide +kernel) rfl (by decide) ?_ ?_
    · refine sim_blk0 hC [(.iload_n 2, 0, 0, 0, 0)] [(0, vR 42), (1, vI a1), (2, vI i1), (3, vI i3)] [vI i1] w 30 (by decide +kernel) rfl rfl ?_
      refine sim_sp hC 313 mX10_nextSeed 1 0 [vI i1] [] (by decide +kernel) ml_9_313 rfl rfl rfl rfl rfl (fun rz hz => c_C_nextSeed w i1 rz hz) (fun i4 => ?_)
      refine sim_blk0 hC [(.istore_n 2, 0, 0, 0, 0), (.iload_n 2, 0, 0, 0, 0)] [(0, vR 42), (1, vI a1), (2, vI i4), (3, vI i3)] [vI i4] w 35 (by decide +kernel) rfl rfl ?_
      refine sim_sp hC 316 mX10_drawn 1 0 [vI i4] [] (by decide +kernel) ml_9_316 rfl rfl rfl rfl rfl (fun rz hz => c_C_drawn w i4 rz hz) (fun i5 => ?_)
      refine sim_blk1 hC [(.aload_n 0, 0, 0, 0, 0), (.getfield 38, 42, 5, 58, 0), (.getfield 128, 56, 1, 0, 0), (.irem, 0, 0, 0, 0), (.istore 4, 0, 0, 0, 0)] [(0, vR 42), (1, vI a1), (2, vI i4), (3, vI i3), (4, vI (i5 - i5 / (w 56 1) * (w 56 1)))] [] w 48 (by decide +kernel) rfl rfl ?_
      refine sim_bi (C := fun i6 => (48, [(0, vR 42), (1, vI a1), (2, vI i4), (3, vI i3), (4, vI i6)], [], w)) (fun i6 => ?_)
      refine sim_blk0 hC [(.iload_n 3, 0, 0, 0, 0)] [(0, vR 42), (1, vI a1), (2, vI i4), (3, vI i3), (4, vI i6)] [vI i3] w 49 (by decide +kernel) rfl rfl ?_
      refine sim_br hC (.ifCond .ne 16) 65 (by decide +kernel) rfl (by decide) ?_ ?_
      · refine sim_blk1 hC [(.aload_n 0, 0, 0, 0, 0), (.getfield 56, 42, 9, 86, 0), (.getfield 137, 84, 0, 87, 0), (.iconst 0, 0, 0, 0, 0), (.iload 4, 0, 0, 0, 0), (.iadd, 0, 0, 0, 0), (.bipush 99, 0, 0, 0, 99), (.iastore, 85, 53, 0, 0)] [(0, vR 42), (1, vI a1), (2, vI i4), (3, vI i3), (4, vI i6)] [] (wup w 85 (Int32.toNatClampNeg ((0 : Int32) + i6)) 99) 79 (by decide +kernel) rfl rfl ?_
        refine sim_bw (C := fun w7 => (79, [(0, vR 42), (1, vI a1), (2, vI i4), (3, vI i3), (4, vI i6)], [], w7)) (fun w7 => ?_)
        refine sim_sub hC [2] ?_
        exact s_K_C_chance_79 hC i4 w7
      · refine sim_blk0 hC [(.aload_n 0, 0, 0, 0, 0), (.getfield 56, 42, 9, 86, 0), (.iload 4, 0, 0, 0, 0), (.iconst 2, 0, 0, 0, 2)] [(0, vR 42), (1, vI a1), (2, vI i4), (3, vI i3), (4, vI i6)] [vI 2, vI i6, vR 84] w 59 (by decide +kernel) rfl rfl ?_
        refine sim_vv hC 188 mX7_addFish 1 21 84 [vI i6, vI 2] [] (by decide +kernel) ml_9_188 rfl rfl rfl rfl rfl rfl (fun wz hz => c_State_addFish_84 w i6 2 wz hz) (fun w8 => ?_)
        refine sim_goto hC 17 79 (by decide +kernel) (by decide) ?_
        refine sim_sub hC [2] ?_
        exact s_K_C_chance_79 hC i4 w8
    · refine sim_sub hC [2] ?_
      exact s_K_C_chance_27 hC i1 w
theorem c_C_chance {Z : ZT} {l : Launch} (w : Wld) (a1 : Int32) (r : Int32) (w1 : Wld) (h : F_C_chance w a1 = some (r, w1)) : Con Z l mX10_chance 2 43 [vR 42, vI a1] w (.inr (some r)) w1 :=
  Con_of (oc := 9) (by decide +kernel) rfl rfl (fun Ok hC => s_C_chance hC w a1 (r, w1) h ⟨rfl, rfl⟩)
def V_C_years_28 (a2 : Int32) (a3 : Int32) : (Int32 × Int32 × Int32 × Int32 × Wld) → Cfg := fun s => (28, [(0, vR 42), (2, vI a2), (3, vI a3), (4, vI s.1), (5, vI s.2.1), (6, vI s.2.2.1), (7, vI s.2.2.2.1)], [], s.2.2.2.2)
def E_C_years_28 (a2 : Int32) (a3 : Int32) : (Int32 × Int32 × Wld) → Cfg := fun s => (91, [(0, vR 42), (3, vI a3), (5, vI s.1), (6, vI s.2.1)], [], s.2.2)
noncomputable def K_C_years_70 (a2 : Int32) (a3 : Int32) (a4 : Int32) (a6 : Int32) (a7 : Int32) (t0 : Int32) (t1 : Int32) (w : Wld) : Option ((Int32 × Int32 × Int32 × Int32 × Wld) ⊕ (Int32 × Int32 × Wld)) :=
  bi (t0 + t1) (fun i6 => bp (F_Night_matins_55 w) (fun i7 => bi (a6 + i7) (fun i8 => bi (a7 + 1) (fun i9 => some (.inl ((a4, i6, i8, i9, w)))))))
set_option maxRecDepth 10000 in
theorem s_K_C_years_70 {Z : ZT} {l : Launch} {o : Oc} {wo : Wld} {Ok : Cfg → Prop} (hC : Clo Z l 9 8 prog_1_method_59_code (some .int) 7 111 o wo Ok) (a2 : Int32) (a3 : Int32) (a4 : Int32) (a6 : Int32) (a7 : Int32) (t0 : Int32) (t1 : Int32) (w : Wld) : SimK Ok (70, [(0, vR 42), (2, vI a2), (3, vI a3), (4, vI a4), (6, vI a6), (7, vI a7)], [vI t1, vI t0], w) (K_C_years_70 a2 a3 a4 a6 a7 t0 t1 w) (GLp Ok (V_C_years_28 a2 a3) (GEp Ok (E_C_years_28 a2 a3))) := by
  unfold K_C_years_70
  refine sim_blk0 hC [(.iadd, 0, 0, 0, 0), (.istore 5, 0, 0, 0, 0)] [(0, vR 42), (2, vI a2), (3, vI a3), (4, vI a4), (5, vI (t0 + t1)), (6, vI a6), (7, vI a7)] [] w 73 (by decide +kernel) rfl rfl ?_
  refine sim_bi (C := fun i6 => (73, [(0, vR 42), (2, vI a2), (3, vI a3), (4, vI a4), (5, vI i6), (6, vI a6), (7, vI a7)], [], w)) (fun i6 => ?_)
  refine sim_blk0 hC [(.iload 6, 0, 0, 0, 0), (.aload_n 0, 0, 0, 0, 0), (.getfield 30, 42, 4, 57, 0)] [(0, vR 42), (2, vI a2), (3, vI a3), (4, vI a4), (5, vI i6), (6, vI a6), (7, vI a7)] [vR 55, vI a6] w 79 (by decide +kernel) rfl rfl ?_
  refine sim_vp hC 206 mX4_matins 1 0 55 [] [vI a6] (by decide +kernel) ml_9_206 rfl rfl rfl rfl rfl rfl (fun rz hz => c_Night_matins_55 w rz hz) (fun i7 => ?_)
  refine sim_blk0 hC [(.iadd, 0, 0, 0, 0), (.istore 6, 0, 0, 0, 0)] [(0, vR 42), (2, vI a2), (3, vI a3), (4, vI a4), (5, vI i6), (6, vI (a6 + i7)), (7, vI a7)] [] w 85 (by decide +kernel) rfl rfl ?_
  refine sim_bi (C := fun i8 => (85, [(0, vR 42), (2, vI a2), (3, vI a3), (4, vI a4), (5, vI i6), (6, vI i8), (7, vI a7)], [], w)) (fun i8 => ?_)
  refine sim_blk0 hC [(.iinc 7 1, 0, 0, 0, 1)] [(0, vR 42), (2, vI a2), (3, vI a3), (4, vI a4), (5, vI i6), (6, vI i8), (7, vI (a7 + 1))] [] w 88 (by decide +kernel) rfl rfl ?_
  refine sim_bi (C := fun i9 => (88, [(0, vR 42), (2, vI a2), (3, vI a3), (4, vI a4), (5, vI i6), (6, vI i8), (7, vI i9)], [], w)) (fun i9 => ?_)
  refine sim_goto hC (-60) 28 (by decide +kernel) (by decide) ?_
  exact sim_back (V := (V_C_years_28 a2 a3)) ((a4, i6, i8, i9, w))
noncomputable def B_C_years_28 (a2 : Int32) (a3 : Int32) (s : Int32 × Int32 × Int32 × Int32 × Wld) : Option ((Int32 × Int32 × Int32 × Int32 × Wld) ⊕ (Int32 × Int32 × Wld)) :=
  br (a2 ≤ s.2.2.2.1) (some (.inr ((s.2.1, s.2.2.1, s.2.2.2.2)))) (bd (F_C_chance s.2.2.2.2 s.1) (fun i2 w3 => bv (F_Night_pass_55_84 w3) (fun w4 => bp (F_Night_missing_55 w4) (fun i5 => br (¬ i5 = 0) (K_C_years_70 a2 a3 i2 s.2.2.1 s.2.2.2.1 s.2.1 0 w4) (K_C_years_70 a2 a3 i2 s.2.2.1 s.2.2.2.1 s.2.1 1 w4)))))
set_option maxRecDepth 10000 in
theorem s_B_C_years_28 {Z : ZT} {l : Launch} {o : Oc} {wo : Wld} {Ok : Cfg → Prop} (hC : Clo Z l 9 8 prog_1_method_59_code (some .int) 7 111 o wo Ok) (a2 : Int32) (a3 : Int32) (s : Int32 × Int32 × Int32 × Int32 × Wld) : SimK Ok (V_C_years_28 a2 a3 s) (B_C_years_28 a2 a3 s) (GLp Ok (V_C_years_28 a2 a3) (GEp Ok (E_C_years_28 a2 a3))) := by
  unfold B_C_years_28
  show SimK Ok (28, [(0, vR 42), (2, vI a2), (3, vI a3), (4, vI s.1), (5, vI s.2.1), (6, vI s.2.2.1), (7, vI s.2.2.2.1)], [], s.2.2.2.2) _ _
  refine sim_blk0 hC [(.iload 7, 0, 0, 0, 0), (.iload_n 2, 0, 0, 0, 0)] [(0, vR 42), (2, vI a2), (3, vI a3), (4, vI s.1), (5, vI s.2.1), (6, vI s.2.2.1), (7, vI s.2.2.2.1)] [vI a2, vI s.2.2.2.1] s.2.2.2.2 31 (by decide +kernel) rfl rfl ?_
  refine sim_br hC (.if_icmp .ge 60) 91 (by decide +kernel) rfl (by decide) ?_ ?_
  · refine sim_sub hC [0, 2, 4, 5] ?_
    exact sim_exit (E := (E_C_years_28 a2 a3)) ((s.2.1, s.2.2.1, s.2.2.2.2))
  · refine sim_blk0 hC [(.aload_n 0, 0, 0, 0, 0), (.iload 4, 0, 0, 0, 0)] [(0, vR 42), (2, vI a2), (3, vI a3), (4, vI s.1), (5, vI s.2.1), (6, vI s.2.2.1), (7, vI s.2.2.2.1)] [vI s.1, vR 42] s.2.2.2.2 37 (by decide +kernel) rfl rfl ?_
    refine sim_vd hC 310 mX10_chance 2 43 42 [vI s.1] [] (by decide +kernel) ml_9_310 rfl rfl rfl rfl rfl rfl (fun rz wz hz => c_C_chance s.2.2.2.2 s.1 rz wz hz) (fun i2 w3 => ?_)
    refine sim_blk0 hC [(.istore 4, 0, 0, 0, 0), (.aload_n 0, 0, 0, 0, 0), (.getfield 30, 42, 4, 57, 0), (.aload_n 0, 0, 0, 0, 0), (.getfield 56, 42, 9, 86, 0)] [(0, vR 42), (2, vI a2), (3, vI a3), (4, vI i2), (5, vI s.2.1), (6, vI s.2.2.1), (7, vI s.2.2.2.1)] [vR 84, vR 55] w3 50 (by decide +kernel) rfl rfl ?_
    refine sim_vv hC 185 mX4_pass 4 69 55 [vR 84] [] (by decide +kernel) ml_9_185 rfl rfl rfl rfl rfl rfl (fun wz hz => c_Night_pass_55_84 w3 wz hz) (fun w4 => ?_)
    refine sim_blk0 hC [(.iload 5, 0, 0, 0, 0), (.aload_n 0, 0, 0, 0, 0), (.getfield 30, 42, 4, 57, 0)] [(0, vR 42), (2, vI a2), (3, vI a3), (4, vI i2), (5, vI s.2.1), (6, vI s.2.2.1), (7, vI s.2.2.2.1)] [vR 55, vI s.2.1] w4 59 (by decide +kernel) rfl rfl ?_
    refine sim_vp hC 209 mX4_missing 2 22 55 [] [vI s.2.1] (by decide +kernel) ml_9_209 rfl rfl rfl rfl rfl rfl (fun rz hz => c_Night_missing_55 w4 rz hz) (fun i5 => ?_)
    refine sim_br hC (.ifCond .ne 7) 69 (by decide +kernel) rfl (by decide) ?_ ?_
    · refine sim_blk0 hC [(.iconst 0, 0, 0, 0, 0)] [(0, vR 42), (2, vI a2), (3, vI a3), (4, vI i2), (5, vI s.2.1), (6, vI s.2.2.1), (7, vI s.2.2.2.1)] [vI 0, vI s.2.1] w4 70 (by decide +kernel) rfl rfl ?_
      refine sim_sub hC [0, 1, 2, 3, 5, 6] ?_
      exact s_K_C_years_70 hC a2 a3 i2 s.2.2.1 s.2.2.2.1 s.2.1 0 w4
    · refine sim_blk0 hC [(.iconst 1, 0, 0, 0, 1)] [(0, vR 42), (2, vI a2), (3, vI a3), (4, vI i2), (5, vI s.2.1), (6, vI s.2.2.1), (7, vI s.2.2.2.1)] [vI 1, vI s.2.1] w4 66 (by decide +kernel) rfl rfl ?_
      refine sim_goto hC 4 70 (by decide +kernel) (by decide) ?_
      refine sim_sub hC [0, 1, 2, 3, 5, 6] ?_
      exact s_K_C_years_70 hC a2 a3 i2 s.2.2.1 s.2.2.2.1 s.2.1 1 w4
noncomputable def F_C_years (w : Wld) (a1 : Int32) (a2 : Int32) (a3 : Int32) : Option (Oc × Wld) :=
  bn (F_C_needWhat w a3 2) w (bn (F_C_needWithin w a2 0 60) w (bv (F_C_beginTrial w) (fun w1 => bl (loop (B_C_years_28 a2 a3) ((a1, 0, 0, 0, w1))) (fun r10 => br (a3 = 0) (some ((.inr (some r10.1), r10.2.2))) (br (a3 = 1) (some ((.inr (some r10.2.1), r10.2.2))) (bp (F_State_metCouples_84 r10.2.2 (r10.2.2 56 1)) (fun i11 => some ((.inr (some i11), r10.2.2)))))))))
set_option maxRecDepth 10000 in
theorem s_C_years {Z : ZT} {l : Launch} {o : Oc} {wo : Wld} {Ok : Cfg → Prop} (hC : Clo Z l 9 8 prog_1_method_59_code (some .int) 7 111 o wo Ok) (w : Wld) (a1 : Int32) (a2 : Int32) (a3 : Int32) : SimK Ok (0, [(0, vR 42), (1, vI a1), (2, vI a2), (3, vI a3)], [], w) (F_C_years w a1 a2 a3) (Gt o wo) := by
  unfold F_C_years
  refine sim_blk0 hC [(.iload_n 3, 0, 0, 0, 0), (.iconst 2, 0, 0, 0, 2)] [(0, vR 42), (1, vI a1), (2, vI a2), (3, vI a3)] [vI 2, vI a3] w 2 (by decide +kernel) rfl rfl ?_
  refine sim_sn hC 157 mX10_needWhat 6 89 [vI a3, vI 2] [] (by decide +kernel) ml_9_157 rfl rfl rfl rfl rfl (fun qz hz => c_C_needWhat w a3 2 qz hz) ?_
  refine sim_blk0 hC [(.iload_n 2, 0, 0, 0, 0), (.iconst 0, 0, 0, 0, 0), (.bipush 60, 0, 0, 0, 60)] [(0, vR 42), (1, vI a1), (2, vI a2), (3, vI a3)] [vI 60, vI 0, vI a2] w 9 (by decide +kernel) rfl rfl ?_
  refine sim_sn hC 77 mX10_needWithin 6 89 [vI a2, vI 0, vI 60] [] (by decide +kernel) ml_9_77 rfl rfl rfl rfl rfl (fun qz hz => c_C_needWithin w a2 0 60 qz hz) ?_
  refine sim_blk0 hC [(.aload_n 0, 0, 0, 0, 0)] [(0, vR 42), (1, vI a1), (2, vI a2), (3, vI a3)] [vR 42] w 13 (by decide +kernel) rfl rfl ?_
  refine sim_vv hC 212 mX10_beginTrial 2 81 42 [] [] (by decide +kernel) ml_9_212 rfl rfl rfl rfl rfl rfl (fun wz hz => c_C_beginTrial w wz hz) (fun w1 => ?_)
  refine sim_blk0 hC [(.iload_n 1, 0, 0, 0, 0), (.istore 4, 0, 0, 0, 0), (.iconst 0, 0, 0, 0, 0), (.istore 5, 0, 0, 0, 0), (.iconst 0, 0, 0, 0, 0), (.istore 6, 0, 0, 0, 0), (.iconst 0, 0, 0, 0, 0), (.istore 7, 0, 0, 0, 0)] [(0, vR 42), (1, vI a1), (2, vI a2), (3, vI a3), (4, vI a1), (5, vI 0), (6, vI 0), (7, vI 0)] [] w1 28 (by decide +kernel) rfl rfl ?_
  refine sim_bl (E := (E_C_years_28 a2 a3)) ?_ (fun r10 => ?_)
  · refine sim_sub hC [0, 2, 3, 4, 5, 6, 7] ?_
    exact sim_loop (V := (V_C_years_28 a2 a3)) (fun sz => s_B_C_years_28 hC a2 a3 sz) ((a1, 0, 0, 0, w1))
  · show SimK Ok (91, [(0, vR 42), (3, vI a3), (5, vI r10.1), (6, vI r10.2.1)], [], r10.2.2) _ _
    refine sim_blk0 hC [(.iload_n 3, 0, 0, 0, 0)] [(0, vR 42), (3, vI a3), (5, vI r10.1), (6, vI r10.2.1)] [vI a3] r10.2.2 92 (by decide +kernel) rfl rfl ?_
    refine sim_cases (fun h0 => ?_) (fun h0 => ?_)
    · refine sim_look hC 34 #[(0, 28), (1, 31)] 28 28 120 (by decide +kernel) (by decide +kernel) (by rw [h0]; decide +kernel) (by decide) ?_
      refine sim_blk0 hC [(.iload 5, 0, 0, 0, 0)] [(0, vR 42), (3, vI a3), (5, vI r10.1), (6, vI r10.2.1)] [vI r10.1] r10.2.2 122 (by decide +kernel) rfl rfl ?_
      exact sim_rett hC (by decide +kernel) trivial
    · refine sim_cases (fun h1 => ?_) (fun h1 => ?_)
      · refine sim_look hC 34 #[(0, 28), (1, 31)] 28 31 123 (by decide +kernel) (by decide +kernel) (by rw [h1]; decide +kernel) (by decide) ?_
        refine sim_blk0 hC [(.iload 6, 0, 0, 0, 0)] [(0, vR 42), (3, vI a3), (5, vI r10.1), (6, vI r10.2.1)] [vI r10.2.1] r10.2.2 125 (by decide +kernel) rfl rfl ?_
        exact sim_rett hC (by decide +kernel) trivial
      · refine sim_look hC 34 #[(0, 28), (1, 31)] 28 34 126 (by decide +kernel) (by decide +kernel) (look_out2 h0 h1) (by decide) ?_
        refine sim_blk0 hC [(.aload_n 0, 0, 0, 0, 0), (.getfield 56, 42, 9, 86, 0), (.aload_n 0, 0, 0, 0, 0), (.getfield 38, 42, 5, 58, 0), (.getfield 128, 56, 1, 0, 0)] [(0, vR 42), (3, vI a3), (5, vI r10.1), (6, vI r10.2.1)] [vI (r10.2.2 56 1), vR 84] r10.2.2 137 (by decide +kernel) rfl rfl ?_
        refine sim_vp hC 144 mX7_metCouples 2 20 84 [vI (r10.2.2 56 1)] [] (by decide +kernel) ml_9_144 rfl rfl rfl rfl rfl rfl (fun rz hz => c_State_metCouples_84 r10.2.2 (r10.2.2 56 1) rz hz) (fun i11 => ?_)
        exact sim_rett hC (by decide +kernel) trivial
theorem c_C_years {Z : ZT} {l : Launch} (w : Wld) (a1 : Int32) (a2 : Int32) (a3 : Int32) (q : Oc) (w1 : Wld) (h : F_C_years w a1 a2 a3 = some (q, w1)) : Con Z l mX10_years 7 111 [vR 42, vI a1, vI a2, vI a3] w q w1 :=
  Con_of (oc := 9) (by decide +kernel) rfl rfl (fun Ok hC => s_C_years hC w a1 a2 a3 (q, w1) h ⟨rfl, rfl⟩)
noncomputable def F_M_thrown (w : Wld) : Option (Int32) :=
  some (w 0 2)
set_option maxRecDepth 10000 in
theorem s_M_thrown {Z : ZT} {l : Launch} {o : Oc} {wo : Wld} {Ok : Cfg → Prop} (hC : Clo Z l 10 1 prog_13_method_2_code (some .int) 1 0 o wo Ok) (w : Wld) : SimK Ok (0, [(0, vR 0)], [], w) (F_M_thrown w) (Gp o wo w) := by
  unfold F_M_thrown
  refine sim_blk0 hC [(.aload_n 0, 0, 0, 0, 0), (.getfield 159, 0, 2, 0, 0)] [(0, vR 0)] [vI (w 0 2)] w 4 (by decide +kernel) rfl rfl ?_
  exact sim_retp hC (by decide +kernel) trivial
theorem c_M_thrown {Z : ZT} {l : Launch} (w : Wld) (r : Int32) (h : F_M_thrown w = some r) : Con Z l mX11_thrown 1 0 [vR 0] w (.inr (some r)) w :=
  Con_of (oc := 10) (by decide +kernel) rfl rfl (fun Ok hC => s_M_thrown hC w r h ⟨rfl, rfl⟩)
def V_M_feed_23 (a1 : Int32) (a2 : Int32) (a3 : Int32) (a4 : Int32) (a5 : Int32) : (Int32 × Wld) → Cfg := fun s => (23, [(0, vR 0), (1, vI a1), (2, vI a2), (3, vI a3), (4, vI a4), (5, vI a5), (6, vI s.1)], [], s.2)
def E_M_feed_23 (a1 : Int32) (a2 : Int32) (a3 : Int32) (a4 : Int32) (a5 : Int32) : (Wld) → Cfg := fun s => (120, [(0, vR 0)], [], s)
noncomputable def K_M_feed_76 (a1 : Int32) (a2 : Int32) (a3 : Int32) (a4 : Int32) (a5 : Int32) (a6 : Int32) (t0 : Int32) (w : Wld) : Option ((Int32 × Wld) ⊕ (Wld)) :=
  gd (¬ (4 : Int32) = 0) (gd (vp_in (w 0 14) 700) (bw (wup w 13 (Int32.toNatClampNeg (w 0 14)) ((t0 >>> (((24 : Int32) - ((8 : Int32) * (a6 - a6 / (4 : Int32) * (4 : Int32)))) &&& 31)) &&& (255 : Int32))) (fun w2 => bw (wup w2 0 14 ((w2 0 14) + (1 : Int32))) (fun w3 => bi (a6 + 1) (fun i4 => some (.inl ((i4, w3))))))))
set_option maxRecDepth 10000 in
theorem s_K_M_feed_76 {Z : ZT} {l : Launch} {o : Oc} {wo : Wld} {Ok : Cfg → Prop} (hC : Clo Z l 10 8 prog_13_method_10_code (some .int) 1 0 o wo Ok) (a1 : Int32) (a2 : Int32) (a3 : Int32) (a4 : Int32) (a5 : Int32) (a6 : Int32) (t0 : Int32) (w : Wld) : SimK Ok (76, [(0, vR 0), (1, vI a1), (2, vI a2), (3, vI a3), (4, vI a4), (5, vI a5), (6, vI a6)], [vI t0], w) (K_M_feed_76 a1 a2 a3 a4 a5 a6 t0 w) (GLp Ok (V_M_feed_23 a1 a2 a3 a4 a5) (GEp Ok (E_M_feed_23 a1 a2 a3 a4 a5))) := by
  unfold K_M_feed_76
  refine sim_blk2 hC [(.istore 7, 0, 0, 0, 0), (.aload_n 0, 0, 0, 0, 0), (.getfield 71, 0, 13, 15, 0), (.aload_n 0, 0, 0, 0, 0), (.getfield 166, 0, 14, 0, 0), (.iload 7, 0, 0, 0, 0), (.bipush 24, 0, 0, 0, 24), (.bipush 8, 0, 0, 0, 8), (.iload 6, 0, 0, 0, 0), (.iconst 4, 0, 0, 0, 4), (.irem, 0, 0, 0, 0), (.imul, 0, 0, 0, 0), (.isub, 0, 0, 0, 0), (.ishr, 0, 0, 0, 0), (.sipush 255, 0, 0, 0, 255), (.iand, 0, 0, 0, 0), (.iastore, 13, 700, 0, 0)] [(0, vR 0), (1, vI a1), (2, vI a2), (3, vI a3), (4, vI a4), (5, vI a5), (6, vI a6), (7, vI t0)] [] (wup w 13 (Int32.toNatClampNeg (w 0 14)) ((t0 >>> (((24 : Int32) - ((8 : Int32) * (a6 - a6 / (4 : Int32) * (4 : Int32)))) &&& 31)) &&& (255 : Int32))) 104 (by decide +kernel) rfl rfl ?_
  refine sim_bw (C := fun w2 => (104, [(0, vR 0), (1, vI a1), (2, vI a2), (3, vI a3), (4, vI a4), (5, vI a5), (6, vI a6), (7, vI t0)], [], w2)) (fun w2 => ?_)
  refine sim_blk0 hC [(.aload_n 0, 0, 0, 0, 0), (.dup, 0, 0, 0, 0), (.getfield 166, 0, 14, 0, 0), (.iconst 1, 0, 0, 0, 1), (.iadd, 0, 0, 0, 0), (.putfield 166, 0, 14, 0, 0)] [(0, vR 0), (1, vI a1), (2, vI a2), (3, vI a3), (4, vI a4), (5, vI a5), (6, vI a6), (7, vI t0)] [] (wup w2 0 14 ((w2 0 14) + (1 : Int32))) 114 (by decide +kernel) rfl rfl ?_
  refine sim_bw (C := fun w3 => (114, [(0, vR 0), (1, vI a1), (2, vI a2), (3, vI a3), (4, vI a4), (5, vI a5), (6, vI a6), (7, vI t0)], [], w3)) (fun w3 => ?_)
  refine sim_blk0 hC [(.iinc 6 1, 0, 0, 0, 1)] [(0, vR 0), (1, vI a1), (2, vI a2), (3, vI a3), (4, vI a4), (5, vI a5), (6, vI (a6 + 1)), (7, vI t0)] [] w3 117 (by decide +kernel) rfl rfl ?_
  refine sim_bi (C := fun i4 => (117, [(0, vR 0), (1, vI a1), (2, vI a2), (3, vI a3), (4, vI a4), (5, vI a5), (6, vI i4), (7, vI t0)], [], w3)) (fun i4 => ?_)
  refine sim_goto hC (-94) 23 (by decide +kernel) (by decide) ?_
  refine sim_sub hC [0, 1, 2, 3, 4, 5, 6] ?_
  exact sim_back (V := (V_M_feed_23 a1 a2 a3 a4 a5)) ((i4, w3))
noncomputable def B_M_feed_23 (a1 : Int32) (a2 : Int32) (a3 : Int32) (a4 : Int32) (a5 : Int32) (s : Int32 × Wld) : Option ((Int32 × Wld) ⊕ (Wld)) :=
  br ((20 : Int32) ≤ s.1) (some (.inr s.2)) (br ((4 : Int32) ≤ s.1) (br ((8 : Int32) ≤ s.1) (br ((12 : Int32) ≤ s.1) (br ((16 : Int32) ≤ s.1) (K_M_feed_76 a1 a2 a3 a4 a5 s.1 a5 s.2) (K_M_feed_76 a1 a2 a3 a4 a5 s.1 a4 s.2)) (K_M_feed_76 a1 a2 a3 a4 a5 s.1 a3 s.2)) (K_M_feed_76 a1 a2 a3 a4 a5 s.1 a2 s.2)) (K_M_feed_76 a1 a2 a3 a4 a5 s.1 a1 s.2))
set_option maxRecDepth 10000 in
theorem s_B_M_feed_23 {Z : ZT} {l : Launch} {o : Oc} {wo : Wld} {Ok : Cfg → Prop} (hC : Clo Z l 10 8 prog_13_method_10_code (some .int) 1 0 o wo Ok) (a1 : Int32) (a2 : Int32) (a3 : Int32) (a4 : Int32) (a5 : Int32) (s : Int32 × Wld) : SimK Ok (V_M_feed_23 a1 a2 a3 a4 a5 s) (B_M_feed_23 a1 a2 a3 a4 a5 s) (GLp Ok (V_M_feed_23 a1 a2 a3 a4 a5) (GEp Ok (E_M_feed_23 a1 a2 a3 a4 a5))) := by
  unfold B_M_feed_23
  show SimK Ok (23, [(0, vR 0), (1, vI a1), (2, vI a2), (3, vI a3), (4, vI a4), (5, vI a5), (6, vI s.1)], [], s.2) _ _
  refine sim_blk0 hC [(.iload 6, 0, 0, 0, 0), (.bipush 20, 0, 0, 0, 20)] [(0, vR 0), (1, vI a1), (2, vI a2), (3, vI a3), (4, vI a4), (5, vI a5), (6, vI s.1)] [vI 20, vI s.1] s.2 27 (by decide +kernel) rfl rfl ?_
  refine sim_br hC (.if_icmp .ge 93) 120 (by decide +kernel) rfl (by decide) ?_ ?_
  · refine sim_sub hC [0] ?_
    exact sim_exit (E := (E_M_feed_23 a1 a2 a3 a4 a5)) s.2
  · refine sim_blk0 hC [(.iload 6, 0, 0, 0, 0), (.iconst 4, 0, 0, 0, 4)] [(0, vR 0), (1, vI a1), (2, vI a2), (3, vI a3), (4, vI a4), (5, vI a5), (6, vI s.1)] [vI 4, vI s.1] s.2 33 (by decide +kernel) rfl rfl ?_
    refine sim_br hC (.if_icmp .ge 7) 40 (by decide +kernel) rfl (by decide) ?_ ?_
    · refine sim_blk0 hC [(.iload 6, 0, 0, 0, 0), (.bipush 8, 0, 0, 0, 8)] [(0, vR 0), (1, vI a1), (2, vI a2), (3, vI a3), (4, vI a4), (5, vI a5), (6, vI s.1)] [vI 8, vI s.1] s.2 44 (by decide +kernel) rfl rfl ?_
      refine sim_br hC (.if_icmp .ge 7) 51 (by decide +kernel) rfl (by decide) ?_ ?_
      · refine sim_blk0 hC [(.iload 6, 0, 0, 0, 0), (.bipush 12, 0, 0, 0, 12)] [(0, vR 0), (1, vI a1), (2, vI a2), (3, vI a3), (4, vI a4), (5, vI a5), (6, vI s.1)] [vI 12, vI s.1] s.2 55 (by decide +kernel) rfl rfl ?_
        refine sim_br hC (.if_icmp .ge 7) 62 (by decide +kernel) rfl (by decide) ?_ ?_
        · refine sim_blk0 hC [(.iload 6, 0, 0, 0, 0), (.bipush 16, 0, 0, 0, 16)] [(0, vR 0), (1, vI a1), (2, vI a2), (3, vI a3), (4, vI a4), (5, vI a5), (6, vI s.1)] [vI 16, vI s.1] s.2 66 (by decide +kernel) rfl rfl ?_
          refine sim_br hC (.if_icmp .ge 8) 74 (by decide +kernel) rfl (by decide) ?_ ?_
          · refine sim_blk0 hC [(.iload 5, 0, 0, 0, 0)] [(0, vR 0), (1, vI a1), (2, vI a2), (3, vI a3), (4, vI a4), (5, vI a5), (6, vI s.1)] [vI a5] s.2 76 (by decide +kernel) rfl rfl ?_
            exact s_K_M_feed_76 hC a1 a2 a3 a4 a5 s.1 a5 s.2
          · refine sim_blk0 hC [(.iload 4, 0, 0, 0, 0)] [(0, vR 0), (1, vI a1), (2, vI a2), (3, vI a3), (4, vI a4), (5, vI a5), (6, vI s.1)] [vI a4] s.2 71 (by decide +kernel) rfl rfl ?_
            refine sim_goto hC 5 76 (by decide +kernel) (by decide) ?_
            exact s_K_M_feed_76 hC a1 a2 a3 a4 a5 s.1 a4 s.2
        · refine sim_blk0 hC [(.iload_n 3, 0, 0, 0, 0)] [(0, vR 0), (1, vI a1), (2, vI a2), (3, vI a3), (4, vI a4), (5, vI a5), (6, vI s.1)] [vI a3] s.2 59 (by decide +kernel) rfl rfl ?_
          refine sim_goto hC 17 76 (by decide +kernel) (by decide) ?_
          exact s_K_M_feed_76 hC a1 a2 a3 a4 a5 s.1 a3 s.2
      · refine sim_blk0 hC [(.iload_n 2, 0, 0, 0, 0)] [(0, vR 0), (1, vI a1), (2, vI a2), (3, vI a3), (4, vI a4), (5, vI a5), (6, vI s.1)] [vI a2] s.2 48 (by decide +kernel) rfl rfl ?_
        refine sim_goto hC 28 76 (by decide +kernel) (by decide) ?_
        exact s_K_M_feed_76 hC a1 a2 a3 a4 a5 s.1 a2 s.2
    · refine sim_blk0 hC [(.iload_n 1, 0, 0, 0, 0)] [(0, vR 0), (1, vI a1), (2, vI a2), (3, vI a3), (4, vI a4), (5, vI a5), (6, vI s.1)] [vI a1] s.2 37 (by decide +kernel) rfl rfl ?_
      refine sim_goto hC 39 76 (by decide +kernel) (by decide) ?_
      exact s_K_M_feed_76 hC a1 a2 a3 a4 a5 s.1 a1 s.2
noncomputable def F_M_feed (w : Wld) (a1 : Int32) (a2 : Int32) (a3 : Int32) (a4 : Int32) (a5 : Int32) : Option (Int32 × Wld) :=
  bw (wup w 0 2 0) (fun w1 => br (((w1 0 14) + (20 : Int32)) ≤ 700) (bl (loop (B_M_feed_23 a1 a2 a3 a4 a5) ((0, w1))) (fun r5 => some ((r5 0 14, r5)))) (some (((-1), w1))))
set_option maxRecDepth 10000 in
theorem s_M_feed {Z : ZT} {l : Launch} {o : Oc} {wo : Wld} {Ok : Cfg → Prop} (hC : Clo Z l 10 8 prog_13_method_10_code (some .int) 1 0 o wo Ok) (w : Wld) (a1 : Int32) (a2 : Int32) (a3 : Int32) (a4 : Int32) (a5 : Int32) : SimK Ok (0, [(0, vR 0), (1, vI a1), (2, vI a2), (3, vI a3), (4, vI a4), (5, vI a5)], [], w) (F_M_feed w a1 a2 a3 a4 a5) (Gi o wo) := by
  unfold F_M_feed
  refine sim_blk0 hC [(.aload_n 0, 0, 0, 0, 0), (.iconst 0, 0, 0, 0, 0), (.putfield 159, 0, 2, 0, 0)] [(0, vR 0), (1, vI a1), (2, vI a2), (3, vI a3), (4, vI a4), (5, vI a5)] [] (wup w 0 2 0) 5 (by decide +kernel) rfl rfl ?_
  refine sim_bw (C := fun w1 => (5, [(0, vR 0), (1, vI a1), (2, vI a2), (3, vI a3), (4, vI a4), (5, vI a5)], [], w1)) (fun w1 => ?_)
  refine sim_blk0 hC [(.aload_n 0, 0, 0, 0, 0), (.getfield 166, 0, 14, 0, 0), (.bipush 20, 0, 0, 0, 20), (.iadd, 0, 0, 0, 0), (.sipush 700, 0, 0, 0, 700)] [(0, vR 0), (1, vI a1), (2, vI a2), (3, vI a3), (4, vI a4), (5, vI a5)] [vI 700, vI ((w1 0 14) + (20 : Int32))] w1 15 (by decide +kernel) rfl rfl ?_
  refine sim_br hC (.if_icmp .le 5) 20 (by decide +kernel) rfl (by decide) ?_ ?_
  · refine sim_blk0 hC [(.iconst 0, 0, 0, 0, 0), (.istore 6, 0, 0, 0, 0)] [(0, vR 0), (1, vI a1), (2, vI a2), (3, vI a3), (4, vI a4), (5, vI a5), (6, vI 0)] [] w1 23 (by decide +kernel) rfl rfl ?_
    refine sim_bl (E := (E_M_feed_23 a1 a2 a3 a4 a5)) ?_ (fun r5 => ?_)
    · exact sim_loop (V := (V_M_feed_23 a1 a2 a3 a4 a5)) (fun sz => s_B_M_feed_23 hC a1 a2 a3 a4 a5 sz) ((0, w1))
    · show SimK Ok (120, [(0, vR 0)], [], r5) _ _
      refine sim_blk0 hC [(.aload_n 0, 0, 0, 0, 0), (.getfield 166, 0, 14, 0, 0)] [(0, vR 0)] [vI (r5 0 14)] r5 124 (by decide +kernel) rfl rfl ?_
      exact sim_reti hC (by decide +kernel) trivial
  · refine sim_blk0 hC [(.iconst (-1), 0, 0, 0, (-1))] [(0, vR 0), (1, vI a1), (2, vI a2), (3, vI a3), (4, vI a4), (5, vI a5)] [vI (-1)] w1 19 (by decide +kernel) rfl rfl ?_
    exact sim_reti hC (by decide +kernel) trivial
theorem c_M_feed {Z : ZT} {l : Launch} (w : Wld) (a1 : Int32) (a2 : Int32) (a3 : Int32) (a4 : Int32) (a5 : Int32) (r : Int32) (w1 : Wld) (h : F_M_feed w a1 a2 a3 a4 a5 = some (r, w1)) : Con Z l mX11_feed 1 0 [vR 0, vI a1, vI a2, vI a3, vI a4, vI a5] w (.inr (some r)) w1 :=
  Con_of (oc := 10) (by decide +kernel) rfl rfl (fun Ok hC => s_M_feed hC w a1 a2 a3 a4 a5 (r, w1) h ⟨rfl, rfl⟩)
noncomputable def K_M_byteAt_18 (t0 : Int32) (w : Wld) : Option (Int32) :=
  some t0
set_option maxRecDepth 10000 in
theorem s_K_M_byteAt_18 {Z : ZT} {l : Launch} {o : Oc} {wo : Wld} {Ok : Cfg → Prop} (hC : Clo Z l 10 2 prog_13_method_11_code (some .int) 1 0 o wo Ok) (t0 : Int32) (w : Wld) : SimK Ok (18, [], [vI t0], w) (K_M_byteAt_18 t0 w) (Gp o wo w) := by
  unfold K_M_byteAt_18
  exact sim_retp hC (by decide +kernel) trivial
noncomputable def F_M_byteAt (w : Wld) (a1 : Int32) : Option (Int32) :=
  br ((w 0 16) ≤ a1) (K_M_byteAt_18 (-1) w) (gd (vp_in a1 700) (K_M_byteAt_18 (w 13 (Int32.toNatClampNeg a1)) w))
set_option maxRecDepth 10000 in
theorem s_M_byteAt {Z : ZT} {l : Launch} {o : Oc} {wo : Wld} {Ok : Cfg → Prop} (hC : Clo Z l 10 2 prog_13_method_11_code (some .int) 1 0 o wo Ok) (w : Wld) (a1 : Int32) : SimK Ok (0, [(0, vR 0), (1, vI a1)], [], w) (F_M_byteAt w a1) (Gp o wo w) := by
  unfold F_M_byteAt
  refine sim_blk0 hC [(.iload_n 1, 0, 0, 0, 0), (.aload_n 0, 0, 0, 0, 0), (.getfield 169, 0, 16, 0, 0)] [(0, vR 0), (1, vI a1)] [vI (w 0 16), vI a1] w 5 (by decide +kernel) rfl rfl ?_
  refine sim_br hC (.if_icmp .ge 12) 17 (by decide +kernel) rfl (by decide) ?_ ?_
  · refine sim_blk0 hC [(.iconst (-1), 0, 0, 0, (-1))] [(0, vR 0), (1, vI a1)] [vI (-1)] w 18 (by decide +kernel) rfl rfl ?_
    refine sim_sub hC [] ?_
    exact s_K_M_byteAt_18 hC (-1) w
  · refine sim_blk1 hC [(.aload_n 0, 0, 0, 0, 0), (.getfield 71, 0, 13, 15, 0), (.iload_n 1, 0, 0, 0, 0), (.iaload, 13, 700, 0, 0)] [(0, vR 0), (1, vI a1)] [vI (w 13 (Int32.toNatClampNeg a1))] w 14 (by decide +kernel) rfl rfl ?_
    refine sim_goto hC 4 18 (by decide +kernel) (by decide) ?_
    refine sim_sub hC [] ?_
    exact s_K_M_byteAt_18 hC (w 13 (Int32.toNatClampNeg a1)) w
theorem c_M_byteAt {Z : ZT} {l : Launch} (w : Wld) (a1 : Int32) (r : Int32) (h : F_M_byteAt w a1 = some r) : Con Z l mX11_byteAt 1 0 [vR 0, vI a1] w (.inr (some r)) w :=
  Con_of (oc := 10) (by decide +kernel) rfl rfl (fun Ok hC => s_M_byteAt hC w a1 r h ⟨rfl, rfl⟩)
noncomputable def K_M_isLetter_17 (t0 : Int32) (w : Wld) : Option (Int32) :=
  gd (t0 = 0 ∨ t0 = 1) (some t0)
set_option maxRecDepth 10000 in
theorem s_K_M_isLetter_17 {Z : ZT} {l : Launch} {o : Oc} {wo : Wld} {Ok : Cfg → Prop} (hC : Clo Z l 10 1 prog_13_method_12_code (some .boolean) 1 0 o wo Ok) (t0 : Int32) (w : Wld) : SimK Ok (17, [], [vI t0], w) (K_M_isLetter_17 t0 w) (Gp o wo w) := by
  unfold K_M_isLetter_17
  exact sim_retpz hC (by decide +kernel) rfl
noncomputable def K_M_isLetter_16 (w : Wld) : Option (Int32) :=
  K_M_isLetter_17 0 w
set_option maxRecDepth 10000 in
theorem s_K_M_isLetter_16 {Z : ZT} {l : Launch} {o : Oc} {wo : Wld} {Ok : Cfg → Prop} (hC : Clo Z l 10 1 prog_13_method_12_code (some .boolean) 1 0 o wo Ok) (w : Wld) : SimK Ok (16, [], [], w) (K_M_isLetter_16 w) (Gp o wo w) := by
  unfold K_M_isLetter_16
  refine sim_blk0 hC [(.iconst 0, 0, 0, 0, 0)] [] [vI 0] w 17 (by decide +kernel) rfl rfl ?_
  exact s_K_M_isLetter_17 hC 0 w
noncomputable def F_M_isLetter (w : Wld) (a0 : Int32) : Option (Int32) :=
  br (a0 < 97) (K_M_isLetter_16 w) (br ((122 : Int32) < a0) (K_M_isLetter_16 w) (K_M_isLetter_17 1 w))
set_option maxRecDepth 10000 in
theorem s_M_isLetter {Z : ZT} {l : Launch} {o : Oc} {wo : Wld} {Ok : Cfg → Prop} (hC : Clo Z l 10 1 prog_13_method_12_code (some .boolean) 1 0 o wo Ok) (w : Wld) (a0 : Int32) : SimK Ok (0, [(0, vI a0)], [], w) (F_M_isLetter w a0) (Gp o wo w) := by
  unfold F_M_isLetter
  refine sim_blk0 hC [(.iload_n 0, 0, 0, 0, 0), (.bipush 97, 0, 0, 0, 97)] [(0, vI a0)] [vI 97, vI a0] w 3 (by decide +kernel) rfl rfl ?_
  refine sim_br hC (.if_icmp .lt 13) 16 (by decide +kernel) rfl (by decide) ?_ ?_
  · refine sim_sub hC [] ?_
    exact s_K_M_isLetter_16 hC w
  · refine sim_blk0 hC [(.iload_n 0, 0, 0, 0, 0), (.bipush 122, 0, 0, 0, 122)] [(0, vI a0)] [vI 122, vI a0] w 9 (by decide +kernel) rfl rfl ?_
    refine sim_br hC (.if_icmp .gt 7) 16 (by decide +kernel) rfl (by decide) ?_ ?_
    · refine sim_sub hC [] ?_
      exact s_K_M_isLetter_16 hC w
    · refine sim_blk0 hC [(.iconst 1, 0, 0, 0, 1)] [(0, vI a0)] [vI 1] w 13 (by decide +kernel) rfl rfl ?_
      refine sim_goto hC 4 17 (by decide +kernel) (by decide) ?_
      refine sim_sub hC [] ?_
      exact s_K_M_isLetter_17 hC 1 w
theorem c_M_isLetter {Z : ZT} {l : Launch} (w : Wld) (a0 : Int32) (r : Int32) (h : F_M_isLetter w a0 = some r) : Con Z l mX11_isLetter 1 0 [vI a0] w (.inr (some r)) w :=
  Con_of (oc := 10) (by decide +kernel) rfl rfl (fun Ok hC => s_M_isLetter hC w a0 r h ⟨rfl, rfl⟩)
noncomputable def K_M_isDigit_17 (t0 : Int32) (w : Wld) : Option (Int32) :=
  gd (t0 = 0 ∨ t0 = 1) (some t0)
set_option maxRecDepth 10000 in
theorem s_K_M_isDigit_17 {Z : ZT} {l : Launch} {o : Oc} {wo : Wld} {Ok : Cfg → Prop} (hC : Clo Z l 10 1 prog_13_method_13_code (some .boolean) 1 0 o wo Ok) (t0 : Int32) (w : Wld) : SimK Ok (17, [], [vI t0], w) (K_M_isDigit_17 t0 w) (Gp o wo w) := by
  unfold K_M_isDigit_17
  exact sim_retpz hC (by decide +kernel) rfl
noncomputable def K_M_isDigit_16 (w : Wld) : Option (Int32) :=
  K_M_isDigit_17 0 w
set_option maxRecDepth 10000 in
theorem s_K_M_isDigit_16 {Z : ZT} {l : Launch} {o : Oc} {wo : Wld} {Ok : Cfg → Prop} (hC : Clo Z l 10 1 prog_13_method_13_code (some .boolean) 1 0 o wo Ok) (w : Wld) : SimK Ok (16, [], [], w) (K_M_isDigit_16 w) (Gp o wo w) := by
  unfold K_M_isDigit_16
  refine sim_blk0 hC [(.iconst 0, 0, 0, 0, 0)] [] [vI 0] w 17 (by decide +kernel) rfl rfl ?_
  exact s_K_M_isDigit_17 hC 0 w
noncomputable def F_M_isDigit (w : Wld) (a0 : Int32) : Option (Int32) :=
  br (a0 < 48) (K_M_isDigit_16 w) (br ((57 : Int32) < a0) (K_M_isDigit_16 w) (K_M_isDigit_17 1 w))
set_option maxRecDepth 10000 in
theorem s_M_isDigit {Z : ZT} {l : Launch} {o : Oc} {wo : Wld} {Ok : Cfg → Prop} (hC : Clo Z l 10 1 prog_13_method_13_code (some .boolean) 1 0 o wo Ok) (w : Wld) (a0 : Int32) : SimK Ok (0, [(0, vI a0)], [], w) (F_M_isDigit w a0) (Gp o wo w) := by
  unfold F_M_isDigit
  refine sim_blk0 hC [(.iload_n 0, 0, 0, 0, 0), (.bipush 48, 0, 0, 0, 48)] [(0, vI a0)] [vI 48, vI a0] w 3 (by decide +kernel) rfl rfl ?_
  refine sim_br hC (.if_icmp .lt 13) 16 (by decide +kernel) rfl (by decide) ?_ ?_
  · refine sim_sub hC [] ?_
    exact s_K_M_isDigit_16 hC w
  · refine sim_blk0 hC [(.iload_n 0, 0, 0, 0, 0), (.bipush 57, 0, 0, 0, 57)] [(0, vI a0)] [vI 57, vI a0] w 9 (by decide +kernel) rfl rfl ?_
    refine sim_br hC (.if_icmp .gt 7) 16 (by decide +kernel) rfl (by decide) ?_ ?_
    · refine sim_sub hC [] ?_
      exact s_K_M_isDigit_16 hC w
    · refine sim_blk0 hC [(.iconst 1, 0, 0, 0, 1)] [(0, vI a0)] [vI 1] w 13 (by decide +kernel) rfl rfl ?_
      refine sim_goto hC 4 17 (by decide +kernel) (by decide) ?_
      refine sim_sub hC [] ?_
      exact s_K_M_isDigit_17 hC 1 w
theorem c_M_isDigit {Z : ZT} {l : Launch} (w : Wld) (a0 : Int32) (r : Int32) (h : F_M_isDigit w a0 = some r) : Con Z l mX11_isDigit 1 0 [vI a0] w (.inr (some r)) w :=
  Con_of (oc := 10) (by decide +kernel) rfl rfl (fun Ok hC => s_M_isDigit hC w a0 r h ⟨rfl, rfl⟩)
noncomputable def K_M_isMark_59 (t0 : Int32) (w : Wld) : Option (Int32) :=
  gd (t0 = 0 ∨ t0 = 1) (some t0)
set_option maxRecDepth 10000 in
theorem s_K_M_isMark_59 {Z : ZT} {l : Launch} {o : Oc} {wo : Wld} {Ok : Cfg → Prop} (hC : Clo Z l 10 1 prog_13_method_14_code (some .boolean) 1 0 o wo Ok) (t0 : Int32) (w : Wld) : SimK Ok (59, [], [vI t0], w) (K_M_isMark_59 t0 w) (Gp o wo w) := by
  unfold K_M_isMark_59
  exact sim_retpz hC (by decide +kernel) rfl
noncomputable def K_M_isMark_54 (w : Wld) : Option (Int32) :=
  K_M_isMark_59 1 w
set_option maxRecDepth 10000 in
theorem s_K_M_isMark_54 {Z : ZT} {l : Launch} {o : Oc} {wo : Wld} {Ok : Cfg → Prop} (hC : Clo Z l 10 1 prog_13_method_14_code (some .boolean) 1 0 o wo Ok) (w : Wld) : SimK Ok (54, [], [], w) (K_M_isMark_54 w) (Gp o wo w) := by
  unfold K_M_isMark_54
  refine sim_blk0 hC [(.iconst 1, 0, 0, 0, 1)] [] [vI 1] w 55 (by decide +kernel) rfl rfl ?_
  refine sim_goto hC 4 59 (by decide +kernel) (by decide) ?_
  exact s_K_M_isMark_59 hC 1 w
noncomputable def F_M_isMark (w : Wld) (a0 : Int32) : Option (Int32) :=
  br (a0 = 59) (K_M_isMark_54 w) (br (a0 = 40) (K_M_isMark_54 w) (br (a0 = 41) (K_M_isMark_54 w) (br (a0 = 43) (K_M_isMark_54 w) (br (a0 = 45) (K_M_isMark_54 w) (br (a0 = 42) (K_M_isMark_54 w) (br (a0 = 47) (K_M_isMark_54 w) (br (a0 = 60) (K_M_isMark_54 w) (br (¬ a0 = 61) (K_M_isMark_59 0 w) (K_M_isMark_54 w)))))))))
set_option maxRecDepth 10000 in
theorem s_M_isMark {Z : ZT} {l : Launch} {o : Oc} {wo : Wld} {Ok : Cfg → Prop} (hC : Clo Z l 10 1 prog_13_method_14_code (some .boolean) 1 0 o wo Ok) (w : Wld) (a0 : Int32) : SimK Ok (0, [(0, vI a0)], [], w) (F_M_isMark w a0) (Gp o wo w) := by
  unfold F_M_isMark
  refine sim_blk0 hC [(.iload_n 0, 0, 0, 0, 0), (.bipush 59, 0, 0, 0, 59)] [(0, vI a0)] [vI 59, vI a0] w 3 (by decide +kernel) rfl rfl ?_
  refine sim_br hC (.if_icmp .eq 51) 54 (by decide +kernel) rfl (by decide) ?_ ?_
  · refine sim_sub hC [] ?_
    exact s_K_M_isMark_54 hC w
  · refine sim_blk0 hC [(.iload_n 0, 0, 0, 0, 0), (.bipush 40, 0, 0, 0, 40)] [(0, vI a0)] [vI 40, vI a0] w 9 (by decide +kernel) rfl rfl ?_
    refine sim_br hC (.if_icmp .eq 45) 54 (by decide +kernel) rfl (by decide) ?_ ?_
    · refine sim_sub hC [] ?_
      exact s_K_M_isMark_54 hC w
    · refine sim_blk0 hC [(.iload_n 0, 0, 0, 0, 0), (.bipush 41, 0, 0, 0, 41)] [(0, vI a0)] [vI 41, vI a0] w 15 (by decide +kernel) rfl rfl ?_
      refine sim_br hC (.if_icmp .eq 39) 54 (by decide +kernel) rfl (by decide) ?_ ?_
      · refine sim_sub hC [] ?_
        exact s_K_M_isMark_54 hC w
      · refine sim_blk0 hC [(.iload_n 0, 0, 0, 0, 0), (.bipush 43, 0, 0, 0, 43)] [(0, vI a0)] [vI 43, vI a0] w 21 (by decide +kernel) rfl rfl ?_
        refine sim_br hC (.if_icmp .eq 33) 54 (by decide +kernel) rfl (by decide) ?_ ?_
        · refine sim_sub hC [] ?_
          exact s_K_M_isMark_54 hC w
        · refine sim_blk0 hC [(.iload_n 0, 0, 0, 0, 0), (.bipush 45, 0, 0, 0, 45)] [(0, vI a0)] [vI 45, vI a0] w 27 (by decide +kernel) rfl rfl ?_
          refine sim_br hC (.if_icmp .eq 27) 54 (by decide +kernel) rfl (by decide) ?_ ?_
          · refine sim_sub hC [] ?_
            exact s_K_M_isMark_54 hC w
          · refine sim_blk0 hC [(.iload_n 0, 0, 0, 0, 0), (.bipush 42, 0, 0, 0, 42)] [(0, vI a0)] [vI 42, vI a0] w 33 (by decide +kernel) rfl rfl ?_
            refine sim_br hC (.if_icmp .eq 21) 54 (by decide +kernel) rfl (by decide) ?_ ?_
            · refine sim_sub hC [] ?_
              exact s_K_M_isMark_54 hC w
            · refine sim_blk0 hC [(.iload_n 0, 0, 0, 0, 0), (.bipush 47, 0, 0, 0, 47)] [(0, vI a0)] [vI 47, vI a0] w 39 (by decide +kernel) rfl rfl ?_
              refine sim_br hC (.if_icmp .eq 15) 54 (by decide +kernel) rfl (by decide) ?_ ?_
              · refine sim_sub hC [] ?_
                exact s_K_M_isMark_54 hC w
              · refine sim_blk0 hC [(.iload_n 0, 0, 0, 0, 0), (.bipush 60, 0, 0, 0, 60)] [(0, vI a0)] [vI 60, vI a0] w 45 (by decide +kernel) rfl rfl ?_
                refine sim_br hC (.if_icmp .eq 9) 54 (by decide +kernel) rfl (by decide) ?_ ?_
                · refine sim_sub hC [] ?_
                  exact s_K_M_isMark_54 hC w
                · refine sim_blk0 hC [(.iload_n 0, 0, 0, 0, 0), (.bipush 61, 0, 0, 0, 61)] [(0, vI a0)] [vI 61, vI a0] w 51 (by decide +kernel) rfl rfl ?_
                  refine sim_br hC (.if_icmp .ne 7) 58 (by decide +kernel) rfl (by decide) ?_ ?_
                  · refine sim_blk0 hC [(.iconst 0, 0, 0, 0, 0)] [(0, vI a0)] [vI 0] w 59 (by decide +kernel) rfl rfl ?_
                    refine sim_sub hC [] ?_
                    exact s_K_M_isMark_59 hC 0 w
                  · refine sim_sub hC [] ?_
                    exact s_K_M_isMark_54 hC w
theorem c_M_isMark {Z : ZT} {l : Launch} (w : Wld) (a0 : Int32) (r : Int32) (h : F_M_isMark w a0 = some r) : Con Z l mX11_isMark 1 0 [vI a0] w (.inr (some r)) w :=
  Con_of (oc := 10) (by decide +kernel) rfl rfl (fun Ok hC => s_M_isMark hC w a0 r h ⟨rfl, rfl⟩)
def V_M_stepOn_0 : (Wld) → Cfg := fun s => (0, [(0, vR 0)], [], s)
def E_M_stepOn_0 : (Wld) → Cfg := fun s => (39, [(0, vR 0)], [], s)
noncomputable def K_M_stepOn_26 (w : Wld) : Option ((Wld) ⊕ (Wld)) :=
  bw (wup w 0 15 ((w 0 15) + (1 : Int32))) (fun w2 => some (.inl w2))
set_option maxRecDepth 10000 in
theorem s_K_M_stepOn_26 {Z : ZT} {l : Launch} {o : Oc} {wo : Wld} {Ok : Cfg → Prop} (hC : Clo Z l 10 2 prog_13_method_15_code none 2 21 o wo Ok) (w : Wld) : SimK Ok (26, [(0, vR 0)], [], w) (K_M_stepOn_26 w) (GLp Ok (V_M_stepOn_0) (GEp Ok (E_M_stepOn_0))) := by
  unfold K_M_stepOn_26
  refine sim_blk0 hC [(.aload_n 0, 0, 0, 0, 0), (.dup, 0, 0, 0, 0), (.getfield 172, 0, 15, 0, 0), (.iconst 1, 0, 0, 0, 1), (.iadd, 0, 0, 0, 0), (.putfield 172, 0, 15, 0, 0)] [(0, vR 0)] [] (wup w 0 15 ((w 0 15) + (1 : Int32))) 36 (by decide +kernel) rfl rfl ?_
  refine sim_bw (C := fun w2 => (36, [(0, vR 0)], [], w2)) (fun w2 => ?_)
  refine sim_goto hC (-36) 0 (by decide +kernel) (by decide) ?_
  exact sim_back (V := (V_M_stepOn_0)) w2
noncomputable def B_M_stepOn_0 (s : Wld) : Option ((Wld) ⊕ (Wld)) :=
  bp (F_M_byteAt s (s 0 15)) (fun i1 => br (i1 = 32) (K_M_stepOn_26 s) (bp (F_M_byteAt s (s 0 15)) (fun i3 => br (¬ i3 = 10) (some (.inr s)) (K_M_stepOn_26 s))))
set_option maxRecDepth 10000 in
theorem s_B_M_stepOn_0 {Z : ZT} {l : Launch} {o : Oc} {wo : Wld} {Ok : Cfg → Prop} (hC : Clo Z l 10 2 prog_13_method_15_code none 2 21 o wo Ok) (s : Wld) : SimK Ok (V_M_stepOn_0 s) (B_M_stepOn_0 s) (GLp Ok (V_M_stepOn_0) (GEp Ok (E_M_stepOn_0))) := by
  unfold B_M_stepOn_0
  show SimK Ok (0, [(0, vR 0)], [], s) _ _
  refine sim_blk0 hC [(.aload_n 0, 0, 0, 0, 0), (.aload_n 0, 0, 0, 0, 0), (.getfield 172, 0, 15, 0, 0)] [(0, vR 0)] [vI (s 0 15), vR 0] s 5 (by decide +kernel) rfl rfl ?_
  refine sim_vp hC 175 mX11_byteAt 1 0 0 [vI (s 0 15)] [] (by decide +kernel) ml_10_175 rfl rfl rfl rfl rfl rfl (fun rz hz => c_M_byteAt s (s 0 15) rz hz) (fun i1 => ?_)
  refine sim_blk0 hC [(.bipush 32, 0, 0, 0, 32)] [(0, vR 0)] [vI 32, vI i1] s 10 (by decide +kernel) rfl rfl ?_
  refine sim_br hC (.if_icmp .eq 16) 26 (by decide +kernel) rfl (by decide) ?_ ?_
  · exact s_K_M_stepOn_26 hC s
  · refine sim_blk0 hC [(.aload_n 0, 0, 0, 0, 0), (.aload_n 0, 0, 0, 0, 0), (.getfield 172, 0, 15, 0, 0)] [(0, vR 0)] [vI (s 0 15), vR 0] s 18 (by decide +kernel) rfl rfl ?_
    refine sim_vp hC 175 mX11_byteAt 1 0 0 [vI (s 0 15)] [] (by decide +kernel) ml_10_175 rfl rfl rfl rfl rfl rfl (fun rz hz => c_M_byteAt s (s 0 15) rz hz) (fun i3 => ?_)
    refine sim_blk0 hC [(.bipush 10, 0, 0, 0, 10)] [(0, vR 0)] [vI 10, vI i3] s 23 (by decide +kernel) rfl rfl ?_
    refine sim_br hC (.if_icmp .ne 16) 39 (by decide +kernel) rfl (by decide) ?_ ?_
    · exact sim_exit (E := (E_M_stepOn_0)) s
    · exact s_K_M_stepOn_26 hC s
noncomputable def K_M_stepOn_212 (w : Wld) : Option (Wld) :=
  bw (wup w 0 20 (w 0 15)) (fun w12 => some w12)
set_option maxRecDepth 10000 in
theorem s_K_M_stepOn_212 {Z : ZT} {l : Launch} {o : Oc} {wo : Wld} {Ok : Cfg → Prop} (hC : Clo Z l 10 2 prog_13_method_15_code none 2 21 o wo Ok) (w : Wld) : SimK Ok (212, [(0, vR 0)], [], w) (K_M_stepOn_212 w) (Gv o wo) := by
  unfold K_M_stepOn_212
  refine sim_blk0 hC [(.aload_n 0, 0, 0, 0, 0), (.aload_n 0, 0, 0, 0, 0), (.getfield 172, 0, 15, 0, 0), (.putfield 205, 0, 20, 0, 0)] [(0, vR 0)] [] (wup w 0 20 (w 0 15)) 220 (by decide +kernel) rfl rfl ?_
  refine sim_bw (C := fun w12 => (220, [(0, vR 0)], [], w12)) (fun w12 => ?_)
  exact sim_retv hC (by decide +kernel)
noncomputable def K_M_stepOn_209 (t1 : Int32) (w : Wld) : Option (Wld) :=
  bw (wup w 0 17 t1) (fun w11 => K_M_stepOn_212 w11)
set_option maxRecDepth 10000 in
theorem s_K_M_stepOn_209 {Z : ZT} {l : Launch} {o : Oc} {wo : Wld} {Ok : Cfg → Prop} (hC : Clo Z l 10 2 prog_13_method_15_code none 2 21 o wo Ok) (t1 : Int32) (w : Wld) : SimK Ok (209, [(0, vR 0)], [vI t1, vR 0], w) (K_M_stepOn_209 t1 w) (Gv o wo) := by
  unfold K_M_stepOn_209
  refine sim_blk0 hC [(.putfield 182, 0, 17, 0, 0)] [(0, vR 0)] [] (wup w 0 17 t1) 212 (by decide +kernel) rfl rfl ?_
  refine sim_bw (C := fun w11 => (212, [(0, vR 0)], [], w11)) (fun w11 => ?_)
  exact s_K_M_stepOn_212 hC w11
def V_M_stepOn_123 : (Wld) → Cfg := fun s => (123, [(0, vR 0)], [], s)
def E_M_stepOn_123 : (Wld) → Cfg := fun s => (178, [(0, vR 0)], [], s)
noncomputable def B_M_stepOn_123 (s : Wld) : Option ((Wld) ⊕ (Wld)) :=
  bp (F_M_byteAt s (s 0 15)) (fun i14 => bp (F_M_isDigit s i14) (fun i15 => br (i15 = 0) (some (.inr s)) (bp (F_M_byteAt s (s 0 15)) (fun i16 => bw (wup s 0 18 (imin 100000 ((((10 : Int32) * (s 0 18)) + i16) - (48 : Int32)))) (fun w17 => bw (wup w17 0 15 ((w17 0 15) + (1 : Int32))) (fun w18 => some (.inl w18)))))))
set_option maxRecDepth 10000 in
theorem s_B_M_stepOn_123 {Z : ZT} {l : Launch} {o : Oc} {wo : Wld} {Ok : Cfg → Prop} (hC : Clo Z l 10 2 prog_13_method_15_code none 2 21 o wo Ok) (s : Wld) : SimK Ok (V_M_stepOn_123 s) (B_M_stepOn_123 s) (GLp Ok (V_M_stepOn_123) (GEp Ok (E_M_stepOn_123))) := by
  unfold B_M_stepOn_123
  show SimK Ok (123, [(0, vR 0)], [], s) _ _
  refine sim_blk0 hC [(.aload_n 0, 0, 0, 0, 0), (.aload_n 0, 0, 0, 0, 0), (.getfield 172, 0, 15, 0, 0)] [(0, vR 0)] [vI (s 0 15), vR 0] s 128 (by decide +kernel) rfl rfl ?_
  refine sim_vp hC 175 mX11_byteAt 1 0 0 [vI (s 0 15)] [] (by decide +kernel) ml_10_175 rfl rfl rfl rfl rfl rfl (fun rz hz => c_M_byteAt s (s 0 15) rz hz) (fun i14 => ?_)
  refine sim_sp hC 189 mX11_isDigit 1 0 [vI i14] [] (by decide +kernel) ml_10_189 rfl rfl rfl rfl rfl (fun rz hz => c_M_isDigit s i14 rz hz) (fun i15 => ?_)
  refine sim_br hC (.ifCond .eq 44) 178 (by decide +kernel) rfl (by decide) ?_ ?_
  · exact sim_exit (E := (E_M_stepOn_123)) s
  · refine sim_blk0 hC [(.aload_n 0, 0, 0, 0, 0), (.ldc 195, 0, 0, 0, 100000), (.bipush 10, 0, 0, 0, 10), (.aload_n 0, 0, 0, 0, 0), (.getfield 192, 0, 18, 0, 0), (.imul, 0, 0, 0, 0), (.aload_n 0, 0, 0, 0, 0), (.aload_n 0, 0, 0, 0, 0), (.getfield 172, 0, 15, 0, 0)] [(0, vR 0)] [vI (s 0 15), vR 0, vI ((10 : Int32) * (s 0 18)), vI 100000, vR 0] s 152 (by decide +kernel) rfl rfl ?_
    refine sim_vp hC 175 mX11_byteAt 1 0 0 [vI (s 0 15)] [vI ((10 : Int32) * (s 0 18)), vI 100000, vR 0] (by decide +kernel) ml_10_175 rfl rfl rfl rfl rfl rfl (fun rz hz => c_M_byteAt s (s 0 15) rz hz) (fun i16 => ?_)
    refine sim_blk0 hC [(.iadd, 0, 0, 0, 0), (.bipush 48, 0, 0, 0, 48), (.isub, 0, 0, 0, 0)] [(0, vR 0)] [vI ((((10 : Int32) * (s 0 18)) + i16) - (48 : Int32)), vI 100000, vR 0] s 159 (by decide +kernel) rfl rfl ?_
    refine sim_min hC 196 (by decide +kernel) ml_10_196 rfl rfl rfl ?_
    refine sim_blk0 hC [(.putfield 192, 0, 18, 0, 0)] [(0, vR 0)] [] (wup s 0 18 (imin 100000 ((((10 : Int32) * (s 0 18)) + i16) - (48 : Int32)))) 165 (by decide +kernel) rfl rfl ?_
    refine sim_bw (C := fun w17 => (165, [(0, vR 0)], [], w17)) (fun w17 => ?_)
    refine sim_blk0 hC [(.aload_n 0, 0, 0, 0, 0), (.dup, 0, 0, 0, 0), (.getfield 172, 0, 15, 0, 0), (.iconst 1, 0, 0, 0, 1), (.iadd, 0, 0, 0, 0), (.putfield 172, 0, 15, 0, 0)] [(0, vR 0)] [] (wup w17 0 15 ((w17 0 15) + (1 : Int32))) 175 (by decide +kernel) rfl rfl ?_
    refine sim_bw (C := fun w18 => (175, [(0, vR 0)], [], w18)) (fun w18 => ?_)
    refine sim_goto hC (-52) 123 (by decide +kernel) (by decide) ?_
    exact sim_back (V := (V_M_stepOn_123)) w18
def V_M_stepOn_76 : (Wld) → Cfg := fun s => (76, [(0, vR 0)], [], s)
def E_M_stepOn_76 : (Wld) → Cfg := fun s => (103, [(0, vR 0)], [], s)
noncomputable def B_M_stepOn_76 (s : Wld) : Option ((Wld) ⊕ (Wld)) :=
  bp (F_M_byteAt s (s 0 15)) (fun i21 => bp (F_M_isLetter s i21) (fun i22 => br (i22 = 0) (some (.inr s)) (bw (wup s 0 15 ((s 0 15) + (1 : Int32))) (fun w23 => some (.inl w23)))))
set_option maxRecDepth 10000 in
theorem s_B_M_stepOn_76 {Z : ZT} {l : Launch} {o : Oc} {wo : Wld} {Ok : Cfg → Prop} (hC : Clo Z l 10 2 prog_13_method_15_code none 2 21 o wo Ok) (s : Wld) : SimK Ok (V_M_stepOn_76 s) (B_M_stepOn_76 s) (GLp Ok (V_M_stepOn_76) (GEp Ok (E_M_stepOn_76))) := by
  unfold B_M_stepOn_76
  show SimK Ok (76, [(0, vR 0)], [], s) _ _
  refine sim_blk0 hC [(.aload_n 0, 0, 0, 0, 0), (.aload_n 0, 0, 0, 0, 0), (.getfield 172, 0, 15, 0, 0)] [(0, vR 0)] [vI (s 0 15), vR 0] s 81 (by decide +kernel) rfl rfl ?_
  refine sim_vp hC 175 mX11_byteAt 1 0 0 [vI (s 0 15)] [] (by decide +kernel) ml_10_175 rfl rfl rfl rfl rfl rfl (fun rz hz => c_M_byteAt s (s 0 15) rz hz) (fun i21 => ?_)
  refine sim_sp hC 185 mX11_isLetter 1 0 [vI i21] [] (by decide +kernel) ml_10_185 rfl rfl rfl rfl rfl (fun rz hz => c_M_isLetter s i21 rz hz) (fun i22 => ?_)
  refine sim_br hC (.ifCond .eq 16) 103 (by decide +kernel) rfl (by decide) ?_ ?_
  · exact sim_exit (E := (E_M_stepOn_76)) s
  · refine sim_blk0 hC [(.aload_n 0, 0, 0, 0, 0), (.dup, 0, 0, 0, 0), (.getfield 172, 0, 15, 0, 0), (.iconst 1, 0, 0, 0, 1), (.iadd, 0, 0, 0, 0), (.putfield 172, 0, 15, 0, 0)] [(0, vR 0)] [] (wup s 0 15 ((s 0 15) + (1 : Int32))) 100 (by decide +kernel) rfl rfl ?_
    refine sim_bw (C := fun w23 => (100, [(0, vR 0)], [], w23)) (fun w23 => ?_)
    refine sim_goto hC (-24) 76 (by decide +kernel) (by decide) ?_
    exact sim_back (V := (V_M_stepOn_76)) w23
noncomputable def F_M_stepOn (w : Wld) : Option (Wld) :=
  bl (loop (B_M_stepOn_0) w) (fun r4 => bw (wup r4 0 19 (r4 0 15)) (fun w5 => bp (F_M_byteAt w5 (w5 0 15)) (fun i6 => br (¬ i6 = (-1)) (bp (F_M_isLetter w5 i6) (fun i7 => br (i7 = 0) (bp (F_M_isDigit w5 i6) (fun i8 => br (i8 = 0) (bw (wup w5 0 15 ((w5 0 15) + (1 : Int32))) (fun w9 => bp (F_M_isMark w9 i6) (fun i10 => br (i10 = 0) (K_M_stepOn_209 4 w9) (K_M_stepOn_209 3 w9)))) (bw (wup w5 0 18 0) (fun w13 => bl (loop (B_M_stepOn_123) w13) (fun r19 => bw (wup r19 0 17 2) (fun w20 => K_M_stepOn_212 w20)))))) (bl (loop (B_M_stepOn_76) w5) (fun r24 => bw (wup r24 0 17 1) (fun w25 => K_M_stepOn_212 w25))))) (bw (wup w5 0 17 0) (fun w26 => K_M_stepOn_212 w26)))))
set_option maxRecDepth 10000 in
theorem s_M_stepOn {Z : ZT} {l : Launch} {o : Oc} {wo : Wld} {Ok : Cfg → Prop} (hC : Clo Z l 10 2 prog_13_method_15_code none 2 21 o wo Ok) (w : Wld) : SimK Ok (0, [(0, vR 0)], [], w) (F_M_stepOn w) (Gv o wo) := by
  unfold F_M_stepOn
  refine sim_bl (E := (E_M_stepOn_0)) ?_ (fun r4 => ?_)
  · exact sim_loop (V := (V_M_stepOn_0)) (fun sz => s_B_M_stepOn_0 hC sz) w
  · show SimK Ok (39, [(0, vR 0)], [], r4) _ _
    refine sim_blk0 hC [(.aload_n 0, 0, 0, 0, 0), (.aload_n 0, 0, 0, 0, 0), (.getfield 172, 0, 15, 0, 0), (.putfield 179, 0, 19, 0, 0)] [(0, vR 0)] [] (wup r4 0 19 (r4 0 15)) 47 (by decide +kernel) rfl rfl ?_
    refine sim_bw (C := fun w5 => (47, [(0, vR 0)], [], w5)) (fun w5 => ?_)
    refine sim_blk0 hC [(.aload_n 0, 0, 0, 0, 0), (.aload_n 0, 0, 0, 0, 0), (.getfield 172, 0, 15, 0, 0)] [(0, vR 0)] [vI (w5 0 15), vR 0] w5 52 (by decide +kernel) rfl rfl ?_
    refine sim_vp hC 175 mX11_byteAt 1 0 0 [vI (w5 0 15)] [] (by decide +kernel) ml_10_175 rfl rfl rfl rfl rfl rfl (fun rz hz => c_M_byteAt w5 (w5 0 15) rz hz) (fun i6 => ?_)
    refine sim_blk0 hC [(.istore_n 1, 0, 0, 0, 0), (.iload_n 1, 0, 0, 0, 0), (.iconst (-1), 0, 0, 0, (-1))] [(0, vR 0), (1, vI i6)] [vI (-1), vI i6] w5 58 (by decide +kernel) rfl rfl ?_
    refine sim_br hC (.if_icmp .ne 11) 69 (by decide +kernel) rfl (by decide) ?_ ?_
    · refine sim_blk0 hC [(.iload_n 1, 0, 0, 0, 0)] [(0, vR 0), (1, vI i6)] [vI i6] w5 70 (by decide +kernel) rfl rfl ?_
      refine sim_sp hC 185 mX11_isLetter 1 0 [vI i6] [] (by decide +kernel) ml_10_185 rfl rfl rfl rfl rfl (fun rz hz => c_M_isLetter w5 i6 rz hz) (fun i7 => ?_)
      refine sim_br hC (.ifCond .eq 38) 111 (by decide +kernel) rfl (by decide) ?_ ?_
      · refine sim_blk0 hC [(.iload_n 1, 0, 0, 0, 0)] [(0, vR 0), (1, vI i6)] [vI i6] w5 112 (by decide +kernel) rfl rfl ?_
        refine sim_sp hC 189 mX11_isDigit 1 0 [vI i6] [] (by decide +kernel) ml_10_189 rfl rfl rfl rfl rfl (fun rz hz => c_M_isDigit w5 i6 rz hz) (fun i8 => ?_)
        refine sim_br hC (.ifCond .eq 71) 186 (by decide +kernel) rfl (by decide) ?_ ?_
        · refine sim_blk0 hC [(.aload_n 0, 0, 0, 0, 0), (.dup, 0, 0, 0, 0), (.getfield 172, 0, 15, 0, 0), (.iconst 1, 0, 0, 0, 1), (.iadd, 0, 0, 0, 0), (.putfield 172, 0, 15, 0, 0)] [(0, vR 0), (1, vI i6)] [] (wup w5 0 15 ((w5 0 15) + (1 : Int32))) 196 (by decide +kernel) rfl rfl ?_
          refine sim_bw (C := fun w9 => (196, [(0, vR 0), (1, vI i6)], [], w9)) (fun w9 => ?_)
          refine sim_blk0 hC [(.aload_n 0, 0, 0, 0, 0), (.iload_n 1, 0, 0, 0, 0)] [(0, vR 0), (1, vI i6)] [vI i6, vR 0] w9 198 (by decide +kernel) rfl rfl ?_
          refine sim_sp hC 202 mX11_isMark 1 0 [vI i6] [vR 0] (by decide +kernel) ml_10_202 rfl rfl rfl rfl rfl (fun rz hz => c_M_isMark w9 i6 rz hz) (fun i10 => ?_)
          refine sim_br hC (.ifCond .eq 7) 208 (by decide +kernel) rfl (by decide) ?_ ?_
          · refine sim_blk0 hC [(.iconst 4, 0, 0, 0, 4)] [(0, vR 0), (1, vI i6)] [vI 4, vR 0] w9 209 (by decide +kernel) rfl rfl ?_
            refine sim_sub hC [0] ?_
            exact s_K_M_stepOn_209 hC 4 w9
          · refine sim_blk0 hC [(.iconst 3, 0, 0, 0, 3)] [(0, vR 0), (1, vI i6)] [vI 3, vR 0] w9 205 (by decide +kernel) rfl rfl ?_
            refine sim_goto hC 4 209 (by decide +kernel) (by decide) ?_
            refine sim_sub hC [0] ?_
            exact s_K_M_stepOn_209 hC 3 w9
        · refine sim_blk0 hC [(.aload_n 0, 0, 0, 0, 0), (.iconst 0, 0, 0, 0, 0), (.putfield 192, 0, 18, 0, 0)] [(0, vR 0), (1, vI i6)] [] (wup w5 0 18 0) 123 (by decide +kernel) rfl rfl ?_
          refine sim_bw (C := fun w13 => (123, [(0, vR 0), (1, vI i6)], [], w13)) (fun w13 => ?_)
          refine sim_bl (E := (E_M_stepOn_123)) ?_ (fun r19 => ?_)
          · refine sim_sub hC [0] ?_
            exact sim_loop (V := (V_M_stepOn_123)) (fun sz => s_B_M_stepOn_123 hC sz) w13
          · show SimK Ok (178, [(0, vR 0)], [], r19) _ _
            refine sim_blk0 hC [(.aload_n 0, 0, 0, 0, 0), (.iconst 2, 0, 0, 0, 2), (.putfield 182, 0, 17, 0, 0)] [(0, vR 0)] [] (wup r19 0 17 2) 183 (by decide +kernel) rfl rfl ?_
            refine sim_bw (C := fun w20 => (183, [(0, vR 0)], [], w20)) (fun w20 => ?_)
            refine sim_goto hC 29 212 (by decide +kernel) (by decide) ?_
            exact s_K_M_stepOn_212 hC w20
      · refine sim_bl (E := (E_M_stepOn_76)) ?_ (fun r24 => ?_)
        · refine sim_sub hC [0] ?_
          exact sim_loop (V := (V_M_stepOn_76)) (fun sz => s_B_M_stepOn_76 hC sz) w5
        · show SimK Ok (103, [(0, vR 0)], [], r24) _ _
          refine sim_blk0 hC [(.aload_n 0, 0, 0, 0, 0), (.iconst 1, 0, 0, 0, 1), (.putfield 182, 0, 17, 0, 0)] [(0, vR 0)] [] (wup r24 0 17 1) 108 (by decide +kernel) rfl rfl ?_
          refine sim_bw (C := fun w25 => (108, [(0, vR 0)], [], w25)) (fun w25 => ?_)
          refine sim_goto hC 104 212 (by decide +kernel) (by decide) ?_
          exact s_K_M_stepOn_212 hC w25
    · refine sim_blk0 hC [(.aload_n 0, 0, 0, 0, 0), (.iconst 0, 0, 0, 0, 0), (.putfield 182, 0, 17, 0, 0)] [(0, vR 0), (1, vI i6)] [] (wup w5 0 17 0) 66 (by decide +kernel) rfl rfl ?_
      refine sim_bw (C := fun w26 => (66, [(0, vR 0), (1, vI i6)], [], w26)) (fun w26 => ?_)
      refine sim_goto hC 146 212 (by decide +kernel) (by decide) ?_
      refine sim_sub hC [0] ?_
      exact s_K_M_stepOn_212 hC w26
theorem c_M_stepOn {Z : ZT} {l : Launch} (w : Wld) (w1 : Wld) (h : F_M_stepOn w = some w1) : Con Z l mX11_stepOn 2 21 [vR 0] w (.inr none) w1 :=
  Con_of (oc := 10) (by decide +kernel) rfl rfl (fun Ok hC => s_M_stepOn hC w w1 h ⟨rfl, rfl⟩)
def V_M_takeHalf_3_2 : (Int32 × Wld) → Cfg := fun s => (2, [(0, vR 3), (1, vI s.1)], [], s.2)
def E_M_takeHalf_3_2 : (Wld) → Cfg := fun s => (27, [], [], s)
noncomputable def B_M_takeHalf_3_2 (s : Int32 × Wld) : Option ((Int32 × Wld) ⊕ (Wld)) :=
  gd (¬ (2 : Int32) = 0) (br (((10 : Int32) / (2 : Int32)) ≤ s.1) (some (.inr s.2)) (gd (¬ (2 : Int32) = 0) (gd (vp_in (((10 : Int32) / (2 : Int32)) + s.1) 10) (gd (vp_in s.1 10) (bw (wup s.2 3 (Int32.toNatClampNeg s.1) (s.2 3 (Int32.toNatClampNeg (((10 : Int32) / (2 : Int32)) + s.1)))) (fun w1 => bi (s.1 + 1) (fun i2 => some (.inl ((i2, w1))))))))))
set_option maxRecDepth 10000 in
theorem s_B_M_takeHalf_3_2 {Z : ZT} {l : Launch} {o : Oc} {wo : Wld} {Ok : Cfg → Prop} (hC : Clo Z l 10 2 prog_13_method_35_code none 1 0 o wo Ok) (s : Int32 × Wld) : SimK Ok (V_M_takeHalf_3_2 s) (B_M_takeHalf_3_2 s) (GLp Ok (V_M_takeHalf_3_2) (GEp Ok (E_M_takeHalf_3_2))) := by
  unfold B_M_takeHalf_3_2
  show SimK Ok (2, [(0, vR 3), (1, vI s.1)], [], s.2) _ _
  refine sim_blk1 hC [(.iload_n 1, 0, 0, 0, 0), (.aload_n 0, 0, 0, 0, 0), (.arraylength, 3, 10, 0, 10), (.iconst 2, 0, 0, 0, 2), (.idiv, 0, 0, 0, 0)] [(0, vR 3), (1, vI s.1)] [vI ((10 : Int32) / (2 : Int32)), vI s.1] s.2 7 (by decide +kernel) rfl rfl ?_
  refine sim_br hC (.if_icmp .ge 20) 27 (by decide +kernel) rfl (by decide) ?_ ?_
  · refine sim_sub hC [] ?_
    exact sim_exit (E := (E_M_takeHalf_3_2)) s.2
  · refine sim_blk3 hC [(.aload_n 0, 0, 0, 0, 0), (.iload_n 1, 0, 0, 0, 0), (.aload_n 0, 0, 0, 0, 0), (.aload_n 0, 0, 0, 0, 0), (.arraylength, 3, 10, 0, 10), (.iconst 2, 0, 0, 0, 2), (.idiv, 0, 0, 0, 0), (.iload_n 1, 0, 0, 0, 0), (.iadd, 0, 0, 0, 0), (.iaload, 3, 10, 0, 0), (.iastore, 3, 10, 0, 0)] [(0, vR 3), (1, vI s.1)] [] (wup s.2 3 (Int32.toNatClampNeg s.1) (s.2 3 (Int32.toNatClampNeg (((10 : Int32) / (2 : Int32)) + s.1)))) 21 (by decide +kernel) rfl rfl ?_
    refine sim_bw (C := fun w1 => (21, [(0, vR 3), (1, vI s.1)], [], w1)) (fun w1 => ?_)
    refine sim_blk0 hC [(.iinc 1 1, 0, 0, 0, 1)] [(0, vR 3), (1, vI (s.1 + 1))] [] w1 24 (by decide +kernel) rfl rfl ?_
    refine sim_bi (C := fun i2 => (24, [(0, vR 3), (1, vI i2)], [], w1)) (fun i2 => ?_)
    refine sim_goto hC (-22) 2 (by decide +kernel) (by decide) ?_
    exact sim_back (V := (V_M_takeHalf_3_2)) ((i2, w1))
noncomputable def F_M_takeHalf_3 (w : Wld) : Option (Wld) :=
  bl (loop (B_M_takeHalf_3_2) ((0, w))) (fun r3 => some r3)
set_option maxRecDepth 10000 in
theorem s_M_takeHalf_3 {Z : ZT} {l : Launch} {o : Oc} {wo : Wld} {Ok : Cfg → Prop} (hC : Clo Z l 10 2 prog_13_method_35_code none 1 0 o wo Ok) (w : Wld) : SimK Ok (0, [(0, vR 3)], [], w) (F_M_takeHalf_3 w) (Gv o wo) := by
  unfold F_M_takeHalf_3
  refine sim_blk0 hC [(.iconst 0, 0, 0, 0, 0), (.istore_n 1, 0, 0, 0, 0)] [(0, vR 3), (1, vI 0)] [] w 2 (by decide +kernel) rfl rfl ?_
  refine sim_bl (E := (E_M_takeHalf_3_2)) ?_ (fun r3 => ?_)
  · exact sim_loop (V := (V_M_takeHalf_3_2)) (fun sz => s_B_M_takeHalf_3_2 hC sz) ((0, w))
  · show SimK Ok (27, [], [], r3) _ _
    exact sim_retv hC (by decide +kernel)
theorem c_M_takeHalf_3 {Z : ZT} {l : Launch} (w : Wld) (w1 : Wld) (h : F_M_takeHalf_3 w = some w1) : Con Z l mX11_takeHalf 1 0 [vR 3] w (.inr none) w1 :=
  Con_of (oc := 10) (by decide +kernel) rfl rfl (fun Ok hC => s_M_takeHalf_3 hC w w1 h ⟨rfl, rfl⟩)
def V_M_takeHalf_4_2 : (Int32 × Wld) → Cfg := fun s => (2, [(0, vR 4), (1, vI s.1)], [], s.2)
def E_M_takeHalf_4_2 : (Wld) → Cfg := fun s => (27, [], [], s)
noncomputable def B_M_takeHalf_4_2 (s : Int32 × Wld) : Option ((Int32 × Wld) ⊕ (Wld)) :=
  gd (¬ (2 : Int32) = 0) (br (((18 : Int32) / (2 : Int32)) ≤ s.1) (some (.inr s.2)) (gd (¬ (2 : Int32) = 0) (gd (vp_in (((18 : Int32) / (2 : Int32)) + s.1) 18) (gd (vp_in s.1 18) (bw (wup s.2 4 (Int32.toNatClampNeg s.1) (s.2 4 (Int32.toNatClampNeg (((18 : Int32) / (2 : Int32)) + s.1)))) (fun w1 => bi (s.1 + 1) (fun i2 => some (.inl ((i2, w1))))))))))
set_option maxRecDepth 10000 in
theorem s_B_M_takeHalf_4_2 {Z : ZT} {l : Launch} {o : Oc} {wo : Wld} {Ok : Cfg → Prop} (hC : Clo Z l 10 2 prog_13_method_35_code none 1 0 o wo Ok) (s : Int32 × Wld) : SimK Ok (V_M_takeHalf_4_2 s) (B_M_takeHalf_4_2 s) (GLp Ok (V_M_takeHalf_4_2) (GEp Ok (E_M_takeHalf_4_2))) := by
  unfold B_M_takeHalf_4_2
  show SimK Ok (2, [(0, vR 4), (1, vI s.1)], [], s.2) _ _
  refine sim_blk1 hC [(.iload_n 1, 0, 0, 0, 0), (.aload_n 0, 0, 0, 0, 0), (.arraylength, 4, 18, 0, 18), (.iconst 2, 0, 0, 0, 2), (.idiv, 0, 0, 0, 0)] [(0, vR 4), (1, vI s.1)] [vI ((18 : Int32) / (2 : Int32)), vI s.1] s.2 7 (by decide +kernel) rfl rfl ?_
  refine sim_br hC (.if_icmp .ge 20) 27 (by decide +kernel) rfl (by decide) ?_ ?_
  · refine sim_sub hC [] ?_
    exact sim_exit (E := (E_M_takeHalf_4_2)) s.2
  · refine sim_blk3 hC [(.aload_n 0, 0, 0, 0, 0), (.iload_n 1, 0, 0, 0, 0), (.aload_n 0, 0, 0, 0, 0), (.aload_n 0, 0, 0, 0, 0), (.arraylength, 4, 18, 0, 18), (.iconst 2, 0, 0, 0, 2), (.idiv, 0, 0, 0, 0), (.iload_n 1, 0, 0, 0, 0), (.iadd, 0, 0, 0, 0), (.iaload, 4, 18, 0, 0), (.iastore, 4, 18, 0, 0)] [(0, vR 4), (1, vI s.1)] [] (wup s.2 4 (Int32.toNatClampNeg s.1) (s.2 4 (Int32.toNatClampNeg (((18 : Int32) / (2 : Int32)) + s.1)))) 21 (by decide +kernel) rfl rfl ?_
    refine sim_bw (C := fun w1 => (21, [(0, vR 4), (1, vI s.1)], [], w1)) (fun w1 => ?_)
    refine sim_blk0 hC [(.iinc 1 1, 0, 0, 0, 1)] [(0, vR 4), (1, vI (s.1 + 1))] [] w1 24 (by decide +kernel) rfl rfl ?_
    refine sim_bi (C := fun i2 => (24, [(0, vR 4), (1, vI i2)], [], w1)) (fun i2 => ?_)
    refine sim_goto hC (-22) 2 (by decide +kernel) (by decide) ?_
    exact sim_back (V := (V_M_takeHalf_4_2)) ((i2, w1))
noncomputable def F_M_takeHalf_4 (w : Wld) : Option (Wld) :=
  bl (loop (B_M_takeHalf_4_2) ((0, w))) (fun r3 => some r3)
set_option maxRecDepth 10000 in
theorem s_M_takeHalf_4 {Z : ZT} {l : Launch} {o : Oc} {wo : Wld} {Ok : Cfg → Prop} (hC : Clo Z l 10 2 prog_13_method_35_code none 1 0 o wo Ok) (w : Wld) : SimK Ok (0, [(0, vR 4)], [], w) (F_M_takeHalf_4 w) (Gv o wo) := by
  unfold F_M_takeHalf_4
  refine sim_blk0 hC [(.iconst 0, 0, 0, 0, 0), (.istore_n 1, 0, 0, 0, 0)] [(0, vR 4), (1, vI 0)] [] w 2 (by decide +kernel) rfl rfl ?_
  refine sim_bl (E := (E_M_takeHalf_4_2)) ?_ (fun r3 => ?_)
  · exact sim_loop (V := (V_M_takeHalf_4_2)) (fun sz => s_B_M_takeHalf_4_2 hC sz) ((0, w))
  · show SimK Ok (27, [], [], r3) _ _
    exact sim_retv hC (by decide +kernel)
theorem c_M_takeHalf_4 {Z : ZT} {l : Launch} (w : Wld) (w1 : Wld) (h : F_M_takeHalf_4 w = some w1) : Con Z l mX11_takeHalf 1 0 [vR 4] w (.inr none) w1 :=
  Con_of (oc := 10) (by decide +kernel) rfl rfl (fun Ok hC => s_M_takeHalf_4 hC w w1 h ⟨rfl, rfl⟩)
def V_M_takeHalf_5_2 : (Int32 × Wld) → Cfg := fun s => (2, [(0, vR 5), (1, vI s.1)], [], s.2)
def E_M_takeHalf_5_2 : (Wld) → Cfg := fun s => (27, [], [], s)
noncomputable def B_M_takeHalf_5_2 (s : Int32 × Wld) : Option ((Int32 × Wld) ⊕ (Wld)) :=
  gd (¬ (2 : Int32) = 0) (br (((18 : Int32) / (2 : Int32)) ≤ s.1) (some (.inr s.2)) (gd (¬ (2 : Int32) = 0) (gd (vp_in (((18 : Int32) / (2 : Int32)) + s.1) 18) (gd (vp_in s.1 18) (bw (wup s.2 5 (Int32.toNatClampNeg s.1) (s.2 5 (Int32.toNatClampNeg (((18 : Int32) / (2 : Int32)) + s.1)))) (fun w1 => bi (s.1 + 1) (fun i2 => some (.inl ((i2, w1))))))))))
set_option maxRecDepth 10000 in
theorem s_B_M_takeHalf_5_2 {Z : ZT} {l : Launch} {o : Oc} {wo : Wld} {Ok : Cfg → Prop} (hC : Clo Z l 10 2 prog_13_method_35_code none 1 0 o wo Ok) (s : Int32 × Wld) : SimK Ok (V_M_takeHalf_5_2 s) (B_M_takeHalf_5_2 s) (GLp Ok (V_M_takeHalf_5_2) (GEp Ok (E_M_takeHalf_5_2))) := by
  unfold B_M_takeHalf_5_2
  show SimK Ok (2, [(0, vR 5), (1, vI s.1)], [], s.2) _ _
  refine sim_blk1 hC [(.iload_n 1, 0, 0, 0, 0), (.aload_n 0, 0, 0, 0, 0), (.arraylength, 5, 18, 0, 18), (.iconst 2, 0, 0, 0, 2), (.idiv, 0, 0, 0, 0)] [(0, vR 5), (1, vI s.1)] [vI ((18 : Int32) / (2 : Int32)), vI s.1] s.2 7 (by decide +kernel) rfl rfl ?_
  refine sim_br hC (.if_icmp .ge 20) 27 (by decide +kernel) rfl (by decide) ?_ ?_
  · refine sim_sub hC [] ?_
    exact sim_exit (E := (E_M_takeHalf_5_2)) s.2
  · refine sim_blk3 hC [(.aload_n 0, 0, 0, 0, 0), (.iload_n 1, 0, 0, 0, 0), (.aload_n 0, 0, 0, 0, 0), (.aload_n 0, 0, 0, 0, 0), (.arraylength, 5, 18, 0, 18), (.iconst 2, 0, 0, 0, 2), (.idiv, 0, 0, 0, 0), (.iload_n 1, 0, 0, 0, 0), (.iadd, 0, 0, 0, 0), (.iaload, 5, 18, 0, 0), (.iastore, 5, 18, 0, 0)] [(0, vR 5), (1, vI s.1)] [] (wup s.2 5 (Int32.toNatClampNeg s.1) (s.2 5 (Int32.toNatClampNeg (((18 : Int32) / (2 : Int32)) + s.1)))) 21 (by decide +kernel) rfl rfl ?_
    refine sim_bw (C := fun w1 => (21, [(0, vR 5), (1, vI s.1)], [], w1)) (fun w1 => ?_)
    refine sim_blk0 hC [(.iinc 1 1, 0, 0, 0, 1)] [(0, vR 5), (1, vI (s.1 + 1))] [] w1 24 (by decide +kernel) rfl rfl ?_
    refine sim_bi (C := fun i2 => (24, [(0, vR 5), (1, vI i2)], [], w1)) (fun i2 => ?_)
    refine sim_goto hC (-22) 2 (by decide +kernel) (by decide) ?_
    exact sim_back (V := (V_M_takeHalf_5_2)) ((i2, w1))
noncomputable def F_M_takeHalf_5 (w : Wld) : Option (Wld) :=
  bl (loop (B_M_takeHalf_5_2) ((0, w))) (fun r3 => some r3)
set_option maxRecDepth 10000 in
theorem s_M_takeHalf_5 {Z : ZT} {l : Launch} {o : Oc} {wo : Wld} {Ok : Cfg → Prop} (hC : Clo Z l 10 2 prog_13_method_35_code none 1 0 o wo Ok) (w : Wld) : SimK Ok (0, [(0, vR 5)], [], w) (F_M_takeHalf_5 w) (Gv o wo) := by
  unfold F_M_takeHalf_5
  refine sim_blk0 hC [(.iconst 0, 0, 0, 0, 0), (.istore_n 1, 0, 0, 0, 0)] [(0, vR 5), (1, vI 0)] [] w 2 (by decide +kernel) rfl rfl ?_
  refine sim_bl (E := (E_M_takeHalf_5_2)) ?_ (fun r3 => ?_)
  · exact sim_loop (V := (V_M_takeHalf_5_2)) (fun sz => s_B_M_takeHalf_5_2 hC sz) ((0, w))
  · show SimK Ok (27, [], [], r3) _ _
    exact sim_retv hC (by decide +kernel)
theorem c_M_takeHalf_5 {Z : ZT} {l : Launch} (w : Wld) (w1 : Wld) (h : F_M_takeHalf_5 w = some w1) : Con Z l mX11_takeHalf 1 0 [vR 5] w (.inr none) w1 :=
  Con_of (oc := 10) (by decide +kernel) rfl rfl (fun Ok hC => s_M_takeHalf_5 hC w w1 h ⟨rfl, rfl⟩)
def V_M_takeHalf_6_2 : (Int32 × Wld) → Cfg := fun s => (2, [(0, vR 6), (1, vI s.1)], [], s.2)
def E_M_takeHalf_6_2 : (Wld) → Cfg := fun s => (27, [], [], s)
noncomputable def B_M_takeHalf_6_2 (s : Int32 × Wld) : Option ((Int32 × Wld) ⊕ (Wld)) :=
  gd (¬ (2 : Int32) = 0) (br (((18 : Int32) / (2 : Int32)) ≤ s.1) (some (.inr s.2)) (gd (¬ (2 : Int32) = 0) (gd (vp_in (((18 : Int32) / (2 : Int32)) + s.1) 18) (gd (vp_in s.1 18) (bw (wup s.2 6 (Int32.toNatClampNeg s.1) (s.2 6 (Int32.toNatClampNeg (((18 : Int32) / (2 : Int32)) + s.1)))) (fun w1 => bi (s.1 + 1) (fun i2 => some (.inl ((i2, w1))))))))))
set_option maxRecDepth 10000 in
theorem s_B_M_takeHalf_6_2 {Z : ZT} {l : Launch} {o : Oc} {wo : Wld} {Ok : Cfg → Prop} (hC : Clo Z l 10 2 prog_13_method_35_code none 1 0 o wo Ok) (s : Int32 × Wld) : SimK Ok (V_M_takeHalf_6_2 s) (B_M_takeHalf_6_2 s) (GLp Ok (V_M_takeHalf_6_2) (GEp Ok (E_M_takeHalf_6_2))) := by
  unfold B_M_takeHalf_6_2
  show SimK Ok (2, [(0, vR 6), (1, vI s.1)], [], s.2) _ _
  refine sim_blk1 hC [(.iload_n 1, 0, 0, 0, 0), (.aload_n 0, 0, 0, 0, 0), (.arraylength, 6, 18, 0, 18), (.iconst 2, 0, 0, 0, 2), (.idiv, 0, 0, 0, 0)] [(0, vR 6), (1, vI s.1)] [vI ((18 : Int32) / (2 : Int32)), vI s.1] s.2 7 (by decide +kernel) rfl rfl ?_
  refine sim_br hC (.if_icmp .ge 20) 27 (by decide +kernel) rfl (by decide) ?_ ?_
  · refine sim_sub hC [] ?_
    exact sim_exit (E := (E_M_takeHalf_6_2)) s.2
  · refine sim_blk3 hC [(.aload_n 0, 0, 0, 0, 0), (.iload_n 1, 0, 0, 0, 0), (.aload_n 0, 0, 0, 0, 0), (.aload_n 0, 0, 0, 0, 0), (.arraylength, 6, 18, 0, 18), (.iconst 2, 0, 0, 0, 2), (.idiv, 0, 0, 0, 0), (.iload_n 1, 0, 0, 0, 0), (.iadd, 0, 0, 0, 0), (.iaload, 6, 18, 0, 0), (.iastore, 6, 18, 0, 0)] [(0, vR 6), (1, vI s.1)] [] (wup s.2 6 (Int32.toNatClampNeg s.1) (s.2 6 (Int32.toNatClampNeg (((18 : Int32) / (2 : Int32)) + s.1)))) 21 (by decide +kernel) rfl rfl ?_
    refine sim_bw (C := fun w1 => (21, [(0, vR 6), (1, vI s.1)], [], w1)) (fun w1 => ?_)
    refine sim_blk0 hC [(.iinc 1 1, 0, 0, 0, 1)] [(0, vR 6), (1, vI (s.1 + 1))] [] w1 24 (by decide +kernel) rfl rfl ?_
    refine sim_bi (C := fun i2 => (24, [(0, vR 6), (1, vI i2)], [], w1)) (fun i2 => ?_)
    refine sim_goto hC (-22) 2 (by decide +kernel) (by decide) ?_
    exact sim_back (V := (V_M_takeHalf_6_2)) ((i2, w1))
noncomputable def F_M_takeHalf_6 (w : Wld) : Option (Wld) :=
  bl (loop (B_M_takeHalf_6_2) ((0, w))) (fun r3 => some r3)
set_option maxRecDepth 10000 in
theorem s_M_takeHalf_6 {Z : ZT} {l : Launch} {o : Oc} {wo : Wld} {Ok : Cfg → Prop} (hC : Clo Z l 10 2 prog_13_method_35_code none 1 0 o wo Ok) (w : Wld) : SimK Ok (0, [(0, vR 6)], [], w) (F_M_takeHalf_6 w) (Gv o wo) := by
  unfold F_M_takeHalf_6
  refine sim_blk0 hC [(.iconst 0, 0, 0, 0, 0), (.istore_n 1, 0, 0, 0, 0)] [(0, vR 6), (1, vI 0)] [] w 2 (by decide +kernel) rfl rfl ?_
  refine sim_bl (E := (E_M_takeHalf_6_2)) ?_ (fun r3 => ?_)
  · exact sim_loop (V := (V_M_takeHalf_6_2)) (fun sz => s_B_M_takeHalf_6_2 hC sz) ((0, w))
  · show SimK Ok (27, [], [], r3) _ _
    exact sim_retv hC (by decide +kernel)
theorem c_M_takeHalf_6 {Z : ZT} {l : Launch} (w : Wld) (w1 : Wld) (h : F_M_takeHalf_6 w = some w1) : Con Z l mX11_takeHalf 1 0 [vR 6] w (.inr none) w1 :=
  Con_of (oc := 10) (by decide +kernel) rfl rfl (fun Ok hC => s_M_takeHalf_6 hC w w1 h ⟨rfl, rfl⟩)
def V_M_takeHalf_7_2 : (Int32 × Wld) → Cfg := fun s => (2, [(0, vR 7), (1, vI s.1)], [], s.2)
def E_M_takeHalf_7_2 : (Wld) → Cfg := fun s => (27, [], [], s)
noncomputable def B_M_takeHalf_7_2 (s : Int32 × Wld) : Option ((Int32 × Wld) ⊕ (Wld)) :=
  gd (¬ (2 : Int32) = 0) (br (((16 : Int32) / (2 : Int32)) ≤ s.1) (some (.inr s.2)) (gd (¬ (2 : Int32) = 0) (gd (vp_in (((16 : Int32) / (2 : Int32)) + s.1) 16) (gd (vp_in s.1 16) (bw (wup s.2 7 (Int32.toNatClampNeg s.1) (s.2 7 (Int32.toNatClampNeg (((16 : Int32) / (2 : Int32)) + s.1)))) (fun w1 => bi (s.1 + 1) (fun i2 => some (.inl ((i2, w1))))))))))
set_option maxRecDepth 10000 in
theorem s_B_M_takeHalf_7_2 {Z : ZT} {l : Launch} {o : Oc} {wo : Wld} {Ok : Cfg → Prop} (hC : Clo Z l 10 2 prog_13_method_35_code none 1 0 o wo Ok) (s : Int32 × Wld) : SimK Ok (V_M_takeHalf_7_2 s) (B_M_takeHalf_7_2 s) (GLp Ok (V_M_takeHalf_7_2) (GEp Ok (E_M_takeHalf_7_2))) := by
  unfold B_M_takeHalf_7_2
  show SimK Ok (2, [(0, vR 7), (1, vI s.1)], [], s.2) _ _
  refine sim_blk1 hC [(.iload_n 1, 0, 0, 0, 0), (.aload_n 0, 0, 0, 0, 0), (.arraylength, 7, 16, 0, 16), (.iconst 2, 0, 0, 0, 2), (.idiv, 0, 0, 0, 0)] [(0, vR 7), (1, vI s.1)] [vI ((16 : Int32) / (2 : Int32)), vI s.1] s.2 7 (by decide +kernel) rfl rfl ?_
  refine sim_br hC (.if_icmp .ge 20) 27 (by decide +kernel) rfl (by decide) ?_ ?_
  · refine sim_sub hC [] ?_
    exact sim_exit (E := (E_M_takeHalf_7_2)) s.2
  · refine sim_blk3 hC [(.aload_n 0, 0, 0, 0, 0), (.iload_n 1, 0, 0, 0, 0), (.aload_n 0, 0, 0, 0, 0), (.aload_n 0, 0, 0, 0, 0), (.arraylength, 7, 16, 0, 16), (.iconst 2, 0, 0, 0, 2), (.idiv, 0, 0, 0, 0), (.iload_n 1, 0, 0, 0, 0), (.iadd, 0, 0, 0, 0), (.iaload, 7, 16, 0, 0), (.iastore, 7, 16, 0, 0)] [(0, vR 7), (1, vI s.1)] [] (wup s.2 7 (Int32.toNatClampNeg s.1) (s.2 7 (Int32.toNatClampNeg (((16 : Int32) / (2 : Int32)) + s.1)))) 21 (by decide +kernel) rfl rfl ?_
    refine sim_bw (C := fun w1 => (21, [(0, vR 7), (1, vI s.1)], [], w1)) (fun w1 => ?_)
    refine sim_blk0 hC [(.iinc 1 1, 0, 0, 0, 1)] [(0, vR 7), (1, vI (s.1 + 1))] [] w1 24 (by decide +kernel) rfl rfl ?_
    refine sim_bi (C := fun i2 => (24, [(0, vR 7), (1, vI i2)], [], w1)) (fun i2 => ?_)
    refine sim_goto hC (-22) 2 (by decide +kernel) (by decide) ?_
    exact sim_back (V := (V_M_takeHalf_7_2)) ((i2, w1))
noncomputable def F_M_takeHalf_7 (w : Wld) : Option (Wld) :=
  bl (loop (B_M_takeHalf_7_2) ((0, w))) (fun r3 => some r3)
set_option maxRecDepth 10000 in
theorem s_M_takeHalf_7 {Z : ZT} {l : Launch} {o : Oc} {wo : Wld} {Ok : Cfg → Prop} (hC : Clo Z l 10 2 prog_13_method_35_code none 1 0 o wo Ok) (w : Wld) : SimK Ok (0, [(0, vR 7)], [], w) (F_M_takeHalf_7 w) (Gv o wo) := by
  unfold F_M_takeHalf_7
  refine sim_blk0 hC [(.iconst 0, 0, 0, 0, 0), (.istore_n 1, 0, 0, 0, 0)] [(0, vR 7), (1, vI 0)] [] w 2 (by decide +kernel) rfl rfl ?_
  refine sim_bl (E := (E_M_takeHalf_7_2)) ?_ (fun r3 => ?_)
  · exact sim_loop (V := (V_M_takeHalf_7_2)) (fun sz => s_B_M_takeHalf_7_2 hC sz) ((0, w))
  · show SimK Ok (27, [], [], r3) _ _
    exact sim_retv hC (by decide +kernel)
theorem c_M_takeHalf_7 {Z : ZT} {l : Launch} (w : Wld) (w1 : Wld) (h : F_M_takeHalf_7 w = some w1) : Con Z l mX11_takeHalf 1 0 [vR 7] w (.inr none) w1 :=
  Con_of (oc := 10) (by decide +kernel) rfl rfl (fun Ok hC => s_M_takeHalf_7 hC w w1 h ⟨rfl, rfl⟩)
def V_M_takeHalf_8_2 : (Int32 × Wld) → Cfg := fun s => (2, [(0, vR 8), (1, vI s.1)], [], s.2)
def E_M_takeHalf_8_2 : (Wld) → Cfg := fun s => (27, [], [], s)
noncomputable def B_M_takeHalf_8_2 (s : Int32 × Wld) : Option ((Int32 × Wld) ⊕ (Wld)) :=
  gd (¬ (2 : Int32) = 0) (br (((16 : Int32) / (2 : Int32)) ≤ s.1) (some (.inr s.2)) (gd (¬ (2 : Int32) = 0) (gd (vp_in (((16 : Int32) / (2 : Int32)) + s.1) 16) (gd (vp_in s.1 16) (bw (wup s.2 8 (Int32.toNatClampNeg s.1) (s.2 8 (Int32.toNatClampNeg (((16 : Int32) / (2 : Int32)) + s.1)))) (fun w1 => bi (s.1 + 1) (fun i2 => some (.inl ((i2, w1))))))))))
set_option maxRecDepth 10000 in
theorem s_B_M_takeHalf_8_2 {Z : ZT} {l : Launch} {o : Oc} {wo : Wld} {Ok : Cfg → Prop} (hC : Clo Z l 10 2 prog_13_method_35_code none 1 0 o wo Ok) (s : Int32 × Wld) : SimK Ok (V_M_takeHalf_8_2 s) (B_M_takeHalf_8_2 s) (GLp Ok (V_M_takeHalf_8_2) (GEp Ok (E_M_takeHalf_8_2))) := by
  unfold B_M_takeHalf_8_2
  show SimK Ok (2, [(0, vR 8), (1, vI s.1)], [], s.2) _ _
  refine sim_blk1 hC [(.iload_n 1, 0, 0, 0, 0), (.aload_n 0, 0, 0, 0, 0), (.arraylength, 8, 16, 0, 16), (.iconst 2, 0, 0, 0, 2), (.idiv, 0, 0, 0, 0)] [(0, vR 8), (1, vI s.1)] [vI ((16 : Int32) / (2 : Int32)), vI s.1] s.2 7 (by decide +kernel) rfl rfl ?_
  refine sim_br hC (.if_icmp .ge 20) 27 (by decide +kernel) rfl (by decide) ?_ ?_
  · refine sim_sub hC [] ?_
    exact sim_exit (E := (E_M_takeHalf_8_2)) s.2
  · refine sim_blk3 hC [(.aload_n 0, 0, 0, 0, 0), (.iload_n 1, 0, 0, 0, 0), (.aload_n 0, 0, 0, 0, 0), (.aload_n 0, 0, 0, 0, 0), (.arraylength, 8, 16, 0, 16), (.iconst 2, 0, 0, 0, 2), (.idiv, 0, 0, 0, 0), (.iload_n 1, 0, 0, 0, 0), (.iadd, 0, 0, 0, 0), (.iaload, 8, 16, 0, 0), (.iastore, 8, 16, 0, 0)] [(0, vR 8), (1, vI s.1)] [] (wup s.2 8 (Int32.toNatClampNeg s.1) (s.2 8 (Int32.toNatClampNeg (((16 : Int32) / (2 : Int32)) + s.1)))) 21 (by decide +kernel) rfl rfl ?_
    refine sim_bw (C := fun w1 => (21, [(0, vR 8), (1, vI s.1)], [], w1)) (fun w1 => ?_)
    refine sim_blk0 hC [(.iinc 1 1, 0, 0, 0, 1)] [(0, vR 8), (1, vI (s.1 + 1))] [] w1 24 (by decide +kernel) rfl rfl ?_
    refine sim_bi (C := fun i2 => (24, [(0, vR 8), (1, vI i2)], [], w1)) (fun i2 => ?_)
    refine sim_goto hC (-22) 2 (by decide +kernel) (by decide) ?_
    exact sim_back (V := (V_M_takeHalf_8_2)) ((i2, w1))
noncomputable def F_M_takeHalf_8 (w : Wld) : Option (Wld) :=
  bl (loop (B_M_takeHalf_8_2) ((0, w))) (fun r3 => some r3)
set_option maxRecDepth 10000 in
theorem s_M_takeHalf_8 {Z : ZT} {l : Launch} {o : Oc} {wo : Wld} {Ok : Cfg → Prop} (hC : Clo Z l 10 2 prog_13_method_35_code none 1 0 o wo Ok) (w : Wld) : SimK Ok (0, [(0, vR 8)], [], w) (F_M_takeHalf_8 w) (Gv o wo) := by
  unfold F_M_takeHalf_8
  refine sim_blk0 hC [(.iconst 0, 0, 0, 0, 0), (.istore_n 1, 0, 0, 0, 0)] [(0, vR 8), (1, vI 0)] [] w 2 (by decide +kernel) rfl rfl ?_
  refine sim_bl (E := (E_M_takeHalf_8_2)) ?_ (fun r3 => ?_)
  · exact sim_loop (V := (V_M_takeHalf_8_2)) (fun sz => s_B_M_takeHalf_8_2 hC sz) ((0, w))
  · show SimK Ok (27, [], [], r3) _ _
    exact sim_retv hC (by decide +kernel)
theorem c_M_takeHalf_8 {Z : ZT} {l : Launch} (w : Wld) (w1 : Wld) (h : F_M_takeHalf_8 w = some w1) : Con Z l mX11_takeHalf 1 0 [vR 8] w (.inr none) w1 :=
  Con_of (oc := 10) (by decide +kernel) rfl rfl (fun Ok hC => s_M_takeHalf_8 hC w w1 h ⟨rfl, rfl⟩)
def V_M_takeHalf_9_2 : (Int32 × Wld) → Cfg := fun s => (2, [(0, vR 9), (1, vI s.1)], [], s.2)
def E_M_takeHalf_9_2 : (Wld) → Cfg := fun s => (27, [], [], s)
noncomputable def B_M_takeHalf_9_2 (s : Int32 × Wld) : Option ((Int32 × Wld) ⊕ (Wld)) :=
  gd (¬ (2 : Int32) = 0) (br (((16 : Int32) / (2 : Int32)) ≤ s.1) (some (.inr s.2)) (gd (¬ (2 : Int32) = 0) (gd (vp_in (((16 : Int32) / (2 : Int32)) + s.1) 16) (gd (vp_in s.1 16) (bw (wup s.2 9 (Int32.toNatClampNeg s.1) (s.2 9 (Int32.toNatClampNeg (((16 : Int32) / (2 : Int32)) + s.1)))) (fun w1 => bi (s.1 + 1) (fun i2 => some (.inl ((i2, w1))))))))))
set_option maxRecDepth 10000 in
theorem s_B_M_takeHalf_9_2 {Z : ZT} {l : Launch} {o : Oc} {wo : Wld} {Ok : Cfg → Prop} (hC : Clo Z l 10 2 prog_13_method_35_code none 1 0 o wo Ok) (s : Int32 × Wld) : SimK Ok (V_M_takeHalf_9_2 s) (B_M_takeHalf_9_2 s) (GLp Ok (V_M_takeHalf_9_2) (GEp Ok (E_M_takeHalf_9_2))) := by
  unfold B_M_takeHalf_9_2
  show SimK Ok (2, [(0, vR 9), (1, vI s.1)], [], s.2) _ _
  refine sim_blk1 hC [(.iload_n 1, 0, 0, 0, 0), (.aload_n 0, 0, 0, 0, 0), (.arraylength, 9, 16, 0, 16), (.iconst 2, 0, 0, 0, 2), (.idiv, 0, 0, 0, 0)] [(0, vR 9), (1, vI s.1)] [vI ((16 : Int32) / (2 : Int32)), vI s.1] s.2 7 (by decide +kernel) rfl rfl ?_
  refine sim_br hC (.if_icmp .ge 20) 27 (by decide +kernel) rfl (by decide) ?_ ?_
  · refine sim_sub hC [] ?_
    exact sim_exit (E := (E_M_takeHalf_9_2)) s.2
  · refine sim_blk3 hC [(.aload_n 0, 0, 0, 0, 0), (.iload_n 1, 0, 0, 0, 0), (.aload_n 0, 0, 0, 0, 0), (.aload_n 0, 0, 0, 0, 0), (.arraylength, 9, 16, 0, 16), (.iconst 2, 0, 0, 0, 2), (.idiv, 0, 0, 0, 0), (.iload_n 1, 0, 0, 0, 0), (.iadd, 0, 0, 0, 0), (.iaload, 9, 16, 0, 0), (.iastore, 9, 16, 0, 0)] [(0, vR 9), (1, vI s.1)] [] (wup s.2 9 (Int32.toNatClampNeg s.1) (s.2 9 (Int32.toNatClampNeg (((16 : Int32) / (2 : Int32)) + s.1)))) 21 (by decide +kernel) rfl rfl ?_
    refine sim_bw (C := fun w1 => (21, [(0, vR 9), (1, vI s.1)], [], w1)) (fun w1 => ?_)
    refine sim_blk0 hC [(.iinc 1 1, 0, 0, 0, 1)] [(0, vR 9), (1, vI (s.1 + 1))] [] w1 24 (by decide +kernel) rfl rfl ?_
    refine sim_bi (C := fun i2 => (24, [(0, vR 9), (1, vI i2)], [], w1)) (fun i2 => ?_)
    refine sim_goto hC (-22) 2 (by decide +kernel) (by decide) ?_
    exact sim_back (V := (V_M_takeHalf_9_2)) ((i2, w1))
noncomputable def F_M_takeHalf_9 (w : Wld) : Option (Wld) :=
  bl (loop (B_M_takeHalf_9_2) ((0, w))) (fun r3 => some r3)
set_option maxRecDepth 10000 in
theorem s_M_takeHalf_9 {Z : ZT} {l : Launch} {o : Oc} {wo : Wld} {Ok : Cfg → Prop} (hC : Clo Z l 10 2 prog_13_method_35_code none 1 0 o wo Ok) (w : Wld) : SimK Ok (0, [(0, vR 9)], [], w) (F_M_takeHalf_9 w) (Gv o wo) := by
  unfold F_M_takeHalf_9
  refine sim_blk0 hC [(.iconst 0, 0, 0, 0, 0), (.istore_n 1, 0, 0, 0, 0)] [(0, vR 9), (1, vI 0)] [] w 2 (by decide +kernel) rfl rfl ?_
  refine sim_bl (E := (E_M_takeHalf_9_2)) ?_ (fun r3 => ?_)
  · exact sim_loop (V := (V_M_takeHalf_9_2)) (fun sz => s_B_M_takeHalf_9_2 hC sz) ((0, w))
  · show SimK Ok (27, [], [], r3) _ _
    exact sim_retv hC (by decide +kernel)
theorem c_M_takeHalf_9 {Z : ZT} {l : Launch} (w : Wld) (w1 : Wld) (h : F_M_takeHalf_9 w = some w1) : Con Z l mX11_takeHalf 1 0 [vR 9] w (.inr none) w1 :=
  Con_of (oc := 10) (by decide +kernel) rfl rfl (fun Ok hC => s_M_takeHalf_9 hC w w1 h ⟨rfl, rfl⟩)
def V_M_takeHalf_10_2 : (Int32 × Wld) → Cfg := fun s => (2, [(0, vR 10), (1, vI s.1)], [], s.2)
def E_M_takeHalf_10_2 : (Wld) → Cfg := fun s => (27, [], [], s)
noncomputable def B_M_takeHalf_10_2 (s : Int32 × Wld) : Option ((Int32 × Wld) ⊕ (Wld)) :=
  gd (¬ (2 : Int32) = 0) (br (((16 : Int32) / (2 : Int32)) ≤ s.1) (some (.inr s.2)) (gd (¬ (2 : Int32) = 0) (gd (vp_in (((16 : Int32) / (2 : Int32)) + s.1) 16) (gd (vp_in s.1 16) (bw (wup s.2 10 (Int32.toNatClampNeg s.1) (s.2 10 (Int32.toNatClampNeg (((16 : Int32) / (2 : Int32)) + s.1)))) (fun w1 => bi (s.1 + 1) (fun i2 => some (.inl ((i2, w1))))))))))
set_option maxRecDepth 10000 in
theorem s_B_M_takeHalf_10_2 {Z : ZT} {l : Launch} {o : Oc} {wo : Wld} {Ok : Cfg → Prop} (hC : Clo Z l 10 2 prog_13_method_35_code none 1 0 o wo Ok) (s : Int32 × Wld) : SimK Ok (V_M_takeHalf_10_2 s) (B_M_takeHalf_10_2 s) (GLp Ok (V_M_takeHalf_10_2) (GEp Ok (E_M_takeHalf_10_2))) := by
  unfold B_M_takeHalf_10_2
  show SimK Ok (2, [(0, vR 10), (1, vI s.1)], [], s.2) _ _
  refine sim_blk1 hC [(.iload_n 1, 0, 0, 0, 0), (.aload_n 0, 0, 0, 0, 0), (.arraylength, 10, 16, 0, 16), (.iconst 2, 0, 0, 0, 2), (.idiv, 0, 0, 0, 0)] [(0, vR 10), (1, vI s.1)] [vI ((16 : Int32) / (2 : Int32)), vI s.1] s.2 7 (by decide +kernel) rfl rfl ?_
  refine sim_br hC (.if_icmp .ge 20) 27 (by decide +kernel) rfl (by decide) ?_ ?_
  · refine sim_sub hC [] ?_
    exact sim_exit (E := (E_M_takeHalf_10_2)) s.2
  · refine sim_blk3 hC [(.aload_n 0, 0, 0, 0, 0), (.iload_n 1, 0, 0, 0, 0), (.aload_n 0, 0, 0, 0, 0), (.aload_n 0, 0, 0, 0, 0), (.arraylength, 10, 16, 0, 16), (.iconst 2, 0, 0, 0, 2), (.idiv, 0, 0, 0, 0), (.iload_n 1, 0, 0, 0, 0), (.iadd, 0, 0, 0, 0), (.iaload, 10, 16, 0, 0), (.iastore, 10, 16, 0, 0)] [(0, vR 10), (1, vI s.1)] [] (wup s.2 10 (Int32.toNatClampNeg s.1) (s.2 10 (Int32.toNatClampNeg (((16 : Int32) / (2 : Int32)) + s.1)))) 21 (by decide +kernel) rfl rfl ?_
    refine sim_bw (C := fun w1 => (21, [(0, vR 10), (1, vI s.1)], [], w1)) (fun w1 => ?_)
    refine sim_blk0 hC [(.iinc 1 1, 0, 0, 0, 1)] [(0, vR 10), (1, vI (s.1 + 1))] [] w1 24 (by decide +kernel) rfl rfl ?_
    refine sim_bi (C := fun i2 => (24, [(0, vR 10), (1, vI i2)], [], w1)) (fun i2 => ?_)
    refine sim_goto hC (-22) 2 (by decide +kernel) (by decide) ?_
    exact sim_back (V := (V_M_takeHalf_10_2)) ((i2, w1))
noncomputable def F_M_takeHalf_10 (w : Wld) : Option (Wld) :=
  bl (loop (B_M_takeHalf_10_2) ((0, w))) (fun r3 => some r3)
set_option maxRecDepth 10000 in
theorem s_M_takeHalf_10 {Z : ZT} {l : Launch} {o : Oc} {wo : Wld} {Ok : Cfg → Prop} (hC : Clo Z l 10 2 prog_13_method_35_code none 1 0 o wo Ok) (w : Wld) : SimK Ok (0, [(0, vR 10)], [], w) (F_M_takeHalf_10 w) (Gv o wo) := by
  unfold F_M_takeHalf_10
  refine sim_blk0 hC [(.iconst 0, 0, 0, 0, 0), (.istore_n 1, 0, 0, 0, 0)] [(0, vR 10), (1, vI 0)] [] w 2 (by decide +kernel) rfl rfl ?_
  refine sim_bl (E := (E_M_takeHalf_10_2)) ?_ (fun r3 => ?_)
  · exact sim_loop (V := (V_M_takeHalf_10_2)) (fun sz => s_B_M_takeHalf_10_2 hC sz) ((0, w))
  · show SimK Ok (27, [], [], r3) _ _
    exact sim_retv hC (by decide +kernel)
theorem c_M_takeHalf_10 {Z : ZT} {l : Launch} (w : Wld) (w1 : Wld) (h : F_M_takeHalf_10 w = some w1) : Con Z l mX11_takeHalf 1 0 [vR 10] w (.inr none) w1 :=
  Con_of (oc := 10) (by decide +kernel) rfl rfl (fun Ok hC => s_M_takeHalf_10 hC w w1 h ⟨rfl, rfl⟩)
def V_M_takeHalf_11_2 : (Int32 × Wld) → Cfg := fun s => (2, [(0, vR 11), (1, vI s.1)], [], s.2)
def E_M_takeHalf_11_2 : (Wld) → Cfg := fun s => (27, [], [], s)
noncomputable def B_M_takeHalf_11_2 (s : Int32 × Wld) : Option ((Int32 × Wld) ⊕ (Wld)) :=
  gd (¬ (2 : Int32) = 0) (br (((1400 : Int32) / (2 : Int32)) ≤ s.1) (some (.inr s.2)) (gd (¬ (2 : Int32) = 0) (gd (vp_in (((1400 : Int32) / (2 : Int32)) + s.1) 1400) (gd (vp_in s.1 1400) (bw (wup s.2 11 (Int32.toNatClampNeg s.1) (s.2 11 (Int32.toNatClampNeg (((1400 : Int32) / (2 : Int32)) + s.1)))) (fun w1 => bi (s.1 + 1) (fun i2 => some (.inl ((i2, w1))))))))))
set_option maxRecDepth 10000 in
theorem s_B_M_takeHalf_11_2 {Z : ZT} {l : Launch} {o : Oc} {wo : Wld} {Ok : Cfg → Prop} (hC : Clo Z l 10 2 prog_13_method_35_code none 1 0 o wo Ok) (s : Int32 × Wld) : SimK Ok (V_M_takeHalf_11_2 s) (B_M_takeHalf_11_2 s) (GLp Ok (V_M_takeHalf_11_2) (GEp Ok (E_M_takeHalf_11_2))) := by
  unfold B_M_takeHalf_11_2
  show SimK Ok (2, [(0, vR 11), (1, vI s.1)], [], s.2) _ _
  refine sim_blk1 hC [(.iload_n 1, 0, 0, 0, 0), (.aload_n 0, 0, 0, 0, 0), (.arraylength, 11, 1400, 0, 1400), (.iconst 2, 0, 0, 0, 2), (.idiv, 0, 0, 0, 0)] [(0, vR 11), (1, vI s.1)] [vI ((1400 : Int32) / (2 : Int32)), vI s.1] s.2 7 (by decide +kernel) rfl rfl ?_
  refine sim_br hC (.if_icmp .ge 20) 27 (by decide +kernel) rfl (by decide) ?_ ?_
  · refine sim_sub hC [] ?_
    exact sim_exit (E := (E_M_takeHalf_11_2)) s.2
  · refine sim_blk3 hC [(.aload_n 0, 0, 0, 0, 0), (.iload_n 1, 0, 0, 0, 0), (.aload_n 0, 0, 0, 0, 0), (.aload_n 0, 0, 0, 0, 0), (.arraylength, 11, 1400, 0, 1400), (.iconst 2, 0, 0, 0, 2), (.idiv, 0, 0, 0, 0), (.iload_n 1, 0, 0, 0, 0), (.iadd, 0, 0, 0, 0), (.iaload, 11, 1400, 0, 0), (.iastore, 11, 1400, 0, 0)] [(0, vR 11), (1, vI s.1)] [] (wup s.2 11 (Int32.toNatClampNeg s.1) (s.2 11 (Int32.toNatClampNeg (((1400 : Int32) / (2 : Int32)) + s.1)))) 21 (by decide +kernel) rfl rfl ?_
    refine sim_bw (C := fun w1 => (21, [(0, vR 11), (1, vI s.1)], [], w1)) (fun w1 => ?_)
    refine sim_blk0 hC [(.iinc 1 1, 0, 0, 0, 1)] [(0, vR 11), (1, vI (s.1 + 1))] [] w1 24 (by decide +kernel) rfl rfl ?_
    refine sim_bi (C := fun i2 => (24, [(0, vR 11), (1, vI i2)], [], w1)) (fun i2 => ?_)
    refine sim_goto hC (-22) 2 (by decide +kernel) (by decide) ?_
    exact sim_back (V := (V_M_takeHalf_11_2)) ((i2, w1))
noncomputable def F_M_takeHalf_11 (w : Wld) : Option (Wld) :=
  bl (loop (B_M_takeHalf_11_2) ((0, w))) (fun r3 => some r3)
set_option maxRecDepth 10000 in
theorem s_M_takeHalf_11 {Z : ZT} {l : Launch} {o : Oc} {wo : Wld} {Ok : Cfg → Prop} (hC : Clo Z l 10 2 prog_13_method_35_code none 1 0 o wo Ok) (w : Wld) : SimK Ok (0, [(0, vR 11)], [], w) (F_M_takeHalf_11 w) (Gv o wo) := by
  unfold F_M_takeHalf_11
  refine sim_blk0 hC [(.iconst 0, 0, 0, 0, 0), (.istore_n 1, 0, 0, 0, 0)] [(0, vR 11), (1, vI 0)] [] w 2 (by decide +kernel) rfl rfl ?_
  refine sim_bl (E := (E_M_takeHalf_11_2)) ?_ (fun r3 => ?_)
  · exact sim_loop (V := (V_M_takeHalf_11_2)) (fun sz => s_B_M_takeHalf_11_2 hC sz) ((0, w))
  · show SimK Ok (27, [], [], r3) _ _
    exact sim_retv hC (by decide +kernel)
theorem c_M_takeHalf_11 {Z : ZT} {l : Launch} (w : Wld) (w1 : Wld) (h : F_M_takeHalf_11 w = some w1) : Con Z l mX11_takeHalf 1 0 [vR 11] w (.inr none) w1 :=
  Con_of (oc := 10) (by decide +kernel) rfl rfl (fun Ok hC => s_M_takeHalf_11 hC w w1 h ⟨rfl, rfl⟩)
def V_M_takeOver_80 : (Int32 × Wld) → Cfg := fun s => (80, [(0, vR 0), (1, vI s.1)], [], s.2)
def E_M_takeOver_80 : (Wld) → Cfg := fun s => (158, [(0, vR 0)], [], s)
noncomputable def K_M_takeOver_151 (a1 : Int32) (t1 : Int32) (t2 : Int32) (w : Wld) : Option ((Int32 × Wld) ⊕ (Wld)) :=
  gd (vp_in t1 9) (bw (wup w 19 (Int32.toNatClampNeg t1) t2) (fun w14 => bi (a1 + 1) (fun i15 => some (.inl ((i15, w14))))))
set_option maxRecDepth 10000 in
theorem s_K_M_takeOver_151 {Z : ZT} {l : Launch} {o : Oc} {wo : Wld} {Ok : Cfg → Prop} (hC : Clo Z l 10 3 prog_13_method_36_code none 2 21 o wo Ok) (a1 : Int32) (t1 : Int32) (t2 : Int32) (w : Wld) : SimK Ok (151, [(0, vR 0), (1, vI a1)], [vI t2, vI t1, vR 19], w) (K_M_takeOver_151 a1 t1 t2 w) (GLp Ok (V_M_takeOver_80) (GEp Ok (E_M_takeOver_80))) := by
  unfold K_M_takeOver_151
  refine sim_blk1 hC [(.iastore, 19, 9, 0, 0)] [(0, vR 0), (1, vI a1)] [] (wup w 19 (Int32.toNatClampNeg t1) t2) 152 (by decide +kernel) rfl rfl ?_
  refine sim_bw (C := fun w14 => (152, [(0, vR 0), (1, vI a1)], [], w14)) (fun w14 => ?_)
  refine sim_blk0 hC [(.iinc 1 1, 0, 0, 0, 1)] [(0, vR 0), (1, vI (a1 + 1))] [] w14 155 (by decide +kernel) rfl rfl ?_
  refine sim_bi (C := fun i15 => (155, [(0, vR 0), (1, vI i15)], [], w14)) (fun i15 => ?_)
  refine sim_goto hC (-75) 80 (by decide +kernel) (by decide) ?_
  exact sim_back (V := (V_M_takeOver_80)) ((i15, w14))
noncomputable def K_M_takeOver_118 (a1 : Int32) (t1 : Int32) (t2 : Int32) (w : Wld) : Option ((Int32 × Wld) ⊕ (Wld)) :=
  gd (vp_in t1 9) (bw (wup w 18 (Int32.toNatClampNeg t1) t2) (fun w13 => gd (vp_in 0 10) (br ((w13 3 (Int32.toNatClampNeg 0)) ≤ a1) (K_M_takeOver_151 a1 a1 0 w13) (gd (vp_in a1 18) (gd (vp_in 0 10) (gd (¬ (w13 3 (Int32.toNatClampNeg 0)) = 0) (K_M_takeOver_151 a1 a1 ((w13 6 (Int32.toNatClampNeg a1)) - (w13 6 (Int32.toNatClampNeg a1)) / (w13 3 (Int32.toNatClampNeg 0)) * (w13 3 (Int32.toNatClampNeg 0))) w13)))))))
set_option maxRecDepth 10000 in
theorem s_K_M_takeOver_118 {Z : ZT} {l : Launch} {o : Oc} {wo : Wld} {Ok : Cfg → Prop} (hC : Clo Z l 10 3 prog_13_method_36_code none 2 21 o wo Ok) (a1 : Int32) (t1 : Int32) (t2 : Int32) (w : Wld) : SimK Ok (118, [(0, vR 0), (1, vI a1)], [vI t2, vI t1, vR 18], w) (K_M_takeOver_118 a1 t1 t2 w) (GLp Ok (V_M_takeOver_80) (GEp Ok (E_M_takeOver_80))) := by
  unfold K_M_takeOver_118
  refine sim_blk1 hC [(.iastore, 18, 9, 0, 0)] [(0, vR 0), (1, vI a1)] [] (wup w 18 (Int32.toNatClampNeg t1) t2) 119 (by decide +kernel) rfl rfl ?_
  refine sim_bw (C := fun w13 => (119, [(0, vR 0), (1, vI a1)], [], w13)) (fun w13 => ?_)
  refine sim_blk1 hC [(.aload_n 0, 0, 0, 0, 0), (.getfield 92, 0, 29, 21, 0), (.iload_n 1, 0, 0, 0, 0), (.iload_n 1, 0, 0, 0, 0), (.aload_n 0, 0, 0, 0, 0), (.getfield 42, 0, 3, 5, 0), (.iconst 0, 0, 0, 0, 0), (.iaload, 3, 10, 0, 0)] [(0, vR 0), (1, vI a1)] [vI (w13 3 (Int32.toNatClampNeg 0)), vI a1, vI a1, vR 19] w13 131 (by decide +kernel) rfl rfl ?_
  refine sim_br hC (.if_icmp .ge 19) 150 (by decide +kernel) rfl (by decide) ?_ ?_
  · refine sim_blk0 hC [(.iconst 0, 0, 0, 0, 0)] [(0, vR 0), (1, vI a1)] [vI 0, vI a1, vR 19] w13 151 (by decide +kernel) rfl rfl ?_
    exact s_K_M_takeOver_151 hC a1 a1 0 w13
  · refine sim_blk3 hC [(.aload_n 0, 0, 0, 0, 0), (.getfield 51, 0, 6, 8, 0), (.iload_n 1, 0, 0, 0, 0), (.iaload, 6, 18, 0, 0), (.aload_n 0, 0, 0, 0, 0), (.getfield 42, 0, 3, 5, 0), (.iconst 0, 0, 0, 0, 0), (.iaload, 3, 10, 0, 0), (.irem, 0, 0, 0, 0)] [(0, vR 0), (1, vI a1)] [vI ((w13 6 (Int32.toNatClampNeg a1)) - (w13 6 (Int32.toNatClampNeg a1)) / (w13 3 (Int32.toNatClampNeg 0)) * (w13 3 (Int32.toNatClampNeg 0))), vI a1, vR 19] w13 147 (by decide +kernel) rfl rfl ?_
    refine sim_goto hC 4 151 (by decide +kernel) (by decide) ?_
    exact s_K_M_takeOver_151 hC a1 a1 ((w13 6 (Int32.toNatClampNeg a1)) - (w13 6 (Int32.toNatClampNeg a1)) / (w13 3 (Int32.toNatClampNeg 0)) * (w13 3 (Int32.toNatClampNeg 0))) w13
noncomputable def B_M_takeOver_80 (s : Int32 × Wld) : Option ((Int32 × Wld) ⊕ (Wld)) :=
  br ((9 : Int32) ≤ s.1) (some (.inr s.2)) (gd (vp_in 0 10) (br ((s.2 3 (Int32.toNatClampNeg 0)) ≤ s.1) (K_M_takeOver_118 s.1 s.1 0 s.2) (gd (vp_in s.1 18) (gd (vp_in 0 10) (gd (¬ (s.2 3 (Int32.toNatClampNeg 0)) = 0) (K_M_takeOver_118 s.1 s.1 ((s.2 5 (Int32.toNatClampNeg s.1)) - (s.2 5 (Int32.toNatClampNeg s.1)) / (s.2 3 (Int32.toNatClampNeg 0)) * (s.2 3 (Int32.toNatClampNeg 0))) s.2))))))
set_option maxRecDepth 10000 in
theorem s_B_M_takeOver_80 {Z : ZT} {l : Launch} {o : Oc} {wo : Wld} {Ok : Cfg → Prop} (hC : Clo Z l 10 3 prog_13_method_36_code none 2 21 o wo Ok) (s : Int32 × Wld) : SimK Ok (V_M_takeOver_80 s) (B_M_takeOver_80 s) (GLp Ok (V_M_takeOver_80) (GEp Ok (E_M_takeOver_80))) := by
  unfold B_M_takeOver_80
  show SimK Ok (80, [(0, vR 0), (1, vI s.1)], [], s.2) _ _
  refine sim_blk0 hC [(.iload_n 1, 0, 0, 0, 0), (.bipush 9, 0, 0, 0, 9)] [(0, vR 0), (1, vI s.1)] [vI 9, vI s.1] s.2 83 (by decide +kernel) rfl rfl ?_
  refine sim_br hC (.if_icmp .ge 75) 158 (by decide +kernel) rfl (by decide) ?_ ?_
  · refine sim_sub hC [0] ?_
    exact sim_exit (E := (E_M_takeOver_80)) s.2
  · refine sim_blk1 hC [(.aload_n 0, 0, 0, 0, 0), (.getfield 89, 0, 28, 20, 0), (.iload_n 1, 0, 0, 0, 0), (.iload_n 1, 0, 0, 0, 0), (.aload_n 0, 0, 0, 0, 0), (.getfield 42, 0, 3, 5, 0), (.iconst 0, 0, 0, 0, 0), (.iaload, 3, 10, 0, 0)] [(0, vR 0), (1, vI s.1)] [vI (s.2 3 (Int32.toNatClampNeg 0)), vI s.1, vI s.1, vR 18] s.2 98 (by decide +kernel) rfl rfl ?_
    refine sim_br hC (.if_icmp .ge 19) 117 (by decide +kernel) rfl (by decide) ?_ ?_
    · refine sim_blk0 hC [(.iconst 0, 0, 0, 0, 0)] [(0, vR 0), (1, vI s.1)] [vI 0, vI s.1, vR 18] s.2 118 (by decide +kernel) rfl rfl ?_
      exact s_K_M_takeOver_118 hC s.1 s.1 0 s.2
    · refine sim_blk3 hC [(.aload_n 0, 0, 0, 0, 0), (.getfield 48, 0, 5, 7, 0), (.iload_n 1, 0, 0, 0, 0), (.iaload, 5, 18, 0, 0), (.aload_n 0, 0, 0, 0, 0), (.getfield 42, 0, 3, 5, 0), (.iconst 0, 0, 0, 0, 0), (.iaload, 3, 10, 0, 0), (.irem, 0, 0, 0, 0)] [(0, vR 0), (1, vI s.1)] [vI ((s.2 5 (Int32.toNatClampNeg s.1)) - (s.2 5 (Int32.toNatClampNeg s.1)) / (s.2 3 (Int32.toNatClampNeg 0)) * (s.2 3 (Int32.toNatClampNeg 0))), vI s.1, vR 18] s.2 114 (by decide +kernel) rfl rfl ?_
      refine sim_goto hC 4 118 (by decide +kernel) (by decide) ?_
      exact s_K_M_takeOver_118 hC s.1 s.1 ((s.2 5 (Int32.toNatClampNeg s.1)) - (s.2 5 (Int32.toNatClampNeg s.1)) / (s.2 3 (Int32.toNatClampNeg 0)) * (s.2 3 (Int32.toNatClampNeg 0))) s.2
def V_M_takeOver_160 : (Int32 × Wld) → Cfg := fun s => (160, [(0, vR 0), (1, vI s.1)], [], s.2)
def E_M_takeOver_160 : (Wld) → Cfg := fun s => (255, [(0, vR 0)], [], s)
noncomputable def K_M_takeOver_241 (a1 : Int32) (t1 : Int32) (t2 : Int32) (w : Wld) : Option ((Int32 × Wld) ⊕ (Wld)) :=
  gd (vp_in t1 8) (bw (wup w 16 (Int32.toNatClampNeg t1) t2) (fun w19 => gd (vp_in a1 8) (bw (wup w19 17 (Int32.toNatClampNeg a1) 0) (fun w20 => bi (a1 + 1) (fun i21 => some (.inl ((i21, w20))))))))
set_option maxRecDepth 10000 in
theorem s_K_M_takeOver_241 {Z : ZT} {l : Launch} {o : Oc} {wo : Wld} {Ok : Cfg → Prop} (hC : Clo Z l 10 3 prog_13_method_36_code none 2 21 o wo Ok) (a1 : Int32) (t1 : Int32) (t2 : Int32) (w : Wld) : SimK Ok (241, [(0, vR 0), (1, vI a1)], [vI t2, vI t1, vR 16], w) (K_M_takeOver_241 a1 t1 t2 w) (GLp Ok (V_M_takeOver_160) (GEp Ok (E_M_takeOver_160))) := by
  unfold K_M_takeOver_241
  refine sim_blk1 hC [(.iastore, 16, 8, 0, 0)] [(0, vR 0), (1, vI a1)] [] (wup w 16 (Int32.toNatClampNeg t1) t2) 242 (by decide +kernel) rfl rfl ?_
  refine sim_bw (C := fun w19 => (242, [(0, vR 0), (1, vI a1)], [], w19)) (fun w19 => ?_)
  refine sim_blk1 hC [(.aload_n 0, 0, 0, 0, 0), (.getfield 87, 0, 27, 19, 0), (.iload_n 1, 0, 0, 0, 0), (.iconst 0, 0, 0, 0, 0), (.iastore, 17, 8, 0, 0)] [(0, vR 0), (1, vI a1)] [] (wup w19 17 (Int32.toNatClampNeg a1) 0) 249 (by decide +kernel) rfl rfl ?_
  refine sim_bw (C := fun w20 => (249, [(0, vR 0), (1, vI a1)], [], w20)) (fun w20 => ?_)
  refine sim_blk0 hC [(.iinc 1 1, 0, 0, 0, 1)] [(0, vR 0), (1, vI (a1 + 1))] [] w20 252 (by decide +kernel) rfl rfl ?_
  refine sim_bi (C := fun i21 => (252, [(0, vR 0), (1, vI i21)], [], w20)) (fun i21 => ?_)
  refine sim_goto hC (-92) 160 (by decide +kernel) (by decide) ?_
  exact sim_back (V := (V_M_takeOver_160)) ((i21, w20))
noncomputable def K_M_takeOver_221 (a1 : Int32) (a2 : Int32) (t1 : Int32) (t2 : Int32) (w : Wld) : Option ((Int32 × Wld) ⊕ (Wld)) :=
  gd (vp_in t1 8) (bw (wup w 15 (Int32.toNatClampNeg t1) t2) (fun w18 => br (a2 = 0) (K_M_takeOver_241 a1 a1 (-1) w18) (gd (vp_in a1 16) (K_M_takeOver_241 a1 a1 (w18 10 (Int32.toNatClampNeg a1)) w18))))
set_option maxRecDepth 10000 in
theorem s_K_M_takeOver_221 {Z : ZT} {l : Launch} {o : Oc} {wo : Wld} {Ok : Cfg → Prop} (hC : Clo Z l 10 3 prog_13_method_36_code none 2 21 o wo Ok) (a1 : Int32) (a2 : Int32) (t1 : Int32) (t2 : Int32) (w : Wld) : SimK Ok (221, [(0, vR 0), (1, vI a1), (2, vI a2)], [vI t2, vI t1, vR 15], w) (K_M_takeOver_221 a1 a2 t1 t2 w) (GLp Ok (V_M_takeOver_160) (GEp Ok (E_M_takeOver_160))) := by
  unfold K_M_takeOver_221
  refine sim_blk1 hC [(.iastore, 15, 8, 0, 0)] [(0, vR 0), (1, vI a1), (2, vI a2)] [] (wup w 15 (Int32.toNatClampNeg t1) t2) 222 (by decide +kernel) rfl rfl ?_
  refine sim_bw (C := fun w18 => (222, [(0, vR 0), (1, vI a1), (2, vI a2)], [], w18)) (fun w18 => ?_)
  refine sim_blk0 hC [(.aload_n 0, 0, 0, 0, 0), (.getfield 84, 0, 26, 18, 0), (.iload_n 1, 0, 0, 0, 0), (.iload_n 2, 0, 0, 0, 0)] [(0, vR 0), (1, vI a1), (2, vI a2)] [vI a2, vI a1, vR 16] w18 228 (by decide +kernel) rfl rfl ?_
  refine sim_br hC (.ifCond .eq 12) 240 (by decide +kernel) rfl (by decide) ?_ ?_
  · refine sim_blk0 hC [(.iconst (-1), 0, 0, 0, (-1))] [(0, vR 0), (1, vI a1), (2, vI a2)] [vI (-1), vI a1, vR 16] w18 241 (by decide +kernel) rfl rfl ?_
    refine sim_sub hC [0, 1] ?_
    exact s_K_M_takeOver_241 hC a1 a1 (-1) w18
  · refine sim_blk1 hC [(.aload_n 0, 0, 0, 0, 0), (.getfield 62, 0, 10, 12, 0), (.iload_n 1, 0, 0, 0, 0), (.iaload, 10, 16, 0, 0)] [(0, vR 0), (1, vI a1), (2, vI a2)] [vI (w18 10 (Int32.toNatClampNeg a1)), vI a1, vR 16] w18 237 (by decide +kernel) rfl rfl ?_
    refine sim_goto hC 4 241 (by decide +kernel) (by decide) ?_
    refine sim_sub hC [0, 1] ?_
    exact s_K_M_takeOver_241 hC a1 a1 (w18 10 (Int32.toNatClampNeg a1)) w18
noncomputable def K_M_takeOver_201 (a1 : Int32) (a2 : Int32) (t1 : Int32) (t2 : Int32) (w : Wld) : Option ((Int32 × Wld) ⊕ (Wld)) :=
  gd (vp_in t1 8) (bw (wup w 14 (Int32.toNatClampNeg t1) t2) (fun w17 => br (a2 = 0) (K_M_takeOver_221 a1 a2 a1 0 w17) (gd (vp_in a1 16) (K_M_takeOver_221 a1 a2 a1 (w17 9 (Int32.toNatClampNeg a1)) w17))))
set_option maxRecDepth 10000 in
theorem s_K_M_takeOver_201 {Z : ZT} {l : Launch} {o : Oc} {wo : Wld} {Ok : Cfg → Prop} (hC : Clo Z l 10 3 prog_13_method_36_code none 2 21 o wo Ok) (a1 : Int32) (a2 : Int32) (t1 : Int32) (t2 : Int32) (w : Wld) : SimK Ok (201, [(0, vR 0), (1, vI a1), (2, vI a2)], [vI t2, vI t1, vR 14], w) (K_M_takeOver_201 a1 a2 t1 t2 w) (GLp Ok (V_M_takeOver_160) (GEp Ok (E_M_takeOver_160))) := by
  unfold K_M_takeOver_201
  refine sim_blk1 hC [(.iastore, 14, 8, 0, 0)] [(0, vR 0), (1, vI a1), (2, vI a2)] [] (wup w 14 (Int32.toNatClampNeg t1) t2) 202 (by decide +kernel) rfl rfl ?_
  refine sim_bw (C := fun w17 => (202, [(0, vR 0), (1, vI a1), (2, vI a2)], [], w17)) (fun w17 => ?_)
  refine sim_blk0 hC [(.aload_n 0, 0, 0, 0, 0), (.getfield 81, 0, 25, 17, 0), (.iload_n 1, 0, 0, 0, 0), (.iload_n 2, 0, 0, 0, 0)] [(0, vR 0), (1, vI a1), (2, vI a2)] [vI a2, vI a1, vR 15] w17 208 (by decide +kernel) rfl rfl ?_
  refine sim_br hC (.ifCond .eq 12) 220 (by decide +kernel) rfl (by decide) ?_ ?_
  · refine sim_blk0 hC [(.iconst 0, 0, 0, 0, 0)] [(0, vR 0), (1, vI a1), (2, vI a2)] [vI 0, vI a1, vR 15] w17 221 (by decide +kernel) rfl rfl ?_
    exact s_K_M_takeOver_221 hC a1 a2 a1 0 w17
  · refine sim_blk1 hC [(.aload_n 0, 0, 0, 0, 0), (.getfield 59, 0, 9, 11, 0), (.iload_n 1, 0, 0, 0, 0), (.iaload, 9, 16, 0, 0)] [(0, vR 0), (1, vI a1), (2, vI a2)] [vI (w17 9 (Int32.toNatClampNeg a1)), vI a1, vR 15] w17 217 (by decide +kernel) rfl rfl ?_
    refine sim_goto hC 4 221 (by decide +kernel) (by decide) ?_
    exact s_K_M_takeOver_221 hC a1 a2 a1 (w17 9 (Int32.toNatClampNeg a1)) w17
noncomputable def K_M_takeOver_181 (a1 : Int32) (t0 : Int32) (w : Wld) : Option ((Int32 × Wld) ⊕ (Wld)) :=
  br (t0 = 0) (K_M_takeOver_201 a1 t0 a1 0 w) (gd (vp_in a1 16) (K_M_takeOver_201 a1 t0 a1 (w 8 (Int32.toNatClampNeg a1)) w))
set_option maxRecDepth 10000 in
theorem s_K_M_takeOver_181 {Z : ZT} {l : Launch} {o : Oc} {wo : Wld} {Ok : Cfg → Prop} (hC : Clo Z l 10 3 prog_13_method_36_code none 2 21 o wo Ok) (a1 : Int32) (t0 : Int32) (w : Wld) : SimK Ok (181, [(0, vR 0), (1, vI a1)], [vI t0], w) (K_M_takeOver_181 a1 t0 w) (GLp Ok (V_M_takeOver_160) (GEp Ok (E_M_takeOver_160))) := by
  unfold K_M_takeOver_181
  refine sim_blk0 hC [(.istore_n 2, 0, 0, 0, 0), (.aload_n 0, 0, 0, 0, 0), (.getfield 78, 0, 24, 16, 0), (.iload_n 1, 0, 0, 0, 0), (.iload_n 2, 0, 0, 0, 0)] [(0, vR 0), (1, vI a1), (2, vI t0)] [vI t0, vI a1, vR 14] w 188 (by decide +kernel) rfl rfl ?_
  refine sim_br hC (.ifCond .eq 12) 200 (by decide +kernel) rfl (by decide) ?_ ?_
  · refine sim_blk0 hC [(.iconst 0, 0, 0, 0, 0)] [(0, vR 0), (1, vI a1), (2, vI t0)] [vI 0, vI a1, vR 14] w 201 (by decide +kernel) rfl rfl ?_
    exact s_K_M_takeOver_201 hC a1 t0 a1 0 w
  · refine sim_blk1 hC [(.aload_n 0, 0, 0, 0, 0), (.getfield 56, 0, 8, 10, 0), (.iload_n 1, 0, 0, 0, 0), (.iaload, 8, 16, 0, 0)] [(0, vR 0), (1, vI a1), (2, vI t0)] [vI (w 8 (Int32.toNatClampNeg a1)), vI a1, vR 14] w 197 (by decide +kernel) rfl rfl ?_
    refine sim_goto hC 4 201 (by decide +kernel) (by decide) ?_
    exact s_K_M_takeOver_201 hC a1 t0 a1 (w 8 (Int32.toNatClampNeg a1)) w
noncomputable def B_M_takeOver_160 (s : Int32 × Wld) : Option ((Int32 × Wld) ⊕ (Wld)) :=
  br ((8 : Int32) ≤ s.1) (some (.inr s.2)) (gd (vp_in 1 10) (br ((s.2 3 (Int32.toNatClampNeg 1)) ≤ s.1) (K_M_takeOver_181 s.1 0 s.2) (K_M_takeOver_181 s.1 1 s.2)))
set_option maxRecDepth 10000 in
theorem s_B_M_takeOver_160 {Z : ZT} {l : Launch} {o : Oc} {wo : Wld} {Ok : Cfg → Prop} (hC : Clo Z l 10 3 prog_13_method_36_code none 2 21 o wo Ok) (s : Int32 × Wld) : SimK Ok (V_M_takeOver_160 s) (B_M_takeOver_160 s) (GLp Ok (V_M_takeOver_160) (GEp Ok (E_M_takeOver_160))) := by
  unfold B_M_takeOver_160
  show SimK Ok (160, [(0, vR 0), (1, vI s.1)], [], s.2) _ _
  refine sim_blk0 hC [(.iload_n 1, 0, 0, 0, 0), (.bipush 8, 0, 0, 0, 8)] [(0, vR 0), (1, vI s.1)] [vI 8, vI s.1] s.2 163 (by decide +kernel) rfl rfl ?_
  refine sim_br hC (.if_icmp .ge 92) 255 (by decide +kernel) rfl (by decide) ?_ ?_
  · refine sim_sub hC [0] ?_
    exact sim_exit (E := (E_M_takeOver_160)) s.2
  · refine sim_blk1 hC [(.iload_n 1, 0, 0, 0, 0), (.aload_n 0, 0, 0, 0, 0), (.getfield 42, 0, 3, 5, 0), (.iconst 1, 0, 0, 0, 1), (.iaload, 3, 10, 0, 0)] [(0, vR 0), (1, vI s.1)] [vI (s.2 3 (Int32.toNatClampNeg 1)), vI s.1] s.2 173 (by decide +kernel) rfl rfl ?_
    refine sim_br hC (.if_icmp .ge 7) 180 (by decide +kernel) rfl (by decide) ?_ ?_
    · refine sim_blk0 hC [(.iconst 0, 0, 0, 0, 0)] [(0, vR 0), (1, vI s.1)] [vI 0] s.2 181 (by decide +kernel) rfl rfl ?_
      exact s_K_M_takeOver_181 hC s.1 0 s.2
    · refine sim_blk0 hC [(.iconst 1, 0, 0, 0, 1)] [(0, vR 0), (1, vI s.1)] [vI 1] s.2 177 (by decide +kernel) rfl rfl ?_
      refine sim_goto hC 4 181 (by decide +kernel) (by decide) ?_
      exact s_K_M_takeOver_181 hC s.1 1 s.2
noncomputable def F_M_takeOver (w : Wld) : Option (Wld) :=
  bv (F_M_takeHalf_3 w) (fun w1 => bv (F_M_takeHalf_4 w1) (fun w2 => bv (F_M_takeHalf_5 w2) (fun w3 => bv (F_M_takeHalf_6 w3) (fun w4 => bv (F_M_takeHalf_7 w4) (fun w5 => bv (F_M_takeHalf_8 w5) (fun w6 => bv (F_M_takeHalf_9 w6) (fun w7 => bv (F_M_takeHalf_10 w7) (fun w8 => bv (F_M_takeHalf_11 w8) (fun w9 => bw (wup w9 0 31 0) (fun w10 => bw (wup w10 0 32 0) (fun w11 => bw (wup w11 0 33 0) (fun w12 => bl (loop (B_M_takeOver_80) ((0, w12))) (fun r16 => bl (loop (B_M_takeOver_160) ((0, r16))) (fun r22 => bw (wup r22 0 34 0) (fun w23 => bw (wup w23 0 35 0) (fun w24 => gd ((0 : Int32) = 0 ∨ (0 : Int32) = 1) (bw (wup w24 0 55 0) (fun w25 => some w25))))))))))))))))))
set_option maxRecDepth 10000 in
theorem s_M_takeOver {Z : ZT} {l : Launch} {o : Oc} {wo : Wld} {Ok : Cfg → Prop} (hC : Clo Z l 10 3 prog_13_method_36_code none 2 21 o wo Ok) (w : Wld) : SimK Ok (0, [(0, vR 0)], [], w) (F_M_takeOver w) (Gv o wo) := by
  unfold F_M_takeOver
  refine sim_blk0 hC [(.aload_n 0, 0, 0, 0, 0), (.getfield 42, 0, 3, 5, 0)] [(0, vR 0)] [vR 3] w 4 (by decide +kernel) rfl rfl ?_
  refine sim_sv hC 301 mX11_takeHalf 1 0 [vR 3] [] (by decide +kernel) ml_10_301 rfl rfl rfl rfl rfl (fun wz hz => c_M_takeHalf_3 w wz hz) (fun w1 => ?_)
  refine sim_blk0 hC [(.aload_n 0, 0, 0, 0, 0), (.getfield 46, 0, 4, 6, 0)] [(0, vR 0)] [vR 4] w1 11 (by decide +kernel) rfl rfl ?_
  refine sim_sv hC 301 mX11_takeHalf 1 0 [vR 4] [] (by decide +kernel) ml_10_301 rfl rfl rfl rfl rfl (fun wz hz => c_M_takeHalf_4 w1 wz hz) (fun w2 => ?_)
  refine sim_blk0 hC [(.aload_n 0, 0, 0, 0, 0), (.getfield 48, 0, 5, 7, 0)] [(0, vR 0)] [vR 5] w2 18 (by decide +kernel) rfl rfl ?_
  refine sim_sv hC 301 mX11_takeHalf 1 0 [vR 5] [] (by decide +kernel) ml_10_301 rfl rfl rfl rfl rfl (fun wz hz => c_M_takeHalf_5 w2 wz hz) (fun w3 => ?_)
  refine sim_blk0 hC [(.aload_n 0, 0, 0, 0, 0), (.getfield 51, 0, 6, 8, 0)] [(0, vR 0)] [vR 6] w3 25 (by decide +kernel) rfl rfl ?_
  refine sim_sv hC 301 mX11_takeHalf 1 0 [vR 6] [] (by decide +kernel) ml_10_301 rfl rfl rfl rfl rfl (fun wz hz => c_M_takeHalf_6 w3 wz hz) (fun w4 => ?_)
  refine sim_blk0 hC [(.aload_n 0, 0, 0, 0, 0), (.getfield 54, 0, 7, 9, 0)] [(0, vR 0)] [vR 7] w4 32 (by decide +kernel) rfl rfl ?_
  refine sim_sv hC 301 mX11_takeHalf 1 0 [vR 7] [] (by decide +kernel) ml_10_301 rfl rfl rfl rfl rfl (fun wz hz => c_M_takeHalf_7 w4 wz hz) (fun w5 => ?_)
  refine sim_blk0 hC [(.aload_n 0, 0, 0, 0, 0), (.getfield 56, 0, 8, 10, 0)] [(0, vR 0)] [vR 8] w5 39 (by decide +kernel) rfl rfl ?_
  refine sim_sv hC 301 mX11_takeHalf 1 0 [vR 8] [] (by decide +kernel) ml_10_301 rfl rfl rfl rfl rfl (fun wz hz => c_M_takeHalf_8 w5 wz hz) (fun w6 => ?_)
  refine sim_blk0 hC [(.aload_n 0, 0, 0, 0, 0), (.getfield 59, 0, 9, 11, 0)] [(0, vR 0)] [vR 9] w6 46 (by decide +kernel) rfl rfl ?_
  refine sim_sv hC 301 mX11_takeHalf 1 0 [vR 9] [] (by decide +kernel) ml_10_301 rfl rfl rfl rfl rfl (fun wz hz => c_M_takeHalf_9 w6 wz hz) (fun w7 => ?_)
  refine sim_blk0 hC [(.aload_n 0, 0, 0, 0, 0), (.getfield 62, 0, 10, 12, 0)] [(0, vR 0)] [vR 10] w7 53 (by decide +kernel) rfl rfl ?_
  refine sim_sv hC 301 mX11_takeHalf 1 0 [vR 10] [] (by decide +kernel) ml_10_301 rfl rfl rfl rfl rfl (fun wz hz => c_M_takeHalf_10 w7 wz hz) (fun w8 => ?_)
  refine sim_blk0 hC [(.aload_n 0, 0, 0, 0, 0), (.getfield 65, 0, 11, 13, 0)] [(0, vR 0)] [vR 11] w8 60 (by decide +kernel) rfl rfl ?_
  refine sim_sv hC 301 mX11_takeHalf 1 0 [vR 11] [] (by decide +kernel) ml_10_301 rfl rfl rfl rfl rfl (fun wz hz => c_M_takeHalf_11 w8 wz hz) (fun w9 => ?_)
  refine sim_blk0 hC [(.aload_n 0, 0, 0, 0, 0), (.iconst 0, 0, 0, 0, 0), (.putfield 305, 0, 31, 0, 0)] [(0, vR 0)] [] (wup w9 0 31 0) 68 (by decide +kernel) rfl rfl ?_
  refine sim_bw (C := fun w10 => (68, [(0, vR 0)], [], w10)) (fun w10 => ?_)
  refine sim_blk0 hC [(.aload_n 0, 0, 0, 0, 0), (.iconst 0, 0, 0, 0, 0), (.putfield 307, 0, 32, 0, 0)] [(0, vR 0)] [] (wup w10 0 32 0) 73 (by decide +kernel) rfl rfl ?_
  refine sim_bw (C := fun w11 => (73, [(0, vR 0)], [], w11)) (fun w11 => ?_)
  refine sim_blk0 hC [(.aload_n 0, 0, 0, 0, 0), (.iconst 0, 0, 0, 0, 0), (.putfield 309, 0, 33, 0, 0)] [(0, vR 0)] [] (wup w11 0 33 0) 78 (by decide +kernel) rfl rfl ?_
  refine sim_bw (C := fun w12 => (78, [(0, vR 0)], [], w12)) (fun w12 => ?_)
  refine sim_blk0 hC [(.iconst 0, 0, 0, 0, 0), (.istore_n 1, 0, 0, 0, 0)] [(0, vR 0), (1, vI 0)] [] w12 80 (by decide +kernel) rfl rfl ?_
  refine sim_bl (E := (E_M_takeOver_80)) ?_ (fun r16 => ?_)
  · exact sim_loop (V := (V_M_takeOver_80)) (fun sz => s_B_M_takeOver_80 hC sz) ((0, w12))
  · show SimK Ok (158, [(0, vR 0)], [], r16) _ _
    refine sim_blk0 hC [(.iconst 0, 0, 0, 0, 0), (.istore_n 1, 0, 0, 0, 0)] [(0, vR 0), (1, vI 0)] [] r16 160 (by decide +kernel) rfl rfl ?_
    refine sim_bl (E := (E_M_takeOver_160)) ?_ (fun r22 => ?_)
    · exact sim_loop (V := (V_M_takeOver_160)) (fun sz => s_B_M_takeOver_160 hC sz) ((0, r16))
    · show SimK Ok (255, [(0, vR 0)], [], r22) _ _
      refine sim_blk0 hC [(.aload_n 0, 0, 0, 0, 0), (.iconst 0, 0, 0, 0, 0), (.putfield 312, 0, 34, 0, 0)] [(0, vR 0)] [] (wup r22 0 34 0) 260 (by decide +kernel) rfl rfl ?_
      refine sim_bw (C := fun w23 => (260, [(0, vR 0)], [], w23)) (fun w23 => ?_)
      refine sim_blk0 hC [(.aload_n 0, 0, 0, 0, 0), (.iconst 0, 0, 0, 0, 0), (.putfield 315, 0, 35, 0, 0)] [(0, vR 0)] [] (wup w23 0 35 0) 265 (by decide +kernel) rfl rfl ?_
      refine sim_bw (C := fun w24 => (265, [(0, vR 0)], [], w24)) (fun w24 => ?_)
      refine sim_blk1 hC [(.aload_n 0, 0, 0, 0, 0), (.iconst 0, 0, 0, 0, 0), (.putfield 318, 0, 55, 2, 0)] [(0, vR 0)] [] (wup w24 0 55 0) 270 (by decide +kernel) rfl rfl ?_
      refine sim_bw (C := fun w25 => (270, [(0, vR 0)], [], w25)) (fun w25 => ?_)
      exact sim_retv hC (by decide +kernel)
theorem c_M_takeOver {Z : ZT} {l : Launch} (w : Wld) (w1 : Wld) (h : F_M_takeOver w = some w1) : Con Z l mX11_takeOver 2 21 [vR 0] w (.inr none) w1 :=
  Con_of (oc := 10) (by decide +kernel) rfl rfl (fun Ok hC => s_M_takeOver hC w w1 h ⟨rfl, rfl⟩)
def V_M_is_39 (a1 : Nat) (w : Wld) : (Int32 × Int32) → Cfg := fun s => (39, [(0, vR 0), (1, vS a1), (2, vI s.1), (3, vI s.2)], [], w)
def E_M_is_39 (a1 : Nat) (w : Wld) : (Int32) → Cfg := fun s => (82, [(2, vI s)], [], w)
noncomputable def K_M_is_75 (a1 : Nat) (a3 : Int32) (t0 : Int32) (w : Wld) : Option ((Int32 × Int32) ⊕ (Int32)) :=
  bi (a3 + 1) (fun i3 => some (.inl ((t0, i3))))
set_option maxRecDepth 10000 in
theorem s_K_M_is_75 {Z : ZT} {l : Launch} {o : Oc} {wo : Wld} {Ok : Cfg → Prop} (hD : Clo3 Z l 10 4 prog_13_method_17_code (some .boolean) 5 103 o wo Ok) (a1 : Nat) (a3 : Int32) (t0 : Int32) (w : Wld) : SimK Ok (75, [(0, vR 0), (1, vS a1), (3, vI a3)], [vI t0], w) (K_M_is_75 a1 a3 t0 w) (GLp Ok (V_M_is_39 a1 w) (GEp Ok (E_M_is_39 a1 w))) := by
  unfold K_M_is_75
  have hC := hD.1
  have hC2 := hD.2
  refine sim_blk0 hC [(.istore_n 2, 0, 0, 0, 0), (.iinc 3 1, 0, 0, 0, 1)] [(0, vR 0), (1, vS a1), (2, vI t0), (3, vI (a3 + 1))] [] w 79 (by decide +kernel) rfl rfl ?_
  refine sim_bi (C := fun i3 => (79, [(0, vR 0), (1, vS a1), (2, vI t0), (3, vI i3)], [], w)) (fun i3 => ?_)
  refine sim_goto hC (-40) 39 (by decide +kernel) (by decide) ?_
  exact sim_back (V := (V_M_is_39 a1 w)) ((t0, i3))
noncomputable def B_M_is_39 (a1 : Nat) (w : Wld) (s : Int32 × Int32) : Option ((Int32 × Int32) ⊕ (Int32)) :=
  br (s.1 = 0) (some (.inr s.1)) (gd (a1 < 19) (bp (F_String_length w a1) (fun i1 => br (i1 ≤ s.2) (some (.inr s.1)) (gd (a1 < 19) (bp (F_String_charAt w a1 s.2) (fun i2 => gd (vp_in ((w 0 19) + s.2) 700) (br (¬ i2 = (w 13 (Int32.toNatClampNeg ((w 0 19) + s.2)))) (K_M_is_75 a1 s.2 0 w) (K_M_is_75 a1 s.2 1 w))))))))
set_option maxRecDepth 10000 in
theorem s_B_M_is_39 {Z : ZT} {l : Launch} {o : Oc} {wo : Wld} {Ok : Cfg → Prop} (hD : Clo3 Z l 10 4 prog_13_method_17_code (some .boolean) 5 103 o wo Ok) (a1 : Nat) (w : Wld) (s : Int32 × Int32) : SimK Ok (V_M_is_39 a1 w s) (B_M_is_39 a1 w s) (GLp Ok (V_M_is_39 a1 w) (GEp Ok (E_M_is_39 a1 w))) := by
  unfold B_M_is_39
  have hC := hD.1
  have hC2 := hD.2
  show SimK Ok (39, [(0, vR 0), (1, vS a1), (2, vI s.1), (3, vI s.2)], [], w) _ _
  refine sim_blk0 hC [(.iload_n 2, 0, 0, 0, 0)] [(0, vR 0), (1, vS a1), (2, vI s.1), (3, vI s.2)] [vI s.1] w 40 (by decide +kernel) rfl rfl ?_
  refine sim_br hC (.ifCond .eq 42) 82 (by decide +kernel) rfl (by decide) ?_ ?_
  · refine sim_sub hC [2] ?_
    exact sim_exit (E := (E_M_is_39 a1 w)) s.1
  · refine sim_blk0 hC [(.iload_n 3, 0, 0, 0, 0), (.aload_n 1, 0, 0, 0, 0)] [(0, vR 0), (1, vS a1), (2, vI s.1), (3, vI s.2)] [vS a1, vI s.2] w 45 (by decide +kernel) rfl rfl ?_
    refine sim_zp hC2 214 mJ0_length_8abf5 2 20 [] [vI s.2] (by decide +kernel) ml_10_214 rfl rfl rfl rfl rfl rfl (fun rz hz => c_String_length w a1 rz hz) (fun i1 => ?_)
    refine sim_br hC (.if_icmp .ge 34) 82 (by decide +kernel) rfl (by decide) ?_ ?_
    · refine sim_sub hC [2] ?_
      exact sim_exit (E := (E_M_is_39 a1 w)) s.1
    · refine sim_blk0 hC [(.aload_n 1, 0, 0, 0, 0), (.iload_n 3, 0, 0, 0, 0)] [(0, vR 0), (1, vS a1), (2, vI s.1), (3, vI s.2)] [vI s.2, vS a1] w 53 (by decide +kernel) rfl rfl ?_
      refine sim_zp hC2 218 mJ0_charAt_5068e 4 82 [vI s.2] [] (by decide +kernel) ml_10_218 rfl rfl rfl rfl rfl rfl (fun rz hz => c_String_charAt w a1 s.2 rz hz) (fun i2 => ?_)
      refine sim_blk1 hC [(.aload_n 0, 0, 0, 0, 0), (.getfield 71, 0, 13, 15, 0), (.aload_n 0, 0, 0, 0, 0), (.getfield 179, 0, 19, 0, 0), (.iload_n 3, 0, 0, 0, 0), (.iadd, 0, 0, 0, 0), (.iaload, 13, 700, 0, 0)] [(0, vR 0), (1, vS a1), (2, vI s.1), (3, vI s.2)] [vI (w 13 (Int32.toNatClampNeg ((w 0 19) + s.2))), vI i2] w 67 (by decide +kernel) rfl rfl ?_
      refine sim_br hC (.if_icmp .ne 7) 74 (by decide +kernel) rfl (by decide) ?_ ?_
      · refine sim_blk0 hC [(.iconst 0, 0, 0, 0, 0)] [(0, vR 0), (1, vS a1), (2, vI s.1), (3, vI s.2)] [vI 0] w 75 (by decide +kernel) rfl rfl ?_
        refine sim_sub hC [0, 1, 3] ?_
        exact s_K_M_is_75 hD a1 s.2 0 w
      · refine sim_blk0 hC [(.iconst 1, 0, 0, 0, 1)] [(0, vR 0), (1, vS a1), (2, vI s.1), (3, vI s.2)] [vI 1] w 71 (by decide +kernel) rfl rfl ?_
        refine sim_goto hC 4 75 (by decide +kernel) (by decide) ?_
        refine sim_sub hC [0, 1, 3] ?_
        exact s_K_M_is_75 hD a1 s.2 1 w
noncomputable def K_M_is_36 (a1 : Nat) (t0 : Int32) (w : Wld) : Option (Int32) :=
  bl (loop (B_M_is_39 a1 w) ((t0, 0))) (fun r4 => gd (r4 = 0 ∨ r4 = 1) (some r4))
set_option maxRecDepth 10000 in
theorem s_K_M_is_36 {Z : ZT} {l : Launch} {o : Oc} {wo : Wld} {Ok : Cfg → Prop} (hD : Clo3 Z l 10 4 prog_13_method_17_code (some .boolean) 5 103 o wo Ok) (a1 : Nat) (t0 : Int32) (w : Wld) : SimK Ok (36, [(0, vR 0), (1, vS a1)], [vI t0], w) (K_M_is_36 a1 t0 w) (Gp o wo w) := by
  unfold K_M_is_36
  have hC := hD.1
  have hC2 := hD.2
  refine sim_blk0 hC [(.istore_n 2, 0, 0, 0, 0), (.iconst 0, 0, 0, 0, 0), (.istore_n 3, 0, 0, 0, 0)] [(0, vR 0), (1, vS a1), (2, vI t0), (3, vI 0)] [] w 39 (by decide +kernel) rfl rfl ?_
  refine sim_bl (E := (E_M_is_39 a1 w)) ?_ (fun r4 => ?_)
  · exact sim_loop (V := (V_M_is_39 a1 w)) (fun sz => s_B_M_is_39 hD a1 w sz) ((t0, 0))
  · show SimK Ok (82, [(2, vI r4)], [], w) _ _
    refine sim_blk0 hC [(.iload_n 2, 0, 0, 0, 0)] [(2, vI r4)] [vI r4] w 83 (by decide +kernel) rfl rfl ?_
    exact sim_retpz hC (by decide +kernel) rfl
noncomputable def K_M_is_35 (a1 : Nat) (w : Wld) : Option (Int32) :=
  K_M_is_36 a1 0 w
set_option maxRecDepth 10000 in
theorem s_K_M_is_35 {Z : ZT} {l : Launch} {o : Oc} {wo : Wld} {Ok : Cfg → Prop} (hD : Clo3 Z l 10 4 prog_13_method_17_code (some .boolean) 5 103 o wo Ok) (a1 : Nat) (w : Wld) : SimK Ok (35, [(0, vR 0), (1, vS a1)], [], w) (K_M_is_35 a1 w) (Gp o wo w) := by
  unfold K_M_is_35
  have hC := hD.1
  have hC2 := hD.2
  refine sim_blk0 hC [(.iconst 0, 0, 0, 0, 0)] [(0, vR 0), (1, vS a1)] [vI 0] w 36 (by decide +kernel) rfl rfl ?_
  exact s_K_M_is_36 hD a1 0 w
noncomputable def F_M_is (w : Wld) (a1 : Nat) : Option (Int32) :=
  br (¬ (w 0 21) = 0) (K_M_is_35 a1 w) (br (¬ (w 0 17) = 1) (K_M_is_35 a1 w) (gd (a1 < 19) (bp (F_String_length w a1) (fun i5 => br (¬ i5 = ((w 0 20) - (w 0 19))) (K_M_is_35 a1 w) (K_M_is_36 a1 1 w)))))
set_option maxRecDepth 10000 in
theorem s_M_is {Z : ZT} {l : Launch} {o : Oc} {wo : Wld} {Ok : Cfg → Prop} (hD : Clo3 Z l 10 4 prog_13_method_17_code (some .boolean) 5 103 o wo Ok) (w : Wld) (a1 : Nat) : SimK Ok (0, [(0, vR 0), (1, vS a1)], [], w) (F_M_is w a1) (Gp o wo w) := by
  unfold F_M_is
  have hC := hD.1
  have hC2 := hD.2
  refine sim_blk0 hC [(.aload_n 0, 0, 0, 0, 0), (.getfield 208, 0, 21, 0, 0)] [(0, vR 0), (1, vS a1)] [vI (w 0 21)] w 4 (by decide +kernel) rfl rfl ?_
  refine sim_br hC (.ifCond .ne 31) 35 (by decide +kernel) rfl (by decide) ?_ ?_
  · exact s_K_M_is_35 hD a1 w
  · refine sim_blk0 hC [(.aload_n 0, 0, 0, 0, 0), (.getfield 182, 0, 17, 0, 0), (.iconst 1, 0, 0, 0, 1)] [(0, vR 0), (1, vS a1)] [vI 1, vI (w 0 17)] w 12 (by decide +kernel) rfl rfl ?_
    refine sim_br hC (.if_icmp .ne 23) 35 (by decide +kernel) rfl (by decide) ?_ ?_
    · exact s_K_M_is_35 hD a1 w
    · refine sim_blk0 hC [(.aload_n 1, 0, 0, 0, 0)] [(0, vR 0), (1, vS a1)] [vS a1] w 16 (by decide +kernel) rfl rfl ?_
      refine sim_zp hC2 214 mJ0_length_8abf5 2 20 [] [] (by decide +kernel) ml_10_214 rfl rfl rfl rfl rfl rfl (fun rz hz => c_String_length w a1 rz hz) (fun i5 => ?_)
      refine sim_blk0 hC [(.aload_n 0, 0, 0, 0, 0), (.getfield 205, 0, 20, 0, 0), (.aload_n 0, 0, 0, 0, 0), (.getfield 179, 0, 19, 0, 0), (.isub, 0, 0, 0, 0)] [(0, vR 0), (1, vS a1)] [vI ((w 0 20) - (w 0 19)), vI i5] w 28 (by decide +kernel) rfl rfl ?_
      refine sim_br hC (.if_icmp .ne 7) 35 (by decide +kernel) rfl (by decide) ?_ ?_
      · exact s_K_M_is_35 hD a1 w
      · refine sim_blk0 hC [(.iconst 1, 0, 0, 0, 1)] [(0, vR 0), (1, vS a1)] [vI 1] w 32 (by decide +kernel) rfl rfl ?_
        refine sim_goto hC 4 36 (by decide +kernel) (by decide) ?_
        exact s_K_M_is_36 hD a1 1 w
theorem c_M_is {Z : ZT} {l : Launch} (w : Wld) (a1 : Nat) (r : Int32) (h : F_M_is w a1 = some r) : Con Z l mX11_is 5 103 [vR 0, vS a1] w (.inr (some r)) w :=
  Con_of3 (oc := 10) (by decide +kernel) rfl rfl (fun Ok hC => s_M_is hC w a1 r h ⟨rfl, rfl⟩)
def V_M_which_1_2 (w : Wld) : (Int32) → Cfg := fun s => (2, [(0, vR 0), (1, vR 1), (2, vI s)], [], w)
def E_M_which_1_2 (w : Wld) : (Unit) → Cfg := fun s => (26, [], [], w)
noncomputable def B_M_which_1_2 (w : Wld) (s : Int32) : Option ((Int32) ⊕ ((Unit) ⊕ (Int32))) :=
  br ((4 : Int32) ≤ s) (some (.inr (.inl (())))) (gd (vp_in s 4) (bp (F_M_is w (0 + Int32.toNatClampNeg s)) (fun i1 => br (i1 = 0) (bi (s + 1) (fun i2 => some (.inl i2))) (some (.inr (.inr s))))))
set_option maxRecDepth 10000 in
theorem s_B_M_which_1_2 {Z : ZT} {l : Launch} {o : Oc} {wo : Wld} {Ok : Cfg → Prop} (hD : Clo3 Z l 10 3 prog_13_method_18_code (some .int) 6 126 o wo Ok) (w : Wld) (s : Int32) : SimK Ok (V_M_which_1_2 w s) (B_M_which_1_2 w s) (GLp Ok (V_M_which_1_2 w) (GLp Ok (E_M_which_1_2 w) (Gp o wo w))) := by
  unfold B_M_which_1_2
  have hC := hD.1
  have hC2 := hD.2
  show SimK Ok (2, [(0, vR 0), (1, vR 1), (2, vI s)], [], w) _ _
  refine sim_blk0 hC [(.iload_n 2, 0, 0, 0, 0), (.aload_n 1, 0, 0, 0, 0)] [(0, vR 0), (1, vR 1), (2, vI s)] [vR 1, vI s] w 4 (by decide +kernel) rfl rfl ?_
  refine sim_slen hC2 1 4 0 4 (by decide +kernel) (by decide +kernel) rfl ?_
  refine sim_br hC (.if_icmp .ge 21) 26 (by decide +kernel) rfl (by decide) ?_ ?_
  · refine sim_sub hC [] ?_
    exact sim_exitx (E := (E_M_which_1_2 w)) (())
  · refine sim_blk0 hC [(.aload_n 0, 0, 0, 0, 0), (.aload_n 1, 0, 0, 0, 0), (.iload_n 2, 0, 0, 0, 0)] [(0, vR 0), (1, vR 1), (2, vI s)] [vI s, vR 1, vR 0] w 11 (by decide +kernel) rfl rfl ?_
    refine sim_sald hC2 1 4 0 (by decide +kernel) (by decide +kernel) ?_
    refine sim_vp hC 222 mX11_is 5 103 0 [vS (0 + Int32.toNatClampNeg s)] [] (by decide +kernel) ml_10_222 rfl rfl rfl rfl rfl rfl (fun rz hz => c_M_is w (0 + Int32.toNatClampNeg s) rz hz) (fun i1 => ?_)
    refine sim_br hC (.ifCond .eq 5) 20 (by decide +kernel) rfl (by decide) ?_ ?_
    · refine sim_blk0 hC [(.iinc 2 1, 0, 0, 0, 1)] [(0, vR 0), (1, vR 1), (2, vI (s + 1))] [] w 23 (by decide +kernel) rfl rfl ?_
      refine sim_bi (C := fun i2 => (23, [(0, vR 0), (1, vR 1), (2, vI i2)], [], w)) (fun i2 => ?_)
      refine sim_goto hC (-21) 2 (by decide +kernel) (by decide) ?_
      exact sim_back (V := (V_M_which_1_2 w)) i2
    · refine sim_blk0 hC [(.iload_n 2, 0, 0, 0, 0)] [(0, vR 0), (1, vR 1), (2, vI s)] [vI s] w 19 (by decide +kernel) rfl rfl ?_
      refine sim_outx ?_
      exact sim_retp hC (by decide +kernel) trivial
noncomputable def F_M_which_1 (w : Wld) : Option (Int32) :=
  bx (loop (B_M_which_1_2 w) 0) (fun r3 => some (-1))
set_option maxRecDepth 10000 in
theorem s_M_which_1 {Z : ZT} {l : Launch} {o : Oc} {wo : Wld} {Ok : Cfg → Prop} (hD : Clo3 Z l 10 3 prog_13_method_18_code (some .int) 6 126 o wo Ok) (w : Wld) : SimK Ok (0, [(0, vR 0), (1, vR 1)], [], w) (F_M_which_1 w) (Gp o wo w) := by
  unfold F_M_which_1
  have hC := hD.1
  have hC2 := hD.2
  refine sim_blk0 hC [(.iconst 0, 0, 0, 0, 0), (.istore_n 2, 0, 0, 0, 0)] [(0, vR 0), (1, vR 1), (2, vI 0)] [] w 2 (by decide +kernel) rfl rfl ?_
  refine sim_bx (E := (E_M_which_1_2 w)) ?_ (fun r3 => ?_)
  · exact sim_loop (V := (V_M_which_1_2 w)) (fun sz => s_B_M_which_1_2 hD w sz) 0
  · show SimK Ok (26, [], [], w) _ _
    refine sim_blk0 hC [(.iconst (-1), 0, 0, 0, (-1))] [] [vI (-1)] w 27 (by decide +kernel) rfl rfl ?_
    exact sim_retp hC (by decide +kernel) trivial
theorem c_M_which_1 {Z : ZT} {l : Launch} (w : Wld) (r : Int32) (h : F_M_which_1 w = some r) : Con Z l mX11_which 6 126 [vR 0, vR 1] w (.inr (some r)) w :=
  Con_of3 (oc := 10) (by decide +kernel) rfl rfl (fun Ok hC => s_M_which_1 hC w r h ⟨rfl, rfl⟩)
noncomputable def F_M_wrong (w : Wld) (a1 : Int32) : Option (Wld) :=
  br ((w 0 21) = 0) (bw (wup w 0 21 a1) (fun w1 => bw (wup w1 0 22 (w1 0 19)) (fun w2 => some w2))) (some w)
set_option maxRecDepth 10000 in
theorem s_M_wrong {Z : ZT} {l : Launch} {o : Oc} {wo : Wld} {Ok : Cfg → Prop} (hC : Clo Z l 10 2 prog_13_method_16_code none 1 0 o wo Ok) (w : Wld) (a1 : Int32) : SimK Ok (0, [(0, vR 0), (1, vI a1)], [], w) (F_M_wrong w a1) (Gv o wo) := by
  unfold F_M_wrong
  refine sim_blk0 hC [(.aload_n 0, 0, 0, 0, 0), (.getfield 208, 0, 21, 0, 0)] [(0, vR 0), (1, vI a1)] [vI (w 0 21)] w 4 (by decide +kernel) rfl rfl ?_
  refine sim_br hC (.ifCond .eq 4) 8 (by decide +kernel) rfl (by decide) ?_ ?_
  · refine sim_blk0 hC [(.aload_n 0, 0, 0, 0, 0), (.iload_n 1, 0, 0, 0, 0), (.putfield 208, 0, 21, 0, 0)] [(0, vR 0), (1, vI a1)] [] (wup w 0 21 a1) 13 (by decide +kernel) rfl rfl ?_
    refine sim_bw (C := fun w1 => (13, [(0, vR 0), (1, vI a1)], [], w1)) (fun w1 => ?_)
    refine sim_blk0 hC [(.aload_n 0, 0, 0, 0, 0), (.aload_n 0, 0, 0, 0, 0), (.getfield 179, 0, 19, 0, 0), (.putfield 211, 0, 22, 0, 0)] [(0, vR 0), (1, vI a1)] [] (wup w1 0 22 (w1 0 19)) 21 (by decide +kernel) rfl rfl ?_
    refine sim_bw (C := fun w2 => (21, [(0, vR 0), (1, vI a1)], [], w2)) (fun w2 => ?_)
    exact sim_retv hC (by decide +kernel)
  · exact sim_retv hC (by decide +kernel)
theorem c_M_wrong {Z : ZT} {l : Launch} (w : Wld) (a1 : Int32) (w1 : Wld) (h : F_M_wrong w a1 = some w1) : Con Z l mX11_wrong 1 0 [vR 0, vI a1] w (.inr none) w1 :=
  Con_of (oc := 10) (by decide +kernel) rfl rfl (fun Ok hC => s_M_wrong hC w a1 w1 h ⟨rfl, rfl⟩)
