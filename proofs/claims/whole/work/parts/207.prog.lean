noncomputable def K_M_isOf_14 (t0 : Int32) (w : Wld) : Option (Int32) :=
  gd (t0 = 0 ∨ t0 = 1) (some t0)
set_option maxRecDepth 10000 in
theorem s_K_M_isOf_14 {Z : ZT} {l : Launch} {o : Oc} {wo : Wld} {Ok : Cfg → Prop} (hC : Clo Z l 10 2 prog_13_method_6_code (some .boolean) 1 0 o wo Ok) (t0 : Int32) (w : Wld) : SimK Ok (14, [], [vI t0], w) (K_M_isOf_14 t0 w) (Gp o wo w) := by
  unfold K_M_isOf_14
  exact sim_retpz hC (by decide +kernel) rfl
noncomputable def F_M_isOf (w : Wld) (a0 : Int32) (a1 : Int32) : Option (Int32) :=
  br (¬ ((a0 >>> (a1 &&& 31)) &&& (1 : Int32)) = 1) (K_M_isOf_14 0 w) (K_M_isOf_14 1 w)
set_option maxRecDepth 10000 in
theorem s_M_isOf {Z : ZT} {l : Launch} {o : Oc} {wo : Wld} {Ok : Cfg → Prop} (hC : Clo Z l 10 2 prog_13_method_6_code (some .boolean) 1 0 o wo Ok) (w : Wld) (a0 : Int32) (a1 : Int32) : SimK Ok (0, [(0, vI a0), (1, vI a1)], [], w) (F_M_isOf w a0 a1) (Gp o wo w) := by
  unfold F_M_isOf
  refine sim_blk0 hC [(.iload_n 0, 0, 0, 0, 0), (.iload_n 1, 0, 0, 0, 0), (.ishr, 0, 0, 0, 0), (.iconst 1, 0, 0, 0, 1), (.iand, 0, 0, 0, 0), (.iconst 1, 0, 0, 0, 1)] [(0, vI a0), (1, vI a1)] [vI 1, vI ((a0 >>> (a1 &&& 31)) &&& (1 : Int32))] w 6 (by decide +kernel) rfl rfl ?_
  refine sim_br hC (.if_icmp .ne 7) 13 (by decide +kernel) rfl (by decide) ?_ ?_
  · refine sim_blk0 hC [(.iconst 0, 0, 0, 0, 0)] [(0, vI a0), (1, vI a1)] [vI 0] w 14 (by decide +kernel) rfl rfl ?_
    refine sim_sub hC [] ?_
    exact s_K_M_isOf_14 hC 0 w
  · refine sim_blk0 hC [(.iconst 1, 0, 0, 0, 1)] [(0, vI a0), (1, vI a1)] [vI 1] w 10 (by decide +kernel) rfl rfl ?_
    refine sim_goto hC 4 14 (by decide +kernel) (by decide) ?_
    refine sim_sub hC [] ?_
    exact s_K_M_isOf_14 hC 1 w
theorem c_M_isOf {Z : ZT} {l : Launch} (w : Wld) (a0 : Int32) (a1 : Int32) (r : Int32) (h : F_M_isOf w a0 a1 = some r) : Con Z l mX11_isOf 1 0 [vI a0, vI a1] w (.inr (some r)) w :=
  Con_of (oc := 10) (by decide +kernel) rfl rfl (fun Ok hC => s_M_isOf hC w a0 a1 r h ⟨rfl, rfl⟩)
noncomputable def K_M_reckon_117 (t0 : Int32) (w : Wld) : Option (Int32) :=
  some t0
set_option maxRecDepth 10000 in
theorem s_K_M_reckon_117 {Z : ZT} {l : Launch} {o : Oc} {wo : Wld} {Ok : Cfg → Prop} (hC : Clo Z l 10 3 prog_13_method_40_code (some .int) 1 0 o wo Ok) (t0 : Int32) (w : Wld) : SimK Ok (117, [], [vI t0], w) (K_M_reckon_117 t0 w) (Gp o wo w) := by
  unfold K_M_reckon_117
  exact sim_retp hC (by decide +kernel) trivial
noncomputable def K_M_reckon_112 (w : Wld) : Option (Int32) :=
  K_M_reckon_117 1 w
set_option maxRecDepth 10000 in
theorem s_K_M_reckon_112 {Z : ZT} {l : Launch} {o : Oc} {wo : Wld} {Ok : Cfg → Prop} (hC : Clo Z l 10 3 prog_13_method_40_code (some .int) 1 0 o wo Ok) (w : Wld) : SimK Ok (112, [], [], w) (K_M_reckon_112 w) (Gp o wo w) := by
  unfold K_M_reckon_112
  refine sim_blk0 hC [(.iconst 1, 0, 0, 0, 1)] [] [vI 1] w 113 (by decide +kernel) rfl rfl ?_
  refine sim_goto hC 4 117 (by decide +kernel) (by decide) ?_
  exact s_K_M_reckon_117 hC 1 w
noncomputable def K_M_reckon_103 (t0 : Int32) (w : Wld) : Option (Int32) :=
  some t0
set_option maxRecDepth 10000 in
theorem s_K_M_reckon_103 {Z : ZT} {l : Launch} {o : Oc} {wo : Wld} {Ok : Cfg → Prop} (hC : Clo Z l 10 3 prog_13_method_40_code (some .int) 1 0 o wo Ok) (t0 : Int32) (w : Wld) : SimK Ok (103, [], [vI t0], w) (K_M_reckon_103 t0 w) (Gp o wo w) := by
  unfold K_M_reckon_103
  exact sim_retp hC (by decide +kernel) trivial
noncomputable def K_M_reckon_102 (w : Wld) : Option (Int32) :=
  K_M_reckon_103 0 w
set_option maxRecDepth 10000 in
theorem s_K_M_reckon_102 {Z : ZT} {l : Launch} {o : Oc} {wo : Wld} {Ok : Cfg → Prop} (hC : Clo Z l 10 3 prog_13_method_40_code (some .int) 1 0 o wo Ok) (w : Wld) : SimK Ok (102, [], [], w) (K_M_reckon_102 w) (Gp o wo w) := by
  unfold K_M_reckon_102
  refine sim_blk0 hC [(.iconst 0, 0, 0, 0, 0)] [] [vI 0] w 103 (by decide +kernel) rfl rfl ?_
  exact s_K_M_reckon_103 hC 0 w
noncomputable def K_M_reckon_89 (t0 : Int32) (w : Wld) : Option (Int32) :=
  some t0
set_option maxRecDepth 10000 in
theorem s_K_M_reckon_89 {Z : ZT} {l : Launch} {o : Oc} {wo : Wld} {Ok : Cfg → Prop} (hC : Clo Z l 10 3 prog_13_method_40_code (some .int) 1 0 o wo Ok) (t0 : Int32) (w : Wld) : SimK Ok (89, [], [vI t0], w) (K_M_reckon_89 t0 w) (Gp o wo w) := by
  unfold K_M_reckon_89
  exact sim_retp hC (by decide +kernel) trivial
noncomputable def K_M_reckon_78 (t0 : Int32) (w : Wld) : Option (Int32) :=
  some t0
set_option maxRecDepth 10000 in
theorem s_K_M_reckon_78 {Z : ZT} {l : Launch} {o : Oc} {wo : Wld} {Ok : Cfg → Prop} (hC : Clo Z l 10 3 prog_13_method_40_code (some .int) 1 0 o wo Ok) (t0 : Int32) (w : Wld) : SimK Ok (78, [], [vI t0], w) (K_M_reckon_78 t0 w) (Gp o wo w) := by
  unfold K_M_reckon_78
  exact sim_retp hC (by decide +kernel) trivial
noncomputable def K_M_reckon_67 (t0 : Int32) (w : Wld) : Option (Int32) :=
  some t0
set_option maxRecDepth 10000 in
theorem s_K_M_reckon_67 {Z : ZT} {l : Launch} {o : Oc} {wo : Wld} {Ok : Cfg → Prop} (hC : Clo Z l 10 3 prog_13_method_40_code (some .int) 1 0 o wo Ok) (t0 : Int32) (w : Wld) : SimK Ok (67, [], [vI t0], w) (K_M_reckon_67 t0 w) (Gp o wo w) := by
  unfold K_M_reckon_67
  exact sim_retp hC (by decide +kernel) trivial
noncomputable def F_M_reckon (w : Wld) (a0 : Int32) (a1 : Int32) (a2 : Int32) : Option (Int32) :=
  br (a0 = (-26)) (br (a1 = 0) (K_M_reckon_102 w) (br (a2 = 0) (K_M_reckon_102 w) (K_M_reckon_103 1 w))) (br (a0 = (-25)) (br (¬ a1 = a2) (K_M_reckon_89 0 w) (K_M_reckon_89 1 w)) (br (a0 = (-24)) (br (a2 ≤ a1) (K_M_reckon_78 0 w) (K_M_reckon_78 1 w)) (br (a0 = (-23)) (br (¬ a2 = 0) (gd (¬ a2 = 0) (K_M_reckon_67 (a1 / a2) w)) (K_M_reckon_67 0 w)) (br (a0 = (-22)) (some (a1 * a2)) (br (a0 = (-21)) (some (a1 - a2)) (br (a0 = (-20)) (some (a1 + a2)) (br (¬ a1 = 0) (K_M_reckon_112 w) (br (a2 = 0) (K_M_reckon_117 0 w) (K_M_reckon_112 w)))))))))
set_option maxRecDepth 10000 in
theorem s_M_reckon {Z : ZT} {l : Launch} {o : Oc} {wo : Wld} {Ok : Cfg → Prop} (hC : Clo Z l 10 3 prog_13_method_40_code (some .int) 1 0 o wo Ok) (w : Wld) (a0 : Int32) (a1 : Int32) (a2 : Int32) : SimK Ok (0, [(0, vI a0), (1, vI a1), (2, vI a2)], [], w) (F_M_reckon w a0 a1 a2) (Gp o wo w) := by
  unfold F_M_reckon
  refine sim_blk0 hC [(.iload_n 0, 0, 0, 0, 0)] [(0, vI a0), (1, vI a1), (2, vI a2)] [vI a0] w 1 (by decide +kernel) rfl rfl ?_
  refine sim_cases (fun h0 => ?_) (fun h0 => ?_)
  · refine sim_case hC 103 (-26) (-20) #[89, 78, 67, 55, 51, 47, 43] 43 89 90 h0 (by decide +kernel) (by decide) (by decide) (by decide +kernel) (by decide) ?_
    refine sim_blk0 hC [(.iload_n 1, 0, 0, 0, 0)] [(0, vI a0), (1, vI a1), (2, vI a2)] [vI a1] w 91 (by decide +kernel) rfl rfl ?_
    refine sim_br hC (.ifCond .eq 11) 102 (by decide +kernel) rfl (by decide) ?_ ?_
    · refine sim_sub hC [] ?_
      exact s_K_M_reckon_102 hC w
    · refine sim_blk0 hC [(.iload_n 2, 0, 0, 0, 0)] [(0, vI a0), (1, vI a1), (2, vI a2)] [vI a2] w 95 (by decide +kernel) rfl rfl ?_
      refine sim_br hC (.ifCond .eq 7) 102 (by decide +kernel) rfl (by decide) ?_ ?_
      · refine sim_sub hC [] ?_
        exact s_K_M_reckon_102 hC w
      · refine sim_blk0 hC [(.iconst 1, 0, 0, 0, 1)] [(0, vI a0), (1, vI a1), (2, vI a2)] [vI 1] w 99 (by decide +kernel) rfl rfl ?_
        refine sim_goto hC 4 103 (by decide +kernel) (by decide) ?_
        refine sim_sub hC [] ?_
        exact s_K_M_reckon_103 hC 1 w
  · refine sim_cases (fun h1 => ?_) (fun h1 => ?_)
    · refine sim_case hC 103 (-26) (-20) #[89, 78, 67, 55, 51, 47, 43] 43 78 79 h1 (by decide +kernel) (by decide) (by decide) (by decide +kernel) (by decide) ?_
      refine sim_blk0 hC [(.iload_n 1, 0, 0, 0, 0), (.iload_n 2, 0, 0, 0, 0)] [(0, vI a0), (1, vI a1), (2, vI a2)] [vI a2, vI a1] w 81 (by decide +kernel) rfl rfl ?_
      refine sim_br hC (.if_icmp .ne 7) 88 (by decide +kernel) rfl (by decide) ?_ ?_
      · refine sim_blk0 hC [(.iconst 0, 0, 0, 0, 0)] [(0, vI a0), (1, vI a1), (2, vI a2)] [vI 0] w 89 (by decide +kernel) rfl rfl ?_
        refine sim_sub hC [] ?_
        exact s_K_M_reckon_89 hC 0 w
      · refine sim_blk0 hC [(.iconst 1, 0, 0, 0, 1)] [(0, vI a0), (1, vI a1), (2, vI a2)] [vI 1] w 85 (by decide +kernel) rfl rfl ?_
        refine sim_goto hC 4 89 (by decide +kernel) (by decide) ?_
        refine sim_sub hC [] ?_
        exact s_K_M_reckon_89 hC 1 w
    · refine sim_cases (fun h2 => ?_) (fun h2 => ?_)
      · refine sim_case hC 103 (-26) (-20) #[89, 78, 67, 55, 51, 47, 43] 43 67 68 h2 (by decide +kernel) (by decide) (by decide) (by decide +kernel) (by decide) ?_
        refine sim_blk0 hC [(.iload_n 1, 0, 0, 0, 0), (.iload_n 2, 0, 0, 0, 0)] [(0, vI a0), (1, vI a1), (2, vI a2)] [vI a2, vI a1] w 70 (by decide +kernel) rfl rfl ?_
        refine sim_br hC (.if_icmp .ge 7) 77 (by decide +kernel) rfl (by decide) ?_ ?_
        · refine sim_blk0 hC [(.iconst 0, 0, 0, 0, 0)] [(0, vI a0), (1, vI a1), (2, vI a2)] [vI 0] w 78 (by decide +kernel) rfl rfl ?_
          refine sim_sub hC [] ?_
          exact s_K_M_reckon_78 hC 0 w
        · refine sim_blk0 hC [(.iconst 1, 0, 0, 0, 1)] [(0, vI a0), (1, vI a1), (2, vI a2)] [vI 1] w 74 (by decide +kernel) rfl rfl ?_
          refine sim_goto hC 4 78 (by decide +kernel) (by decide) ?_
          refine sim_sub hC [] ?_
          exact s_K_M_reckon_78 hC 1 w
      · refine sim_cases (fun h3 => ?_) (fun h3 => ?_)
        · refine sim_case hC 103 (-26) (-20) #[89, 78, 67, 55, 51, 47, 43] 43 55 56 h3 (by decide +kernel) (by decide) (by decide) (by decide +kernel) (by decide) ?_
          refine sim_blk0 hC [(.iload_n 2, 0, 0, 0, 0)] [(0, vI a0), (1, vI a1), (2, vI a2)] [vI a2] w 57 (by decide +kernel) rfl rfl ?_
          refine sim_br hC (.ifCond .ne 7) 64 (by decide +kernel) rfl (by decide) ?_ ?_
          · refine sim_blk1 hC [(.iload_n 1, 0, 0, 0, 0), (.iload_n 2, 0, 0, 0, 0), (.idiv, 0, 0, 0, 0)] [(0, vI a0), (1, vI a1), (2, vI a2)] [vI (a1 / a2)] w 67 (by decide +kernel) rfl rfl ?_
            refine sim_sub hC [] ?_
            exact s_K_M_reckon_67 hC (a1 / a2) w
          · refine sim_blk0 hC [(.iconst 0, 0, 0, 0, 0)] [(0, vI a0), (1, vI a1), (2, vI a2)] [vI 0] w 61 (by decide +kernel) rfl rfl ?_
            refine sim_goto hC 6 67 (by decide +kernel) (by decide) ?_
            refine sim_sub hC [] ?_
            exact s_K_M_reckon_67 hC 0 w
        · refine sim_cases (fun h4 => ?_) (fun h4 => ?_)
          · refine sim_case hC 103 (-26) (-20) #[89, 78, 67, 55, 51, 47, 43] 43 51 52 h4 (by decide +kernel) (by decide) (by decide) (by decide +kernel) (by decide) ?_
            refine sim_blk0 hC [(.iload_n 1, 0, 0, 0, 0), (.iload_n 2, 0, 0, 0, 0), (.imul, 0, 0, 0, 0)] [(0, vI a0), (1, vI a1), (2, vI a2)] [vI (a1 * a2)] w 55 (by decide +kernel) rfl rfl ?_
            exact sim_retp hC (by decide +kernel) trivial
          · refine sim_cases (fun h5 => ?_) (fun h5 => ?_)
            · refine sim_case hC 103 (-26) (-20) #[89, 78, 67, 55, 51, 47, 43] 43 47 48 h5 (by decide +kernel) (by decide) (by decide) (by decide +kernel) (by decide) ?_
              refine sim_blk0 hC [(.iload_n 1, 0, 0, 0, 0), (.iload_n 2, 0, 0, 0, 0), (.isub, 0, 0, 0, 0)] [(0, vI a0), (1, vI a1), (2, vI a2)] [vI (a1 - a2)] w 51 (by decide +kernel) rfl rfl ?_
              exact sim_retp hC (by decide +kernel) trivial
            · refine sim_cases (fun h6 => ?_) (fun h6 => ?_)
              · refine sim_case hC 103 (-26) (-20) #[89, 78, 67, 55, 51, 47, 43] 43 43 44 h6 (by decide +kernel) (by decide) (by decide) (by decide +kernel) (by decide) ?_
                refine sim_blk0 hC [(.iload_n 1, 0, 0, 0, 0), (.iload_n 2, 0, 0, 0, 0), (.iadd, 0, 0, 0, 0)] [(0, vI a0), (1, vI a1), (2, vI a2)] [vI (a1 + a2)] w 47 (by decide +kernel) rfl rfl ?_
                exact sim_retp hC (by decide +kernel) trivial
              · refine sim_dflt hC 103 (-26) (-20) #[89, 78, 67, 55, 51, 47, 43] 43 104 (by decide +kernel) (sw_out [(-26), (-25), (-24), (-23), (-22), (-21), (-20)] (-26) (-20) (by decide +kernel) (List.forall_mem_cons.mpr ⟨h0, List.forall_mem_cons.mpr ⟨h1, List.forall_mem_cons.mpr ⟨h2, List.forall_mem_cons.mpr ⟨h3, List.forall_mem_cons.mpr ⟨h4, List.forall_mem_cons.mpr ⟨h5, List.forall_mem_cons.mpr ⟨h6, fun _ h => absurd h List.not_mem_nil⟩⟩⟩⟩⟩⟩⟩)) (by decide) ?_
                refine sim_blk0 hC [(.iload_n 1, 0, 0, 0, 0)] [(0, vI a0), (1, vI a1), (2, vI a2)] [vI a1] w 105 (by decide +kernel) rfl rfl ?_
                refine sim_br hC (.ifCond .ne 7) 112 (by decide +kernel) rfl (by decide) ?_ ?_
                · refine sim_sub hC [] ?_
                  exact s_K_M_reckon_112 hC w
                · refine sim_blk0 hC [(.iload_n 2, 0, 0, 0, 0)] [(0, vI a0), (1, vI a1), (2, vI a2)] [vI a2] w 109 (by decide +kernel) rfl rfl ?_
                  refine sim_br hC (.ifCond .eq 7) 116 (by decide +kernel) rfl (by decide) ?_ ?_
                  · refine sim_blk0 hC [(.iconst 0, 0, 0, 0, 0)] [(0, vI a0), (1, vI a1), (2, vI a2)] [vI 0] w 117 (by decide +kernel) rfl rfl ?_
                    refine sim_sub hC [] ?_
                    exact s_K_M_reckon_117 hC 0 w
                  · refine sim_sub hC [] ?_
                    exact s_K_M_reckon_112 hC w
theorem c_M_reckon {Z : ZT} {l : Launch} (w : Wld) (a0 : Int32) (a1 : Int32) (a2 : Int32) (r : Int32) (h : F_M_reckon w a0 a1 a2 = some r) : Con Z l mX11_reckon 1 0 [vI a0, vI a1, vI a2] w (.inr (some r)) w :=
  Con_of (oc := 10) (by decide +kernel) rfl rfl (fun Ok hC => s_M_reckon hC w a0 a1 a2 r h ⟨rfl, rfl⟩)
def V_M_valueNow_4 : (Int32 × Int32 × Wld) → Cfg := fun s => (4, [(0, vR 0), (1, vI s.1), (2, vI s.2.1)], [], s.2.2)
def E_M_valueNow_4 : (Wld) → Cfg := fun s => (123, [(0, vR 0)], [], s)
noncomputable def K_M_valueNow_117 (a1 : Int32) (a2 : Int32) (w : Wld) : Option ((Int32 × Int32 × Wld) ⊕ (Wld)) :=
  bi (a2 + 1) (fun i5 => some (.inl ((a1, i5, w))))
set_option maxRecDepth 10000 in
theorem s_K_M_valueNow_117 {Z : ZT} {l : Launch} {o : Oc} {wo : Wld} {Ok : Cfg → Prop} (hC : Clo Z l 10 4 prog_13_method_41_code (some .int) 2 22 o wo Ok) (a1 : Int32) (a2 : Int32) (w : Wld) : SimK Ok (117, [(0, vR 0), (1, vI a1), (2, vI a2)], [], w) (K_M_valueNow_117 a1 a2 w) (GLp Ok (V_M_valueNow_4) (GEp Ok (E_M_valueNow_4))) := by
  unfold K_M_valueNow_117
  refine sim_blk0 hC [(.iinc 2 1, 0, 0, 0, 1)] [(0, vR 0), (1, vI a1), (2, vI (a2 + 1))] [] w 120 (by decide +kernel) rfl rfl ?_
  refine sim_bi (C := fun i5 => (120, [(0, vR 0), (1, vI a1), (2, vI i5)], [], w)) (fun i5 => ?_)
  refine sim_goto hC (-116) 4 (by decide +kernel) (by decide) ?_
  exact sim_back (V := (V_M_valueNow_4)) ((a1, i5, w))
noncomputable def K_M_valueNow_84 (a1 : Int32) (a2 : Int32) (t1 : Int32) (t2 : Int32) (w : Wld) : Option ((Int32 × Int32 × Wld) ⊕ (Wld)) :=
  gd (vp_in t1 64) (bw (wup w 22 (Int32.toNatClampNeg t1) t2) (fun w6 => K_M_valueNow_117 a1 a2 w6))
set_option maxRecDepth 10000 in
theorem s_K_M_valueNow_84 {Z : ZT} {l : Launch} {o : Oc} {wo : Wld} {Ok : Cfg → Prop} (hC : Clo Z l 10 4 prog_13_method_41_code (some .int) 2 22 o wo Ok) (a1 : Int32) (a2 : Int32) (t1 : Int32) (t2 : Int32) (w : Wld) : SimK Ok (84, [(0, vR 0), (1, vI a1), (2, vI a2)], [vI t2, vI t1, vR 22], w) (K_M_valueNow_84 a1 a2 t1 t2 w) (GLp Ok (V_M_valueNow_4) (GEp Ok (E_M_valueNow_4))) := by
  unfold K_M_valueNow_84
  refine sim_blk1 hC [(.iastore, 22, 64, 0, 0)] [(0, vR 0), (1, vI a1), (2, vI a2)] [] (wup w 22 (Int32.toNatClampNeg t1) t2) 85 (by decide +kernel) rfl rfl ?_
  refine sim_bw (C := fun w6 => (85, [(0, vR 0), (1, vI a1), (2, vI a2)], [], w6)) (fun w6 => ?_)
  refine sim_goto hC 32 117 (by decide +kernel) (by decide) ?_
  exact s_K_M_valueNow_117 hC a1 a2 w6
noncomputable def K_M_valueNow_48 (a1 : Int32) (a2 : Int32) (t1 : Int32) (t2 : Int32) (w : Wld) : Option ((Int32 × Int32 × Wld) ⊕ (Wld)) :=
  gd (vp_in t1 64) (bw (wup w 22 (Int32.toNatClampNeg t1) t2) (fun w7 => bi (a1 + 1) (fun i8 => K_M_valueNow_117 i8 a2 w7)))
set_option maxRecDepth 10000 in
theorem s_K_M_valueNow_48 {Z : ZT} {l : Launch} {o : Oc} {wo : Wld} {Ok : Cfg → Prop} (hC : Clo Z l 10 4 prog_13_method_41_code (some .int) 2 22 o wo Ok) (a1 : Int32) (a2 : Int32) (t1 : Int32) (t2 : Int32) (w : Wld) : SimK Ok (48, [(0, vR 0), (1, vI a1), (2, vI a2)], [vI t2, vI t1, vR 22], w) (K_M_valueNow_48 a1 a2 t1 t2 w) (GLp Ok (V_M_valueNow_4) (GEp Ok (E_M_valueNow_4))) := by
  unfold K_M_valueNow_48
  refine sim_blk1 hC [(.iastore, 22, 64, 0, 0)] [(0, vR 0), (1, vI a1), (2, vI a2)] [] (wup w 22 (Int32.toNatClampNeg t1) t2) 49 (by decide +kernel) rfl rfl ?_
  refine sim_bw (C := fun w7 => (49, [(0, vR 0), (1, vI a1), (2, vI a2)], [], w7)) (fun w7 => ?_)
  refine sim_blk0 hC [(.iinc 1 1, 0, 0, 0, 1)] [(0, vR 0), (1, vI (a1 + 1)), (2, vI a2)] [] w7 52 (by decide +kernel) rfl rfl ?_
  refine sim_bi (C := fun i8 => (52, [(0, vR 0), (1, vI i8), (2, vI a2)], [], w7)) (fun i8 => ?_)
  refine sim_goto hC 65 117 (by decide +kernel) (by decide) ?_
  exact s_K_M_valueNow_117 hC i8 a2 w7
noncomputable def B_M_valueNow_4 (s : Int32 × Int32 × Wld) : Option ((Int32 × Int32 × Wld) ⊕ (Wld)) :=
  gd (vp_in 4 10) (br ((s.2.2 3 (Int32.toNatClampNeg 4)) ≤ s.2.1) (some (.inr s.2.2)) (gd (vp_in s.2.1 1400) (bi (s.2.2 11 (Int32.toNatClampNeg s.2.1)) (fun i1 => br (i1 ≤ (-20)) (br (¬ i1 = (-28)) (bi (s.1 + (-1)) (fun i2 => gd (vp_in (i2 - (1 : Int32)) 64) (gd (vp_in i2 64) (bp (F_M_reckon s.2.2 i1 (s.2.2 22 (Int32.toNatClampNeg (i2 - (1 : Int32)))) (s.2.2 22 (Int32.toNatClampNeg i2))) (fun i3 => gd (vp_in (i2 - (1 : Int32)) 64) (bw (wup s.2.2 22 (Int32.toNatClampNeg (i2 - (1 : Int32))) i3) (fun w4 => K_M_valueNow_117 i2 s.2.1 w4))))))) (gd (vp_in (s.1 - (1 : Int32)) 64) (br ((s.2.2 22 (Int32.toNatClampNeg (s.1 - (1 : Int32)))) = 0) (K_M_valueNow_84 s.1 s.2.1 (s.1 - (1 : Int32)) 1 s.2.2) (K_M_valueNow_84 s.1 s.2.1 (s.1 - (1 : Int32)) 0 s.2.2)))) (br (i1 < 0) (gd (vp_in ((-1 : Int32) - i1) 8) (K_M_valueNow_48 s.1 s.2.1 s.1 (s.2.2 21 (Int32.toNatClampNeg ((-1 : Int32) - i1))) s.2.2)) (K_M_valueNow_48 s.1 s.2.1 s.1 i1 s.2.2))))))
set_option maxRecDepth 10000 in
theorem s_B_M_valueNow_4 {Z : ZT} {l : Launch} {o : Oc} {wo : Wld} {Ok : Cfg → Prop} (hC : Clo Z l 10 4 prog_13_method_41_code (some .int) 2 22 o wo Ok) (s : Int32 × Int32 × Wld) : SimK Ok (V_M_valueNow_4 s) (B_M_valueNow_4 s) (GLp Ok (V_M_valueNow_4) (GEp Ok (E_M_valueNow_4))) := by
  unfold B_M_valueNow_4
  show SimK Ok (4, [(0, vR 0), (1, vI s.1), (2, vI s.2.1)], [], s.2.2) _ _
  refine sim_blk1 hC [(.iload_n 2, 0, 0, 0, 0), (.aload_n 0, 0, 0, 0, 0), (.getfield 42, 0, 3, 5, 0), (.iconst 4, 0, 0, 0, 4), (.iaload, 3, 10, 0, 0)] [(0, vR 0), (1, vI s.1), (2, vI s.2.1)] [vI (s.2.2 3 (Int32.toNatClampNeg 4)), vI s.2.1] s.2.2 11 (by decide +kernel) rfl rfl ?_
  refine sim_br hC (.if_icmp .ge 112) 123 (by decide +kernel) rfl (by decide) ?_ ?_
  · refine sim_sub hC [0] ?_
    exact sim_exit (E := (E_M_valueNow_4)) s.2.2
  · refine sim_blk1 hC [(.aload_n 0, 0, 0, 0, 0), (.getfield 65, 0, 11, 13, 0), (.iload_n 2, 0, 0, 0, 0), (.iaload, 11, 1400, 0, 0), (.istore_n 3, 0, 0, 0, 0)] [(0, vR 0), (1, vI s.1), (2, vI s.2.1), (3, vI (s.2.2 11 (Int32.toNatClampNeg s.2.1)))] [] s.2.2 21 (by decide +kernel) rfl rfl ?_
    refine sim_bi (C := fun i1 => (21, [(0, vR 0), (1, vI s.1), (2, vI s.2.1), (3, vI i1)], [], s.2.2)) (fun i1 => ?_)
    refine sim_blk0 hC [(.iload_n 3, 0, 0, 0, 0), (.bipush (-20), 0, 0, 0, (-20))] [(0, vR 0), (1, vI s.1), (2, vI s.2.1), (3, vI i1)] [vI (-20), vI i1] s.2.2 24 (by decide +kernel) rfl rfl ?_
    refine sim_br hC (.if_icmp .le 31) 55 (by decide +kernel) rfl (by decide) ?_ ?_
    · refine sim_blk0 hC [(.iload_n 3, 0, 0, 0, 0), (.bipush (-28), 0, 0, 0, (-28))] [(0, vR 0), (1, vI s.1), (2, vI s.2.1), (3, vI i1)] [vI (-28), vI i1] s.2.2 58 (by decide +kernel) rfl rfl ?_
      refine sim_br hC (.if_icmp .ne 30) 88 (by decide +kernel) rfl (by decide) ?_ ?_
      · refine sim_blk0 hC [(.iinc 1 (-1), 0, 0, 0, (-1))] [(0, vR 0), (1, vI (s.1 + (-1))), (2, vI s.2.1), (3, vI i1)] [] s.2.2 91 (by decide +kernel) rfl rfl ?_
        refine sim_bi (C := fun i2 => (91, [(0, vR 0), (1, vI i2), (2, vI s.2.1), (3, vI i1)], [], s.2.2)) (fun i2 => ?_)
        refine sim_blk2 hC [(.aload_n 0, 0, 0, 0, 0), (.getfield 101, 0, 37, 24, 0), (.iload_n 1, 0, 0, 0, 0), (.iconst 1, 0, 0, 0, 1), (.isub, 0, 0, 0, 0), (.iload_n 3, 0, 0, 0, 0), (.aload_n 0, 0, 0, 0, 0), (.getfield 101, 0, 37, 24, 0), (.iload_n 1, 0, 0, 0, 0), (.iconst 1, 0, 0, 0, 1), (.isub, 0, 0, 0, 0), (.iaload, 22, 64, 0, 0), (.aload_n 0, 0, 0, 0, 0), (.getfield 101, 0, 37, 24, 0), (.iload_n 1, 0, 0, 0, 0), (.iaload, 22, 64, 0, 0)] [(0, vR 0), (1, vI i2), (2, vI s.2.1), (3, vI i1)] [vI (s.2.2 22 (Int32.toNatClampNeg i2)), vI (s.2.2 22 (Int32.toNatClampNeg (i2 - (1 : Int32)))), vI i1, vI (i2 - (1 : Int32)), vR 22] s.2.2 113 (by decide +kernel) rfl rfl ?_
        refine sim_sp hC 322 mX11_reckon 1 0 [vI i1, vI (s.2.2 22 (Int32.toNatClampNeg (i2 - (1 : Int32)))), vI (s.2.2 22 (Int32.toNatClampNeg i2))] [vI (i2 - (1 : Int32)), vR 22] (by decide +kernel) ml_10_322 rfl rfl rfl rfl rfl (fun rz hz => c_M_reckon s.2.2 i1 (s.2.2 22 (Int32.toNatClampNeg (i2 - (1 : Int32)))) (s.2.2 22 (Int32.toNatClampNeg i2)) rz hz) (fun i3 => ?_)
        refine sim_blk1 hC [(.iastore, 22, 64, 0, 0)] [(0, vR 0), (1, vI i2), (2, vI s.2.1), (3, vI i1)] [] (wup s.2.2 22 (Int32.toNatClampNeg (i2 - (1 : Int32))) i3) 117 (by decide +kernel) rfl rfl ?_
        refine sim_bw (C := fun w4 => (117, [(0, vR 0), (1, vI i2), (2, vI s.2.1), (3, vI i1)], [], w4)) (fun w4 => ?_)
        refine sim_sub hC [0, 1, 2] ?_
        exact s_K_M_valueNow_117 hC i2 s.2.1 w4
      · refine sim_blk1 hC [(.aload_n 0, 0, 0, 0, 0), (.getfield 101, 0, 37, 24, 0), (.iload_n 1, 0, 0, 0, 0), (.iconst 1, 0, 0, 0, 1), (.isub, 0, 0, 0, 0), (.aload_n 0, 0, 0, 0, 0), (.getfield 101, 0, 37, 24, 0), (.iload_n 1, 0, 0, 0, 0), (.iconst 1, 0, 0, 0, 1), (.isub, 0, 0, 0, 0), (.iaload, 22, 64, 0, 0)] [(0, vR 0), (1, vI s.1), (2, vI s.2.1), (3, vI i1)] [vI (s.2.2 22 (Int32.toNatClampNeg (s.1 - (1 : Int32)))), vI (s.1 - (1 : Int32)), vR 22] s.2.2 76 (by decide +kernel) rfl rfl ?_
        refine sim_br hC (.ifCond .eq 7) 83 (by decide +kernel) rfl (by decide) ?_ ?_
        · refine sim_blk0 hC [(.iconst 1, 0, 0, 0, 1)] [(0, vR 0), (1, vI s.1), (2, vI s.2.1), (3, vI i1)] [vI 1, vI (s.1 - (1 : Int32)), vR 22] s.2.2 84 (by decide +kernel) rfl rfl ?_
          refine sim_sub hC [0, 1, 2] ?_
          exact s_K_M_valueNow_84 hC s.1 s.2.1 (s.1 - (1 : Int32)) 1 s.2.2
        · refine sim_blk0 hC [(.iconst 0, 0, 0, 0, 0)] [(0, vR 0), (1, vI s.1), (2, vI s.2.1), (3, vI i1)] [vI 0, vI (s.1 - (1 : Int32)), vR 22] s.2.2 80 (by decide +kernel) rfl rfl ?_
          refine sim_goto hC 4 84 (by decide +kernel) (by decide) ?_
          refine sim_sub hC [0, 1, 2] ?_
          exact s_K_M_valueNow_84 hC s.1 s.2.1 (s.1 - (1 : Int32)) 0 s.2.2
    · refine sim_blk0 hC [(.aload_n 0, 0, 0, 0, 0), (.getfield 101, 0, 37, 24, 0), (.iload_n 1, 0, 0, 0, 0), (.iload_n 3, 0, 0, 0, 0)] [(0, vR 0), (1, vI s.1), (2, vI s.2.1), (3, vI i1)] [vI i1, vI s.1, vR 22] s.2.2 33 (by decide +kernel) rfl rfl ?_
      refine sim_br hC (.ifCond .lt 7) 40 (by decide +kernel) rfl (by decide) ?_ ?_
      · refine sim_blk1 hC [(.aload_n 0, 0, 0, 0, 0), (.getfield 98, 0, 36, 23, 0), (.iconst (-1), 0, 0, 0, (-1)), (.iload_n 3, 0, 0, 0, 0), (.isub, 0, 0, 0, 0), (.iaload, 21, 8, 0, 0)] [(0, vR 0), (1, vI s.1), (2, vI s.2.1), (3, vI i1)] [vI (s.2.2 21 (Int32.toNatClampNeg ((-1 : Int32) - i1))), vI s.1, vR 22] s.2.2 48 (by decide +kernel) rfl rfl ?_
        refine sim_sub hC [0, 1, 2] ?_
        exact s_K_M_valueNow_48 hC s.1 s.2.1 s.1 (s.2.2 21 (Int32.toNatClampNeg ((-1 : Int32) - i1))) s.2.2
      · refine sim_blk0 hC [(.iload_n 3, 0, 0, 0, 0)] [(0, vR 0), (1, vI s.1), (2, vI s.2.1), (3, vI i1)] [vI i1, vI s.1, vR 22] s.2.2 37 (by decide +kernel) rfl rfl ?_
        refine sim_goto hC 11 48 (by decide +kernel) (by decide) ?_
        refine sim_sub hC [0, 1, 2] ?_
        exact s_K_M_valueNow_48 hC s.1 s.2.1 s.1 i1 s.2.2
noncomputable def F_M_valueNow (w : Wld) : Option (Int32 × Wld) :=
  bl (loop (B_M_valueNow_4) ((0, 0, w))) (fun r9 => gd (vp_in 0 64) (some ((r9 22 (Int32.toNatClampNeg 0), r9))))
set_option maxRecDepth 10000 in
theorem s_M_valueNow {Z : ZT} {l : Launch} {o : Oc} {wo : Wld} {Ok : Cfg → Prop} (hC : Clo Z l 10 4 prog_13_method_41_code (some .int) 2 22 o wo Ok) (w : Wld) : SimK Ok (0, [(0, vR 0)], [], w) (F_M_valueNow w) (Gi o wo) := by
  unfold F_M_valueNow
  refine sim_blk0 hC [(.iconst 0, 0, 0, 0, 0), (.istore_n 1, 0, 0, 0, 0), (.iconst 0, 0, 0, 0, 0), (.istore_n 2, 0, 0, 0, 0)] [(0, vR 0), (1, vI 0), (2, vI 0)] [] w 4 (by decide +kernel) rfl rfl ?_
  refine sim_bl (E := (E_M_valueNow_4)) ?_ (fun r9 => ?_)
  · exact sim_loop (V := (V_M_valueNow_4)) (fun sz => s_B_M_valueNow_4 hC sz) ((0, 0, w))
  · show SimK Ok (123, [(0, vR 0)], [], r9) _ _
    refine sim_blk1 hC [(.aload_n 0, 0, 0, 0, 0), (.getfield 101, 0, 37, 24, 0), (.iconst 0, 0, 0, 0, 0), (.iaload, 22, 64, 0, 0)] [(0, vR 0)] [vI (r9 22 (Int32.toNatClampNeg 0))] r9 129 (by decide +kernel) rfl rfl ?_
    exact sim_reti hC (by decide +kernel) trivial
theorem c_M_valueNow {Z : ZT} {l : Launch} (w : Wld) (r : Int32) (w1 : Wld) (h : F_M_valueNow w = some (r, w1)) : Con Z l mX11_valueNow 2 22 [vR 0] w (.inr (some r)) w1 :=
  Con_of (oc := 10) (by decide +kernel) rfl rfl (fun Ok hC => s_M_valueNow hC w (r, w1) h ⟨rfl, rfl⟩)
noncomputable def K_M_getsUp_163 (t0 : Int32) (w : Wld) : Option (Int32 × Wld) :=
  gd (t0 = 0 ∨ t0 = 1) (some ((t0, w)))
set_option maxRecDepth 10000 in
theorem s_K_M_getsUp_163 {Z : ZT} {l : Launch} {o : Oc} {wo : Wld} {Ok : Cfg → Prop} (hC : Clo Z l 10 2 prog_13_method_43_code (some .boolean) 3 45 o wo Ok) (t0 : Int32) (w : Wld) : SimK Ok (163, [], [vI t0], w) (K_M_getsUp_163 t0 w) (Gi o wo) := by
  unfold K_M_getsUp_163
  exact sim_retiz hC (by decide +kernel) rfl
noncomputable def K_M_getsUp_38 (t0 : Int32) (w : Wld) : Option (Int32 × Wld) :=
  gd (t0 = 0 ∨ t0 = 1) (some ((t0, w)))
set_option maxRecDepth 10000 in
theorem s_K_M_getsUp_38 {Z : ZT} {l : Launch} {o : Oc} {wo : Wld} {Ok : Cfg → Prop} (hC : Clo Z l 10 2 prog_13_method_43_code (some .boolean) 3 45 o wo Ok) (t0 : Int32) (w : Wld) : SimK Ok (38, [], [vI t0], w) (K_M_getsUp_38 t0 w) (Gi o wo) := by
  unfold K_M_getsUp_38
  exact sim_retiz hC (by decide +kernel) rfl
noncomputable def F_M_getsUp (w : Wld) (a1 : Int32) : Option (Int32 × Wld) :=
  bp (F_M_isOf w (w 0 33) a1) (fun i1 => br (i1 = 0) (gd (vp_in 4 10) (br (¬ (w 3 (Int32.toNatClampNeg 4)) = 0) (gd (vp_in a1 8) (gd (vp_in 0 8) (bw (wup w 21 (Int32.toNatClampNeg 0) (w 14 (Int32.toNatClampNeg a1))) (fun w2 => gd (vp_in a1 8) (gd (vp_in 1 8) (bw (wup w2 21 (Int32.toNatClampNeg 1) (w2 15 (Int32.toNatClampNeg a1))) (fun w3 => gd (vp_in a1 16) (gd (vp_in 2 8) (bw (wup w3 21 (Int32.toNatClampNeg 2) (w3 7 (Int32.toNatClampNeg a1))) (fun w4 => gd (vp_in a1 8) (gd (vp_in 3 8) (bw (wup w4 21 (Int32.toNatClampNeg 3) (w4 16 (Int32.toNatClampNeg a1))) (fun w5 => gd (vp_in a1 8) (gd (vp_in (w5 16 (Int32.toNatClampNeg a1)) 18) (gd (vp_in 4 8) (bw (wup w5 21 (Int32.toNatClampNeg 4) (w5 4 (Int32.toNatClampNeg (w5 16 (Int32.toNatClampNeg a1))))) (fun w6 => gd (vp_in 5 8) (bw (wup w6 21 (Int32.toNatClampNeg 5) (w6 0 31)) (fun w7 => gd (vp_in a1 8) (bp (F_M_those w7 (w7 16 (Int32.toNatClampNeg a1))) (fun i8 => bp (F_M_bitsOf w7 i8) (fun i9 => gd (vp_in 6 8) (bw (wup w7 21 (Int32.toNatClampNeg 6) (i9 - (1 : Int32))) (fun w10 => gd (vp_in 7 8) (bw (wup w10 21 (Int32.toNatClampNeg 7) (((w10 0 32) >>> (a1 &&& 31)) &&& (1 : Int32))) (fun w11 => bd (F_M_valueNow w11) (fun i12 w13 => br (i12 ≤ 0) (K_M_getsUp_163 0 w13) (K_M_getsUp_163 1 w13)))))))))))))))))))))))))))) (gd (vp_in a1 8) (br ((w 14 (Int32.toNatClampNeg a1)) < 50) (K_M_getsUp_38 0 w) (K_M_getsUp_38 1 w))))) (some ((0, w))))
set_option maxRecDepth 10000 in
theorem s_M_getsUp {Z : ZT} {l : Launch} {o : Oc} {wo : Wld} {Ok : Cfg → Prop} (hC : Clo Z l 10 2 prog_13_method_43_code (some .boolean) 3 45 o wo Ok) (w : Wld) (a1 : Int32) : SimK Ok (0, [(0, vR 0), (1, vI a1)], [], w) (F_M_getsUp w a1) (Gi o wo) := by
  unfold F_M_getsUp
  refine sim_blk0 hC [(.aload_n 0, 0, 0, 0, 0), (.getfield 309, 0, 33, 0, 0), (.iload_n 1, 0, 0, 0, 0)] [(0, vR 0), (1, vI a1)] [vI a1, vI (w 0 33)] w 5 (by decide +kernel) rfl rfl ?_
  refine sim_sp hC 326 mX11_isOf 1 0 [vI (w 0 33), vI a1] [] (by decide +kernel) ml_10_326 rfl rfl rfl rfl rfl (fun rz hz => c_M_isOf w (w 0 33) a1 rz hz) (fun i1 => ?_)
  refine sim_br hC (.ifCond .eq 5) 13 (by decide +kernel) rfl (by decide) ?_ ?_
  · refine sim_blk1 hC [(.aload_n 0, 0, 0, 0, 0), (.getfield 42, 0, 3, 5, 0), (.iconst 4, 0, 0, 0, 4), (.iaload, 3, 10, 0, 0)] [(0, vR 0), (1, vI a1)] [vI (w 3 (Int32.toNatClampNeg 4))] w 19 (by decide +kernel) rfl rfl ?_
    refine sim_br hC (.ifCond .ne 20) 39 (by decide +kernel) rfl (by decide) ?_ ?_
    · refine sim_blk2 hC [(.aload_n 0, 0, 0, 0, 0), (.getfield 98, 0, 36, 23, 0), (.iconst 0, 0, 0, 0, 0), (.aload_n 0, 0, 0, 0, 0), (.getfield 78, 0, 24, 16, 0), (.iload_n 1, 0, 0, 0, 0), (.iaload, 14, 8, 0, 0), (.iastore, 21, 8, 0, 0)] [(0, vR 0), (1, vI a1)] [] (wup w 21 (Int32.toNatClampNeg 0) (w 14 (Int32.toNatClampNeg a1))) 51 (by decide +kernel) rfl rfl ?_
      refine sim_bw (C := fun w2 => (51, [(0, vR 0), (1, vI a1)], [], w2)) (fun w2 => ?_)
      refine sim_blk2 hC [(.aload_n 0, 0, 0, 0, 0), (.getfield 98, 0, 36, 23, 0), (.iconst 1, 0, 0, 0, 1), (.aload_n 0, 0, 0, 0, 0), (.getfield 81, 0, 25, 17, 0), (.iload_n 1, 0, 0, 0, 0), (.iaload, 15, 8, 0, 0), (.iastore, 21, 8, 0, 0)] [(0, vR 0), (1, vI a1)] [] (wup w2 21 (Int32.toNatClampNeg 1) (w2 15 (Int32.toNatClampNeg a1))) 63 (by decide +kernel) rfl rfl ?_
      refine sim_bw (C := fun w3 => (63, [(0, vR 0), (1, vI a1)], [], w3)) (fun w3 => ?_)
      refine sim_blk2 hC [(.aload_n 0, 0, 0, 0, 0), (.getfield 98, 0, 36, 23, 0), (.iconst 2, 0, 0, 0, 2), (.aload_n 0, 0, 0, 0, 0), (.getfield 54, 0, 7, 9, 0), (.iload_n 1, 0, 0, 0, 0), (.iaload, 7, 16, 0, 0), (.iastore, 21, 8, 0, 0)] [(0, vR 0), (1, vI a1)] [] (wup w3 21 (Int32.toNatClampNeg 2) (w3 7 (Int32.toNatClampNeg a1))) 75 (by decide +kernel) rfl rfl ?_
      refine sim_bw (C := fun w4 => (75, [(0, vR 0), (1, vI a1)], [], w4)) (fun w4 => ?_)
      refine sim_blk2 hC [(.aload_n 0, 0, 0, 0, 0), (.getfield 98, 0, 36, 23, 0), (.iconst 3, 0, 0, 0, 3), (.aload_n 0, 0, 0, 0, 0), (.getfield 84, 0, 26, 18, 0), (.iload_n 1, 0, 0, 0, 0), (.iaload, 16, 8, 0, 0), (.iastore, 21, 8, 0, 0)] [(0, vR 0), (1, vI a1)] [] (wup w4 21 (Int32.toNatClampNeg 3) (w4 16 (Int32.toNatClampNeg a1))) 87 (by decide +kernel) rfl rfl ?_
      refine sim_bw (C := fun w5 => (87, [(0, vR 0), (1, vI a1)], [], w5)) (fun w5 => ?_)
      refine sim_blk3 hC [(.aload_n 0, 0, 0, 0, 0), (.getfield 98, 0, 36, 23, 0), (.iconst 4, 0, 0, 0, 4), (.aload_n 0, 0, 0, 0, 0), (.getfield 46, 0, 4, 6, 0), (.aload_n 0, 0, 0, 0, 0), (.getfield 84, 0, 26, 18, 0), (.iload_n 1, 0, 0, 0, 0), (.iaload, 16, 8, 0, 0), (.iaload, 4, 18, 0, 0), (.iastore, 21, 8, 0, 0)] [(0, vR 0), (1, vI a1)] [] (wup w5 21 (Int32.toNatClampNeg 4) (w5 4 (Int32.toNatClampNeg (w5 16 (Int32.toNatClampNeg a1))))) 104 (by decide +kernel) rfl rfl ?_
      refine sim_bw (C := fun w6 => (104, [(0, vR 0), (1, vI a1)], [], w6)) (fun w6 => ?_)
      refine sim_blk1 hC [(.aload_n 0, 0, 0, 0, 0), (.getfield 98, 0, 36, 23, 0), (.iconst 5, 0, 0, 0, 5), (.aload_n 0, 0, 0, 0, 0), (.getfield 305, 0, 31, 0, 0), (.iastore, 21, 8, 0, 0)] [(0, vR 0), (1, vI a1)] [] (wup w6 21 (Int32.toNatClampNeg 5) (w6 0 31)) 114 (by decide +kernel) rfl rfl ?_
      refine sim_bw (C := fun w7 => (114, [(0, vR 0), (1, vI a1)], [], w7)) (fun w7 => ?_)
      refine sim_blk1 hC [(.aload_n 0, 0, 0, 0, 0), (.getfield 98, 0, 36, 23, 0), (.bipush 6, 0, 0, 0, 6), (.aload_n 0, 0, 0, 0, 0), (.aload_n 0, 0, 0, 0, 0), (.getfield 84, 0, 26, 18, 0), (.iload_n 1, 0, 0, 0, 0), (.iaload, 16, 8, 0, 0)] [(0, vR 0), (1, vI a1)] [vI (w7 16 (Int32.toNatClampNeg a1)), vR 0, vI 6, vR 21] w7 127 (by decide +kernel) rfl rfl ?_
      refine sim_vp hC 329 mX11_those 1 0 0 [vI (w7 16 (Int32.toNatClampNeg a1))] [vI 6, vR 21] (by decide +kernel) ml_10_329 rfl rfl rfl rfl rfl rfl (fun rz hz => c_M_those w7 (w7 16 (Int32.toNatClampNeg a1)) rz hz) (fun i8 => ?_)
      refine sim_sp hC 332 mX11_bitsOf 1 0 [vI i8] [vI 6, vR 21] (by decide +kernel) ml_10_332 rfl rfl rfl rfl rfl (fun rz hz => c_M_bitsOf w7 i8 rz hz) (fun i9 => ?_)
      refine sim_blk1 hC [(.iconst 1, 0, 0, 0, 1), (.isub, 0, 0, 0, 0), (.iastore, 21, 8, 0, 0)] [(0, vR 0), (1, vI a1)] [] (wup w7 21 (Int32.toNatClampNeg 6) (i9 - (1 : Int32))) 136 (by decide +kernel) rfl rfl ?_
      refine sim_bw (C := fun w10 => (136, [(0, vR 0), (1, vI a1)], [], w10)) (fun w10 => ?_)
      refine sim_blk1 hC [(.aload_n 0, 0, 0, 0, 0), (.getfield 98, 0, 36, 23, 0), (.bipush 7, 0, 0, 0, 7), (.aload_n 0, 0, 0, 0, 0), (.getfield 307, 0, 32, 0, 0), (.iload_n 1, 0, 0, 0, 0), (.ishr, 0, 0, 0, 0), (.iconst 1, 0, 0, 0, 1), (.iand, 0, 0, 0, 0), (.iastore, 21, 8, 0, 0)] [(0, vR 0), (1, vI a1)] [] (wup w10 21 (Int32.toNatClampNeg 7) (((w10 0 32) >>> (a1 &&& 31)) &&& (1 : Int32))) 151 (by decide +kernel) rfl rfl ?_
      refine sim_bw (C := fun w11 => (151, [(0, vR 0), (1, vI a1)], [], w11)) (fun w11 => ?_)
      refine sim_blk0 hC [(.aload_n 0, 0, 0, 0, 0)] [(0, vR 0), (1, vI a1)] [vR 0] w11 152 (by decide +kernel) rfl rfl ?_
      refine sim_vd hC 335 mX11_valueNow 2 22 0 [] [] (by decide +kernel) ml_10_335 rfl rfl rfl rfl rfl rfl (fun rz wz hz => c_M_valueNow w11 rz wz hz) (fun i12 w13 => ?_)
      refine sim_br hC (.ifCond .le 7) 162 (by decide +kernel) rfl (by decide) ?_ ?_
      · refine sim_blk0 hC [(.iconst 0, 0, 0, 0, 0)] [(0, vR 0), (1, vI a1)] [vI 0] w13 163 (by decide +kernel) rfl rfl ?_
        refine sim_sub hC [] ?_
        exact s_K_M_getsUp_163 hC 0 w13
      · refine sim_blk0 hC [(.iconst 1, 0, 0, 0, 1)] [(0, vR 0), (1, vI a1)] [vI 1] w13 159 (by decide +kernel) rfl rfl ?_
        refine sim_goto hC 4 163 (by decide +kernel) (by decide) ?_
        refine sim_sub hC [] ?_
        exact s_K_M_getsUp_163 hC 1 w13
    · refine sim_blk1 hC [(.aload_n 0, 0, 0, 0, 0), (.getfield 78, 0, 24, 16, 0), (.iload_n 1, 0, 0, 0, 0), (.iaload, 14, 8, 0, 0), (.bipush 50, 0, 0, 0, 50)] [(0, vR 0), (1, vI a1)] [vI 50, vI (w 14 (Int32.toNatClampNeg a1))] w 30 (by decide +kernel) rfl rfl ?_
      refine sim_br hC (.if_icmp .lt 7) 37 (by decide +kernel) rfl (by decide) ?_ ?_
      · refine sim_blk0 hC [(.iconst 0, 0, 0, 0, 0)] [(0, vR 0), (1, vI a1)] [vI 0] w 38 (by decide +kernel) rfl rfl ?_
        refine sim_sub hC [] ?_
        exact s_K_M_getsUp_38 hC 0 w
      · refine sim_blk0 hC [(.iconst 1, 0, 0, 0, 1)] [(0, vR 0), (1, vI a1)] [vI 1] w 34 (by decide +kernel) rfl rfl ?_
        refine sim_goto hC 4 38 (by decide +kernel) (by decide) ?_
        refine sim_sub hC [] ?_
        exact s_K_M_getsUp_38 hC 1 w
  · refine sim_blk0 hC [(.iconst 0, 0, 0, 0, 0)] [(0, vR 0), (1, vI a1)] [vI 0] w 12 (by decide +kernel) rfl rfl ?_
    exact sim_reti hC (by decide +kernel) (Or.inl rfl)
theorem c_M_getsUp {Z : ZT} {l : Launch} (w : Wld) (a1 : Int32) (r : Int32) (w1 : Wld) (h : F_M_getsUp w a1 = some (r, w1)) : Con Z l mX11_getsUp 3 45 [vR 0, vI a1] w (.inr (some r)) w1 :=
  Con_of (oc := 10) (by decide +kernel) rfl rfl (fun Ok hC => s_M_getsUp hC w a1 (r, w1) h ⟨rfl, rfl⟩)
noncomputable def K_M_monk_108 (t0 : Int32) (w : Wld) : Option (Int32 × Wld) :=
  some ((t0, w))
set_option maxRecDepth 10000 in
theorem s_K_M_monk_108 {Z : ZT} {l : Launch} {o : Oc} {wo : Wld} {Ok : Cfg → Prop} (hC : Clo Z l 10 3 prog_13_method_53_code (some .int) 4 66 o wo Ok) (t0 : Int32) (w : Wld) : SimK Ok (108, [], [vI t0], w) (K_M_monk_108 t0 w) (Gi o wo) := by
  unfold K_M_monk_108
  exact sim_reti hC (by decide +kernel) trivial
noncomputable def F_M_monk (w : Wld) (a1 : Int32) (a2 : Int32) : Option (Int32 × Wld) :=
  bw (wup w 0 2 0) (fun w1 => bp (F_M_isMonk w1 a1) (fun i2 => br (¬ i2 = 0) (br (a2 = 0) (gd (vp_in a1 16) (some ((w1 7 (Int32.toNatClampNeg a1), w1)))) (br (a2 = 1) (gd (vp_in a1 8) (some ((w1 14 (Int32.toNatClampNeg a1), w1)))) (br (a2 = 2) (gd (vp_in a1 8) (some ((w1 15 (Int32.toNatClampNeg a1), w1)))) (br (a2 = 3) (gd (vp_in a1 8) (some ((w1 16 (Int32.toNatClampNeg a1), w1)))) (br (a2 = 4) (gd (vp_in a1 8) (some ((w1 17 (Int32.toNatClampNeg a1), w1)))) (br (a2 = 5) (bd (F_M_getsUp w1 a1) (fun i5 w6 => br (i5 = 0) (K_M_monk_108 0 w6) (K_M_monk_108 1 w6))) (bd (F_M_fail w1 1) (fun i3 w4 => some ((i3, w4)))))))))) (bd (F_M_fail w1 1) (fun i7 w8 => some ((i7, w8))))))
set_option maxRecDepth 10000 in
theorem s_M_monk {Z : ZT} {l : Launch} {o : Oc} {wo : Wld} {Ok : Cfg → Prop} (hC : Clo Z l 10 3 prog_13_method_53_code (some .int) 4 66 o wo Ok) (w : Wld) (a1 : Int32) (a2 : Int32) : SimK Ok (0, [(0, vR 0), (1, vI a1), (2, vI a2)], [], w) (F_M_monk w a1 a2) (Gi o wo) := by
  unfold F_M_monk
  refine sim_blk0 hC [(.aload_n 0, 0, 0, 0, 0), (.iconst 0, 0, 0, 0, 0), (.putfield 159, 0, 2, 0, 0)] [(0, vR 0), (1, vI a1), (2, vI a2)] [] (wup w 0 2 0) 5 (by decide +kernel) rfl rfl ?_
  refine sim_bw (C := fun w1 => (5, [(0, vR 0), (1, vI a1), (2, vI a2)], [], w1)) (fun w1 => ?_)
  refine sim_blk0 hC [(.aload_n 0, 0, 0, 0, 0), (.iload_n 1, 0, 0, 0, 0)] [(0, vR 0), (1, vI a1), (2, vI a2)] [vI a1, vR 0] w1 7 (by decide +kernel) rfl rfl ?_
  refine sim_vp hC 376 mX11_isMonk 2 25 0 [vI a1] [] (by decide +kernel) ml_10_376 rfl rfl rfl rfl rfl rfl (fun rz hz => c_M_isMonk w1 a1 rz hz) (fun i2 => ?_)
  refine sim_br hC (.ifCond .ne 9) 19 (by decide +kernel) rfl (by decide) ?_ ?_
  · refine sim_blk0 hC [(.iload_n 2, 0, 0, 0, 0)] [(0, vR 0), (1, vI a1), (2, vI a2)] [vI a2] w1 20 (by decide +kernel) rfl rfl ?_
    refine sim_cases (fun h0 => ?_) (fun h0 => ?_)
    · refine sim_case hC 89 0 5 #[40, 47, 54, 61, 68, 75] 40 40 60 h0 (by decide +kernel) (by decide) (by decide) (by decide +kernel) (by decide) ?_
      refine sim_blk1 hC [(.aload_n 0, 0, 0, 0, 0), (.getfield 54, 0, 7, 9, 0), (.iload_n 1, 0, 0, 0, 0), (.iaload, 7, 16, 0, 0)] [(0, vR 0), (1, vI a1), (2, vI a2)] [vI (w1 7 (Int32.toNatClampNeg a1))] w1 66 (by decide +kernel) rfl rfl ?_
      exact sim_reti hC (by decide +kernel) trivial
    · refine sim_cases (fun h1 => ?_) (fun h1 => ?_)
      · refine sim_case hC 89 0 5 #[40, 47, 54, 61, 68, 75] 40 47 67 h1 (by decide +kernel) (by decide) (by decide) (by decide +kernel) (by decide) ?_
        refine sim_blk1 hC [(.aload_n 0, 0, 0, 0, 0), (.getfield 78, 0, 24, 16, 0), (.iload_n 1, 0, 0, 0, 0), (.iaload, 14, 8, 0, 0)] [(0, vR 0), (1, vI a1), (2, vI a2)] [vI (w1 14 (Int32.toNatClampNeg a1))] w1 73 (by decide +kernel) rfl rfl ?_
        exact sim_reti hC (by decide +kernel) trivial
      · refine sim_cases (fun h2 => ?_) (fun h2 => ?_)
        · refine sim_case hC 89 0 5 #[40, 47, 54, 61, 68, 75] 40 54 74 h2 (by decide +kernel) (by decide) (by decide) (by decide +kernel) (by decide) ?_
          refine sim_blk1 hC [(.aload_n 0, 0, 0, 0, 0), (.getfield 81, 0, 25, 17, 0), (.iload_n 1, 0, 0, 0, 0), (.iaload, 15, 8, 0, 0)] [(0, vR 0), (1, vI a1), (2, vI a2)] [vI (w1 15 (Int32.toNatClampNeg a1))] w1 80 (by decide +kernel) rfl rfl ?_
          exact sim_reti hC (by decide +kernel) trivial
        · refine sim_cases (fun h3 => ?_) (fun h3 => ?_)
          · refine sim_case hC 89 0 5 #[40, 47, 54, 61, 68, 75] 40 61 81 h3 (by decide +kernel) (by decide) (by decide) (by decide +kernel) (by decide) ?_
            refine sim_blk1 hC [(.aload_n 0, 0, 0, 0, 0), (.getfield 84, 0, 26, 18, 0), (.iload_n 1, 0, 0, 0, 0), (.iaload, 16, 8, 0, 0)] [(0, vR 0), (1, vI a1), (2, vI a2)] [vI (w1 16 (Int32.toNatClampNeg a1))] w1 87 (by decide +kernel) rfl rfl ?_
            exact sim_reti hC (by decide +kernel) trivial
          · refine sim_cases (fun h4 => ?_) (fun h4 => ?_)
            · refine sim_case hC 89 0 5 #[40, 47, 54, 61, 68, 75] 40 68 88 h4 (by decide +kernel) (by decide) (by decide) (by decide +kernel) (by decide) ?_
              refine sim_blk1 hC [(.aload_n 0, 0, 0, 0, 0), (.getfield 87, 0, 27, 19, 0), (.iload_n 1, 0, 0, 0, 0), (.iaload, 17, 8, 0, 0)] [(0, vR 0), (1, vI a1), (2, vI a2)] [vI (w1 17 (Int32.toNatClampNeg a1))] w1 94 (by decide +kernel) rfl rfl ?_
              exact sim_reti hC (by decide +kernel) trivial
            · refine sim_cases (fun h5 => ?_) (fun h5 => ?_)
              · refine sim_case hC 89 0 5 #[40, 47, 54, 61, 68, 75] 40 75 95 h5 (by decide +kernel) (by decide) (by decide) (by decide +kernel) (by decide) ?_
                refine sim_blk0 hC [(.aload_n 0, 0, 0, 0, 0), (.iload_n 1, 0, 0, 0, 0)] [(0, vR 0), (1, vI a1), (2, vI a2)] [vI a1, vR 0] w1 97 (by decide +kernel) rfl rfl ?_
                refine sim_vd hC 338 mX11_getsUp 3 45 0 [vI a1] [] (by decide +kernel) ml_10_338 rfl rfl rfl rfl rfl rfl (fun rz wz hz => c_M_getsUp w1 a1 rz wz hz) (fun i5 w6 => ?_)
                refine sim_br hC (.ifCond .eq 7) 107 (by decide +kernel) rfl (by decide) ?_ ?_
                · refine sim_blk0 hC [(.iconst 0, 0, 0, 0, 0)] [(0, vR 0), (1, vI a1), (2, vI a2)] [vI 0] w6 108 (by decide +kernel) rfl rfl ?_
                  refine sim_sub hC [] ?_
                  exact s_K_M_monk_108 hC 0 w6
                · refine sim_blk0 hC [(.iconst 1, 0, 0, 0, 1)] [(0, vR 0), (1, vI a1), (2, vI a2)] [vI 1] w6 104 (by decide +kernel) rfl rfl ?_
                  refine sim_goto hC 4 108 (by decide +kernel) (by decide) ?_
                  refine sim_sub hC [] ?_
                  exact s_K_M_monk_108 hC 1 w6
              · refine sim_dflt hC 89 0 5 #[40, 47, 54, 61, 68, 75] 40 109 (by decide +kernel) (sw_out [0, 1, 2, 3, 4, 5] 0 5 (by decide +kernel) (List.forall_mem_cons.mpr ⟨h0, List.forall_mem_cons.mpr ⟨h1, List.forall_mem_cons.mpr ⟨h2, List.forall_mem_cons.mpr ⟨h3, List.forall_mem_cons.mpr ⟨h4, List.forall_mem_cons.mpr ⟨h5, fun _ h => absurd h List.not_mem_nil⟩⟩⟩⟩⟩⟩)) (by decide) ?_
                refine sim_blk0 hC [(.aload_n 0, 0, 0, 0, 0), (.iconst 1, 0, 0, 0, 1)] [(0, vR 0), (1, vI a1), (2, vI a2)] [vI 1, vR 0] w1 111 (by decide +kernel) rfl rfl ?_
                refine sim_vd hC 292 mX11_fail 1 0 0 [vI 1] [] (by decide +kernel) ml_10_292 rfl rfl rfl rfl rfl rfl (fun rz wz hz => c_M_fail w1 1 rz wz hz) (fun i3 w4 => ?_)
                exact sim_reti hC (by decide +kernel) trivial
  · refine sim_blk0 hC [(.aload_n 0, 0, 0, 0, 0), (.iconst 1, 0, 0, 0, 1)] [(0, vR 0), (1, vI a1), (2, vI a2)] [vI 1, vR 0] w1 15 (by decide +kernel) rfl rfl ?_
    refine sim_vd hC 292 mX11_fail 1 0 0 [vI 1] [] (by decide +kernel) ml_10_292 rfl rfl rfl rfl rfl rfl (fun rz wz hz => c_M_fail w1 1 rz wz hz) (fun i7 w8 => ?_)
    exact sim_reti hC (by decide +kernel) trivial
theorem c_M_monk {Z : ZT} {l : Launch} (w : Wld) (a1 : Int32) (a2 : Int32) (r : Int32) (w1 : Wld) (h : F_M_monk w a1 a2 = some (r, w1)) : Con Z l mX11_monk 4 66 [vR 0, vI a1, vI a2] w (.inr (some r)) w1 :=
  Con_of (oc := 10) (by decide +kernel) rfl rfl (fun Ok hC => s_M_monk hC w a1 a2 (r, w1) h ⟨rfl, rfl⟩)
noncomputable def F_M_refuse (w : Wld) (a1 : Int32) : Option (Int32 × Wld) :=
  gd (vp_in a1 3) (gd (vp_in a1 3) (bw (wup w 12 (Int32.toNatClampNeg a1) ((w 12 (Int32.toNatClampNeg a1)) + (1 : Int32))) (fun w1 => some (((-1), w1)))))
set_option maxRecDepth 10000 in
theorem s_M_refuse {Z : ZT} {l : Launch} {o : Oc} {wo : Wld} {Ok : Cfg → Prop} (hC : Clo Z l 10 2 prog_13_method_54_code (some .int) 1 0 o wo Ok) (w : Wld) (a1 : Int32) : SimK Ok (0, [(0, vR 0), (1, vI a1)], [], w) (F_M_refuse w a1) (Gi o wo) := by
  unfold F_M_refuse
  refine sim_blk2 hC [(.aload_n 0, 0, 0, 0, 0), (.getfield 68, 0, 12, 14, 0), (.iload_n 1, 0, 0, 0, 0), (.dup2, 0, 0, 0, 0), (.iaload, 12, 3, 0, 0), (.iconst 1, 0, 0, 0, 1), (.iadd, 0, 0, 0, 0), (.iastore, 12, 3, 0, 0)] [(0, vR 0), (1, vI a1)] [] (wup w 12 (Int32.toNatClampNeg a1) ((w 12 (Int32.toNatClampNeg a1)) + (1 : Int32))) 10 (by decide +kernel) rfl rfl ?_
  refine sim_bw (C := fun w1 => (10, [(0, vR 0), (1, vI a1)], [], w1)) (fun w1 => ?_)
  refine sim_blk0 hC [(.iconst (-1), 0, 0, 0, (-1))] [(0, vR 0), (1, vI a1)] [vI (-1)] w1 11 (by decide +kernel) rfl rfl ?_
  exact sim_reti hC (by decide +kernel) trivial
theorem c_M_refuse {Z : ZT} {l : Launch} (w : Wld) (a1 : Int32) (r : Int32) (w1 : Wld) (h : F_M_refuse w a1 = some (r, w1)) : Con Z l mX11_refuse 1 0 [vR 0, vI a1] w (.inr (some r)) w1 :=
  Con_of (oc := 10) (by decide +kernel) rfl rfl (fun Ok hC => s_M_refuse hC w a1 (r, w1) h ⟨rfl, rfl⟩)
def V_M_pack_20_32 (a3 : Int32) : (Int32 × Wld) → Cfg := fun s => (32, [(0, vR 0), (1, vR 20), (3, vI a3), (4, vI s.1)], [], s.2)
def E_M_pack_20_32 (a3 : Int32) : (Wld) → Cfg := fun s => (106, [(0, vR 0), (1, vR 20), (3, vI a3)], [], s)
noncomputable def B_M_pack_20_32 (a3 : Int32) (s : Int32 × Wld) : Option ((Int32 × Wld) ⊕ (Wld)) :=
  br ((8 : Int32) ≤ s.1) (some (.inr s.2)) (gd (vp_in s.1 8) (gd (vp_in (a3 + s.1) 2120) (bw (wup s.2 20 (Int32.toNatClampNeg (a3 + s.1)) (s.2 14 (Int32.toNatClampNeg s.1))) (fun w5 => gd (vp_in s.1 8) (gd (vp_in ((a3 + (8 : Int32)) + s.1) 2120) (bw (wup w5 20 (Int32.toNatClampNeg ((a3 + (8 : Int32)) + s.1)) (w5 15 (Int32.toNatClampNeg s.1))) (fun w6 => gd (vp_in s.1 8) (gd (vp_in ((a3 + (16 : Int32)) + s.1) 2120) (bw (wup w6 20 (Int32.toNatClampNeg ((a3 + (16 : Int32)) + s.1)) (w6 16 (Int32.toNatClampNeg s.1))) (fun w7 => gd (vp_in s.1 8) (gd (vp_in ((a3 + (24 : Int32)) + s.1) 2120) (bw (wup w7 20 (Int32.toNatClampNeg ((a3 + (24 : Int32)) + s.1)) (w7 17 (Int32.toNatClampNeg s.1))) (fun w8 => bi (s.1 + 1) (fun i9 => some (.inl ((i9, w8)))))))))))))))))
set_option maxRecDepth 10000 in
theorem s_B_M_pack_20_32 {Z : ZT} {l : Launch} {o : Oc} {wo : Wld} {Ok : Cfg → Prop} (hC : Clo Z l 10 5 prog_13_method_38_code none 1 0 o wo Ok) (a3 : Int32) (s : Int32 × Wld) : SimK Ok (V_M_pack_20_32 a3 s) (B_M_pack_20_32 a3 s) (GLp Ok (V_M_pack_20_32 a3) (GEp Ok (E_M_pack_20_32 a3))) := by
  unfold B_M_pack_20_32
  show SimK Ok (32, [(0, vR 0), (1, vR 20), (3, vI a3), (4, vI s.1)], [], s.2) _ _
  refine sim_blk0 hC [(.iload 4, 0, 0, 0, 0), (.bipush 8, 0, 0, 0, 8)] [(0, vR 0), (1, vR 20), (3, vI a3), (4, vI s.1)] [vI 8, vI s.1] s.2 36 (by decide +kernel) rfl rfl ?_
  refine sim_br hC (.if_icmp .ge 70) 106 (by decide +kernel) rfl (by decide) ?_ ?_
  · refine sim_sub hC [0, 1, 2] ?_
    exact sim_exit (E := (E_M_pack_20_32 a3)) s.2
  · refine sim_blk2 hC [(.aload_n 1, 0, 0, 0, 0), (.iload_n 3, 0, 0, 0, 0), (.iload 4, 0, 0, 0, 0), (.iadd, 0, 0, 0, 0), (.aload_n 0, 0, 0, 0, 0), (.getfield 78, 0, 24, 16, 0), (.iload 4, 0, 0, 0, 0), (.iaload, 14, 8, 0, 0), (.iastore, 20, 2120, 0, 0)] [(0, vR 0), (1, vR 20), (3, vI a3), (4, vI s.1)] [] (wup s.2 20 (Int32.toNatClampNeg (a3 + s.1)) (s.2 14 (Int32.toNatClampNeg s.1))) 52 (by decide +kernel) rfl rfl ?_
    refine sim_bw (C := fun w5 => (52, [(0, vR 0), (1, vR 20), (3, vI a3), (4, vI s.1)], [], w5)) (fun w5 => ?_)
    refine sim_blk2 hC [(.aload_n 1, 0, 0, 0, 0), (.iload_n 3, 0, 0, 0, 0), (.bipush 8, 0, 0, 0, 8), (.iadd, 0, 0, 0, 0), (.iload 4, 0, 0, 0, 0), (.iadd, 0, 0, 0, 0), (.aload_n 0, 0, 0, 0, 0), (.getfield 81, 0, 25, 17, 0), (.iload 4, 0, 0, 0, 0), (.iaload, 15, 8, 0, 0), (.iastore, 20, 2120, 0, 0)] [(0, vR 0), (1, vR 20), (3, vI a3), (4, vI s.1)] [] (wup w5 20 (Int32.toNatClampNeg ((a3 + (8 : Int32)) + s.1)) (w5 15 (Int32.toNatClampNeg s.1))) 68 (by decide +kernel) rfl rfl ?_
    refine sim_bw (C := fun w6 => (68, [(0, vR 0), (1, vR 20), (3, vI a3), (4, vI s.1)], [], w6)) (fun w6 => ?_)
    refine sim_blk2 hC [(.aload_n 1, 0, 0, 0, 0), (.iload_n 3, 0, 0, 0, 0), (.bipush 16, 0, 0, 0, 16), (.iadd, 0, 0, 0, 0), (.iload 4, 0, 0, 0, 0), (.iadd, 0, 0, 0, 0), (.aload_n 0, 0, 0, 0, 0), (.getfield 84, 0, 26, 18, 0), (.iload 4, 0, 0, 0, 0), (.iaload, 16, 8, 0, 0), (.iastore, 20, 2120, 0, 0)] [(0, vR 0), (1, vR 20), (3, vI a3), (4, vI s.1)] [] (wup w6 20 (Int32.toNatClampNeg ((a3 + (16 : Int32)) + s.1)) (w6 16 (Int32.toNatClampNeg s.1))) 84 (by decide +kernel) rfl rfl ?_
    refine sim_bw (C := fun w7 => (84, [(0, vR 0), (1, vR 20), (3, vI a3), (4, vI s.1)], [], w7)) (fun w7 => ?_)
    refine sim_blk2 hC [(.aload_n 1, 0, 0, 0, 0), (.iload_n 3, 0, 0, 0, 0), (.bipush 24, 0, 0, 0, 24), (.iadd, 0, 0, 0, 0), (.iload 4, 0, 0, 0, 0), (.iadd, 0, 0, 0, 0), (.aload_n 0, 0, 0, 0, 0), (.getfield 87, 0, 27, 19, 0), (.iload 4, 0, 0, 0, 0), (.iaload, 17, 8, 0, 0), (.iastore, 20, 2120, 0, 0)] [(0, vR 0), (1, vR 20), (3, vI a3), (4, vI s.1)] [] (wup w7 20 (Int32.toNatClampNeg ((a3 + (24 : Int32)) + s.1)) (w7 17 (Int32.toNatClampNeg s.1))) 100 (by decide +kernel) rfl rfl ?_
    refine sim_bw (C := fun w8 => (100, [(0, vR 0), (1, vR 20), (3, vI a3), (4, vI s.1)], [], w8)) (fun w8 => ?_)
    refine sim_blk0 hC [(.iinc 4 1, 0, 0, 0, 1)] [(0, vR 0), (1, vR 20), (3, vI a3), (4, vI (s.1 + 1))] [] w8 103 (by decide +kernel) rfl rfl ?_
    refine sim_bi (C := fun i9 => (103, [(0, vR 0), (1, vR 20), (3, vI a3), (4, vI i9)], [], w8)) (fun i9 => ?_)
    refine sim_goto hC (-71) 32 (by decide +kernel) (by decide) ?_
    exact sim_back (V := (V_M_pack_20_32 a3)) ((i9, w8))
def V_M_pack_20_112 (a3 : Int32) : (Int32 × Wld) → Cfg := fun s => (112, [(0, vR 0), (1, vR 20), (3, vI a3), (4, vI s.1)], [], s.2)
def E_M_pack_20_112 (a3 : Int32) : (Wld) → Cfg := fun s => (154, [], [], s)
noncomputable def B_M_pack_20_112 (a3 : Int32) (s : Int32 × Wld) : Option ((Int32 × Wld) ⊕ (Wld)) :=
  br ((9 : Int32) ≤ s.1) (some (.inr s.2)) (gd (vp_in s.1 9) (gd (vp_in (a3 + s.1) 2120) (bw (wup s.2 20 (Int32.toNatClampNeg (a3 + s.1)) (s.2 18 (Int32.toNatClampNeg s.1))) (fun w12 => gd (vp_in s.1 9) (gd (vp_in ((a3 + (9 : Int32)) + s.1) 2120) (bw (wup w12 20 (Int32.toNatClampNeg ((a3 + (9 : Int32)) + s.1)) (w12 19 (Int32.toNatClampNeg s.1))) (fun w13 => bi (s.1 + 1) (fun i14 => some (.inl ((i14, w13)))))))))))
set_option maxRecDepth 10000 in
theorem s_B_M_pack_20_112 {Z : ZT} {l : Launch} {o : Oc} {wo : Wld} {Ok : Cfg → Prop} (hC : Clo Z l 10 5 prog_13_method_38_code none 1 0 o wo Ok) (a3 : Int32) (s : Int32 × Wld) : SimK Ok (V_M_pack_20_112 a3 s) (B_M_pack_20_112 a3 s) (GLp Ok (V_M_pack_20_112 a3) (GEp Ok (E_M_pack_20_112 a3))) := by
  unfold B_M_pack_20_112
  show SimK Ok (112, [(0, vR 0), (1, vR 20), (3, vI a3), (4, vI s.1)], [], s.2) _ _
  refine sim_blk0 hC [(.iload 4, 0, 0, 0, 0), (.bipush 9, 0, 0, 0, 9)] [(0, vR 0), (1, vR 20), (3, vI a3), (4, vI s.1)] [vI 9, vI s.1] s.2 116 (by decide +kernel) rfl rfl ?_
  refine sim_br hC (.if_icmp .ge 38) 154 (by decide +kernel) rfl (by decide) ?_ ?_
  · refine sim_sub hC [] ?_
    exact sim_exit (E := (E_M_pack_20_112 a3)) s.2
  · refine sim_blk2 hC [(.aload_n 1, 0, 0, 0, 0), (.iload_n 3, 0, 0, 0, 0), (.iload 4, 0, 0, 0, 0), (.iadd, 0, 0, 0, 0), (.aload_n 0, 0, 0, 0, 0), (.getfield 89, 0, 28, 20, 0), (.iload 4, 0, 0, 0, 0), (.iaload, 18, 9, 0, 0), (.iastore, 20, 2120, 0, 0)] [(0, vR 0), (1, vR 20), (3, vI a3), (4, vI s.1)] [] (wup s.2 20 (Int32.toNatClampNeg (a3 + s.1)) (s.2 18 (Int32.toNatClampNeg s.1))) 132 (by decide +kernel) rfl rfl ?_
    refine sim_bw (C := fun w12 => (132, [(0, vR 0), (1, vR 20), (3, vI a3), (4, vI s.1)], [], w12)) (fun w12 => ?_)
    refine sim_blk2 hC [(.aload_n 1, 0, 0, 0, 0), (.iload_n 3, 0, 0, 0, 0), (.bipush 9, 0, 0, 0, 9), (.iadd, 0, 0, 0, 0), (.iload 4, 0, 0, 0, 0), (.iadd, 0, 0, 0, 0), (.aload_n 0, 0, 0, 0, 0), (.getfield 92, 0, 29, 21, 0), (.iload 4, 0, 0, 0, 0), (.iaload, 19, 9, 0, 0), (.iastore, 20, 2120, 0, 0)] [(0, vR 0), (1, vR 20), (3, vI a3), (4, vI s.1)] [] (wup w12 20 (Int32.toNatClampNeg ((a3 + (9 : Int32)) + s.1)) (w12 19 (Int32.toNatClampNeg s.1))) 148 (by decide +kernel) rfl rfl ?_
    refine sim_bw (C := fun w13 => (148, [(0, vR 0), (1, vR 20), (3, vI a3), (4, vI s.1)], [], w13)) (fun w13 => ?_)
    refine sim_blk0 hC [(.iinc 4 1, 0, 0, 0, 1)] [(0, vR 0), (1, vR 20), (3, vI a3), (4, vI (s.1 + 1))] [] w13 151 (by decide +kernel) rfl rfl ?_
    refine sim_bi (C := fun i14 => (151, [(0, vR 0), (1, vR 20), (3, vI a3), (4, vI i14)], [], w13)) (fun i14 => ?_)
    refine sim_goto hC (-39) 112 (by decide +kernel) (by decide) ?_
    exact sim_back (V := (V_M_pack_20_112 a3)) ((i14, w13))
noncomputable def F_M_pack_20 (w : Wld) (a2 : Int32) : Option (Wld) :=
  gd (vp_in a2 2120) (bw (wup w 20 (Int32.toNatClampNeg a2) (w 0 31)) (fun w1 => gd (vp_in (a2 + (1 : Int32)) 2120) (bw (wup w1 20 (Int32.toNatClampNeg (a2 + (1 : Int32))) (w1 0 32)) (fun w2 => gd (vp_in (a2 + (2 : Int32)) 2120) (bw (wup w2 20 (Int32.toNatClampNeg (a2 + (2 : Int32))) (w2 0 33)) (fun w3 => bi (a2 + (3 : Int32)) (fun i4 => bl (loop (B_M_pack_20_32 i4) ((0, w3))) (fun r10 => bi (i4 + 32) (fun i11 => bl (loop (B_M_pack_20_112 i11) ((0, r10))) (fun r15 => some r15))))))))))
set_option maxRecDepth 10000 in
theorem s_M_pack_20 {Z : ZT} {l : Launch} {o : Oc} {wo : Wld} {Ok : Cfg → Prop} (hC : Clo Z l 10 5 prog_13_method_38_code none 1 0 o wo Ok) (w : Wld) (a2 : Int32) : SimK Ok (0, [(0, vR 0), (1, vR 20), (2, vI a2)], [], w) (F_M_pack_20 w a2) (Gv o wo) := by
  unfold F_M_pack_20
  refine sim_blk1 hC [(.aload_n 1, 0, 0, 0, 0), (.iload_n 2, 0, 0, 0, 0), (.aload_n 0, 0, 0, 0, 0), (.getfield 305, 0, 31, 0, 0), (.iastore, 20, 2120, 0, 0)] [(0, vR 0), (1, vR 20), (2, vI a2)] [] (wup w 20 (Int32.toNatClampNeg a2) (w 0 31)) 7 (by decide +kernel) rfl rfl ?_
  refine sim_bw (C := fun w1 => (7, [(0, vR 0), (1, vR 20), (2, vI a2)], [], w1)) (fun w1 => ?_)
  refine sim_blk1 hC [(.aload_n 1, 0, 0, 0, 0), (.iload_n 2, 0, 0, 0, 0), (.iconst 1, 0, 0, 0, 1), (.iadd, 0, 0, 0, 0), (.aload_n 0, 0, 0, 0, 0), (.getfield 307, 0, 32, 0, 0), (.iastore, 20, 2120, 0, 0)] [(0, vR 0), (1, vR 20), (2, vI a2)] [] (wup w1 20 (Int32.toNatClampNeg (a2 + (1 : Int32))) (w1 0 32)) 16 (by decide +kernel) rfl rfl ?_
  refine sim_bw (C := fun w2 => (16, [(0, vR 0), (1, vR 20), (2, vI a2)], [], w2)) (fun w2 => ?_)
  refine sim_blk1 hC [(.aload_n 1, 0, 0, 0, 0), (.iload_n 2, 0, 0, 0, 0), (.iconst 2, 0, 0, 0, 2), (.iadd, 0, 0, 0, 0), (.aload_n 0, 0, 0, 0, 0), (.getfield 309, 0, 33, 0, 0), (.iastore, 20, 2120, 0, 0)] [(0, vR 0), (1, vR 20), (2, vI a2)] [] (wup w2 20 (Int32.toNatClampNeg (a2 + (2 : Int32))) (w2 0 33)) 25 (by decide +kernel) rfl rfl ?_
  refine sim_bw (C := fun w3 => (25, [(0, vR 0), (1, vR 20), (2, vI a2)], [], w3)) (fun w3 => ?_)
  refine sim_blk0 hC [(.iload_n 2, 0, 0, 0, 0), (.iconst 3, 0, 0, 0, 3), (.iadd, 0, 0, 0, 0), (.istore_n 3, 0, 0, 0, 0)] [(0, vR 0), (1, vR 20), (2, vI a2), (3, vI (a2 + (3 : Int32)))] [] w3 29 (by decide +kernel) rfl rfl ?_
  refine sim_bi (C := fun i4 => (29, [(0, vR 0), (1, vR 20), (2, vI a2), (3, vI i4)], [], w3)) (fun i4 => ?_)
  refine sim_blk0 hC [(.iconst 0, 0, 0, 0, 0), (.istore 4, 0, 0, 0, 0)] [(0, vR 0), (1, vR 20), (2, vI a2), (3, vI i4), (4, vI 0)] [] w3 32 (by decide +kernel) rfl rfl ?_
  refine sim_bl (E := (E_M_pack_20_32 i4)) ?_ (fun r10 => ?_)
  · refine sim_sub hC [0, 1, 3, 4] ?_
    exact sim_loop (V := (V_M_pack_20_32 i4)) (fun sz => s_B_M_pack_20_32 hC i4 sz) ((0, w3))
  · show SimK Ok (106, [(0, vR 0), (1, vR 20), (3, vI i4)], [], r10) _ _
    refine sim_blk0 hC [(.iinc 3 32, 0, 0, 0, 32)] [(0, vR 0), (1, vR 20), (3, vI (i4 + 32))] [] r10 109 (by decide +kernel) rfl rfl ?_
    refine sim_bi (C := fun i11 => (109, [(0, vR 0), (1, vR 20), (3, vI i11)], [], r10)) (fun i11 => ?_)
    refine sim_blk0 hC [(.iconst 0, 0, 0, 0, 0), (.istore 4, 0, 0, 0, 0)] [(0, vR 0), (1, vR 20), (3, vI i11), (4, vI 0)] [] r10 112 (by decide +kernel) rfl rfl ?_
    refine sim_bl (E := (E_M_pack_20_112 i11)) ?_ (fun r15 => ?_)
    · exact sim_loop (V := (V_M_pack_20_112 i11)) (fun sz => s_B_M_pack_20_112 hC i11 sz) ((0, r10))
    · show SimK Ok (154, [], [], r15) _ _
      exact sim_retv hC (by decide +kernel)
theorem c_M_pack_20 {Z : ZT} {l : Launch} (w : Wld) (a2 : Int32) (w1 : Wld) (h : F_M_pack_20 w a2 = some w1) : Con Z l mX11_pack 1 0 [vR 0, vR 20, vI a2] w (.inr none) w1 :=
  Con_of (oc := 10) (by decide +kernel) rfl rfl (fun Ok hC => s_M_pack_20 hC w a2 w1 h ⟨rfl, rfl⟩)
noncomputable def K_M_keep_52 (w : Wld) : Option (Wld) :=
  bv (F_M_pack_20 w ((53 : Int32) * (w 0 34))) (fun w1 => bw (wup w1 0 34 ((w1 0 34) + (1 : Int32))) (fun w2 => some w2))
set_option maxRecDepth 10000 in
theorem s_K_M_keep_52 {Z : ZT} {l : Launch} {o : Oc} {wo : Wld} {Ok : Cfg → Prop} (hC : Clo Z l 10 2 prog_13_method_55_code none 2 24 o wo Ok) (w : Wld) : SimK Ok (52, [(0, vR 0)], [], w) (K_M_keep_52 w) (Gv o wo) := by
  unfold K_M_keep_52
  refine sim_blk0 hC [(.aload_n 0, 0, 0, 0, 0), (.aload_n 0, 0, 0, 0, 0), (.getfield 95, 0, 30, 22, 0), (.bipush 53, 0, 0, 0, 53), (.aload_n 0, 0, 0, 0, 0), (.getfield 312, 0, 34, 0, 0), (.imul, 0, 0, 0, 0)] [(0, vR 0)] [vI ((53 : Int32) * (w 0 34)), vR 20, vR 0] w 64 (by decide +kernel) rfl rfl ?_
  refine sim_vv hC 379 mX11_pack 1 0 0 [vR 20, vI ((53 : Int32) * (w 0 34))] [] (by decide +kernel) ml_10_379 rfl rfl rfl rfl rfl rfl (fun wz hz => c_M_pack_20 w ((53 : Int32) * (w 0 34)) wz hz) (fun w1 => ?_)
  refine sim_blk0 hC [(.aload_n 0, 0, 0, 0, 0), (.dup, 0, 0, 0, 0), (.getfield 312, 0, 34, 0, 0), (.iconst 1, 0, 0, 0, 1), (.iadd, 0, 0, 0, 0), (.putfield 312, 0, 34, 0, 0)] [(0, vR 0)] [] (wup w1 0 34 ((w1 0 34) + (1 : Int32))) 77 (by decide +kernel) rfl rfl ?_
  refine sim_bw (C := fun w2 => (77, [(0, vR 0)], [], w2)) (fun w2 => ?_)
  exact sim_retv hC (by decide +kernel)
def V_M_keep_12 : (Int32 × Wld) → Cfg := fun s => (12, [(0, vR 0), (1, vI s.1)], [], s.2)
def E_M_keep_12 : (Wld) → Cfg := fun s => (42, [(0, vR 0)], [], s)
noncomputable def B_M_keep_12 (s : Int32 × Wld) : Option ((Int32 × Wld) ⊕ (Wld)) :=
  br ((2120 : Int32) ≤ s.1) (some (.inr s.2)) (gd (vp_in s.1 2120) (gd (vp_in (s.1 - (53 : Int32)) 2120) (bw (wup s.2 20 (Int32.toNatClampNeg (s.1 - (53 : Int32))) (s.2 20 (Int32.toNatClampNeg s.1))) (fun w3 => bi (s.1 + 1) (fun i4 => some (.inl ((i4, w3))))))))
set_option maxRecDepth 10000 in
theorem s_B_M_keep_12 {Z : ZT} {l : Launch} {o : Oc} {wo : Wld} {Ok : Cfg → Prop} (hC : Clo Z l 10 2 prog_13_method_55_code none 2 24 o wo Ok) (s : Int32 × Wld) : SimK Ok (V_M_keep_12 s) (B_M_keep_12 s) (GLp Ok (V_M_keep_12) (GEp Ok (E_M_keep_12))) := by
  unfold B_M_keep_12
  show SimK Ok (12, [(0, vR 0), (1, vI s.1)], [], s.2) _ _
  refine sim_blk0 hC [(.iload_n 1, 0, 0, 0, 0), (.aload_n 0, 0, 0, 0, 0), (.getfield 95, 0, 30, 22, 0), (.arraylength, 20, 2120, 0, 2120)] [(0, vR 0), (1, vI s.1)] [vI 2120, vI s.1] s.2 18 (by decide +kernel) rfl rfl ?_
  refine sim_br hC (.if_icmp .ge 24) 42 (by decide +kernel) rfl (by decide) ?_ ?_
  · refine sim_sub hC [0] ?_
    exact sim_exit (E := (E_M_keep_12)) s.2
  · refine sim_blk2 hC [(.aload_n 0, 0, 0, 0, 0), (.getfield 95, 0, 30, 22, 0), (.iload_n 1, 0, 0, 0, 0), (.bipush 53, 0, 0, 0, 53), (.isub, 0, 0, 0, 0), (.aload_n 0, 0, 0, 0, 0), (.getfield 95, 0, 30, 22, 0), (.iload_n 1, 0, 0, 0, 0), (.iaload, 20, 2120, 0, 0), (.iastore, 20, 2120, 0, 0)] [(0, vR 0), (1, vI s.1)] [] (wup s.2 20 (Int32.toNatClampNeg (s.1 - (53 : Int32))) (s.2 20 (Int32.toNatClampNeg s.1))) 36 (by decide +kernel) rfl rfl ?_
    refine sim_bw (C := fun w3 => (36, [(0, vR 0), (1, vI s.1)], [], w3)) (fun w3 => ?_)
    refine sim_blk0 hC [(.iinc 1 1, 0, 0, 0, 1)] [(0, vR 0), (1, vI (s.1 + 1))] [] w3 39 (by decide +kernel) rfl rfl ?_
    refine sim_bi (C := fun i4 => (39, [(0, vR 0), (1, vI i4)], [], w3)) (fun i4 => ?_)
    refine sim_goto hC (-27) 12 (by decide +kernel) (by decide) ?_
    exact sim_back (V := (V_M_keep_12)) ((i4, w3))
noncomputable def F_M_keep (w : Wld) : Option (Wld) :=
  br (¬ (w 0 34) = 40) (K_M_keep_52 w) (bl (loop (B_M_keep_12) ((53, w))) (fun r5 => bw (wup r5 0 34 ((r5 0 34) - (1 : Int32))) (fun w6 => K_M_keep_52 w6)))
set_option maxRecDepth 10000 in
theorem s_M_keep {Z : ZT} {l : Launch} {o : Oc} {wo : Wld} {Ok : Cfg → Prop} (hC : Clo Z l 10 2 prog_13_method_55_code none 2 24 o wo Ok) (w : Wld) : SimK Ok (0, [(0, vR 0)], [], w) (F_M_keep w) (Gv o wo) := by
  unfold F_M_keep
  refine sim_blk0 hC [(.aload_n 0, 0, 0, 0, 0), (.getfield 312, 0, 34, 0, 0), (.bipush 40, 0, 0, 0, 40)] [(0, vR 0)] [vI 40, vI (w 0 34)] w 6 (by decide +kernel) rfl rfl ?_
  refine sim_br hC (.if_icmp .ne 46) 52 (by decide +kernel) rfl (by decide) ?_ ?_
  · exact s_K_M_keep_52 hC w
  · refine sim_blk0 hC [(.bipush 53, 0, 0, 0, 53), (.istore_n 1, 0, 0, 0, 0)] [(0, vR 0), (1, vI 53)] [] w 12 (by decide +kernel) rfl rfl ?_
    refine sim_bl (E := (E_M_keep_12)) ?_ (fun r5 => ?_)
    · exact sim_loop (V := (V_M_keep_12)) (fun sz => s_B_M_keep_12 hC sz) ((53, w))
    · show SimK Ok (42, [(0, vR 0)], [], r5) _ _
      refine sim_blk0 hC [(.aload_n 0, 0, 0, 0, 0), (.dup, 0, 0, 0, 0), (.getfield 312, 0, 34, 0, 0), (.iconst 1, 0, 0, 0, 1), (.isub, 0, 0, 0, 0), (.putfield 312, 0, 34, 0, 0)] [(0, vR 0)] [] (wup r5 0 34 ((r5 0 34) - (1 : Int32))) 52 (by decide +kernel) rfl rfl ?_
      refine sim_bw (C := fun w6 => (52, [(0, vR 0)], [], w6)) (fun w6 => ?_)
      exact s_K_M_keep_52 hC w6
theorem c_M_keep {Z : ZT} {l : Launch} (w : Wld) (w1 : Wld) (h : F_M_keep w = some w1) : Con Z l mX11_keep 2 24 [vR 0] w (.inr none) w1 :=
  Con_of (oc := 10) (by decide +kernel) rfl rfl (fun Ok hC => s_M_keep hC w w1 h ⟨rfl, rfl⟩)
def V_M_upNow_4 : (Int32 × Int32 × Wld) → Cfg := fun s => (4, [(0, vR 0), (1, vI s.1), (2, vI s.2.1)], [], s.2.2)
def E_M_upNow_4 : (Int32 × Wld) → Cfg := fun s => (38, [(1, vI s.1)], [], s.2)
noncomputable def K_M_upNow_30 (a2 : Int32) (t0 : Int32) (t1 : Int32) (w : Wld) : Option ((Int32 × Int32 × Wld) ⊕ (Int32 × Wld)) :=
  bi (t0 ||| t1) (fun i3 => bi (a2 + 1) (fun i4 => some (.inl ((i3, i4, w)))))
set_option maxRecDepth 10000 in
theorem s_K_M_upNow_30 {Z : ZT} {l : Launch} {o : Oc} {wo : Wld} {Ok : Cfg → Prop} (hC : Clo Z l 10 3 prog_13_method_44_code (some .int) 4 66 o wo Ok) (a2 : Int32) (t0 : Int32) (t1 : Int32) (w : Wld) : SimK Ok (30, [(0, vR 0), (2, vI a2)], [vI t1, vI t0], w) (K_M_upNow_30 a2 t0 t1 w) (GLp Ok (V_M_upNow_4) (GEp Ok (E_M_upNow_4))) := by
  unfold K_M_upNow_30
  refine sim_blk0 hC [(.ior, 0, 0, 0, 0), (.istore_n 1, 0, 0, 0, 0)] [(0, vR 0), (1, vI (t0 ||| t1)), (2, vI a2)] [] w 32 (by decide +kernel) rfl rfl ?_
  refine sim_bi (C := fun i3 => (32, [(0, vR 0), (1, vI i3), (2, vI a2)], [], w)) (fun i3 => ?_)
  refine sim_blk0 hC [(.iinc 2 1, 0, 0, 0, 1)] [(0, vR 0), (1, vI i3), (2, vI (a2 + 1))] [] w 35 (by decide +kernel) rfl rfl ?_
  refine sim_bi (C := fun i4 => (35, [(0, vR 0), (1, vI i3), (2, vI i4)], [], w)) (fun i4 => ?_)
  refine sim_goto hC (-31) 4 (by decide +kernel) (by decide) ?_
  exact sim_back (V := (V_M_upNow_4)) ((i3, i4, w))
noncomputable def B_M_upNow_4 (s : Int32 × Int32 × Wld) : Option ((Int32 × Int32 × Wld) ⊕ (Int32 × Wld)) :=
  gd (vp_in 1 10) (br ((s.2.2 3 (Int32.toNatClampNeg 1)) ≤ s.2.1) (some (.inr ((s.1, s.2.2)))) (bd (F_M_getsUp s.2.2 s.2.1) (fun i1 w2 => br (i1 = 0) (K_M_upNow_30 s.2.1 s.1 0 w2) (K_M_upNow_30 s.2.1 s.1 ((1 : Int32) <<< (s.2.1 &&& 31)) w2))))
set_option maxRecDepth 10000 in
theorem s_B_M_upNow_4 {Z : ZT} {l : Launch} {o : Oc} {wo : Wld} {Ok : Cfg → Prop} (hC : Clo Z l 10 3 prog_13_method_44_code (some .int) 4 66 o wo Ok) (s : Int32 × Int32 × Wld) : SimK Ok (V_M_upNow_4 s) (B_M_upNow_4 s) (GLp Ok (V_M_upNow_4) (GEp Ok (E_M_upNow_4))) := by
  unfold B_M_upNow_4
  show SimK Ok (4, [(0, vR 0), (1, vI s.1), (2, vI s.2.1)], [], s.2.2) _ _
  refine sim_blk1 hC [(.iload_n 2, 0, 0, 0, 0), (.aload_n 0, 0, 0, 0, 0), (.getfield 42, 0, 3, 5, 0), (.iconst 1, 0, 0, 0, 1), (.iaload, 3, 10, 0, 0)] [(0, vR 0), (1, vI s.1), (2, vI s.2.1)] [vI (s.2.2 3 (Int32.toNatClampNeg 1)), vI s.2.1] s.2.2 11 (by decide +kernel) rfl rfl ?_
  refine sim_br hC (.if_icmp .ge 27) 38 (by decide +kernel) rfl (by decide) ?_ ?_
  · refine sim_sub hC [1] ?_
    exact sim_exit (E := (E_M_upNow_4)) ((s.1, s.2.2))
  · refine sim_blk0 hC [(.iload_n 1, 0, 0, 0, 0), (.aload_n 0, 0, 0, 0, 0), (.iload_n 2, 0, 0, 0, 0)] [(0, vR 0), (1, vI s.1), (2, vI s.2.1)] [vI s.2.1, vR 0, vI s.1] s.2.2 17 (by decide +kernel) rfl rfl ?_
    refine sim_vd hC 338 mX11_getsUp 3 45 0 [vI s.2.1] [vI s.1] (by decide +kernel) ml_10_338 rfl rfl rfl rfl rfl rfl (fun rz wz hz => c_M_getsUp s.2.2 s.2.1 rz wz hz) (fun i1 w2 => ?_)
    refine sim_br hC (.ifCond .eq 9) 29 (by decide +kernel) rfl (by decide) ?_ ?_
    · refine sim_blk0 hC [(.iconst 0, 0, 0, 0, 0)] [(0, vR 0), (1, vI s.1), (2, vI s.2.1)] [vI 0, vI s.1] w2 30 (by decide +kernel) rfl rfl ?_
      refine sim_sub hC [0, 2] ?_
      exact s_K_M_upNow_30 hC s.2.1 s.1 0 w2
    · refine sim_blk0 hC [(.iconst 1, 0, 0, 0, 1), (.iload_n 2, 0, 0, 0, 0), (.ishl, 0, 0, 0, 0)] [(0, vR 0), (1, vI s.1), (2, vI s.2.1)] [vI ((1 : Int32) <<< (s.2.1 &&& 31)), vI s.1] w2 26 (by decide +kernel) rfl rfl ?_
      refine sim_goto hC 4 30 (by decide +kernel) (by decide) ?_
      refine sim_sub hC [0, 2] ?_
      exact s_K_M_upNow_30 hC s.2.1 s.1 ((1 : Int32) <<< (s.2.1 &&& 31)) w2
noncomputable def F_M_upNow (w : Wld) : Option (Int32 × Wld) :=
  bl (loop (B_M_upNow_4) ((0, 0, w))) (fun r5 => some ((r5.1, r5.2)))
set_option maxRecDepth 10000 in
theorem s_M_upNow {Z : ZT} {l : Launch} {o : Oc} {wo : Wld} {Ok : Cfg → Prop} (hC : Clo Z l 10 3 prog_13_method_44_code (some .int) 4 66 o wo Ok) (w : Wld) : SimK Ok (0, [(0, vR 0)], [], w) (F_M_upNow w) (Gi o wo) := by
  unfold F_M_upNow
  refine sim_blk0 hC [(.iconst 0, 0, 0, 0, 0), (.istore_n 1, 0, 0, 0, 0), (.iconst 0, 0, 0, 0, 0), (.istore_n 2, 0, 0, 0, 0)] [(0, vR 0), (1, vI 0), (2, vI 0)] [] w 4 (by decide +kernel) rfl rfl ?_
  refine sim_bl (E := (E_M_upNow_4)) ?_ (fun r5 => ?_)
  · exact sim_loop (V := (V_M_upNow_4)) (fun sz => s_B_M_upNow_4 hC sz) ((0, 0, w))
  · show SimK Ok (38, [(1, vI r5.1)], [], r5.2) _ _
    refine sim_blk0 hC [(.iload_n 1, 0, 0, 0, 0)] [(1, vI r5.1)] [vI r5.1] r5.2 39 (by decide +kernel) rfl rfl ?_
    exact sim_reti hC (by decide +kernel) trivial
theorem c_M_upNow {Z : ZT} {l : Launch} (w : Wld) (r : Int32) (w1 : Wld) (h : F_M_upNow w = some (r, w1)) : Con Z l mX11_upNow 4 66 [vR 0] w (.inr (some r)) w1 :=
  Con_of (oc := 10) (by decide +kernel) rfl rfl (fun Ok hC => s_M_upNow hC w (r, w1) h ⟨rfl, rfl⟩)
noncomputable def F_M_everybody (w : Wld) : Option (Int32) :=
  gd (vp_in 1 10) (some (((1 : Int32) <<< ((w 3 (Int32.toNatClampNeg 1)) &&& 31)) - (1 : Int32)))
set_option maxRecDepth 10000 in
theorem s_M_everybody {Z : ZT} {l : Launch} {o : Oc} {wo : Wld} {Ok : Cfg → Prop} (hC : Clo Z l 10 1 prog_13_method_46_code (some .int) 1 0 o wo Ok) (w : Wld) : SimK Ok (0, [(0, vR 0)], [], w) (F_M_everybody w) (Gp o wo w) := by
  unfold F_M_everybody
  refine sim_blk1 hC [(.iconst 1, 0, 0, 0, 1), (.aload_n 0, 0, 0, 0, 0), (.getfield 42, 0, 3, 5, 0), (.iconst 1, 0, 0, 0, 1), (.iaload, 3, 10, 0, 0), (.ishl, 0, 0, 0, 0), (.iconst 1, 0, 0, 0, 1), (.isub, 0, 0, 0, 0)] [(0, vR 0)] [vI (((1 : Int32) <<< ((w 3 (Int32.toNatClampNeg 1)) &&& 31)) - (1 : Int32))] w 10 (by decide +kernel) rfl rfl ?_
  exact sim_retp hC (by decide +kernel) trivial
theorem c_M_everybody {Z : ZT} {l : Launch} (w : Wld) (r : Int32) (h : F_M_everybody w = some r) : Con Z l mX11_everybody 1 0 [vR 0] w (.inr (some r)) w :=
  Con_of (oc := 10) (by decide +kernel) rfl rfl (fun Ok hC => s_M_everybody hC w r h ⟨rfl, rfl⟩)
def V_M_voicesOf_4 (a1 : Int32) (w : Wld) : (Int32 × Int32) → Cfg := fun s => (4, [(0, vR 0), (1, vI a1), (2, vI s.1), (3, vI s.2)], [], w)
def E_M_voicesOf_4 (a1 : Int32) (w : Wld) : (Int32) → Cfg := fun s => (43, [(2, vI s)], [], w)
noncomputable def K_M_voicesOf_35 (a1 : Int32) (a3 : Int32) (t0 : Int32) (t1 : Int32) (w : Wld) : Option ((Int32 × Int32) ⊕ (Int32)) :=
  bi (t0 ||| t1) (fun i2 => bi (a3 + 1) (fun i3 => some (.inl ((i2, i3)))))
set_option maxRecDepth 10000 in
theorem s_K_M_voicesOf_35 {Z : ZT} {l : Launch} {o : Oc} {wo : Wld} {Ok : Cfg → Prop} (hC : Clo Z l 10 4 prog_13_method_45_code (some .int) 2 21 o wo Ok) (a1 : Int32) (a3 : Int32) (t0 : Int32) (t1 : Int32) (w : Wld) : SimK Ok (35, [(0, vR 0), (1, vI a1), (3, vI a3)], [vI t1, vI t0], w) (K_M_voicesOf_35 a1 a3 t0 t1 w) (GLp Ok (V_M_voicesOf_4 a1 w) (GEp Ok (E_M_voicesOf_4 a1 w))) := by
  unfold K_M_voicesOf_35
  refine sim_blk0 hC [(.ior, 0, 0, 0, 0), (.istore_n 2, 0, 0, 0, 0)] [(0, vR 0), (1, vI a1), (2, vI (t0 ||| t1)), (3, vI a3)] [] w 37 (by decide +kernel) rfl rfl ?_
  refine sim_bi (C := fun i2 => (37, [(0, vR 0), (1, vI a1), (2, vI i2), (3, vI a3)], [], w)) (fun i2 => ?_)
  refine sim_blk0 hC [(.iinc 3 1, 0, 0, 0, 1)] [(0, vR 0), (1, vI a1), (2, vI i2), (3, vI (a3 + 1))] [] w 40 (by decide +kernel) rfl rfl ?_
  refine sim_bi (C := fun i3 => (40, [(0, vR 0), (1, vI a1), (2, vI i2), (3, vI i3)], [], w)) (fun i3 => ?_)
  refine sim_goto hC (-36) 4 (by decide +kernel) (by decide) ?_
  exact sim_back (V := (V_M_voicesOf_4 a1 w)) ((i2, i3))
noncomputable def B_M_voicesOf_4 (a1 : Int32) (w : Wld) (s : Int32 × Int32) : Option ((Int32 × Int32) ⊕ (Int32)) :=
  gd (vp_in 1 10) (br ((w 3 (Int32.toNatClampNeg 1)) ≤ s.2) (some (.inr s.1)) (bp (F_M_isOf w a1 s.2) (fun i1 => br (i1 = 0) (K_M_voicesOf_35 a1 s.2 s.1 0 w) (gd (vp_in s.2 16) (K_M_voicesOf_35 a1 s.2 s.1 ((1 : Int32) <<< ((w 7 (Int32.toNatClampNeg s.2)) &&& 31)) w)))))
set_option maxRecDepth 10000 in
theorem s_B_M_voicesOf_4 {Z : ZT} {l : Launch} {o : Oc} {wo : Wld} {Ok : Cfg → Prop} (hC : Clo Z l 10 4 prog_13_method_45_code (some .int) 2 21 o wo Ok) (a1 : Int32) (w : Wld) (s : Int32 × Int32) : SimK Ok (V_M_voicesOf_4 a1 w s) (B_M_voicesOf_4 a1 w s) (GLp Ok (V_M_voicesOf_4 a1 w) (GEp Ok (E_M_voicesOf_4 a1 w))) := by
  unfold B_M_voicesOf_4
  show SimK Ok (4, [(0, vR 0), (1, vI a1), (2, vI s.1), (3, vI s.2)], [], w) _ _
  refine sim_blk1 hC [(.iload_n 3, 0, 0, 0, 0), (.aload_n 0, 0, 0, 0, 0), (.getfield 42, 0, 3, 5, 0), (.iconst 1, 0, 0, 0, 1), (.iaload, 3, 10, 0, 0)] [(0, vR 0), (1, vI a1), (2, vI s.1), (3, vI s.2)] [vI (w 3 (Int32.toNatClampNeg 1)), vI s.2] w 11 (by decide +kernel) rfl rfl ?_
  refine sim_br hC (.if_icmp .ge 32) 43 (by decide +kernel) rfl (by decide) ?_ ?_
  · refine sim_sub hC [2] ?_
    exact sim_exit (E := (E_M_voicesOf_4 a1 w)) s.1
  · refine sim_blk0 hC [(.iload_n 2, 0, 0, 0, 0), (.iload_n 1, 0, 0, 0, 0), (.iload_n 3, 0, 0, 0, 0)] [(0, vR 0), (1, vI a1), (2, vI s.1), (3, vI s.2)] [vI s.2, vI a1, vI s.1] w 17 (by decide +kernel) rfl rfl ?_
    refine sim_sp hC 326 mX11_isOf 1 0 [vI a1, vI s.2] [vI s.1] (by decide +kernel) ml_10_326 rfl rfl rfl rfl rfl (fun rz hz => c_M_isOf w a1 s.2 rz hz) (fun i1 => ?_)
    refine sim_br hC (.ifCond .eq 14) 34 (by decide +kernel) rfl (by decide) ?_ ?_
    · refine sim_blk0 hC [(.iconst 0, 0, 0, 0, 0)] [(0, vR 0), (1, vI a1), (2, vI s.1), (3, vI s.2)] [vI 0, vI s.1] w 35 (by decide +kernel) rfl rfl ?_
      refine sim_sub hC [0, 1, 3] ?_
      exact s_K_M_voicesOf_35 hC a1 s.2 s.1 0 w
    · refine sim_blk1 hC [(.iconst 1, 0, 0, 0, 1), (.aload_n 0, 0, 0, 0, 0), (.getfield 54, 0, 7, 9, 0), (.iload_n 3, 0, 0, 0, 0), (.iaload, 7, 16, 0, 0), (.ishl, 0, 0, 0, 0)] [(0, vR 0), (1, vI a1), (2, vI s.1), (3, vI s.2)] [vI ((1 : Int32) <<< ((w 7 (Int32.toNatClampNeg s.2)) &&& 31)), vI s.1] w 31 (by decide +kernel) rfl rfl ?_
      refine sim_goto hC 4 35 (by decide +kernel) (by decide) ?_
      refine sim_sub hC [0, 1, 3] ?_
      exact s_K_M_voicesOf_35 hC a1 s.2 s.1 ((1 : Int32) <<< ((w 7 (Int32.toNatClampNeg s.2)) &&& 31)) w
noncomputable def F_M_voicesOf (w : Wld) (a1 : Int32) : Option (Int32) :=
  bl (loop (B_M_voicesOf_4 a1 w) ((0, 0))) (fun r4 => some r4)
set_option maxRecDepth 10000 in
theorem s_M_voicesOf {Z : ZT} {l : Launch} {o : Oc} {wo : Wld} {Ok : Cfg → Prop} (hC : Clo Z l 10 4 prog_13_method_45_code (some .int) 2 21 o wo Ok) (w : Wld) (a1 : Int32) : SimK Ok (0, [(0, vR 0), (1, vI a1)], [], w) (F_M_voicesOf w a1) (Gp o wo w) := by
  unfold F_M_voicesOf
  refine sim_blk0 hC [(.iconst 0, 0, 0, 0, 0), (.istore_n 2, 0, 0, 0, 0), (.iconst 0, 0, 0, 0, 0), (.istore_n 3, 0, 0, 0, 0)] [(0, vR 0), (1, vI a1), (2, vI 0), (3, vI 0)] [] w 4 (by decide +kernel) rfl rfl ?_
  refine sim_bl (E := (E_M_voicesOf_4 a1 w)) ?_ (fun r4 => ?_)
  · exact sim_loop (V := (V_M_voicesOf_4 a1 w)) (fun sz => s_B_M_voicesOf_4 hC a1 w sz) ((0, 0))
  · show SimK Ok (43, [(2, vI r4)], [], w) _ _
    refine sim_blk0 hC [(.iload_n 2, 0, 0, 0, 0)] [(2, vI r4)] [vI r4] w 44 (by decide +kernel) rfl rfl ?_
    exact sim_retp hC (by decide +kernel) trivial
theorem c_M_voicesOf {Z : ZT} {l : Launch} (w : Wld) (a1 : Int32) (r : Int32) (h : F_M_voicesOf w a1 = some r) : Con Z l mX11_voicesOf 2 21 [vR 0, vI a1] w (.inr (some r)) w :=
  Con_of (oc := 10) (by decide +kernel) rfl rfl (fun Ok hC => s_M_voicesOf hC w a1 r h ⟨rfl, rfl⟩)
def V_M_aNight_17 (a1 : Int32) : (Int32 × Wld) → Cfg := fun s => (17, [(0, vR 0), (1, vI a1), (2, vI s.1)], [], s.2)
def E_M_aNight_17 (a1 : Int32) : (Wld) → Cfg := fun s => (36, [(0, vR 0), (1, vI a1)], [], s)
noncomputable def B_M_aNight_17 (a1 : Int32) (s : Int32 × Wld) : Option ((Int32 × Wld) ⊕ (Wld)) :=
  br ((99 : Int32) < s.1) (some (.inr s.2)) (gd (vp_in s.1 100) (bw (wup s.2 23 (Int32.toNatClampNeg s.1) 0) (fun w5 => bi (s.1 + 1) (fun i6 => some (.inl ((i6, w5)))))))
set_option maxRecDepth 10000 in
theorem s_B_M_aNight_17 {Z : ZT} {l : Launch} {o : Oc} {wo : Wld} {Ok : Cfg → Prop} (hC : Clo Z l 10 4 prog_13_method_47_code none 5 88 o wo Ok) (a1 : Int32) (s : Int32 × Wld) : SimK Ok (V_M_aNight_17 a1 s) (B_M_aNight_17 a1 s) (GLp Ok (V_M_aNight_17 a1) (GEp Ok (E_M_aNight_17 a1))) := by
  unfold B_M_aNight_17
  show SimK Ok (17, [(0, vR 0), (1, vI a1), (2, vI s.1)], [], s.2) _ _
  refine sim_blk0 hC [(.iload_n 2, 0, 0, 0, 0), (.bipush 99, 0, 0, 0, 99)] [(0, vR 0), (1, vI a1), (2, vI s.1)] [vI 99, vI s.1] s.2 20 (by decide +kernel) rfl rfl ?_
  refine sim_br hC (.if_icmp .gt 16) 36 (by decide +kernel) rfl (by decide) ?_ ?_
  · refine sim_sub hC [0, 1] ?_
    exact sim_exit (E := (E_M_aNight_17 a1)) s.2
  · refine sim_blk1 hC [(.aload_n 0, 0, 0, 0, 0), (.getfield 104, 0, 41, 25, 0), (.iload_n 2, 0, 0, 0, 0), (.iconst 0, 0, 0, 0, 0), (.iastore, 23, 100, 0, 0)] [(0, vR 0), (1, vI a1), (2, vI s.1)] [] (wup s.2 23 (Int32.toNatClampNeg s.1) 0) 30 (by decide +kernel) rfl rfl ?_
    refine sim_bw (C := fun w5 => (30, [(0, vR 0), (1, vI a1), (2, vI s.1)], [], w5)) (fun w5 => ?_)
    refine sim_blk0 hC [(.iinc 2 1, 0, 0, 0, 1)] [(0, vR 0), (1, vI a1), (2, vI (s.1 + 1))] [] w5 33 (by decide +kernel) rfl rfl ?_
    refine sim_bi (C := fun i6 => (33, [(0, vR 0), (1, vI a1), (2, vI i6)], [], w5)) (fun i6 => ?_)
    refine sim_goto hC (-16) 17 (by decide +kernel) (by decide) ?_
    exact sim_back (V := (V_M_aNight_17 a1)) ((i6, w5))
def V_M_aNight_38 (a1 : Int32) : (Int32 × Wld) → Cfg := fun s => (38, [(0, vR 0), (1, vI a1), (2, vI s.1)], [], s.2)
def E_M_aNight_38 (a1 : Int32) : (Wld) → Cfg := fun s => (154, [(0, vR 0), (1, vI a1)], [], s)
noncomputable def K_M_aNight_148 (a1 : Int32) (a2 : Int32) (w : Wld) : Option ((Int32 × Wld) ⊕ (Wld)) :=
  bi (a2 + 1) (fun i15 => some (.inl ((i15, w))))
set_option maxRecDepth 10000 in
theorem s_K_M_aNight_148 {Z : ZT} {l : Launch} {o : Oc} {wo : Wld} {Ok : Cfg → Prop} (hC : Clo Z l 10 4 prog_13_method_47_code none 5 88 o wo Ok) (a1 : Int32) (a2 : Int32) (w : Wld) : SimK Ok (148, [(0, vR 0), (1, vI a1), (2, vI a2)], [], w) (K_M_aNight_148 a1 a2 w) (GLp Ok (V_M_aNight_38 a1) (GEp Ok (E_M_aNight_38 a1))) := by
  unfold K_M_aNight_148
  refine sim_blk0 hC [(.iinc 2 1, 0, 0, 0, 1)] [(0, vR 0), (1, vI a1), (2, vI (a2 + 1))] [] w 151 (by decide +kernel) rfl rfl ?_
  refine sim_bi (C := fun i15 => (151, [(0, vR 0), (1, vI a1), (2, vI i15)], [], w)) (fun i15 => ?_)
  refine sim_goto hC (-113) 38 (by decide +kernel) (by decide) ?_
  exact sim_back (V := (V_M_aNight_38 a1)) ((i15, w))
noncomputable def K_M_aNight_144 (a1 : Int32) (a2 : Int32) (t1 : Int32) (t2 : Int32) (w : Wld) : Option ((Int32 × Wld) ⊕ (Wld)) :=
  bw (wup w 0 40 (t1 ||| t2)) (fun w14 => K_M_aNight_148 a1 a2 w14)
set_option maxRecDepth 10000 in
theorem s_K_M_aNight_144 {Z : ZT} {l : Launch} {o : Oc} {wo : Wld} {Ok : Cfg → Prop} (hC : Clo Z l 10 4 prog_13_method_47_code none 5 88 o wo Ok) (a1 : Int32) (a2 : Int32) (t1 : Int32) (t2 : Int32) (w : Wld) : SimK Ok (144, [(0, vR 0), (1, vI a1), (2, vI a2)], [vI t2, vI t1, vR 0], w) (K_M_aNight_144 a1 a2 t1 t2 w) (GLp Ok (V_M_aNight_38 a1) (GEp Ok (E_M_aNight_38 a1))) := by
  unfold K_M_aNight_144
  refine sim_blk0 hC [(.ior, 0, 0, 0, 0), (.putfield 347, 0, 40, 0, 0)] [(0, vR 0), (1, vI a1), (2, vI a2)] [] (wup w 0 40 (t1 ||| t2)) 148 (by decide +kernel) rfl rfl ?_
  refine sim_bw (C := fun w14 => (148, [(0, vR 0), (1, vI a1), (2, vI a2)], [], w14)) (fun w14 => ?_)
  exact s_K_M_aNight_148 hC a1 a2 w14
noncomputable def B_M_aNight_38 (a1 : Int32) (s : Int32 × Wld) : Option ((Int32 × Wld) ⊕ (Wld)) :=
  gd (vp_in 1 10) (br ((s.2 3 (Int32.toNatClampNeg 1)) ≤ s.1) (some (.inr s.2)) (bp (F_M_isOf s.2 a1 s.1) (fun i8 => br (¬ i8 = 0) (gd (vp_in s.1 8) (gd (vp_in (s.2 16 (Int32.toNatClampNeg s.1)) 18) (bw (wup s.2 0 38 ((s.2 0 38) + (s.2 4 (Int32.toNatClampNeg (s.2 16 (Int32.toNatClampNeg s.1)))))) (fun w9 => gd (vp_in s.1 8) (gd (vp_in (w9 16 (Int32.toNatClampNeg s.1)) 18) (gd (vp_in (w9 4 (Int32.toNatClampNeg (w9 16 (Int32.toNatClampNeg s.1)))) 100) (gd (vp_in (w9 4 (Int32.toNatClampNeg (w9 16 (Int32.toNatClampNeg s.1)))) 100) (bw (wup w9 23 (Int32.toNatClampNeg (w9 4 (Int32.toNatClampNeg (w9 16 (Int32.toNatClampNeg s.1))))) ((w9 23 (Int32.toNatClampNeg (w9 4 (Int32.toNatClampNeg (w9 16 (Int32.toNatClampNeg s.1)))))) + (1 : Int32))) (fun w10 => gd (vp_in s.1 8) (bp (F_M_those w10 (w10 16 (Int32.toNatClampNeg s.1))) (fun i11 => bi ((a1 &&& i11) &&& (((1 : Int32) <<< (s.1 &&& 31)) ^^^ (-1 : Int32))) (fun i12 => gd (vp_in s.1 8) (gd (vp_in s.1 8) (bw (wup w10 17 (Int32.toNatClampNeg s.1) ((w10 17 (Int32.toNatClampNeg s.1)) ||| i12)) (fun w13 => br (¬ i12 = 0) (K_M_aNight_144 a1 s.1 (w13 0 40) 0 w13) (K_M_aNight_144 a1 s.1 (w13 0 40) ((1 : Int32) <<< (s.1 &&& 31)) w13)))))))))))))))) (K_M_aNight_148 a1 s.1 s.2))))
set_option maxRecDepth 10000 in
theorem s_B_M_aNight_38 {Z : ZT} {l : Launch} {o : Oc} {wo : Wld} {Ok : Cfg → Prop} (hC : Clo Z l 10 4 prog_13_method_47_code none 5 88 o wo Ok) (a1 : Int32) (s : Int32 × Wld) : SimK Ok (V_M_aNight_38 a1 s) (B_M_aNight_38 a1 s) (GLp Ok (V_M_aNight_38 a1) (GEp Ok (E_M_aNight_38 a1))) := by
  unfold B_M_aNight_38
  show SimK Ok (38, [(0, vR 0), (1, vI a1), (2, vI s.1)], [], s.2) _ _
  refine sim_blk1 hC [(.iload_n 2, 0, 0, 0, 0), (.aload_n 0, 0, 0, 0, 0), (.getfield 42, 0, 3, 5, 0), (.iconst 1, 0, 0, 0, 1), (.iaload, 3, 10, 0, 0)] [(0, vR 0), (1, vI a1), (2, vI s.1)] [vI (s.2 3 (Int32.toNatClampNeg 1)), vI s.1] s.2 45 (by decide +kernel) rfl rfl ?_
  refine sim_br hC (.if_icmp .ge 109) 154 (by decide +kernel) rfl (by decide) ?_ ?_
  · refine sim_sub hC [0, 1] ?_
    exact sim_exit (E := (E_M_aNight_38 a1)) s.2
  · refine sim_blk0 hC [(.iload_n 1, 0, 0, 0, 0), (.iload_n 2, 0, 0, 0, 0)] [(0, vR 0), (1, vI a1), (2, vI s.1)] [vI s.1, vI a1] s.2 50 (by decide +kernel) rfl rfl ?_
    refine sim_sp hC 326 mX11_isOf 1 0 [vI a1, vI s.1] [] (by decide +kernel) ml_10_326 rfl rfl rfl rfl rfl (fun rz hz => c_M_isOf s.2 a1 s.1 rz hz) (fun i8 => ?_)
    refine sim_br hC (.ifCond .ne 6) 59 (by decide +kernel) rfl (by decide) ?_ ?_
    · refine sim_blk2 hC [(.aload_n 0, 0, 0, 0, 0), (.dup, 0, 0, 0, 0), (.getfield 344, 0, 38, 0, 0), (.aload_n 0, 0, 0, 0, 0), (.getfield 46, 0, 4, 6, 0), (.aload_n 0, 0, 0, 0, 0), (.getfield 84, 0, 26, 18, 0), (.iload_n 2, 0, 0, 0, 0), (.iaload, 16, 8, 0, 0), (.iaload, 4, 18, 0, 0), (.iadd, 0, 0, 0, 0), (.putfield 344, 0, 38, 0, 0)] [(0, vR 0), (1, vI a1), (2, vI s.1)] [] (wup s.2 0 38 ((s.2 0 38) + (s.2 4 (Int32.toNatClampNeg (s.2 16 (Int32.toNatClampNeg s.1)))))) 79 (by decide +kernel) rfl rfl ?_
      refine sim_bw (C := fun w9 => (79, [(0, vR 0), (1, vI a1), (2, vI s.1)], [], w9)) (fun w9 => ?_)
      refine sim_blk3 hC [(.aload_n 0, 0, 0, 0, 0), (.getfield 104, 0, 41, 25, 0), (.aload_n 0, 0, 0, 0, 0), (.getfield 46, 0, 4, 6, 0), (.aload_n 0, 0, 0, 0, 0), (.getfield 84, 0, 26, 18, 0), (.iload_n 2, 0, 0, 0, 0), (.iaload, 16, 8, 0, 0), (.iaload, 4, 18, 0, 0), (.dup2, 0, 0, 0, 0), (.iaload, 23, 100, 0, 0)] [(0, vR 0), (1, vI a1), (2, vI s.1)] [vI (w9 23 (Int32.toNatClampNeg (w9 4 (Int32.toNatClampNeg (w9 16 (Int32.toNatClampNeg s.1)))))), vI (w9 4 (Int32.toNatClampNeg (w9 16 (Int32.toNatClampNeg s.1)))), vR 23] w9 96 (by decide +kernel) rfl rfl ?_
      refine sim_blk1 hC [(.iconst 1, 0, 0, 0, 1), (.iadd, 0, 0, 0, 0), (.iastore, 23, 100, 0, 0)] [(0, vR 0), (1, vI a1), (2, vI s.1)] [] (wup w9 23 (Int32.toNatClampNeg (w9 4 (Int32.toNatClampNeg (w9 16 (Int32.toNatClampNeg s.1))))) ((w9 23 (Int32.toNatClampNeg (w9 4 (Int32.toNatClampNeg (w9 16 (Int32.toNatClampNeg s.1)))))) + (1 : Int32))) 99 (by decide +kernel) rfl rfl ?_
      refine sim_bw (C := fun w10 => (99, [(0, vR 0), (1, vI a1), (2, vI s.1)], [], w10)) (fun w10 => ?_)
      refine sim_blk1 hC [(.iload_n 1, 0, 0, 0, 0), (.aload_n 0, 0, 0, 0, 0), (.aload_n 0, 0, 0, 0, 0), (.getfield 84, 0, 26, 18, 0), (.iload_n 2, 0, 0, 0, 0), (.iaload, 16, 8, 0, 0)] [(0, vR 0), (1, vI a1), (2, vI s.1)] [vI (w10 16 (Int32.toNatClampNeg s.1)), vR 0, vI a1] w10 107 (by decide +kernel) rfl rfl ?_
      refine sim_vp hC 329 mX11_those 1 0 0 [vI (w10 16 (Int32.toNatClampNeg s.1))] [vI a1] (by decide +kernel) ml_10_329 rfl rfl rfl rfl rfl rfl (fun rz hz => c_M_those w10 (w10 16 (Int32.toNatClampNeg s.1)) rz hz) (fun i11 => ?_)
      refine sim_blk0 hC [(.iand, 0, 0, 0, 0), (.iconst 1, 0, 0, 0, 1), (.iload_n 2, 0, 0, 0, 0), (.ishl, 0, 0, 0, 0), (.iconst (-1), 0, 0, 0, (-1)), (.ixor, 0, 0, 0, 0), (.iand, 0, 0, 0, 0), (.istore_n 3, 0, 0, 0, 0)] [(0, vR 0), (1, vI a1), (2, vI s.1), (3, vI ((a1 &&& i11) &&& (((1 : Int32) <<< (s.1 &&& 31)) ^^^ (-1 : Int32))))] [] w10 118 (by decide +kernel) rfl rfl ?_
      refine sim_bi (C := fun i12 => (118, [(0, vR 0), (1, vI a1), (2, vI s.1), (3, vI i12)], [], w10)) (fun i12 => ?_)
      refine sim_blk2 hC [(.aload_n 0, 0, 0, 0, 0), (.getfield 87, 0, 27, 19, 0), (.iload_n 2, 0, 0, 0, 0), (.dup2, 0, 0, 0, 0), (.iaload, 17, 8, 0, 0), (.iload_n 3, 0, 0, 0, 0), (.ior, 0, 0, 0, 0), (.iastore, 17, 8, 0, 0)] [(0, vR 0), (1, vI a1), (2, vI s.1), (3, vI i12)] [] (wup w10 17 (Int32.toNatClampNeg s.1) ((w10 17 (Int32.toNatClampNeg s.1)) ||| i12)) 128 (by decide +kernel) rfl rfl ?_
      refine sim_bw (C := fun w13 => (128, [(0, vR 0), (1, vI a1), (2, vI s.1), (3, vI i12)], [], w13)) (fun w13 => ?_)
      refine sim_blk0 hC [(.aload_n 0, 0, 0, 0, 0), (.dup, 0, 0, 0, 0), (.getfield 347, 0, 40, 0, 0), (.iload_n 3, 0, 0, 0, 0)] [(0, vR 0), (1, vI a1), (2, vI s.1), (3, vI i12)] [vI i12, vI (w13 0 40), vR 0] w13 134 (by decide +kernel) rfl rfl ?_
      refine sim_br hC (.ifCond .ne 9) 143 (by decide +kernel) rfl (by decide) ?_ ?_
      · refine sim_blk0 hC [(.iconst 0, 0, 0, 0, 0)] [(0, vR 0), (1, vI a1), (2, vI s.1), (3, vI i12)] [vI 0, vI (w13 0 40), vR 0] w13 144 (by decide +kernel) rfl rfl ?_
        refine sim_sub hC [0, 1, 2] ?_
        exact s_K_M_aNight_144 hC a1 s.1 (w13 0 40) 0 w13
      · refine sim_blk0 hC [(.iconst 1, 0, 0, 0, 1), (.iload_n 2, 0, 0, 0, 0), (.ishl, 0, 0, 0, 0)] [(0, vR 0), (1, vI a1), (2, vI s.1), (3, vI i12)] [vI ((1 : Int32) <<< (s.1 &&& 31)), vI (w13 0 40), vR 0] w13 140 (by decide +kernel) rfl rfl ?_
        refine sim_goto hC 4 144 (by decide +kernel) (by decide) ?_
        refine sim_sub hC [0, 1, 2] ?_
        exact s_K_M_aNight_144 hC a1 s.1 (w13 0 40) ((1 : Int32) <<< (s.1 &&& 31)) w13
    · refine sim_goto hC 92 148 (by decide +kernel) (by decide) ?_
      exact s_K_M_aNight_148 hC a1 s.1 s.2
def V_M_aNight_176 (a1 : Int32) : (Int32 × Wld) → Cfg := fun s => (176, [(0, vR 0), (1, vI a1), (2, vI s.1)], [], s.2)
def E_M_aNight_176 (a1 : Int32) : (Wld) → Cfg := fun s => (308, [(0, vR 0), (1, vI a1)], [], s)
noncomputable def K_M_aNight_284 (a1 : Int32) (a2 : Int32) (w : Wld) : Option ((Int32 × Wld) ⊕ (Wld)) :=
  gd (vp_in a2 8) (gd (vp_in a2 8) (bw (wup w 15 (Int32.toNatClampNeg a2) (imax 0 ((w 15 (Int32.toNatClampNeg a2)) - (1 : Int32)))) (fun w23 => bi (a2 + 1) (fun i24 => some (.inl ((i24, w23)))))))
set_option maxRecDepth 10000 in
theorem s_K_M_aNight_284 {Z : ZT} {l : Launch} {o : Oc} {wo : Wld} {Ok : Cfg → Prop} (hC : Clo Z l 10 4 prog_13_method_47_code none 5 88 o wo Ok) (a1 : Int32) (a2 : Int32) (w : Wld) : SimK Ok (284, [(0, vR 0), (1, vI a1), (2, vI a2)], [], w) (K_M_aNight_284 a1 a2 w) (GLp Ok (V_M_aNight_176 a1) (GEp Ok (E_M_aNight_176 a1))) := by
  unfold K_M_aNight_284
  refine sim_blk1 hC [(.aload_n 0, 0, 0, 0, 0), (.getfield 81, 0, 25, 17, 0), (.iload_n 2, 0, 0, 0, 0), (.iconst 0, 0, 0, 0, 0), (.aload_n 0, 0, 0, 0, 0), (.getfield 81, 0, 25, 17, 0), (.iload_n 2, 0, 0, 0, 0), (.iaload, 15, 8, 0, 0), (.iconst 1, 0, 0, 0, 1), (.isub, 0, 0, 0, 0)] [(0, vR 0), (1, vI a1), (2, vI a2)] [vI ((w 15 (Int32.toNatClampNeg a2)) - (1 : Int32)), vI 0, vI a2, vR 15] w 298 (by decide +kernel) rfl rfl ?_
  refine sim_max hC 359 (by decide +kernel) ml_10_359 rfl rfl rfl ?_
  refine sim_blk1 hC [(.iastore, 15, 8, 0, 0)] [(0, vR 0), (1, vI a1), (2, vI a2)] [] (wup w 15 (Int32.toNatClampNeg a2) (imax 0 ((w 15 (Int32.toNatClampNeg a2)) - (1 : Int32)))) 302 (by decide +kernel) rfl rfl ?_
  refine sim_bw (C := fun w23 => (302, [(0, vR 0), (1, vI a1), (2, vI a2)], [], w23)) (fun w23 => ?_)
  refine sim_blk0 hC [(.iinc 2 1, 0, 0, 0, 1)] [(0, vR 0), (1, vI a1), (2, vI (a2 + 1))] [] w23 305 (by decide +kernel) rfl rfl ?_
  refine sim_bi (C := fun i24 => (305, [(0, vR 0), (1, vI a1), (2, vI i24)], [], w23)) (fun i24 => ?_)
  refine sim_goto hC (-129) 176 (by decide +kernel) (by decide) ?_
  exact sim_back (V := (V_M_aNight_176 a1)) ((i24, w23))
noncomputable def K_M_aNight_256 (a1 : Int32) (a2 : Int32) (t1 : Int32) (t2 : Int32) (w : Wld) : Option ((Int32 × Wld) ⊕ (Wld)) :=
  gd (vp_in t1 8) (bw (wup w 16 (Int32.toNatClampNeg t1) t2) (fun w26 => K_M_aNight_284 a1 a2 w26))
set_option maxRecDepth 10000 in
theorem s_K_M_aNight_256 {Z : ZT} {l : Launch} {o : Oc} {wo : Wld} {Ok : Cfg → Prop} (hC : Clo Z l 10 4 prog_13_method_47_code none 5 88 o wo Ok) (a1 : Int32) (a2 : Int32) (t1 : Int32) (t2 : Int32) (w : Wld) : SimK Ok (256, [(0, vR 0), (1, vI a1), (2, vI a2)], [vI t2, vI t1, vR 16], w) (K_M_aNight_256 a1 a2 t1 t2 w) (GLp Ok (V_M_aNight_176 a1) (GEp Ok (E_M_aNight_176 a1))) := by
  unfold K_M_aNight_256
  refine sim_blk1 hC [(.iastore, 16, 8, 0, 0)] [(0, vR 0), (1, vI a1), (2, vI a2)] [] (wup w 16 (Int32.toNatClampNeg t1) t2) 257 (by decide +kernel) rfl rfl ?_
  refine sim_bw (C := fun w26 => (257, [(0, vR 0), (1, vI a1), (2, vI a2)], [], w26)) (fun w26 => ?_)
  refine sim_goto hC 27 284 (by decide +kernel) (by decide) ?_
  exact s_K_M_aNight_284 hC a1 a2 w26
noncomputable def B_M_aNight_176 (a1 : Int32) (s : Int32 × Wld) : Option ((Int32 × Wld) ⊕ (Wld)) :=
  gd (vp_in 1 10) (br ((s.2 3 (Int32.toNatClampNeg 1)) ≤ s.1) (some (.inr s.2)) (bp (F_M_isOf s.2 a1 s.1) (fun i21 => br (i21 = 0) (gd (vp_in s.1 8) (gd (vp_in 3 10) (gd (vp_in s.1 8) (bw (wup s.2 14 (Int32.toNatClampNeg s.1) (imin 99 ((s.2 14 (Int32.toNatClampNeg s.1)) + (s.2 3 (Int32.toNatClampNeg 3))))) (fun w22 => K_M_aNight_284 a1 s.1 w22))))) (gd (vp_in s.1 8) (gd (vp_in 2 10) (gd (vp_in s.1 8) (bw (wup s.2 14 (Int32.toNatClampNeg s.1) (imax 0 ((s.2 14 (Int32.toNatClampNeg s.1)) - (s.2 3 (Int32.toNatClampNeg 2))))) (fun w25 => gd (vp_in s.1 8) (br ((w25 15 (Int32.toNatClampNeg s.1)) ≤ 0) (gd (vp_in s.1 8) (gd (vp_in (w25 16 (Int32.toNatClampNeg s.1)) 9) (K_M_aNight_256 a1 s.1 s.1 (w25 18 (Int32.toNatClampNeg (w25 16 (Int32.toNatClampNeg s.1)))) w25))) (gd (vp_in s.1 8) (gd (vp_in (w25 16 (Int32.toNatClampNeg s.1)) 9) (K_M_aNight_256 a1 s.1 s.1 (w25 19 (Int32.toNatClampNeg (w25 16 (Int32.toNatClampNeg s.1)))) w25))))))))))))
set_option maxRecDepth 10000 in
theorem s_B_M_aNight_176 {Z : ZT} {l : Launch} {o : Oc} {wo : Wld} {Ok : Cfg → Prop} (hC : Clo Z l 10 4 prog_13_method_47_code none 5 88 o wo Ok) (a1 : Int32) (s : Int32 × Wld) : SimK Ok (V_M_aNight_176 a1 s) (B_M_aNight_176 a1 s) (GLp Ok (V_M_aNight_176 a1) (GEp Ok (E_M_aNight_176 a1))) := by
  unfold B_M_aNight_176
  show SimK Ok (176, [(0, vR 0), (1, vI a1), (2, vI s.1)], [], s.2) _ _
  refine sim_blk1 hC [(.iload_n 2, 0, 0, 0, 0), (.aload_n 0, 0, 0, 0, 0), (.getfield 42, 0, 3, 5, 0), (.iconst 1, 0, 0, 0, 1), (.iaload, 3, 10, 0, 0)] [(0, vR 0), (1, vI a1), (2, vI s.1)] [vI (s.2 3 (Int32.toNatClampNeg 1)), vI s.1] s.2 183 (by decide +kernel) rfl rfl ?_
  refine sim_br hC (.if_icmp .ge 125) 308 (by decide +kernel) rfl (by decide) ?_ ?_
  · refine sim_sub hC [0, 1] ?_
    exact sim_exit (E := (E_M_aNight_176 a1)) s.2
  · refine sim_blk0 hC [(.iload_n 1, 0, 0, 0, 0), (.iload_n 2, 0, 0, 0, 0)] [(0, vR 0), (1, vI a1), (2, vI s.1)] [vI s.1, vI a1] s.2 188 (by decide +kernel) rfl rfl ?_
    refine sim_sp hC 326 mX11_isOf 1 0 [vI a1, vI s.1] [] (by decide +kernel) ml_10_326 rfl rfl rfl rfl rfl (fun rz hz => c_M_isOf s.2 a1 s.1 rz hz) (fun i21 => ?_)
    refine sim_br hC (.ifCond .eq 69) 260 (by decide +kernel) rfl (by decide) ?_ ?_
    · refine sim_blk2 hC [(.aload_n 0, 0, 0, 0, 0), (.getfield 78, 0, 24, 16, 0), (.iload_n 2, 0, 0, 0, 0), (.bipush 99, 0, 0, 0, 99), (.aload_n 0, 0, 0, 0, 0), (.getfield 78, 0, 24, 16, 0), (.iload_n 2, 0, 0, 0, 0), (.iaload, 14, 8, 0, 0), (.aload_n 0, 0, 0, 0, 0), (.getfield 42, 0, 3, 5, 0), (.iconst 3, 0, 0, 0, 3), (.iaload, 3, 10, 0, 0), (.iadd, 0, 0, 0, 0)] [(0, vR 0), (1, vI a1), (2, vI s.1)] [vI ((s.2 14 (Int32.toNatClampNeg s.1)) + (s.2 3 (Int32.toNatClampNeg 3))), vI 99, vI s.1, vR 14] s.2 280 (by decide +kernel) rfl rfl ?_
      refine sim_min hC 196 (by decide +kernel) ml_10_196 rfl rfl rfl ?_
      refine sim_blk1 hC [(.iastore, 14, 8, 0, 0)] [(0, vR 0), (1, vI a1), (2, vI s.1)] [] (wup s.2 14 (Int32.toNatClampNeg s.1) (imin 99 ((s.2 14 (Int32.toNatClampNeg s.1)) + (s.2 3 (Int32.toNatClampNeg 3))))) 284 (by decide +kernel) rfl rfl ?_
      refine sim_bw (C := fun w22 => (284, [(0, vR 0), (1, vI a1), (2, vI s.1)], [], w22)) (fun w22 => ?_)
      exact s_K_M_aNight_284 hC a1 s.1 w22
    · refine sim_blk2 hC [(.aload_n 0, 0, 0, 0, 0), (.getfield 78, 0, 24, 16, 0), (.iload_n 2, 0, 0, 0, 0), (.iconst 0, 0, 0, 0, 0), (.aload_n 0, 0, 0, 0, 0), (.getfield 78, 0, 24, 16, 0), (.iload_n 2, 0, 0, 0, 0), (.iaload, 14, 8, 0, 0), (.aload_n 0, 0, 0, 0, 0), (.getfield 42, 0, 3, 5, 0), (.iconst 2, 0, 0, 0, 2), (.iaload, 3, 10, 0, 0), (.isub, 0, 0, 0, 0)] [(0, vR 0), (1, vI a1), (2, vI s.1)] [vI ((s.2 14 (Int32.toNatClampNeg s.1)) - (s.2 3 (Int32.toNatClampNeg 2))), vI 0, vI s.1, vR 14] s.2 213 (by decide +kernel) rfl rfl ?_
      refine sim_max hC 359 (by decide +kernel) ml_10_359 rfl rfl rfl ?_
      refine sim_blk1 hC [(.iastore, 14, 8, 0, 0)] [(0, vR 0), (1, vI a1), (2, vI s.1)] [] (wup s.2 14 (Int32.toNatClampNeg s.1) (imax 0 ((s.2 14 (Int32.toNatClampNeg s.1)) - (s.2 3 (Int32.toNatClampNeg 2))))) 217 (by decide +kernel) rfl rfl ?_
      refine sim_bw (C := fun w25 => (217, [(0, vR 0), (1, vI a1), (2, vI s.1)], [], w25)) (fun w25 => ?_)
      refine sim_blk1 hC [(.aload_n 0, 0, 0, 0, 0), (.getfield 84, 0, 26, 18, 0), (.iload_n 2, 0, 0, 0, 0), (.aload_n 0, 0, 0, 0, 0), (.getfield 81, 0, 25, 17, 0), (.iload_n 2, 0, 0, 0, 0), (.iaload, 15, 8, 0, 0)] [(0, vR 0), (1, vI a1), (2, vI s.1)] [vI (w25 15 (Int32.toNatClampNeg s.1)), vI s.1, vR 16] w25 228 (by decide +kernel) rfl rfl ?_
      refine sim_br hC (.ifCond .le 17) 245 (by decide +kernel) rfl (by decide) ?_ ?_
      · refine sim_blk2 hC [(.aload_n 0, 0, 0, 0, 0), (.getfield 89, 0, 28, 20, 0), (.aload_n 0, 0, 0, 0, 0), (.getfield 84, 0, 26, 18, 0), (.iload_n 2, 0, 0, 0, 0), (.iaload, 16, 8, 0, 0), (.iaload, 18, 9, 0, 0)] [(0, vR 0), (1, vI a1), (2, vI s.1)] [vI (w25 18 (Int32.toNatClampNeg (w25 16 (Int32.toNatClampNeg s.1)))), vI s.1, vR 16] w25 256 (by decide +kernel) rfl rfl ?_
        exact s_K_M_aNight_256 hC a1 s.1 s.1 (w25 18 (Int32.toNatClampNeg (w25 16 (Int32.toNatClampNeg s.1)))) w25
      · refine sim_blk2 hC [(.aload_n 0, 0, 0, 0, 0), (.getfield 92, 0, 29, 21, 0), (.aload_n 0, 0, 0, 0, 0), (.getfield 84, 0, 26, 18, 0), (.iload_n 2, 0, 0, 0, 0), (.iaload, 16, 8, 0, 0), (.iaload, 19, 9, 0, 0)] [(0, vR 0), (1, vI a1), (2, vI s.1)] [vI (w25 19 (Int32.toNatClampNeg (w25 16 (Int32.toNatClampNeg s.1)))), vI s.1, vR 16] w25 242 (by decide +kernel) rfl rfl ?_
        refine sim_goto hC 14 256 (by decide +kernel) (by decide) ?_
        exact s_K_M_aNight_256 hC a1 s.1 s.1 (w25 19 (Int32.toNatClampNeg (w25 16 (Int32.toNatClampNeg s.1)))) w25
noncomputable def F_M_aNight (w : Wld) : Option (Wld) :=
  bd (F_M_upNow w) (fun i1 w2 => bw (wup w2 0 38 0) (fun w3 => bw (wup w3 0 40 0) (fun w4 => bl (loop (B_M_aNight_17 i1) ((0, w4))) (fun r7 => bl (loop (B_M_aNight_38 i1) ((0, r7))) (fun r16 => bp (F_M_everybody r16) (fun i17 => bp (F_M_voicesOf r16 i17) (fun i18 => bp (F_M_voicesOf r16 i1) (fun i19 => bw (wup r16 0 39 (i18 &&& (i19 ^^^ (-1 : Int32)))) (fun w20 => bl (loop (B_M_aNight_176 i1) ((0, w20))) (fun r27 => bw (wup r27 0 32 i1) (fun w28 => bw (wup w28 0 31 ((w28 0 31) + (1 : Int32))) (fun w29 => some w29))))))))))))
set_option maxRecDepth 10000 in
theorem s_M_aNight {Z : ZT} {l : Launch} {o : Oc} {wo : Wld} {Ok : Cfg → Prop} (hC : Clo Z l 10 4 prog_13_method_47_code none 5 88 o wo Ok) (w : Wld) : SimK Ok (0, [(0, vR 0)], [], w) (F_M_aNight w) (Gv o wo) := by
  unfold F_M_aNight
  refine sim_blk0 hC [(.aload_n 0, 0, 0, 0, 0)] [(0, vR 0)] [vR 0] w 1 (by decide +kernel) rfl rfl ?_
  refine sim_vd hC 341 mX11_upNow 4 66 0 [] [] (by decide +kernel) ml_10_341 rfl rfl rfl rfl rfl rfl (fun rz wz hz => c_M_upNow w rz wz hz) (fun i1 w2 => ?_)
  refine sim_blk0 hC [(.istore_n 1, 0, 0, 0, 0), (.aload_n 0, 0, 0, 0, 0), (.iconst 0, 0, 0, 0, 0), (.putfield 344, 0, 38, 0, 0)] [(0, vR 0), (1, vI i1)] [] (wup w2 0 38 0) 10 (by decide +kernel) rfl rfl ?_
  refine sim_bw (C := fun w3 => (10, [(0, vR 0), (1, vI i1)], [], w3)) (fun w3 => ?_)
  refine sim_blk0 hC [(.aload_n 0, 0, 0, 0, 0), (.iconst 0, 0, 0, 0, 0), (.putfield 347, 0, 40, 0, 0)] [(0, vR 0), (1, vI i1)] [] (wup w3 0 40 0) 15 (by decide +kernel) rfl rfl ?_
  refine sim_bw (C := fun w4 => (15, [(0, vR 0), (1, vI i1)], [], w4)) (fun w4 => ?_)
  refine sim_blk0 hC [(.iconst 0, 0, 0, 0, 0), (.istore_n 2, 0, 0, 0, 0)] [(0, vR 0), (1, vI i1), (2, vI 0)] [] w4 17 (by decide +kernel) rfl rfl ?_
  refine sim_bl (E := (E_M_aNight_17 i1)) ?_ (fun r7 => ?_)
  · exact sim_loop (V := (V_M_aNight_17 i1)) (fun sz => s_B_M_aNight_17 hC i1 sz) ((0, w4))
  · show SimK Ok (36, [(0, vR 0), (1, vI i1)], [], r7) _ _
    refine sim_blk0 hC [(.iconst 0, 0, 0, 0, 0), (.istore_n 2, 0, 0, 0, 0)] [(0, vR 0), (1, vI i1), (2, vI 0)] [] r7 38 (by decide +kernel) rfl rfl ?_
    refine sim_bl (E := (E_M_aNight_38 i1)) ?_ (fun r16 => ?_)
    · exact sim_loop (V := (V_M_aNight_38 i1)) (fun sz => s_B_M_aNight_38 hC i1 sz) ((0, r7))
    · show SimK Ok (154, [(0, vR 0), (1, vI i1)], [], r16) _ _
      refine sim_blk0 hC [(.aload_n 0, 0, 0, 0, 0), (.aload_n 0, 0, 0, 0, 0), (.aload_n 0, 0, 0, 0, 0)] [(0, vR 0), (1, vI i1)] [vR 0, vR 0, vR 0] r16 157 (by decide +kernel) rfl rfl ?_
      refine sim_vp hC 350 mX11_everybody 1 0 0 [] [vR 0, vR 0] (by decide +kernel) ml_10_350 rfl rfl rfl rfl rfl rfl (fun rz hz => c_M_everybody r16 rz hz) (fun i17 => ?_)
      refine sim_vp hC 353 mX11_voicesOf 2 21 0 [vI i17] [vR 0] (by decide +kernel) ml_10_353 rfl rfl rfl rfl rfl rfl (fun rz hz => c_M_voicesOf r16 i17 rz hz) (fun i18 => ?_)
      refine sim_blk0 hC [(.aload_n 0, 0, 0, 0, 0), (.iload_n 1, 0, 0, 0, 0)] [(0, vR 0), (1, vI i1)] [vI i1, vR 0, vI i18, vR 0] r16 165 (by decide +kernel) rfl rfl ?_
      refine sim_vp hC 353 mX11_voicesOf 2 21 0 [vI i1] [vI i18, vR 0] (by decide +kernel) ml_10_353 rfl rfl rfl rfl rfl rfl (fun rz hz => c_M_voicesOf r16 i1 rz hz) (fun i19 => ?_)
      refine sim_blk0 hC [(.iconst (-1), 0, 0, 0, (-1)), (.ixor, 0, 0, 0, 0), (.iand, 0, 0, 0, 0), (.putfield 356, 0, 39, 0, 0)] [(0, vR 0), (1, vI i1)] [] (wup r16 0 39 (i18 &&& (i19 ^^^ (-1 : Int32)))) 174 (by decide +kernel) rfl rfl ?_
      refine sim_bw (C := fun w20 => (174, [(0, vR 0), (1, vI i1)], [], w20)) (fun w20 => ?_)
      refine sim_blk0 hC [(.iconst 0, 0, 0, 0, 0), (.istore_n 2, 0, 0, 0, 0)] [(0, vR 0), (1, vI i1), (2, vI 0)] [] w20 176 (by decide +kernel) rfl rfl ?_
      refine sim_bl (E := (E_M_aNight_176 i1)) ?_ (fun r27 => ?_)
      · exact sim_loop (V := (V_M_aNight_176 i1)) (fun sz => s_B_M_aNight_176 hC i1 sz) ((0, w20))
      · show SimK Ok (308, [(0, vR 0), (1, vI i1)], [], r27) _ _
        refine sim_blk0 hC [(.aload_n 0, 0, 0, 0, 0), (.iload_n 1, 0, 0, 0, 0), (.putfield 307, 0, 32, 0, 0)] [(0, vR 0), (1, vI i1)] [] (wup r27 0 32 i1) 313 (by decide +kernel) rfl rfl ?_
        refine sim_bw (C := fun w28 => (313, [(0, vR 0), (1, vI i1)], [], w28)) (fun w28 => ?_)
        refine sim_blk0 hC [(.aload_n 0, 0, 0, 0, 0), (.dup, 0, 0, 0, 0), (.getfield 305, 0, 31, 0, 0), (.iconst 1, 0, 0, 0, 1), (.iadd, 0, 0, 0, 0), (.putfield 305, 0, 31, 0, 0)] [(0, vR 0), (1, vI i1)] [] (wup w28 0 31 ((w28 0 31) + (1 : Int32))) 323 (by decide +kernel) rfl rfl ?_
        refine sim_bw (C := fun w29 => (323, [(0, vR 0), (1, vI i1)], [], w29)) (fun w29 => ?_)
        exact sim_retv hC (by decide +kernel)
theorem c_M_aNight {Z : ZT} {l : Launch} (w : Wld) (w1 : Wld) (h : F_M_aNight w = some w1) : Con Z l mX11_aNight 5 88 [vR 0] w (.inr none) w1 :=
  Con_of (oc := 10) (by decide +kernel) rfl rfl (fun Ok hC => s_M_aNight hC w w1 h ⟨rfl, rfl⟩)
def V_M_goOn_2 (a1 : Int32) : (Int32 × Wld) → Cfg := fun s => (2, [(0, vR 0), (1, vI a1), (2, vI s.1)], [], s.2)
def E_M_goOn_2 (a1 : Int32) : (Wld) → Cfg := fun s => (17, [], [], s)
noncomputable def B_M_goOn_2 (a1 : Int32) (s : Int32 × Wld) : Option ((Int32 × Wld) ⊕ (Wld)) :=
  br (a1 ≤ s.1) (some (.inr s.2)) (bv (F_M_aNight s.2) (fun w1 => bi (s.1 + 1) (fun i2 => some (.inl ((i2, w1))))))
set_option maxRecDepth 10000 in
theorem s_B_M_goOn_2 {Z : ZT} {l : Launch} {o : Oc} {wo : Wld} {Ok : Cfg → Prop} (hC : Clo Z l 10 3 prog_13_method_48_code none 6 111 o wo Ok) (a1 : Int32) (s : Int32 × Wld) : SimK Ok (V_M_goOn_2 a1 s) (B_M_goOn_2 a1 s) (GLp Ok (V_M_goOn_2 a1) (GEp Ok (E_M_goOn_2 a1))) := by
  unfold B_M_goOn_2
  show SimK Ok (2, [(0, vR 0), (1, vI a1), (2, vI s.1)], [], s.2) _ _
  refine sim_blk0 hC [(.iload_n 2, 0, 0, 0, 0), (.iload_n 1, 0, 0, 0, 0)] [(0, vR 0), (1, vI a1), (2, vI s.1)] [vI a1, vI s.1] s.2 4 (by decide +kernel) rfl rfl ?_
  refine sim_br hC (.if_icmp .ge 13) 17 (by decide +kernel) rfl (by decide) ?_ ?_
  · refine sim_sub hC [] ?_
    exact sim_exit (E := (E_M_goOn_2 a1)) s.2
  · refine sim_blk0 hC [(.aload_n 0, 0, 0, 0, 0)] [(0, vR 0), (1, vI a1), (2, vI s.1)] [vR 0] s.2 8 (by decide +kernel) rfl rfl ?_
    refine sim_vv hC 362 mX11_aNight 5 88 0 [] [] (by decide +kernel) ml_10_362 rfl rfl rfl rfl rfl rfl (fun wz hz => c_M_aNight s.2 wz hz) (fun w1 => ?_)
    refine sim_blk0 hC [(.iinc 2 1, 0, 0, 0, 1)] [(0, vR 0), (1, vI a1), (2, vI (s.1 + 1))] [] w1 14 (by decide +kernel) rfl rfl ?_
    refine sim_bi (C := fun i2 => (14, [(0, vR 0), (1, vI a1), (2, vI i2)], [], w1)) (fun i2 => ?_)
    refine sim_goto hC (-12) 2 (by decide +kernel) (by decide) ?_
    exact sim_back (V := (V_M_goOn_2 a1)) ((i2, w1))
noncomputable def F_M_goOn (w : Wld) (a1 : Int32) : Option (Wld) :=
  bl (loop (B_M_goOn_2 a1) ((0, w))) (fun r3 => some r3)
set_option maxRecDepth 10000 in
theorem s_M_goOn {Z : ZT} {l : Launch} {o : Oc} {wo : Wld} {Ok : Cfg → Prop} (hC : Clo Z l 10 3 prog_13_method_48_code none 6 111 o wo Ok) (w : Wld) (a1 : Int32) : SimK Ok (0, [(0, vR 0), (1, vI a1)], [], w) (F_M_goOn w a1) (Gv o wo) := by
  unfold F_M_goOn
  refine sim_blk0 hC [(.iconst 0, 0, 0, 0, 0), (.istore_n 2, 0, 0, 0, 0)] [(0, vR 0), (1, vI a1), (2, vI 0)] [] w 2 (by decide +kernel) rfl rfl ?_
  refine sim_bl (E := (E_M_goOn_2 a1)) ?_ (fun r3 => ?_)
  · exact sim_loop (V := (V_M_goOn_2 a1)) (fun sz => s_B_M_goOn_2 hC a1 sz) ((0, w))
  · show SimK Ok (17, [], [], r3) _ _
    exact sim_retv hC (by decide +kernel)
theorem c_M_goOn {Z : ZT} {l : Launch} (w : Wld) (a1 : Int32) (w1 : Wld) (h : F_M_goOn w a1 = some w1) : Con Z l mX11_goOn 6 111 [vR 0, vI a1] w (.inr none) w1 :=
  Con_of (oc := 10) (by decide +kernel) rfl rfl (fun Ok hC => s_M_goOn hC w a1 w1 h ⟨rfl, rfl⟩)
noncomputable def K_M_nights_29 (w : Wld) : Option (Int32 × Wld) :=
  bd (F_M_refuse w 1) (fun i3 w4 => some ((i3, w4)))
set_option maxRecDepth 10000 in
theorem s_K_M_nights_29 {Z : ZT} {l : Launch} {o : Oc} {wo : Wld} {Ok : Cfg → Prop} (hC : Clo Z l 10 2 prog_13_method_56_code (some .int) 7 133 o wo Ok) (w : Wld) : SimK Ok (29, [(0, vR 0)], [], w) (K_M_nights_29 w) (Gi o wo) := by
  unfold K_M_nights_29
  refine sim_blk0 hC [(.aload_n 0, 0, 0, 0, 0), (.iconst 1, 0, 0, 0, 1)] [(0, vR 0)] [vI 1, vR 0] w 31 (by decide +kernel) rfl rfl ?_
  refine sim_vd hC 385 mX11_refuse 1 0 0 [vI 1] [] (by decide +kernel) ml_10_385 rfl rfl rfl rfl rfl rfl (fun rz wz hz => c_M_refuse w 1 rz wz hz) (fun i3 w4 => ?_)
  exact sim_reti hC (by decide +kernel) trivial
noncomputable def F_M_nights (w : Wld) (a1 : Int32) : Option (Int32 × Wld) :=
  bw (wup w 0 2 0) (fun w1 => bp (F_M_isIn w1 (Int32.toInt64 a1) (Int32.toInt64 1) (Int32.toInt64 20)) (fun i2 => br (i2 = 0) (K_M_nights_29 w1) (br (((w1 0 31) + a1) ≤ 999) (bv (F_M_keep w1) (fun w5 => bv (F_M_goOn w5 a1) (fun w6 => some ((w6 0 31, w6))))) (K_M_nights_29 w1))))
set_option maxRecDepth 10000 in
theorem s_M_nights {Z : ZT} {l : Launch} {o : Oc} {wo : Wld} {Ok : Cfg → Prop} (hC : Clo Z l 10 2 prog_13_method_56_code (some .int) 7 133 o wo Ok) (w : Wld) (a1 : Int32) : SimK Ok (0, [(0, vR 0), (1, vI a1)], [], w) (F_M_nights w a1) (Gi o wo) := by
  unfold F_M_nights
  refine sim_blk0 hC [(.aload_n 0, 0, 0, 0, 0), (.iconst 0, 0, 0, 0, 0), (.putfield 159, 0, 2, 0, 0)] [(0, vR 0), (1, vI a1)] [] (wup w 0 2 0) 5 (by decide +kernel) rfl rfl ?_
  refine sim_bw (C := fun w1 => (5, [(0, vR 0), (1, vI a1)], [], w1)) (fun w1 => ?_)
  refine sim_blk0 hC [(.iload_n 1, 0, 0, 0, 0), (.i2l, 0, 0, 0, 0), (.lconst 1, 0, 0, 0, 1), (.ldc2_w 383, 0, 0, 0, 20)] [(0, vR 0), (1, vI a1)] [vL (Int32.toInt64 20), vL (Int32.toInt64 1), vL (Int32.toInt64 a1)] w1 11 (by decide +kernel) rfl rfl ?_
  refine sim_sp hC 162 mX11_isIn 1 0 [vL (Int32.toInt64 a1), vL (Int32.toInt64 1), vL (Int32.toInt64 20)] [] (by decide +kernel) ml_10_162 rfl rfl rfl rfl rfl (fun rz hz => c_M_isIn w1 (Int32.toInt64 a1) (Int32.toInt64 1) (Int32.toInt64 20) rz hz) (fun i2 => ?_)
  refine sim_br hC (.ifCond .eq 15) 29 (by decide +kernel) rfl (by decide) ?_ ?_
  · refine sim_sub hC [0] ?_
    exact s_K_M_nights_29 hC w1
  · refine sim_blk0 hC [(.aload_n 0, 0, 0, 0, 0), (.getfield 305, 0, 31, 0, 0), (.iload_n 1, 0, 0, 0, 0), (.iadd, 0, 0, 0, 0), (.sipush 999, 0, 0, 0, 999)] [(0, vR 0), (1, vI a1)] [vI 999, vI ((w1 0 31) + a1)] w1 26 (by decide +kernel) rfl rfl ?_
    refine sim_br hC (.if_icmp .le 9) 35 (by decide +kernel) rfl (by decide) ?_ ?_
    · refine sim_blk0 hC [(.aload_n 0, 0, 0, 0, 0)] [(0, vR 0), (1, vI a1)] [vR 0] w1 36 (by decide +kernel) rfl rfl ?_
      refine sim_vv hC 388 mX11_keep 2 24 0 [] [] (by decide +kernel) ml_10_388 rfl rfl rfl rfl rfl rfl (fun wz hz => c_M_keep w1 wz hz) (fun w5 => ?_)
      refine sim_blk0 hC [(.aload_n 0, 0, 0, 0, 0), (.iload_n 1, 0, 0, 0, 0)] [(0, vR 0), (1, vI a1)] [vI a1, vR 0] w5 41 (by decide +kernel) rfl rfl ?_
      refine sim_vv hC 391 mX11_goOn 6 111 0 [vI a1] [] (by decide +kernel) ml_10_391 rfl rfl rfl rfl rfl rfl (fun wz hz => c_M_goOn w5 a1 wz hz) (fun w6 => ?_)
      refine sim_blk0 hC [(.aload_n 0, 0, 0, 0, 0), (.getfield 305, 0, 31, 0, 0)] [(0, vR 0), (1, vI a1)] [vI (w6 0 31)] w6 48 (by decide +kernel) rfl rfl ?_
      exact sim_reti hC (by decide +kernel) trivial
    · refine sim_sub hC [0] ?_
      exact s_K_M_nights_29 hC w1
theorem c_M_nights {Z : ZT} {l : Launch} (w : Wld) (a1 : Int32) (r : Int32) (w1 : Wld) (h : F_M_nights w a1 = some (r, w1)) : Con Z l mX11_nights 7 133 [vR 0, vI a1] w (.inr (some r)) w1 :=
  Con_of (oc := 10) (by decide +kernel) rfl rfl (fun Ok hC => s_M_nights hC w a1 (r, w1) h ⟨rfl, rfl⟩)
noncomputable def F_M_fish (w : Wld) (a1 : Int32) (a2 : Int32) : Option (Int32 × Wld) :=
  bw (wup w 0 2 0) (fun w1 => bp (F_M_isMonk w1 a1) (fun i2 => br (¬ i2 = 0) (bp (F_M_isIn w1 (Int32.toInt64 a2) (Int32.toInt64 1) (Int32.toInt64 9)) (fun i3 => br (¬ i3 = 0) (bv (F_M_keep w1) (fun w4 => gd (vp_in a1 8) (gd (vp_in a1 8) (bw (wup w4 15 (Int32.toNatClampNeg a1) (imin 9 ((w4 15 (Int32.toNatClampNeg a1)) + a2))) (fun w5 => gd (vp_in a1 8) (some ((w5 15 (Int32.toNatClampNeg a1), w5)))))))) (bd (F_M_refuse w1 1) (fun i6 w7 => some ((i6, w7)))))) (bd (F_M_fail w1 1) (fun i8 w9 => some ((i8, w9))))))
set_option maxRecDepth 10000 in
theorem s_M_fish {Z : ZT} {l : Launch} {o : Oc} {wo : Wld} {Ok : Cfg → Prop} (hC : Clo Z l 10 3 prog_13_method_57_code (some .int) 3 46 o wo Ok) (w : Wld) (a1 : Int32) (a2 : Int32) : SimK Ok (0, [(0, vR 0), (1, vI a1), (2, vI a2)], [], w) (F_M_fish w a1 a2) (Gi o wo) := by
  unfold F_M_fish
  refine sim_blk0 hC [(.aload_n 0, 0, 0, 0, 0), (.iconst 0, 0, 0, 0, 0), (.putfield 159, 0, 2, 0, 0)] [(0, vR 0), (1, vI a1), (2, vI a2)] [] (wup w 0 2 0) 5 (by decide +kernel) rfl rfl ?_
  refine sim_bw (C := fun w1 => (5, [(0, vR 0), (1, vI a1), (2, vI a2)], [], w1)) (fun w1 => ?_)
  refine sim_blk0 hC [(.aload_n 0, 0, 0, 0, 0), (.iload_n 1, 0, 0, 0, 0)] [(0, vR 0), (1, vI a1), (2, vI a2)] [vI a1, vR 0] w1 7 (by decide +kernel) rfl rfl ?_
  refine sim_vp hC 376 mX11_isMonk 2 25 0 [vI a1] [] (by decide +kernel) ml_10_376 rfl rfl rfl rfl rfl rfl (fun rz hz => c_M_isMonk w1 a1 rz hz) (fun i2 => ?_)
  refine sim_br hC (.ifCond .ne 9) 19 (by decide +kernel) rfl (by decide) ?_ ?_
  · refine sim_blk0 hC [(.iload_n 2, 0, 0, 0, 0), (.i2l, 0, 0, 0, 0), (.lconst 1, 0, 0, 0, 1), (.ldc2_w 394, 0, 0, 0, 9)] [(0, vR 0), (1, vI a1), (2, vI a2)] [vL (Int32.toInt64 9), vL (Int32.toInt64 1), vL (Int32.toInt64 a2)] w1 25 (by decide +kernel) rfl rfl ?_
    refine sim_sp hC 162 mX11_isIn 1 0 [vL (Int32.toInt64 a2), vL (Int32.toInt64 1), vL (Int32.toInt64 9)] [] (by decide +kernel) ml_10_162 rfl rfl rfl rfl rfl (fun rz hz => c_M_isIn w1 (Int32.toInt64 a2) (Int32.toInt64 1) (Int32.toInt64 9) rz hz) (fun i3 => ?_)
    refine sim_br hC (.ifCond .ne 9) 37 (by decide +kernel) rfl (by decide) ?_ ?_
    · refine sim_blk0 hC [(.aload_n 0, 0, 0, 0, 0)] [(0, vR 0), (1, vI a1), (2, vI a2)] [vR 0] w1 38 (by decide +kernel) rfl rfl ?_
      refine sim_vv hC 388 mX11_keep 2 24 0 [] [] (by decide +kernel) ml_10_388 rfl rfl rfl rfl rfl rfl (fun wz hz => c_M_keep w1 wz hz) (fun w4 => ?_)
      refine sim_blk1 hC [(.aload_n 0, 0, 0, 0, 0), (.getfield 81, 0, 25, 17, 0), (.iload_n 1, 0, 0, 0, 0), (.bipush 9, 0, 0, 0, 9), (.aload_n 0, 0, 0, 0, 0), (.getfield 81, 0, 25, 17, 0), (.iload_n 1, 0, 0, 0, 0), (.iaload, 15, 8, 0, 0), (.iload_n 2, 0, 0, 0, 0), (.iadd, 0, 0, 0, 0)] [(0, vR 0), (1, vI a1), (2, vI a2)] [vI ((w4 15 (Int32.toNatClampNeg a1)) + a2), vI 9, vI a1, vR 15] w4 56 (by decide +kernel) rfl rfl ?_
      refine sim_min hC 196 (by decide +kernel) ml_10_196 rfl rfl rfl ?_
      refine sim_blk1 hC [(.iastore, 15, 8, 0, 0)] [(0, vR 0), (1, vI a1), (2, vI a2)] [] (wup w4 15 (Int32.toNatClampNeg a1) (imin 9 ((w4 15 (Int32.toNatClampNeg a1)) + a2))) 60 (by decide +kernel) rfl rfl ?_
      refine sim_bw (C := fun w5 => (60, [(0, vR 0), (1, vI a1), (2, vI a2)], [], w5)) (fun w5 => ?_)
      refine sim_blk1 hC [(.aload_n 0, 0, 0, 0, 0), (.getfield 81, 0, 25, 17, 0), (.iload_n 1, 0, 0, 0, 0), (.iaload, 15, 8, 0, 0)] [(0, vR 0), (1, vI a1), (2, vI a2)] [vI (w5 15 (Int32.toNatClampNeg a1))] w5 66 (by decide +kernel) rfl rfl ?_
      exact sim_reti hC (by decide +kernel) trivial
    · refine sim_blk0 hC [(.aload_n 0, 0, 0, 0, 0), (.iconst 1, 0, 0, 0, 1)] [(0, vR 0), (1, vI a1), (2, vI a2)] [vI 1, vR 0] w1 33 (by decide +kernel) rfl rfl ?_
      refine sim_vd hC 385 mX11_refuse 1 0 0 [vI 1] [] (by decide +kernel) ml_10_385 rfl rfl rfl rfl rfl rfl (fun rz wz hz => c_M_refuse w1 1 rz wz hz) (fun i6 w7 => ?_)
      exact sim_reti hC (by decide +kernel) trivial
  · refine sim_blk0 hC [(.aload_n 0, 0, 0, 0, 0), (.iconst 1, 0, 0, 0, 1)] [(0, vR 0), (1, vI a1), (2, vI a2)] [vI 1, vR 0] w1 15 (by decide +kernel) rfl rfl ?_
    refine sim_vd hC 292 mX11_fail 1 0 0 [vI 1] [] (by decide +kernel) ml_10_292 rfl rfl rfl rfl rfl rfl (fun rz wz hz => c_M_fail w1 1 rz wz hz) (fun i8 w9 => ?_)
    exact sim_reti hC (by decide +kernel) trivial
theorem c_M_fish {Z : ZT} {l : Launch} (w : Wld) (a1 : Int32) (a2 : Int32) (r : Int32) (w1 : Wld) (h : F_M_fish w a1 a2 = some (r, w1)) : Con Z l mX11_fish 3 46 [vR 0, vI a1, vI a2] w (.inr (some r)) w1 :=
  Con_of (oc := 10) (by decide +kernel) rfl rfl (fun Ok hC => s_M_fish hC w a1 a2 (r, w1) h ⟨rfl, rfl⟩)
noncomputable def F_M_pray (w : Wld) (a1 : Int32) (a2 : Int32) : Option (Int32 × Wld) :=
  bw (wup w 0 2 0) (fun w1 => bp (F_M_isMonk w1 a1) (fun i2 => br (¬ i2 = 0) (bp (F_M_isIn w1 (Int32.toInt64 a2) (Int32.toInt64 0) (Int32.toInt64 99)) (fun i3 => br (¬ i3 = 0) (bv (F_M_keep w1) (fun w4 => gd (vp_in a1 8) (bi (w4 14 (Int32.toNatClampNeg a1)) (fun i5 => gd (vp_in a1 8) (bw (wup w4 14 (Int32.toNatClampNeg a1) a2) (fun w6 => some ((i5, w6)))))))) (bd (F_M_refuse w1 1) (fun i7 w8 => some ((i7, w8)))))) (bd (F_M_fail w1 1) (fun i9 w10 => some ((i9, w10))))))
set_option maxRecDepth 10000 in
theorem s_M_pray {Z : ZT} {l : Launch} {o : Oc} {wo : Wld} {Ok : Cfg → Prop} (hC : Clo Z l 10 4 prog_13_method_58_code (some .int) 3 46 o wo Ok) (w : Wld) (a1 : Int32) (a2 : Int32) : SimK Ok (0, [(0, vR 0), (1, vI a1), (2, vI a2)], [], w) (F_M_pray w a1 a2) (Gi o wo) := by
  unfold F_M_pray
  refine sim_blk0 hC [(.aload_n 0, 0, 0, 0, 0), (.iconst 0, 0, 0, 0, 0), (.putfield 159, 0, 2, 0, 0)] [(0, vR 0), (1, vI a1), (2, vI a2)] [] (wup w 0 2 0) 5 (by decide +kernel) rfl rfl ?_
  refine sim_bw (C := fun w1 => (5, [(0, vR 0), (1, vI a1), (2, vI a2)], [], w1)) (fun w1 => ?_)
  refine sim_blk0 hC [(.aload_n 0, 0, 0, 0, 0), (.iload_n 1, 0, 0, 0, 0)] [(0, vR 0), (1, vI a1), (2, vI a2)] [vI a1, vR 0] w1 7 (by decide +kernel) rfl rfl ?_
  refine sim_vp hC 376 mX11_isMonk 2 25 0 [vI a1] [] (by decide +kernel) ml_10_376 rfl rfl rfl rfl rfl rfl (fun rz hz => c_M_isMonk w1 a1 rz hz) (fun i2 => ?_)
  refine sim_br hC (.ifCond .ne 9) 19 (by decide +kernel) rfl (by decide) ?_ ?_
  · refine sim_blk0 hC [(.iload_n 2, 0, 0, 0, 0), (.i2l, 0, 0, 0, 0), (.lconst 0, 0, 0, 0, 0), (.ldc2_w 396, 0, 0, 0, 99)] [(0, vR 0), (1, vI a1), (2, vI a2)] [vL (Int32.toInt64 99), vL (Int32.toInt64 0), vL (Int32.toInt64 a2)] w1 25 (by decide +kernel) rfl rfl ?_
    refine sim_sp hC 162 mX11_isIn 1 0 [vL (Int32.toInt64 a2), vL (Int32.toInt64 0), vL (Int32.toInt64 99)] [] (by decide +kernel) ml_10_162 rfl rfl rfl rfl rfl (fun rz hz => c_M_isIn w1 (Int32.toInt64 a2) (Int32.toInt64 0) (Int32.toInt64 99) rz hz) (fun i3 => ?_)
    refine sim_br hC (.ifCond .ne 9) 37 (by decide +kernel) rfl (by decide) ?_ ?_
    · refine sim_blk0 hC [(.aload_n 0, 0, 0, 0, 0)] [(0, vR 0), (1, vI a1), (2, vI a2)] [vR 0] w1 38 (by decide +kernel) rfl rfl ?_
      refine sim_vv hC 388 mX11_keep 2 24 0 [] [] (by decide +kernel) ml_10_388 rfl rfl rfl rfl rfl rfl (fun wz hz => c_M_keep w1 wz hz) (fun w4 => ?_)
      refine sim_blk1 hC [(.aload_n 0, 0, 0, 0, 0), (.getfield 78, 0, 24, 16, 0), (.iload_n 1, 0, 0, 0, 0), (.iaload, 14, 8, 0, 0), (.istore_n 3, 0, 0, 0, 0)] [(0, vR 0), (1, vI a1), (2, vI a2), (3, vI (w4 14 (Int32.toNatClampNeg a1)))] [] w4 48 (by decide +kernel) rfl rfl ?_
      refine sim_bi (C := fun i5 => (48, [(0, vR 0), (1, vI a1), (2, vI a2), (3, vI i5)], [], w4)) (fun i5 => ?_)
      refine sim_blk1 hC [(.aload_n 0, 0, 0, 0, 0), (.getfield 78, 0, 24, 16, 0), (.iload_n 1, 0, 0, 0, 0), (.iload_n 2, 0, 0, 0, 0), (.iastore, 14, 8, 0, 0)] [(0, vR 0), (1, vI a1), (2, vI a2), (3, vI i5)] [] (wup w4 14 (Int32.toNatClampNeg a1) a2) 55 (by decide +kernel) rfl rfl ?_
      refine sim_bw (C := fun w6 => (55, [(0, vR 0), (1, vI a1), (2, vI a2), (3, vI i5)], [], w6)) (fun w6 => ?_)
      refine sim_blk0 hC [(.iload_n 3, 0, 0, 0, 0)] [(0, vR 0), (1, vI a1), (2, vI a2), (3, vI i5)] [vI i5] w6 56 (by decide +kernel) rfl rfl ?_
      exact sim_reti hC (by decide +kernel) trivial
    · refine sim_blk0 hC [(.aload_n 0, 0, 0, 0, 0), (.iconst 1, 0, 0, 0, 1)] [(0, vR 0), (1, vI a1), (2, vI a2)] [vI 1, vR 0] w1 33 (by decide +kernel) rfl rfl ?_
      refine sim_vd hC 385 mX11_refuse 1 0 0 [vI 1] [] (by decide +kernel) ml_10_385 rfl rfl rfl rfl rfl rfl (fun rz wz hz => c_M_refuse w1 1 rz wz hz) (fun i7 w8 => ?_)
      exact sim_reti hC (by decide +kernel) trivial
  · refine sim_blk0 hC [(.aload_n 0, 0, 0, 0, 0), (.iconst 1, 0, 0, 0, 1)] [(0, vR 0), (1, vI a1), (2, vI a2)] [vI 1, vR 0] w1 15 (by decide +kernel) rfl rfl ?_
    refine sim_vd hC 292 mX11_fail 1 0 0 [vI 1] [] (by decide +kernel) ml_10_292 rfl rfl rfl rfl rfl rfl (fun rz wz hz => c_M_fail w1 1 rz wz hz) (fun i9 w10 => ?_)
    exact sim_reti hC (by decide +kernel) trivial
theorem c_M_pray {Z : ZT} {l : Launch} (w : Wld) (a1 : Int32) (a2 : Int32) (r : Int32) (w1 : Wld) (h : F_M_pray w a1 a2 = some (r, w1)) : Con Z l mX11_pray 3 46 [vR 0, vI a1, vI a2] w (.inr (some r)) w1 :=
  Con_of (oc := 10) (by decide +kernel) rfl rfl (fun Ok hC => s_M_pray hC w a1 a2 (r, w1) h ⟨rfl, rfl⟩)
noncomputable def F_M_failing (w : Wld) (a1 : Int32) : Option (Int32 × Wld) :=
  bw (wup w 0 2 a1) (fun w1 => some ((0, w1)))
set_option maxRecDepth 10000 in
theorem s_M_failing {Z : ZT} {l : Launch} {o : Oc} {wo : Wld} {Ok : Cfg → Prop} (hC : Clo Z l 10 2 prog_13_method_4_code (some .boolean) 1 0 o wo Ok) (w : Wld) (a1 : Int32) : SimK Ok (0, [(0, vR 0), (1, vI a1)], [], w) (F_M_failing w a1) (Gi o wo) := by
  unfold F_M_failing
  refine sim_blk0 hC [(.aload_n 0, 0, 0, 0, 0), (.iload_n 1, 0, 0, 0, 0), (.putfield 159, 0, 2, 0, 0)] [(0, vR 0), (1, vI a1)] [] (wup w 0 2 a1) 5 (by decide +kernel) rfl rfl ?_
  refine sim_bw (C := fun w1 => (5, [(0, vR 0), (1, vI a1)], [], w1)) (fun w1 => ?_)
  refine sim_blk0 hC [(.iconst 0, 0, 0, 0, 0)] [(0, vR 0), (1, vI a1)] [vI 0] w1 6 (by decide +kernel) rfl rfl ?_
  exact sim_reti hC (by decide +kernel) (Or.inl rfl)
theorem c_M_failing {Z : ZT} {l : Launch} (w : Wld) (a1 : Int32) (r : Int32) (w1 : Wld) (h : F_M_failing w a1 = some (r, w1)) : Con Z l mX11_failing 1 0 [vR 0, vI a1] w (.inr (some r)) w1 :=
  Con_of (oc := 10) (by decide +kernel) rfl rfl (fun Ok hC => s_M_failing hC w a1 (r, w1) h ⟨rfl, rfl⟩)
noncomputable def F_M_tie (w : Wld) (a1 : Int32) (a2 : Int32) : Option (Int32 × Wld) :=
  bw (wup w 0 2 0) (fun w1 => bp (F_M_isMonk w1 a1) (fun i2 => br (¬ i2 = 0) (bp (F_M_isOf w1 (w1 0 33) a1) (fun i3 => br (¬ i3 = a2) (bv (F_M_keep w1) (fun w4 => bw (wup w4 0 33 ((w4 0 33) ^^^ ((1 : Int32) <<< (a1 &&& 31)))) (fun w5 => some ((1, w5))))) (gd (vp_in 1 3) (gd (vp_in 1 3) (bw (wup w1 12 (Int32.toNatClampNeg 1) ((w1 12 (Int32.toNatClampNeg 1)) + (1 : Int32))) (fun w6 => some ((0, w6)))))))) (bd (F_M_failing w1 1) (fun i7 w8 => gd (i7 = 0 ∨ i7 = 1) (some ((i7, w8)))))))
set_option maxRecDepth 10000 in
theorem s_M_tie {Z : ZT} {l : Launch} {o : Oc} {wo : Wld} {Ok : Cfg → Prop} (hC : Clo Z l 10 3 prog_13_method_59_code (some .boolean) 3 46 o wo Ok) (w : Wld) (a1 : Int32) (a2 : Int32) : SimK Ok (0, [(0, vR 0), (1, vI a1), (2, vI a2)], [], w) (F_M_tie w a1 a2) (Gi o wo) := by
  unfold F_M_tie
  refine sim_blk0 hC [(.aload_n 0, 0, 0, 0, 0), (.iconst 0, 0, 0, 0, 0), (.putfield 159, 0, 2, 0, 0)] [(0, vR 0), (1, vI a1), (2, vI a2)] [] (wup w 0 2 0) 5 (by decide +kernel) rfl rfl ?_
  refine sim_bw (C := fun w1 => (5, [(0, vR 0), (1, vI a1), (2, vI a2)], [], w1)) (fun w1 => ?_)
  refine sim_blk0 hC [(.aload_n 0, 0, 0, 0, 0), (.iload_n 1, 0, 0, 0, 0)] [(0, vR 0), (1, vI a1), (2, vI a2)] [vI a1, vR 0] w1 7 (by decide +kernel) rfl rfl ?_
  refine sim_vp hC 376 mX11_isMonk 2 25 0 [vI a1] [] (by decide +kernel) ml_10_376 rfl rfl rfl rfl rfl rfl (fun rz hz => c_M_isMonk w1 a1 rz hz) (fun i2 => ?_)
  refine sim_br hC (.ifCond .ne 9) 19 (by decide +kernel) rfl (by decide) ?_ ?_
  · refine sim_blk0 hC [(.aload_n 0, 0, 0, 0, 0), (.getfield 309, 0, 33, 0, 0), (.iload_n 1, 0, 0, 0, 0)] [(0, vR 0), (1, vI a1), (2, vI a2)] [vI a1, vI (w1 0 33)] w1 24 (by decide +kernel) rfl rfl ?_
    refine sim_sp hC 326 mX11_isOf 1 0 [vI (w1 0 33), vI a1] [] (by decide +kernel) ml_10_326 rfl rfl rfl rfl rfl (fun rz hz => c_M_isOf w1 (w1 0 33) a1 rz hz) (fun i3 => ?_)
    refine sim_blk0 hC [(.iload_n 2, 0, 0, 0, 0)] [(0, vR 0), (1, vI a1), (2, vI a2)] [vI a2, vI i3] w1 28 (by decide +kernel) rfl rfl ?_
    refine sim_br hC (.if_icmp .ne 15) 43 (by decide +kernel) rfl (by decide) ?_ ?_
    · refine sim_blk0 hC [(.aload_n 0, 0, 0, 0, 0)] [(0, vR 0), (1, vI a1), (2, vI a2)] [vR 0] w1 44 (by decide +kernel) rfl rfl ?_
      refine sim_vv hC 388 mX11_keep 2 24 0 [] [] (by decide +kernel) ml_10_388 rfl rfl rfl rfl rfl rfl (fun wz hz => c_M_keep w1 wz hz) (fun w4 => ?_)
      refine sim_blk0 hC [(.aload_n 0, 0, 0, 0, 0), (.dup, 0, 0, 0, 0), (.getfield 309, 0, 33, 0, 0), (.iconst 1, 0, 0, 0, 1), (.iload_n 1, 0, 0, 0, 0), (.ishl, 0, 0, 0, 0), (.ixor, 0, 0, 0, 0), (.putfield 309, 0, 33, 0, 0)] [(0, vR 0), (1, vI a1), (2, vI a2)] [] (wup w4 0 33 ((w4 0 33) ^^^ ((1 : Int32) <<< (a1 &&& 31)))) 59 (by decide +kernel) rfl rfl ?_
      refine sim_bw (C := fun w5 => (59, [(0, vR 0), (1, vI a1), (2, vI a2)], [], w5)) (fun w5 => ?_)
      refine sim_blk0 hC [(.iconst 1, 0, 0, 0, 1)] [(0, vR 0), (1, vI a1), (2, vI a2)] [vI 1] w5 60 (by decide +kernel) rfl rfl ?_
      exact sim_reti hC (by decide +kernel) (Or.inr rfl)
    · refine sim_blk2 hC [(.aload_n 0, 0, 0, 0, 0), (.getfield 68, 0, 12, 14, 0), (.iconst 1, 0, 0, 0, 1), (.dup2, 0, 0, 0, 0), (.iaload, 12, 3, 0, 0), (.iconst 1, 0, 0, 0, 1), (.iadd, 0, 0, 0, 0), (.iastore, 12, 3, 0, 0)] [(0, vR 0), (1, vI a1), (2, vI a2)] [] (wup w1 12 (Int32.toNatClampNeg 1) ((w1 12 (Int32.toNatClampNeg 1)) + (1 : Int32))) 41 (by decide +kernel) rfl rfl ?_
      refine sim_bw (C := fun w6 => (41, [(0, vR 0), (1, vI a1), (2, vI a2)], [], w6)) (fun w6 => ?_)
      refine sim_blk0 hC [(.iconst 0, 0, 0, 0, 0)] [(0, vR 0), (1, vI a1), (2, vI a2)] [vI 0] w6 42 (by decide +kernel) rfl rfl ?_
      exact sim_reti hC (by decide +kernel) (Or.inl rfl)
  · refine sim_blk0 hC [(.aload_n 0, 0, 0, 0, 0), (.iconst 1, 0, 0, 0, 1)] [(0, vR 0), (1, vI a1), (2, vI a2)] [vI 1, vR 0] w1 15 (by decide +kernel) rfl rfl ?_
    refine sim_vd hC 398 mX11_failing 1 0 0 [vI 1] [] (by decide +kernel) ml_10_398 rfl rfl rfl rfl rfl rfl (fun rz wz hz => c_M_failing w1 1 rz wz hz) (fun i7 w8 => ?_)
    exact sim_retiz hC (by decide +kernel) rfl
theorem c_M_tie {Z : ZT} {l : Launch} (w : Wld) (a1 : Int32) (a2 : Int32) (r : Int32) (w1 : Wld) (h : F_M_tie w a1 a2 = some (r, w1)) : Con Z l mX11_tie 3 46 [vR 0, vI a1, vI a2] w (.inr (some r)) w1 :=
  Con_of (oc := 10) (by decide +kernel) rfl rfl (fun Ok hC => s_M_tie hC w a1 a2 (r, w1) h ⟨rfl, rfl⟩)
noncomputable def K_M_move_21 (w : Wld) : Option (Int32 × Wld) :=
  bd (F_M_fail w 1) (fun i3 w4 => some ((i3, w4)))
set_option maxRecDepth 10000 in
theorem s_K_M_move_21 {Z : ZT} {l : Launch} {o : Oc} {wo : Wld} {Ok : Cfg → Prop} (hC : Clo Z l 10 4 prog_13_method_60_code (some .int) 3 46 o wo Ok) (w : Wld) : SimK Ok (21, [(0, vR 0)], [], w) (K_M_move_21 w) (Gi o wo) := by
  unfold K_M_move_21
  refine sim_blk0 hC [(.aload_n 0, 0, 0, 0, 0), (.iconst 1, 0, 0, 0, 1)] [(0, vR 0)] [vI 1, vR 0] w 23 (by decide +kernel) rfl rfl ?_
  refine sim_vd hC 292 mX11_fail 1 0 0 [vI 1] [] (by decide +kernel) ml_10_292 rfl rfl rfl rfl rfl rfl (fun rz wz hz => c_M_fail w 1 rz wz hz) (fun i3 w4 => ?_)
  exact sim_reti hC (by decide +kernel) trivial
noncomputable def F_M_move (w : Wld) (a1 : Int32) (a2 : Int32) : Option (Int32 × Wld) :=
  bw (wup w 0 2 0) (fun w1 => bp (F_M_isMonk w1 a1) (fun i2 => br (i2 = 0) (K_M_move_21 w1) (bp (F_M_isRoom w1 a2) (fun i5 => br (¬ i5 = 0) (gd (vp_in a1 8) (br (¬ (w1 16 (Int32.toNatClampNeg a1)) = a2) (bv (F_M_keep w1) (fun w6 => gd (vp_in a1 8) (bi (w6 16 (Int32.toNatClampNeg a1)) (fun i7 => gd (vp_in a1 8) (bw (wup w6 16 (Int32.toNatClampNeg a1) a2) (fun w8 => some ((i7, w8)))))))) (bd (F_M_refuse w1 1) (fun i9 w10 => some ((i9, w10)))))) (K_M_move_21 w1)))))
set_option maxRecDepth 10000 in
theorem s_M_move {Z : ZT} {l : Launch} {o : Oc} {wo : Wld} {Ok : Cfg → Prop} (hC : Clo Z l 10 4 prog_13_method_60_code (some .int) 3 46 o wo Ok) (w : Wld) (a1 : Int32) (a2 : Int32) : SimK Ok (0, [(0, vR 0), (1, vI a1), (2, vI a2)], [], w) (F_M_move w a1 a2) (Gi o wo) := by
  unfold F_M_move
  refine sim_blk0 hC [(.aload_n 0, 0, 0, 0, 0), (.iconst 0, 0, 0, 0, 0), (.putfield 159, 0, 2, 0, 0)] [(0, vR 0), (1, vI a1), (2, vI a2)] [] (wup w 0 2 0) 5 (by decide +kernel) rfl rfl ?_
  refine sim_bw (C := fun w1 => (5, [(0, vR 0), (1, vI a1), (2, vI a2)], [], w1)) (fun w1 => ?_)
  refine sim_blk0 hC [(.aload_n 0, 0, 0, 0, 0), (.iload_n 1, 0, 0, 0, 0)] [(0, vR 0), (1, vI a1), (2, vI a2)] [vI a1, vR 0] w1 7 (by decide +kernel) rfl rfl ?_
  refine sim_vp hC 376 mX11_isMonk 2 25 0 [vI a1] [] (by decide +kernel) ml_10_376 rfl rfl rfl rfl rfl rfl (fun rz hz => c_M_isMonk w1 a1 rz hz) (fun i2 => ?_)
  refine sim_br hC (.ifCond .eq 11) 21 (by decide +kernel) rfl (by decide) ?_ ?_
  · refine sim_sub hC [0] ?_
    exact s_K_M_move_21 hC w1
  · refine sim_blk0 hC [(.aload_n 0, 0, 0, 0, 0), (.iload_n 2, 0, 0, 0, 0)] [(0, vR 0), (1, vI a1), (2, vI a2)] [vI a2, vR 0] w1 15 (by decide +kernel) rfl rfl ?_
    refine sim_vp hC 371 mX11_isRoom 2 25 0 [vI a2] [] (by decide +kernel) ml_10_371 rfl rfl rfl rfl rfl rfl (fun rz hz => c_M_isRoom w1 a2 rz hz) (fun i5 => ?_)
    refine sim_br hC (.ifCond .ne 9) 27 (by decide +kernel) rfl (by decide) ?_ ?_
    · refine sim_blk1 hC [(.aload_n 0, 0, 0, 0, 0), (.getfield 84, 0, 26, 18, 0), (.iload_n 1, 0, 0, 0, 0), (.iaload, 16, 8, 0, 0), (.iload_n 2, 0, 0, 0, 0)] [(0, vR 0), (1, vI a1), (2, vI a2)] [vI a2, vI (w1 16 (Int32.toNatClampNeg a1))] w1 34 (by decide +kernel) rfl rfl ?_
      refine sim_br hC (.if_icmp .ne 9) 43 (by decide +kernel) rfl (by decide) ?_ ?_
      · refine sim_blk0 hC [(.aload_n 0, 0, 0, 0, 0)] [(0, vR 0), (1, vI a1), (2, vI a2)] [vR 0] w1 44 (by decide +kernel) rfl rfl ?_
        refine sim_vv hC 388 mX11_keep 2 24 0 [] [] (by decide +kernel) ml_10_388 rfl rfl rfl rfl rfl rfl (fun wz hz => c_M_keep w1 wz hz) (fun w6 => ?_)
        refine sim_blk1 hC [(.aload_n 0, 0, 0, 0, 0), (.getfield 84, 0, 26, 18, 0), (.iload_n 1, 0, 0, 0, 0), (.iaload, 16, 8, 0, 0), (.istore_n 3, 0, 0, 0, 0)] [(0, vR 0), (1, vI a1), (2, vI a2), (3, vI (w6 16 (Int32.toNatClampNeg a1)))] [] w6 54 (by decide +kernel) rfl rfl ?_
        refine sim_bi (C := fun i7 => (54, [(0, vR 0), (1, vI a1), (2, vI a2), (3, vI i7)], [], w6)) (fun i7 => ?_)
        refine sim_blk1 hC [(.aload_n 0, 0, 0, 0, 0), (.getfield 84, 0, 26, 18, 0), (.iload_n 1, 0, 0, 0, 0), (.iload_n 2, 0, 0, 0, 0), (.iastore, 16, 8, 0, 0)] [(0, vR 0), (1, vI a1), (2, vI a2), (3, vI i7)] [] (wup w6 16 (Int32.toNatClampNeg a1) a2) 61 (by decide +kernel) rfl rfl ?_
        refine sim_bw (C := fun w8 => (61, [(0, vR 0), (1, vI a1), (2, vI a2), (3, vI i7)], [], w8)) (fun w8 => ?_)
        refine sim_blk0 hC [(.iload_n 3, 0, 0, 0, 0)] [(0, vR 0), (1, vI a1), (2, vI a2), (3, vI i7)] [vI i7] w8 62 (by decide +kernel) rfl rfl ?_
        exact sim_reti hC (by decide +kernel) trivial
      · refine sim_blk0 hC [(.aload_n 0, 0, 0, 0, 0), (.iconst 1, 0, 0, 0, 1)] [(0, vR 0), (1, vI a1), (2, vI a2)] [vI 1, vR 0] w1 39 (by decide +kernel) rfl rfl ?_
        refine sim_vd hC 385 mX11_refuse 1 0 0 [vI 1] [] (by decide +kernel) ml_10_385 rfl rfl rfl rfl rfl rfl (fun rz wz hz => c_M_refuse w1 1 rz wz hz) (fun i9 w10 => ?_)
        exact sim_reti hC (by decide +kernel) trivial
    · refine sim_sub hC [0] ?_
      exact s_K_M_move_21 hC w1
theorem c_M_move {Z : ZT} {l : Launch} (w : Wld) (a1 : Int32) (a2 : Int32) (r : Int32) (w1 : Wld) (h : F_M_move w a1 a2 = some (r, w1)) : Con Z l mX11_move 3 46 [vR 0, vI a1, vI a2] w (.inr (some r)) w1 :=
  Con_of (oc := 10) (by decide +kernel) rfl rfl (fun Ok hC => s_M_move hC w a1 a2 (r, w1) h ⟨rfl, rfl⟩)
