noncomputable def F_House_takeOver_56_47 (w : Wld) : Option (Wld) :=
  bw (wup w 56 0 (w 47 0)) (fun w1 => bw (wup w1 56 1 (w1 47 1)) (fun w2 => bw (wup w2 56 2 (w2 47 2)) (fun w3 => bw (wup w3 56 3 (w3 47 3)) (fun w4 => gd (cpO w4 48 9 9 0 0 0 9) (bw (wcp w4 48 57 (Int32.toNatClampNeg 0) (Int32.toNatClampNeg 0) (Int32.toNatClampNeg 9)) (fun w5 => gd (cpO w5 49 8 8 0 0 0 8) (bw (wcp w5 49 58 (Int32.toNatClampNeg 0) (Int32.toNatClampNeg 0) (Int32.toNatClampNeg 8)) (fun w6 => bv (F_Rule_takeOver_59_50 w6) (fun w7 => some w7)))))))))
set_option maxRecDepth 10000 in
theorem s_House_takeOver_56_47 {Z : ZT} {l : Launch} {o : Oc} {wo : Wld} {Ok : Cfg → Prop} (hC : Clo Z l 3 2 prog_5_method_3_code none 2 81 o wo Ok) (w : Wld) : SimK Ok (0, [(0, vR 56), (1, vR 47)], [], w) (F_House_takeOver_56_47 w) (Gv o wo) := by
  unfold F_House_takeOver_56_47
  refine sim_blk0 hC [(.aload_n 0, 0, 0, 0, 0), (.aload_n 1, 0, 0, 0, 0), (.getfield 9, 47, 0, 0, 0), (.putfield 9, 56, 0, 0, 0)] [(0, vR 56), (1, vR 47)] [] (wup w 56 0 (w 47 0)) 8 (by decide +kernel) rfl rfl ?_
  refine sim_bw (C := fun w1 => (8, [(0, vR 56), (1, vR 47)], [], w1)) (fun w1 => ?_)
  refine sim_blk0 hC [(.aload_n 0, 0, 0, 0, 0), (.aload_n 1, 0, 0, 0, 0), (.getfield 15, 47, 1, 0, 0), (.putfield 15, 56, 1, 0, 0)] [(0, vR 56), (1, vR 47)] [] (wup w1 56 1 (w1 47 1)) 16 (by decide +kernel) rfl rfl ?_
  refine sim_bw (C := fun w2 => (16, [(0, vR 56), (1, vR 47)], [], w2)) (fun w2 => ?_)
  refine sim_blk0 hC [(.aload_n 0, 0, 0, 0, 0), (.aload_n 1, 0, 0, 0, 0), (.getfield 18, 47, 2, 0, 0), (.putfield 18, 56, 2, 0, 0)] [(0, vR 56), (1, vR 47)] [] (wup w2 56 2 (w2 47 2)) 24 (by decide +kernel) rfl rfl ?_
  refine sim_bw (C := fun w3 => (24, [(0, vR 56), (1, vR 47)], [], w3)) (fun w3 => ?_)
  refine sim_blk0 hC [(.aload_n 0, 0, 0, 0, 0), (.aload_n 1, 0, 0, 0, 0), (.getfield 21, 47, 3, 0, 0), (.putfield 21, 56, 3, 0, 0)] [(0, vR 56), (1, vR 47)] [] (wup w3 56 3 (w3 47 3)) 32 (by decide +kernel) rfl rfl ?_
  refine sim_bw (C := fun w4 => (32, [(0, vR 56), (1, vR 47)], [], w4)) (fun w4 => ?_)
  refine sim_blk0 hC [(.aload_n 1, 0, 0, 0, 0), (.getfield 24, 47, 4, 50, 0), (.iconst 0, 0, 0, 0, 0), (.aload_n 0, 0, 0, 0, 0), (.getfield 24, 56, 4, 59, 0), (.iconst 0, 0, 0, 0, 0), (.bipush 9, 0, 0, 0, 9)] [(0, vR 56), (1, vR 47)] [vI 9, vI 0, vR 57, vI 0, vR 48] w4 44 (by decide +kernel) rfl rfl ?_
  refine sim_copy hC 41 48 57 9 9 0 (by decide +kernel) (by decide) (by decide) (by decide +kernel) (by decide +kernel) rfl rfl rfl (fun w5 => ?_)
  refine sim_blk0 hC [(.aload_n 1, 0, 0, 0, 0), (.getfield 28, 47, 5, 51, 0), (.iconst 0, 0, 0, 0, 0), (.aload_n 0, 0, 0, 0, 0), (.getfield 28, 56, 5, 60, 0), (.iconst 0, 0, 0, 0, 0), (.bipush 8, 0, 0, 0, 8)] [(0, vR 56), (1, vR 47)] [vI 8, vI 0, vR 58, vI 0, vR 49] w5 59 (by decide +kernel) rfl rfl ?_
  refine sim_copy hC 41 49 58 8 8 0 (by decide +kernel) (by decide) (by decide) (by decide +kernel) (by decide +kernel) rfl rfl rfl (fun w6 => ?_)
  refine sim_blk0 hC [(.aload_n 0, 0, 0, 0, 0), (.getfield 34, 56, 6, 61, 0), (.aload_n 1, 0, 0, 0, 0), (.getfield 34, 47, 6, 52, 0)] [(0, vR 56), (1, vR 47)] [vR 50, vR 59] w6 70 (by decide +kernel) rfl rfl ?_
  refine sim_vv hC 47 mX6_takeOver 1 60 59 [vR 50] [] (by decide +kernel) ml_3_47 rfl rfl rfl rfl rfl rfl (fun wz hz => c_Rule_takeOver_59_50 w6 wz hz) (fun w7 => ?_)
  exact sim_retv hC (by decide +kernel)
theorem c_House_takeOver_56_47 {Z : ZT} {l : Launch} (w : Wld) (w1 : Wld) (h : F_House_takeOver_56_47 w = some w1) : Con Z l mX3_takeOver 2 81 [vR 56, vR 47] w (.inr none) w1 :=
  Con_of (oc := 3) (by decide +kernel) rfl rfl (fun Ok hC => s_House_takeOver_56_47 hC w w1 h ⟨rfl, rfl⟩)
noncomputable def F_State_takeOver_65_53 (w : Wld) : Option (Wld) :=
  gd (cpO w 54 53 53 0 0 0 53) (bw (wcp w 54 66 (Int32.toNatClampNeg 0) (Int32.toNatClampNeg 0) (Int32.toNatClampNeg 53)) (fun w1 => some w1))
set_option maxRecDepth 10000 in
theorem s_State_takeOver_65_53 {Z : ZT} {l : Launch} {o : Oc} {wo : Wld} {Ok : Cfg → Prop} (hC : Clo Z l 7 2 prog_9_method_3_code none 1 60 o wo Ok) (w : Wld) : SimK Ok (0, [(0, vR 65), (1, vR 53)], [], w) (F_State_takeOver_65_53 w) (Gv o wo) := by
  unfold F_State_takeOver_65_53
  refine sim_blk0 hC [(.aload_n 1, 0, 0, 0, 0), (.getfield 11, 53, 0, 56, 0), (.iconst 0, 0, 0, 0, 0), (.aload_n 0, 0, 0, 0, 0), (.getfield 11, 65, 0, 68, 0), (.iconst 0, 0, 0, 0, 0), (.bipush 53, 0, 0, 0, 53)] [(0, vR 65), (1, vR 53)] [vI 53, vI 0, vR 66, vI 0, vR 54] w 12 (by decide +kernel) rfl rfl ?_
  refine sim_copy hC 21 54 66 53 53 0 (by decide +kernel) (by decide) (by decide) (by decide +kernel) (by decide +kernel) rfl rfl rfl (fun w1 => ?_)
  exact sim_retv hC (by decide +kernel)
theorem c_State_takeOver_65_53 {Z : ZT} {l : Launch} (w : Wld) (w1 : Wld) (h : F_State_takeOver_65_53 w = some w1) : Con Z l mX7_takeOver 1 60 [vR 65, vR 53] w (.inr none) w1 :=
  Con_of (oc := 7) (by decide +kernel) rfl rfl (fun Ok hC => s_State_takeOver_65_53 hC w w1 h ⟨rfl, rfl⟩)
noncomputable def F_Acts_clear_67 (w : Wld) : Option (Wld) :=
  bw (wup w 67 2 0) (fun w1 => some w1)
set_option maxRecDepth 10000 in
theorem s_Acts_clear_67 {Z : ZT} {l : Launch} {o : Oc} {wo : Wld} {Ok : Cfg → Prop} (hC : Clo Z l 0 1 prog_2_method_2_code none 1 0 o wo Ok) (w : Wld) : SimK Ok (0, [(0, vR 67)], [], w) (F_Acts_clear_67 w) (Gv o wo) := by
  unfold F_Acts_clear_67
  refine sim_blk0 hC [(.aload_n 0, 0, 0, 0, 0), (.iconst 0, 0, 0, 0, 0), (.putfield 21, 67, 2, 0, 0)] [(0, vR 67)] [] (wup w 67 2 0) 5 (by decide +kernel) rfl rfl ?_
  refine sim_bw (C := fun w1 => (5, [(0, vR 67)], [], w1)) (fun w1 => ?_)
  exact sim_retv hC (by decide +kernel)
theorem c_Acts_clear_67 {Z : ZT} {l : Launch} (w : Wld) (w1 : Wld) (h : F_Acts_clear_67 w = some w1) : Con Z l mX0_clear 1 0 [vR 67] w (.inr none) w1 :=
  Con_of (oc := 0) (by decide +kernel) rfl rfl (fun Ok hC => s_Acts_clear_67 hC w w1 h ⟨rfl, rfl⟩)
noncomputable def F_C_house (w : Wld) (a1 : Int32) : Option (Oc × Wld) :=
  bn (F_C_needWithin w a1 0 (w 42 1)) w (bd (F_Reader_readText_44_43 w a1) (fun i1 w2 => bw (wup w2 42 1 0) (fun w3 => br (i1 = 0) (bw (wup w3 42 2 (-1)) (fun w4 => bv (F_House_takeOver_56_47 w4) (fun w5 => bv (F_State_takeOver_65_53 w5) (fun w6 => bv (F_Acts_clear_67 w6) (fun w7 => bv (F_Heard_clear_69 w7) (fun w8 => gd ((0 : Int32) = 0 ∨ (0 : Int32) = 1) (bw (wup w8 42 8 0) (fun w9 => some ((.inr (some 0), w9)))))))))) (bw (wup w3 42 2 (w3 44 6)) (fun w10 => gd (vp_in 0 3) (gd (vp_in 0 3) (bw (wup w10 73 (Int32.toNatClampNeg 0) ((w10 73 (Int32.toNatClampNeg 0)) + (1 : Int32))) (fun w11 => some ((.inr (some i1), w11))))))))))
set_option maxRecDepth 10000 in
theorem s_C_house {Z : ZT} {l : Launch} {o : Oc} {wo : Wld} {Ok : Cfg → Prop} (hC : Clo Z l 9 3 prog_1_method_4_code (some .int) 114 2298 o wo Ok) (w : Wld) (a1 : Int32) : SimK Ok (0, [(0, vR 42), (1, vI a1)], [], w) (F_C_house w a1) (Gt o wo) := by
  unfold F_C_house
  refine sim_blk0 hC [(.iload_n 1, 0, 0, 0, 0), (.iconst 0, 0, 0, 0, 0), (.aload_n 0, 0, 0, 0, 0), (.getfield 13, 42, 1, 0, 0)] [(0, vR 42), (1, vI a1)] [vI (w 42 1), vI 0, vI a1] w 6 (by decide +kernel) rfl rfl ?_
  refine sim_sn hC 77 mX10_needWithin 6 89 [vI a1, vI 0, vI (w 42 1)] [] (by decide +kernel) ml_9_77 rfl rfl rfl rfl rfl (fun qz hz => c_C_needWithin w a1 0 (w 42 1) qz hz) ?_
  refine sim_blk0 hC [(.aload_n 0, 0, 0, 0, 0), (.getfield 23, 42, 3, 46, 0), (.aload_n 0, 0, 0, 0, 0), (.getfield 9, 42, 0, 45, 0), (.iload_n 1, 0, 0, 0, 0)] [(0, vR 42), (1, vI a1)] [vI a1, vR 43, vR 44] w 18 (by decide +kernel) rfl rfl ?_
  refine sim_vd hC 81 mX5_readText 113 2275 44 [vR 43, vI a1] [] (by decide +kernel) ml_9_81 rfl rfl rfl rfl rfl rfl (fun rz wz hz => c_Reader_readText_44_43 w a1 rz wz hz) (fun i1 w2 => ?_)
  refine sim_blk0 hC [(.istore_n 2, 0, 0, 0, 0), (.aload_n 0, 0, 0, 0, 0), (.iconst 0, 0, 0, 0, 0), (.putfield 13, 42, 1, 0, 0)] [(0, vR 42), (1, vI a1), (2, vI i1)] [] (wup w2 42 1 0) 27 (by decide +kernel) rfl rfl ?_
  refine sim_bw (C := fun w3 => (27, [(0, vR 42), (1, vI a1), (2, vI i1)], [], w3)) (fun w3 => ?_)
  refine sim_blk0 hC [(.iload_n 2, 0, 0, 0, 0)] [(0, vR 42), (1, vI a1), (2, vI i1)] [vI i1] w3 28 (by decide +kernel) rfl rfl ?_
  refine sim_br hC (.ifCond .eq 29) 57 (by decide +kernel) rfl (by decide) ?_ ?_
  · refine sim_blk0 hC [(.aload_n 0, 0, 0, 0, 0), (.iconst (-1), 0, 0, 0, (-1)), (.putfield 17, 42, 2, 0, 0)] [(0, vR 42), (1, vI a1), (2, vI i1)] [] (wup w3 42 2 (-1)) 62 (by decide +kernel) rfl rfl ?_
    refine sim_bw (C := fun w4 => (62, [(0, vR 42), (1, vI a1), (2, vI i1)], [], w4)) (fun w4 => ?_)
    refine sim_blk0 hC [(.aload_n 0, 0, 0, 0, 0), (.getfield 38, 42, 5, 58, 0), (.aload_n 0, 0, 0, 0, 0), (.getfield 23, 42, 3, 46, 0), (.getfield 91, 44, 7, 49, 0)] [(0, vR 42), (1, vI a1), (2, vI i1)] [vR 47, vR 56] w4 73 (by decide +kernel) rfl rfl ?_
    refine sim_vv hC 94 mX3_takeOver 2 81 56 [vR 47] [] (by decide +kernel) ml_9_94 rfl rfl rfl rfl rfl rfl (fun wz hz => c_House_takeOver_56_47 w4 wz hz) (fun w5 => ?_)
    refine sim_blk0 hC [(.aload_n 0, 0, 0, 0, 0), (.getfield 42, 42, 6, 66, 0), (.getfield 100, 64, 0, 67, 0), (.aload_n 0, 0, 0, 0, 0), (.getfield 23, 42, 3, 46, 0), (.getfield 103, 44, 8, 55, 0)] [(0, vR 42), (1, vI a1), (2, vI i1)] [vR 53, vR 65] w5 90 (by decide +kernel) rfl rfl ?_
    refine sim_vv hC 106 mX7_takeOver 1 60 65 [vR 53] [] (by decide +kernel) ml_9_106 rfl rfl rfl rfl rfl rfl (fun wz hz => c_State_takeOver_65_53 w5 wz hz) (fun w6 => ?_)
    refine sim_blk0 hC [(.aload_n 0, 0, 0, 0, 0), (.getfield 42, 42, 6, 66, 0), (.getfield 109, 64, 1, 69, 0)] [(0, vR 42), (1, vI a1), (2, vI i1)] [vR 67] w6 100 (by decide +kernel) rfl rfl ?_
    refine sim_vv hC 113 mX0_clear 1 0 67 [] [] (by decide +kernel) ml_9_113 rfl rfl rfl rfl rfl rfl (fun wz hz => c_Acts_clear_67 w6 wz hz) (fun w7 => ?_)
    refine sim_blk0 hC [(.aload_n 0, 0, 0, 0, 0), (.getfield 42, 42, 6, 66, 0), (.getfield 118, 64, 2, 71, 0)] [(0, vR 42), (1, vI a1), (2, vI i1)] [vR 69] w7 110 (by decide +kernel) rfl rfl ?_
    refine sim_vv hC 122 mX2_clear 1 0 69 [] [] (by decide +kernel) ml_9_122 rfl rfl rfl rfl rfl rfl (fun wz hz => c_Heard_clear_69 w7 wz hz) (fun w8 => ?_)
    refine sim_blk1 hC [(.aload_n 0, 0, 0, 0, 0), (.iconst 0, 0, 0, 0, 0), (.putfield 49, 42, 8, 2, 0)] [(0, vR 42), (1, vI a1), (2, vI i1)] [] (wup w8 42 8 0) 118 (by decide +kernel) rfl rfl ?_
    refine sim_bw (C := fun w9 => (118, [(0, vR 42), (1, vI a1), (2, vI i1)], [], w9)) (fun w9 => ?_)
    refine sim_blk0 hC [(.iconst 0, 0, 0, 0, 0)] [(0, vR 42), (1, vI a1), (2, vI i1)] [vI 0] w9 119 (by decide +kernel) rfl rfl ?_
    exact sim_rett hC (by decide +kernel) trivial
  · refine sim_blk0 hC [(.aload_n 0, 0, 0, 0, 0), (.aload_n 0, 0, 0, 0, 0), (.getfield 23, 42, 3, 46, 0), (.getfield 85, 44, 6, 0, 0), (.putfield 17, 42, 2, 0, 0)] [(0, vR 42), (1, vI a1), (2, vI i1)] [] (wup w3 42 2 (w3 44 6)) 42 (by decide +kernel) rfl rfl ?_
    refine sim_bw (C := fun w10 => (42, [(0, vR 42), (1, vI a1), (2, vI i1)], [], w10)) (fun w10 => ?_)
    refine sim_blk2 hC [(.aload_n 0, 0, 0, 0, 0), (.getfield 42, 42, 6, 66, 0), (.getfield 88, 64, 3, 75, 0), (.iconst 0, 0, 0, 0, 0), (.dup2, 0, 0, 0, 0), (.iaload, 73, 3, 0, 0), (.iconst 1, 0, 0, 0, 1), (.iadd, 0, 0, 0, 0), (.iastore, 73, 3, 0, 0)] [(0, vR 42), (1, vI a1), (2, vI i1)] [] (wup w10 73 (Int32.toNatClampNeg 0) ((w10 73 (Int32.toNatClampNeg 0)) + (1 : Int32))) 55 (by decide +kernel) rfl rfl ?_
    refine sim_bw (C := fun w11 => (55, [(0, vR 42), (1, vI a1), (2, vI i1)], [], w11)) (fun w11 => ?_)
    refine sim_blk0 hC [(.iload_n 2, 0, 0, 0, 0)] [(0, vR 42), (1, vI a1), (2, vI i1)] [vI i1] w11 56 (by decide +kernel) rfl rfl ?_
    exact sim_rett hC (by decide +kernel) trivial
theorem c_C_house {Z : ZT} {l : Launch} (w : Wld) (a1 : Int32) (q : Oc) (w1 : Wld) (h : F_C_house w a1 = some (q, w1)) : Con Z l mX10_house 114 2298 [vR 42, vI a1] w q w1 :=
  Con_of (oc := 9) (by decide +kernel) rfl rfl (fun Ok hC => s_C_house hC w a1 (q, w1) h ⟨rfl, rfl⟩)
def V_State_metCouples_65_4 (a1 : Int32) (w : Wld) : (Int32 × Int32) → Cfg := fun s => (4, [(0, vR 65), (1, vI a1), (2, vI s.1), (3, vI s.2)], [], w)
def E_State_metCouples_65_4 (a1 : Int32) (w : Wld) : (Int32) → Cfg := fun s => (30, [(2, vI s)], [], w)
noncomputable def B_State_metCouples_65_4 (a1 : Int32) (w : Wld) (s : Int32 × Int32) : Option ((Int32 × Int32) ⊕ (Int32)) :=
  br (a1 ≤ s.2) (some (.inr s.1)) (gd (vp_in ((24 : Int32) + s.2) 53) (bp (F_JI_bitCount w (w 66 (Int32.toNatClampNeg ((24 : Int32) + s.2)))) (fun i1 => bi (s.1 + i1) (fun i2 => bi (s.2 + 1) (fun i3 => some (.inl ((i2, i3))))))))
set_option maxRecDepth 10000 in
theorem s_B_State_metCouples_65_4 {Z : ZT} {l : Launch} {o : Oc} {wo : Wld} {Ok : Cfg → Prop} (hC : Clo Z l 7 4 prog_9_method_7_code (some .int) 2 20 o wo Ok) (a1 : Int32) (w : Wld) (s : Int32 × Int32) : SimK Ok (V_State_metCouples_65_4 a1 w s) (B_State_metCouples_65_4 a1 w s) (GLp Ok (V_State_metCouples_65_4 a1 w) (GEp Ok (E_State_metCouples_65_4 a1 w))) := by
  unfold B_State_metCouples_65_4
  show SimK Ok (4, [(0, vR 65), (1, vI a1), (2, vI s.1), (3, vI s.2)], [], w) _ _
  refine sim_blk0 hC [(.iload_n 3, 0, 0, 0, 0), (.iload_n 1, 0, 0, 0, 0)] [(0, vR 65), (1, vI a1), (2, vI s.1), (3, vI s.2)] [vI a1, vI s.2] w 6 (by decide +kernel) rfl rfl ?_
  refine sim_br hC (.if_icmp .ge 24) 30 (by decide +kernel) rfl (by decide) ?_ ?_
  · refine sim_sub hC [2] ?_
    exact sim_exit (E := (E_State_metCouples_65_4 a1 w)) s.1
  · refine sim_blk1 hC [(.iload_n 2, 0, 0, 0, 0), (.aload_n 0, 0, 0, 0, 0), (.getfield 11, 65, 0, 68, 0), (.bipush 24, 0, 0, 0, 24), (.iload_n 3, 0, 0, 0, 0), (.iadd, 0, 0, 0, 0), (.iaload, 66, 53, 0, 0)] [(0, vR 65), (1, vI a1), (2, vI s.1), (3, vI s.2)] [vI (w 66 (Int32.toNatClampNeg ((24 : Int32) + s.2))), vI s.1] w 19 (by decide +kernel) rfl rfl ?_
    refine sim_sp hC 33 mJ6_bitCount_0f7a4 1 0 [vI (w 66 (Int32.toNatClampNeg ((24 : Int32) + s.2)))] [vI s.1] (by decide +kernel) ml_7_33 rfl rfl rfl rfl rfl (fun rz hz => c_JI_bitCount w (w 66 (Int32.toNatClampNeg ((24 : Int32) + s.2))) rz hz) (fun i1 => ?_)
    refine sim_blk0 hC [(.iadd, 0, 0, 0, 0), (.istore_n 2, 0, 0, 0, 0)] [(0, vR 65), (1, vI a1), (2, vI (s.1 + i1)), (3, vI s.2)] [] w 24 (by decide +kernel) rfl rfl ?_
    refine sim_bi (C := fun i2 => (24, [(0, vR 65), (1, vI a1), (2, vI i2), (3, vI s.2)], [], w)) (fun i2 => ?_)
    refine sim_blk0 hC [(.iinc 3 1, 0, 0, 0, 1)] [(0, vR 65), (1, vI a1), (2, vI i2), (3, vI (s.2 + 1))] [] w 27 (by decide +kernel) rfl rfl ?_
    refine sim_bi (C := fun i3 => (27, [(0, vR 65), (1, vI a1), (2, vI i2), (3, vI i3)], [], w)) (fun i3 => ?_)
    refine sim_goto hC (-23) 4 (by decide +kernel) (by decide) ?_
    exact sim_back (V := (V_State_metCouples_65_4 a1 w)) ((i2, i3))
noncomputable def F_State_metCouples_65 (w : Wld) (a1 : Int32) : Option (Int32) :=
  bl (loop (B_State_metCouples_65_4 a1 w) ((0, 0))) (fun r4 => gd (¬ (2 : Int32) = 0) (some (r4 / (2 : Int32))))
set_option maxRecDepth 10000 in
theorem s_State_metCouples_65 {Z : ZT} {l : Launch} {o : Oc} {wo : Wld} {Ok : Cfg → Prop} (hC : Clo Z l 7 4 prog_9_method_7_code (some .int) 2 20 o wo Ok) (w : Wld) (a1 : Int32) : SimK Ok (0, [(0, vR 65), (1, vI a1)], [], w) (F_State_metCouples_65 w a1) (Gp o wo w) := by
  unfold F_State_metCouples_65
  refine sim_blk0 hC [(.iconst 0, 0, 0, 0, 0), (.istore_n 2, 0, 0, 0, 0), (.iconst 0, 0, 0, 0, 0), (.istore_n 3, 0, 0, 0, 0)] [(0, vR 65), (1, vI a1), (2, vI 0), (3, vI 0)] [] w 4 (by decide +kernel) rfl rfl ?_
  refine sim_bl (E := (E_State_metCouples_65_4 a1 w)) ?_ (fun r4 => ?_)
  · exact sim_loop (V := (V_State_metCouples_65_4 a1 w)) (fun sz => s_B_State_metCouples_65_4 hC a1 w sz) ((0, 0))
  · show SimK Ok (30, [(2, vI r4)], [], w) _ _
    refine sim_blk1 hC [(.iload_n 2, 0, 0, 0, 0), (.iconst 2, 0, 0, 0, 2), (.idiv, 0, 0, 0, 0)] [(2, vI r4)] [vI (r4 / (2 : Int32))] w 33 (by decide +kernel) rfl rfl ?_
    exact sim_retp hC (by decide +kernel) trivial
theorem c_State_metCouples_65 {Z : ZT} {l : Launch} (w : Wld) (a1 : Int32) (r : Int32) (h : F_State_metCouples_65 w a1 = some r) : Con Z l mX7_metCouples 2 20 [vR 65, vI a1] w (.inr (some r)) w :=
  Con_of (oc := 7) (by decide +kernel) rfl rfl (fun Ok hC => s_State_metCouples_65 hC w a1 r h ⟨rfl, rfl⟩)
def V_State_alone_65_4 (a1 : Int32) (w : Wld) : (Int32 × Int32) → Cfg := fun s => (4, [(0, vR 65), (1, vI a1), (2, vI s.1), (3, vI s.2)], [], w)
def E_State_alone_65_4 (a1 : Int32) (w : Wld) : (Int32) → Cfg := fun s => (33, [(2, vI s)], [], w)
noncomputable def K_State_alone_65_27 (a1 : Int32) (a2 : Int32) (a3 : Int32) (w : Wld) : Option ((Int32 × Int32) ⊕ (Int32)) :=
  bi (a3 + 1) (fun i1 => some (.inl ((a2, i1))))
set_option maxRecDepth 10000 in
theorem s_K_State_alone_65_27 {Z : ZT} {l : Launch} {o : Oc} {wo : Wld} {Ok : Cfg → Prop} (hC : Clo Z l 7 4 prog_9_method_6_code (some .int) 1 0 o wo Ok) (a1 : Int32) (a2 : Int32) (a3 : Int32) (w : Wld) : SimK Ok (27, [(0, vR 65), (1, vI a1), (2, vI a2), (3, vI a3)], [], w) (K_State_alone_65_27 a1 a2 a3 w) (GLp Ok (V_State_alone_65_4 a1 w) (GEp Ok (E_State_alone_65_4 a1 w))) := by
  unfold K_State_alone_65_27
  refine sim_blk0 hC [(.iinc 3 1, 0, 0, 0, 1)] [(0, vR 65), (1, vI a1), (2, vI a2), (3, vI (a3 + 1))] [] w 30 (by decide +kernel) rfl rfl ?_
  refine sim_bi (C := fun i1 => (30, [(0, vR 65), (1, vI a1), (2, vI a2), (3, vI i1)], [], w)) (fun i1 => ?_)
  refine sim_goto hC (-26) 4 (by decide +kernel) (by decide) ?_
  exact sim_back (V := (V_State_alone_65_4 a1 w)) ((a2, i1))
noncomputable def B_State_alone_65_4 (a1 : Int32) (w : Wld) (s : Int32 × Int32) : Option ((Int32 × Int32) ⊕ (Int32)) :=
  br (a1 ≤ s.2) (some (.inr s.1)) (gd (vp_in ((24 : Int32) + s.2) 53) (br (¬ (w 66 (Int32.toNatClampNeg ((24 : Int32) + s.2))) = 0) (K_State_alone_65_27 a1 s.1 s.2 w) (bi (s.1 ||| ((1 : Int32) <<< (s.2 &&& 31))) (fun i2 => K_State_alone_65_27 a1 i2 s.2 w))))
set_option maxRecDepth 10000 in
theorem s_B_State_alone_65_4 {Z : ZT} {l : Launch} {o : Oc} {wo : Wld} {Ok : Cfg → Prop} (hC : Clo Z l 7 4 prog_9_method_6_code (some .int) 1 0 o wo Ok) (a1 : Int32) (w : Wld) (s : Int32 × Int32) : SimK Ok (V_State_alone_65_4 a1 w s) (B_State_alone_65_4 a1 w s) (GLp Ok (V_State_alone_65_4 a1 w) (GEp Ok (E_State_alone_65_4 a1 w))) := by
  unfold B_State_alone_65_4
  show SimK Ok (4, [(0, vR 65), (1, vI a1), (2, vI s.1), (3, vI s.2)], [], w) _ _
  refine sim_blk0 hC [(.iload_n 3, 0, 0, 0, 0), (.iload_n 1, 0, 0, 0, 0)] [(0, vR 65), (1, vI a1), (2, vI s.1), (3, vI s.2)] [vI a1, vI s.2] w 6 (by decide +kernel) rfl rfl ?_
  refine sim_br hC (.if_icmp .ge 27) 33 (by decide +kernel) rfl (by decide) ?_ ?_
  · refine sim_sub hC [2] ?_
    exact sim_exit (E := (E_State_alone_65_4 a1 w)) s.1
  · refine sim_blk1 hC [(.aload_n 0, 0, 0, 0, 0), (.getfield 11, 65, 0, 68, 0), (.bipush 24, 0, 0, 0, 24), (.iload_n 3, 0, 0, 0, 0), (.iadd, 0, 0, 0, 0), (.iaload, 66, 53, 0, 0)] [(0, vR 65), (1, vI a1), (2, vI s.1), (3, vI s.2)] [vI (w 66 (Int32.toNatClampNeg ((24 : Int32) + s.2)))] w 18 (by decide +kernel) rfl rfl ?_
    refine sim_br hC (.ifCond .ne 9) 27 (by decide +kernel) rfl (by decide) ?_ ?_
    · exact s_K_State_alone_65_27 hC a1 s.1 s.2 w
    · refine sim_blk0 hC [(.iload_n 2, 0, 0, 0, 0), (.iconst 1, 0, 0, 0, 1), (.iload_n 3, 0, 0, 0, 0), (.ishl, 0, 0, 0, 0), (.ior, 0, 0, 0, 0), (.istore_n 2, 0, 0, 0, 0)] [(0, vR 65), (1, vI a1), (2, vI (s.1 ||| ((1 : Int32) <<< (s.2 &&& 31)))), (3, vI s.2)] [] w 27 (by decide +kernel) rfl rfl ?_
      refine sim_bi (C := fun i2 => (27, [(0, vR 65), (1, vI a1), (2, vI i2), (3, vI s.2)], [], w)) (fun i2 => ?_)
      exact s_K_State_alone_65_27 hC a1 i2 s.2 w
noncomputable def F_State_alone_65 (w : Wld) (a1 : Int32) : Option (Int32) :=
  bl (loop (B_State_alone_65_4 a1 w) ((0, 0))) (fun r3 => some r3)
set_option maxRecDepth 10000 in
theorem s_State_alone_65 {Z : ZT} {l : Launch} {o : Oc} {wo : Wld} {Ok : Cfg → Prop} (hC : Clo Z l 7 4 prog_9_method_6_code (some .int) 1 0 o wo Ok) (w : Wld) (a1 : Int32) : SimK Ok (0, [(0, vR 65), (1, vI a1)], [], w) (F_State_alone_65 w a1) (Gp o wo w) := by
  unfold F_State_alone_65
  refine sim_blk0 hC [(.iconst 0, 0, 0, 0, 0), (.istore_n 2, 0, 0, 0, 0), (.iconst 0, 0, 0, 0, 0), (.istore_n 3, 0, 0, 0, 0)] [(0, vR 65), (1, vI a1), (2, vI 0), (3, vI 0)] [] w 4 (by decide +kernel) rfl rfl ?_
  refine sim_bl (E := (E_State_alone_65_4 a1 w)) ?_ (fun r3 => ?_)
  · exact sim_loop (V := (V_State_alone_65_4 a1 w)) (fun sz => s_B_State_alone_65_4 hC a1 w sz) ((0, 0))
  · show SimK Ok (33, [(2, vI r3)], [], w) _ _
    refine sim_blk0 hC [(.iload_n 2, 0, 0, 0, 0)] [(2, vI r3)] [vI r3] w 34 (by decide +kernel) rfl rfl ?_
    exact sim_retp hC (by decide +kernel) trivial
theorem c_State_alone_65 {Z : ZT} {l : Launch} (w : Wld) (a1 : Int32) (r : Int32) (h : F_State_alone_65 w a1 = some r) : Con Z l mX7_alone 1 0 [vR 65, vI a1] w (.inr (some r)) w :=
  Con_of (oc := 7) (by decide +kernel) rfl rfl (fun Ok hC => s_State_alone_65 hC w a1 r h ⟨rfl, rfl⟩)
noncomputable def F_C_count (w : Wld) (a1 : Int32) : Option (Oc × Wld) :=
  br (a1 = 0) (some ((.inr (some (w 56 0)), w))) (br (a1 = 1) (some ((.inr (some (w 56 1)), w))) (br (a1 = 2) (some ((.inr (some (w 56 2)), w))) (br (a1 = 3) (some ((.inr (some (w 56 3)), w))) (br (a1 = 4) (gd (vp_in 52 53) (some ((.inr (some (w 66 (Int32.toNatClampNeg 52))), w)))) (br (a1 = 5) (gd (vp_in 51 53) (some ((.inr (some (w 66 (Int32.toNatClampNeg 51))), w)))) (br (a1 = 6) (gd (vp_in 50 53) (some ((.inr (some (w 66 (Int32.toNatClampNeg 50))), w)))) (br (a1 = 7) (bp (F_State_alone_65 w (w 56 1)) (fun i1 => some ((.inr (some i1), w)))) (br (a1 = 8) (bp (F_State_metCouples_65 w (w 56 1)) (fun i2 => some ((.inr (some i2), w)))) (br (a1 = 9) (some ((.inr (some (w 67 2)), w))) (br (a1 = 10) (some ((.inr (some (w 69 3)), w))) (br (a1 = 11) (some ((.inr (some (w 42 1)), w))) (br (a1 = 12) (gd (vp_in 0 3) (some ((.inr (some (w 73 (Int32.toNatClampNeg 0))), w)))) (br (a1 = 13) (gd (vp_in 1 3) (some ((.inr (some (w 73 (Int32.toNatClampNeg 1))), w)))) (br (a1 = 14) (gd (vp_in 2 3) (some ((.inr (some (w 73 (Int32.toNatClampNeg 2))), w)))) (some (.inl 0, w))))))))))))))))
set_option maxRecDepth 10000 in
theorem s_C_count {Z : ZT} {l : Launch} {o : Oc} {wo : Wld} {Ok : Cfg → Prop} (hC : Clo Z l 9 3 prog_1_method_6_code (some .int) 6 89 o wo Ok) (w : Wld) (a1 : Int32) : SimK Ok (0, [(0, vR 42), (1, vI a1)], [], w) (F_C_count w a1) (Gt o wo) := by
  unfold F_C_count
  refine sim_blk0 hC [(.aload_n 0, 0, 0, 0, 0), (.getfield 42, 42, 6, 66, 0), (.getfield 100, 64, 0, 67, 0), (.astore_n 2, 0, 0, 0, 0), (.iload_n 1, 0, 0, 0, 0)] [(0, vR 42), (1, vI a1), (2, vR 65)] [vI a1] w 9 (by decide +kernel) rfl rfl ?_
  refine sim_cases (fun h0 => ?_) (fun h0 => ?_)
  · refine sim_case hC 212 0 14 #[75, 83, 91, 99, 107, 115, 123, 131, 143, 155, 166, 177, 182, 192, 202] 75 75 84 h0 (by decide +kernel) (by decide) (by decide) (by decide +kernel) (by decide) ?_
    refine sim_blk0 hC [(.aload_n 0, 0, 0, 0, 0), (.getfield 38, 42, 5, 58, 0), (.getfield 125, 56, 0, 0, 0)] [(0, vR 42), (1, vI a1), (2, vR 65)] [vI (w 56 0)] w 91 (by decide +kernel) rfl rfl ?_
    exact sim_rett hC (by decide +kernel) trivial
  · refine sim_cases (fun h1 => ?_) (fun h1 => ?_)
    · refine sim_case hC 212 0 14 #[75, 83, 91, 99, 107, 115, 123, 131, 143, 155, 166, 177, 182, 192, 202] 75 83 92 h1 (by decide +kernel) (by decide) (by decide) (by decide +kernel) (by decide) ?_
      refine sim_blk0 hC [(.aload_n 0, 0, 0, 0, 0), (.getfield 38, 42, 5, 58, 0), (.getfield 128, 56, 1, 0, 0)] [(0, vR 42), (1, vI a1), (2, vR 65)] [vI (w 56 1)] w 99 (by decide +kernel) rfl rfl ?_
      exact sim_rett hC (by decide +kernel) trivial
    · refine sim_cases (fun h2 => ?_) (fun h2 => ?_)
      · refine sim_case hC 212 0 14 #[75, 83, 91, 99, 107, 115, 123, 131, 143, 155, 166, 177, 182, 192, 202] 75 91 100 h2 (by decide +kernel) (by decide) (by decide) (by decide +kernel) (by decide) ?_
        refine sim_blk0 hC [(.aload_n 0, 0, 0, 0, 0), (.getfield 38, 42, 5, 58, 0), (.getfield 131, 56, 2, 0, 0)] [(0, vR 42), (1, vI a1), (2, vR 65)] [vI (w 56 2)] w 107 (by decide +kernel) rfl rfl ?_
        exact sim_rett hC (by decide +kernel) trivial
      · refine sim_cases (fun h3 => ?_) (fun h3 => ?_)
        · refine sim_case hC 212 0 14 #[75, 83, 91, 99, 107, 115, 123, 131, 143, 155, 166, 177, 182, 192, 202] 75 99 108 h3 (by decide +kernel) (by decide) (by decide) (by decide +kernel) (by decide) ?_
          refine sim_blk0 hC [(.aload_n 0, 0, 0, 0, 0), (.getfield 38, 42, 5, 58, 0), (.getfield 134, 56, 3, 0, 0)] [(0, vR 42), (1, vI a1), (2, vR 65)] [vI (w 56 3)] w 115 (by decide +kernel) rfl rfl ?_
          exact sim_rett hC (by decide +kernel) trivial
        · refine sim_cases (fun h4 => ?_) (fun h4 => ?_)
          · refine sim_case hC 212 0 14 #[75, 83, 91, 99, 107, 115, 123, 131, 143, 155, 166, 177, 182, 192, 202] 75 107 116 h4 (by decide +kernel) (by decide) (by decide) (by decide +kernel) (by decide) ?_
            refine sim_blk1 hC [(.aload_n 2, 0, 0, 0, 0), (.getfield 137, 65, 0, 68, 0), (.bipush 52, 0, 0, 0, 52), (.iaload, 66, 53, 0, 0)] [(0, vR 42), (1, vI a1), (2, vR 65)] [vI (w 66 (Int32.toNatClampNeg 52))] w 123 (by decide +kernel) rfl rfl ?_
            exact sim_rett hC (by decide +kernel) trivial
          · refine sim_cases (fun h5 => ?_) (fun h5 => ?_)
            · refine sim_case hC 212 0 14 #[75, 83, 91, 99, 107, 115, 123, 131, 143, 155, 166, 177, 182, 192, 202] 75 115 124 h5 (by decide +kernel) (by decide) (by decide) (by decide +kernel) (by decide) ?_
              refine sim_blk1 hC [(.aload_n 2, 0, 0, 0, 0), (.getfield 137, 65, 0, 68, 0), (.bipush 51, 0, 0, 0, 51), (.iaload, 66, 53, 0, 0)] [(0, vR 42), (1, vI a1), (2, vR 65)] [vI (w 66 (Int32.toNatClampNeg 51))] w 131 (by decide +kernel) rfl rfl ?_
              exact sim_rett hC (by decide +kernel) trivial
            · refine sim_cases (fun h6 => ?_) (fun h6 => ?_)
              · refine sim_case hC 212 0 14 #[75, 83, 91, 99, 107, 115, 123, 131, 143, 155, 166, 177, 182, 192, 202] 75 123 132 h6 (by decide +kernel) (by decide) (by decide) (by decide +kernel) (by decide) ?_
                refine sim_blk1 hC [(.aload_n 2, 0, 0, 0, 0), (.getfield 137, 65, 0, 68, 0), (.bipush 50, 0, 0, 0, 50), (.iaload, 66, 53, 0, 0)] [(0, vR 42), (1, vI a1), (2, vR 65)] [vI (w 66 (Int32.toNatClampNeg 50))] w 139 (by decide +kernel) rfl rfl ?_
                exact sim_rett hC (by decide +kernel) trivial
              · refine sim_cases (fun h7 => ?_) (fun h7 => ?_)
                · refine sim_case hC 212 0 14 #[75, 83, 91, 99, 107, 115, 123, 131, 143, 155, 166, 177, 182, 192, 202] 75 131 140 h7 (by decide +kernel) (by decide) (by decide) (by decide +kernel) (by decide) ?_
                  refine sim_blk0 hC [(.aload_n 2, 0, 0, 0, 0), (.aload_n 0, 0, 0, 0, 0), (.getfield 38, 42, 5, 58, 0), (.getfield 128, 56, 1, 0, 0)] [(0, vR 42), (1, vI a1), (2, vR 65)] [vI (w 56 1), vR 65] w 148 (by decide +kernel) rfl rfl ?_
                  refine sim_vp hC 140 mX7_alone 1 0 65 [vI (w 56 1)] [] (by decide +kernel) ml_9_140 rfl rfl rfl rfl rfl rfl (fun rz hz => c_State_alone_65 w (w 56 1) rz hz) (fun i1 => ?_)
                  exact sim_rett hC (by decide +kernel) trivial
                · refine sim_cases (fun h8 => ?_) (fun h8 => ?_)
                  · refine sim_case hC 212 0 14 #[75, 83, 91, 99, 107, 115, 123, 131, 143, 155, 166, 177, 182, 192, 202] 75 143 152 h8 (by decide +kernel) (by decide) (by decide) (by decide +kernel) (by decide) ?_
                    refine sim_blk0 hC [(.aload_n 2, 0, 0, 0, 0), (.aload_n 0, 0, 0, 0, 0), (.getfield 38, 42, 5, 58, 0), (.getfield 128, 56, 1, 0, 0)] [(0, vR 42), (1, vI a1), (2, vR 65)] [vI (w 56 1), vR 65] w 160 (by decide +kernel) rfl rfl ?_
                    refine sim_vp hC 144 mX7_metCouples 2 20 65 [vI (w 56 1)] [] (by decide +kernel) ml_9_144 rfl rfl rfl rfl rfl rfl (fun rz hz => c_State_metCouples_65 w (w 56 1) rz hz) (fun i2 => ?_)
                    exact sim_rett hC (by decide +kernel) trivial
                  · refine sim_cases (fun h9 => ?_) (fun h9 => ?_)
                    · refine sim_case hC 212 0 14 #[75, 83, 91, 99, 107, 115, 123, 131, 143, 155, 166, 177, 182, 192, 202] 75 155 164 h9 (by decide +kernel) (by decide) (by decide) (by decide +kernel) (by decide) ?_
                      refine sim_blk0 hC [(.aload_n 0, 0, 0, 0, 0), (.getfield 42, 42, 6, 66, 0), (.getfield 109, 64, 1, 69, 0), (.getfield 147, 67, 2, 0, 0)] [(0, vR 42), (1, vI a1), (2, vR 65)] [vI (w 67 2)] w 174 (by decide +kernel) rfl rfl ?_
                      exact sim_rett hC (by decide +kernel) trivial
                    · refine sim_cases (fun h10 => ?_) (fun h10 => ?_)
                      · refine sim_case hC 212 0 14 #[75, 83, 91, 99, 107, 115, 123, 131, 143, 155, 166, 177, 182, 192, 202] 75 166 175 h10 (by decide +kernel) (by decide) (by decide) (by decide +kernel) (by decide) ?_
                        refine sim_blk0 hC [(.aload_n 0, 0, 0, 0, 0), (.getfield 42, 42, 6, 66, 0), (.getfield 118, 64, 2, 71, 0), (.getfield 150, 69, 3, 0, 0)] [(0, vR 42), (1, vI a1), (2, vR 65)] [vI (w 69 3)] w 185 (by decide +kernel) rfl rfl ?_
                        exact sim_rett hC (by decide +kernel) trivial
                      · refine sim_cases (fun h11 => ?_) (fun h11 => ?_)
                        · refine sim_case hC 212 0 14 #[75, 83, 91, 99, 107, 115, 123, 131, 143, 155, 166, 177, 182, 192, 202] 75 177 186 h11 (by decide +kernel) (by decide) (by decide) (by decide +kernel) (by decide) ?_
                          refine sim_blk0 hC [(.aload_n 0, 0, 0, 0, 0), (.getfield 13, 42, 1, 0, 0)] [(0, vR 42), (1, vI a1), (2, vR 65)] [vI (w 42 1)] w 190 (by decide +kernel) rfl rfl ?_
                          exact sim_rett hC (by decide +kernel) trivial
                        · refine sim_cases (fun h12 => ?_) (fun h12 => ?_)
                          · refine sim_case hC 212 0 14 #[75, 83, 91, 99, 107, 115, 123, 131, 143, 155, 166, 177, 182, 192, 202] 75 182 191 h12 (by decide +kernel) (by decide) (by decide) (by decide +kernel) (by decide) ?_
                            refine sim_blk1 hC [(.aload_n 0, 0, 0, 0, 0), (.getfield 42, 42, 6, 66, 0), (.getfield 88, 64, 3, 75, 0), (.iconst 0, 0, 0, 0, 0), (.iaload, 73, 3, 0, 0)] [(0, vR 42), (1, vI a1), (2, vR 65)] [vI (w 73 (Int32.toNatClampNeg 0))] w 200 (by decide +kernel) rfl rfl ?_
                            exact sim_rett hC (by decide +kernel) trivial
                          · refine sim_cases (fun h13 => ?_) (fun h13 => ?_)
                            · refine sim_case hC 212 0 14 #[75, 83, 91, 99, 107, 115, 123, 131, 143, 155, 166, 177, 182, 192, 202] 75 192 201 h13 (by decide +kernel) (by decide) (by decide) (by decide +kernel) (by decide) ?_
                              refine sim_blk1 hC [(.aload_n 0, 0, 0, 0, 0), (.getfield 42, 42, 6, 66, 0), (.getfield 88, 64, 3, 75, 0), (.iconst 1, 0, 0, 0, 1), (.iaload, 73, 3, 0, 0)] [(0, vR 42), (1, vI a1), (2, vR 65)] [vI (w 73 (Int32.toNatClampNeg 1))] w 210 (by decide +kernel) rfl rfl ?_
                              exact sim_rett hC (by decide +kernel) trivial
                            · refine sim_cases (fun h14 => ?_) (fun h14 => ?_)
                              · refine sim_case hC 212 0 14 #[75, 83, 91, 99, 107, 115, 123, 131, 143, 155, 166, 177, 182, 192, 202] 75 202 211 h14 (by decide +kernel) (by decide) (by decide) (by decide +kernel) (by decide) ?_
                                refine sim_blk1 hC [(.aload_n 0, 0, 0, 0, 0), (.getfield 42, 42, 6, 66, 0), (.getfield 88, 64, 3, 75, 0), (.iconst 2, 0, 0, 0, 2), (.iaload, 73, 3, 0, 0)] [(0, vR 42), (1, vI a1), (2, vR 65)] [vI (w 73 (Int32.toNatClampNeg 2))] w 220 (by decide +kernel) rfl rfl ?_
                                exact sim_rett hC (by decide +kernel) trivial
                              · refine sim_dflt hC 212 0 14 #[75, 83, 91, 99, 107, 115, 123, 131, 143, 155, 166, 177, 182, 192, 202] 75 221 (by decide +kernel) (sw_out [0, 1, 2, 3, 4, 5, 6, 7, 8, 9, 10, 11, 12, 13, 14] 0 14 (by decide +kernel) (List.forall_mem_cons.mpr ⟨h0, List.forall_mem_cons.mpr ⟨h1, List.forall_mem_cons.mpr ⟨h2, List.forall_mem_cons.mpr ⟨h3, List.forall_mem_cons.mpr ⟨h4, List.forall_mem_cons.mpr ⟨h5, List.forall_mem_cons.mpr ⟨h6, List.forall_mem_cons.mpr ⟨h7, List.forall_mem_cons.mpr ⟨h8, List.forall_mem_cons.mpr ⟨h9, List.forall_mem_cons.mpr ⟨h10, List.forall_mem_cons.mpr ⟨h11, List.forall_mem_cons.mpr ⟨h12, List.forall_mem_cons.mpr ⟨h13, List.forall_mem_cons.mpr ⟨h14, fun _ h => absurd h List.not_mem_nil⟩⟩⟩⟩⟩⟩⟩⟩⟩⟩⟩⟩⟩⟩⟩)) (by decide) ?_
                                exact sim_thrt hC 151 153 0 (by decide +kernel) (by decide +kernel) (by decide +kernel) (by decide +kernel) rfl rfl rfl rfl
theorem c_C_count {Z : ZT} {l : Launch} (w : Wld) (a1 : Int32) (q : Oc) (w1 : Wld) (h : F_C_count w a1 = some (q, w1)) : Con Z l mX10_count 6 89 [vR 42, vI a1] w q w1 :=
  Con_of (oc := 9) (by decide +kernel) rfl rfl (fun Ok hC => s_C_count hC w a1 (q, w1) h ⟨rfl, rfl⟩)
noncomputable def K_C_needRoom_15 (w : Wld) : Option (Option Nat) :=
  some (some 0)
set_option maxRecDepth 10000 in
theorem s_K_C_needRoom_15 {Z : ZT} {l : Launch} {o : Oc} {wo : Wld} {Ok : Cfg → Prop} (hC : Clo Z l 9 2 prog_1_method_66_code none 6 89 o wo Ok) (w : Wld) : SimK Ok (15, [], [], w) (K_C_needRoom_15 w) (Gn o wo w) := by
  unfold K_C_needRoom_15
  exact sim_thrn hC 151 153 0 (by decide +kernel) (by decide +kernel) (by decide +kernel) (by decide +kernel) rfl rfl rfl rfl
noncomputable def F_C_needRoom (w : Wld) (a1 : Int32) : Option (Option Nat) :=
  br (a1 < 0) (K_C_needRoom_15 w) (br (a1 < (w 56 0)) (some none) (K_C_needRoom_15 w))
set_option maxRecDepth 10000 in
theorem s_C_needRoom {Z : ZT} {l : Launch} {o : Oc} {wo : Wld} {Ok : Cfg → Prop} (hC : Clo Z l 9 2 prog_1_method_66_code none 6 89 o wo Ok) (w : Wld) (a1 : Int32) : SimK Ok (0, [(0, vR 42), (1, vI a1)], [], w) (F_C_needRoom w a1) (Gn o wo w) := by
  unfold F_C_needRoom
  refine sim_blk0 hC [(.iload_n 1, 0, 0, 0, 0)] [(0, vR 42), (1, vI a1)] [vI a1] w 1 (by decide +kernel) rfl rfl ?_
  refine sim_br hC (.ifCond .lt 14) 15 (by decide +kernel) rfl (by decide) ?_ ?_
  · refine sim_sub hC [] ?_
    exact s_K_C_needRoom_15 hC w
  · refine sim_blk0 hC [(.iload_n 1, 0, 0, 0, 0), (.aload_n 0, 0, 0, 0, 0), (.getfield 38, 42, 5, 58, 0), (.getfield 125, 56, 0, 0, 0)] [(0, vR 42), (1, vI a1)] [vI (w 56 0), vI a1] w 12 (by decide +kernel) rfl rfl ?_
    refine sim_br hC (.if_icmp .lt 11) 23 (by decide +kernel) rfl (by decide) ?_ ?_
    · exact sim_retn hC (by decide +kernel)
    · refine sim_sub hC [] ?_
      exact s_K_C_needRoom_15 hC w
theorem c_C_needRoom {Z : ZT} {l : Launch} (w : Wld) (a1 : Int32) (q : Option Nat) (h : F_C_needRoom w a1 = some q) : Con Z l mX10_needRoom 6 89 [vR 42, vI a1] w (ocN q) w :=
  Con_of (oc := 9) (by decide +kernel) rfl rfl (fun Ok hC => s_C_needRoom hC w a1 q h ⟨rfl, rfl⟩)
noncomputable def K_C_needWhat_9 (w : Wld) : Option (Option Nat) :=
  some (some 0)
set_option maxRecDepth 10000 in
theorem s_K_C_needWhat_9 {Z : ZT} {l : Launch} {o : Oc} {wo : Wld} {Ok : Cfg → Prop} (hC : Clo Z l 9 2 prog_1_method_67_code none 6 89 o wo Ok) (w : Wld) : SimK Ok (9, [], [], w) (K_C_needWhat_9 w) (Gn o wo w) := by
  unfold K_C_needWhat_9
  exact sim_thrn hC 151 153 0 (by decide +kernel) (by decide +kernel) (by decide +kernel) (by decide +kernel) rfl rfl rfl rfl
noncomputable def F_C_needWhat (w : Wld) (a0 : Int32) (a1 : Int32) : Option (Option Nat) :=
  br (a0 < 0) (K_C_needWhat_9 w) (br (a0 ≤ a1) (some none) (K_C_needWhat_9 w))
set_option maxRecDepth 10000 in
theorem s_C_needWhat {Z : ZT} {l : Launch} {o : Oc} {wo : Wld} {Ok : Cfg → Prop} (hC : Clo Z l 9 2 prog_1_method_67_code none 6 89 o wo Ok) (w : Wld) (a0 : Int32) (a1 : Int32) : SimK Ok (0, [(0, vI a0), (1, vI a1)], [], w) (F_C_needWhat w a0 a1) (Gn o wo w) := by
  unfold F_C_needWhat
  refine sim_blk0 hC [(.iload_n 0, 0, 0, 0, 0)] [(0, vI a0), (1, vI a1)] [vI a0] w 1 (by decide +kernel) rfl rfl ?_
  refine sim_br hC (.ifCond .lt 8) 9 (by decide +kernel) rfl (by decide) ?_ ?_
  · refine sim_sub hC [] ?_
    exact s_K_C_needWhat_9 hC w
  · refine sim_blk0 hC [(.iload_n 0, 0, 0, 0, 0), (.iload_n 1, 0, 0, 0, 0)] [(0, vI a0), (1, vI a1)] [vI a1, vI a0] w 6 (by decide +kernel) rfl rfl ?_
    refine sim_br hC (.if_icmp .le 11) 17 (by decide +kernel) rfl (by decide) ?_ ?_
    · exact sim_retn hC (by decide +kernel)
    · refine sim_sub hC [] ?_
      exact s_K_C_needWhat_9 hC w
theorem c_C_needWhat {Z : ZT} {l : Launch} (w : Wld) (a0 : Int32) (a1 : Int32) (q : Option Nat) (h : F_C_needWhat w a0 a1 = some q) : Con Z l mX10_needWhat 6 89 [vI a0, vI a1] w (ocN q) w :=
  Con_of (oc := 9) (by decide +kernel) rfl rfl (fun Ok hC => s_C_needWhat hC w a0 a1 q h ⟨rfl, rfl⟩)
noncomputable def F_C_room (w : Wld) (a1 : Int32) (a2 : Int32) : Option (Oc × Wld) :=
  bn (F_C_needRoom w a1) w (bn (F_C_needWhat w a2 3) w (br (a2 = 0) (gd (vp_in a1 9) (some ((.inr (some (w 57 (Int32.toNatClampNeg a1))), w)))) (br (a2 = 1) (gd (vp_in ((32 : Int32) + a1) 53) (some ((.inr (some (w 66 (Int32.toNatClampNeg ((32 : Int32) + a1)))), w)))) (br (a2 = 2) (gd (vp_in ((41 : Int32) + a1) 53) (some ((.inr (some (w 66 (Int32.toNatClampNeg ((41 : Int32) + a1)))), w)))) (bp (F_State_within_65 w a1 (w 56 1)) (fun i1 => some ((.inr (some i1), w))))))))
set_option maxRecDepth 10000 in
theorem s_C_room {Z : ZT} {l : Launch} {o : Oc} {wo : Wld} {Ok : Cfg → Prop} (hC : Clo Z l 9 3 prog_1_method_7_code (some .int) 7 110 o wo Ok) (w : Wld) (a1 : Int32) (a2 : Int32) : SimK Ok (0, [(0, vR 42), (1, vI a1), (2, vI a2)], [], w) (F_C_room w a1 a2) (Gt o wo) := by
  unfold F_C_room
  refine sim_blk0 hC [(.aload_n 0, 0, 0, 0, 0), (.iload_n 1, 0, 0, 0, 0)] [(0, vR 42), (1, vI a1), (2, vI a2)] [vI a1, vR 42] w 2 (by decide +kernel) rfl rfl ?_
  refine sim_vn hC 154 mX10_needRoom 6 89 42 [vI a1] [] (by decide +kernel) ml_9_154 rfl rfl rfl rfl rfl rfl (fun qz hz => c_C_needRoom w a1 qz hz) ?_
  refine sim_blk0 hC [(.iload_n 2, 0, 0, 0, 0), (.iconst 3, 0, 0, 0, 3)] [(0, vR 42), (1, vI a1), (2, vI a2)] [vI 3, vI a2] w 7 (by decide +kernel) rfl rfl ?_
  refine sim_sn hC 157 mX10_needWhat 6 89 [vI a2, vI 3] [] (by decide +kernel) ml_9_157 rfl rfl rfl rfl rfl (fun qz hz => c_C_needWhat w a2 3 qz hz) ?_
  refine sim_blk0 hC [(.iload_n 2, 0, 0, 0, 0)] [(0, vR 42), (1, vI a1), (2, vI a2)] [vI a2] w 11 (by decide +kernel) rfl rfl ?_
  refine sim_cases (fun h0 => ?_) (fun h0 => ?_)
  · refine sim_case hC 67 0 2 #[25, 35, 51] 25 25 36 h0 (by decide +kernel) (by decide) (by decide) (by decide +kernel) (by decide) ?_
    refine sim_blk1 hC [(.aload_n 0, 0, 0, 0, 0), (.getfield 38, 42, 5, 58, 0), (.getfield 161, 56, 4, 59, 0), (.iload_n 1, 0, 0, 0, 0), (.iaload, 57, 9, 0, 0)] [(0, vR 42), (1, vI a1), (2, vI a2)] [vI (w 57 (Int32.toNatClampNeg a1))] w 45 (by decide +kernel) rfl rfl ?_
    exact sim_rett hC (by decide +kernel) trivial
  · refine sim_cases (fun h1 => ?_) (fun h1 => ?_)
    · refine sim_case hC 67 0 2 #[25, 35, 51] 25 35 46 h1 (by decide +kernel) (by decide) (by decide) (by decide +kernel) (by decide) ?_
      refine sim_blk1 hC [(.aload_n 0, 0, 0, 0, 0), (.getfield 42, 42, 6, 66, 0), (.getfield 100, 64, 0, 67, 0), (.getfield 137, 65, 0, 68, 0), (.bipush 32, 0, 0, 0, 32), (.iload_n 1, 0, 0, 0, 0), (.iadd, 0, 0, 0, 0), (.iaload, 66, 53, 0, 0)] [(0, vR 42), (1, vI a1), (2, vI a2)] [vI (w 66 (Int32.toNatClampNeg ((32 : Int32) + a1)))] w 61 (by decide +kernel) rfl rfl ?_
      exact sim_rett hC (by decide +kernel) trivial
    · refine sim_cases (fun h2 => ?_) (fun h2 => ?_)
      · refine sim_case hC 67 0 2 #[25, 35, 51] 25 51 62 h2 (by decide +kernel) (by decide) (by decide) (by decide +kernel) (by decide) ?_
        refine sim_blk1 hC [(.aload_n 0, 0, 0, 0, 0), (.getfield 42, 42, 6, 66, 0), (.getfield 100, 64, 0, 67, 0), (.getfield 137, 65, 0, 68, 0), (.bipush 41, 0, 0, 0, 41), (.iload_n 1, 0, 0, 0, 0), (.iadd, 0, 0, 0, 0), (.iaload, 66, 53, 0, 0)] [(0, vR 42), (1, vI a1), (2, vI a2)] [vI (w 66 (Int32.toNatClampNeg ((41 : Int32) + a1)))] w 77 (by decide +kernel) rfl rfl ?_
        exact sim_rett hC (by decide +kernel) trivial
      · refine sim_dflt hC 67 0 2 #[25, 35, 51] 25 78 (by decide +kernel) (sw_out [0, 1, 2] 0 2 (by decide +kernel) (List.forall_mem_cons.mpr ⟨h0, List.forall_mem_cons.mpr ⟨h1, List.forall_mem_cons.mpr ⟨h2, fun _ h => absurd h List.not_mem_nil⟩⟩⟩)) (by decide) ?_
        refine sim_blk0 hC [(.aload_n 0, 0, 0, 0, 0), (.getfield 42, 42, 6, 66, 0), (.getfield 100, 64, 0, 67, 0), (.iload_n 1, 0, 0, 0, 0), (.aload_n 0, 0, 0, 0, 0), (.getfield 38, 42, 5, 58, 0), (.getfield 128, 56, 1, 0, 0)] [(0, vR 42), (1, vI a1), (2, vI a2)] [vI (w 56 1), vI a1, vR 65] w 93 (by decide +kernel) rfl rfl ?_
        refine sim_vp hC 164 mX7_within 1 0 65 [vI a1, vI (w 56 1)] [] (by decide +kernel) ml_9_164 rfl rfl rfl rfl rfl rfl (fun rz hz => c_State_within_65 w a1 (w 56 1) rz hz) (fun i1 => ?_)
        exact sim_rett hC (by decide +kernel) trivial
theorem c_C_room {Z : ZT} {l : Launch} (w : Wld) (a1 : Int32) (a2 : Int32) (q : Oc) (w1 : Wld) (h : F_C_room w a1 a2 = some (q, w1)) : Con Z l mX10_room 7 110 [vR 42, vI a1, vI a2] w q w1 :=
  Con_of (oc := 9) (by decide +kernel) rfl rfl (fun Ok hC => s_C_room hC w a1 a2 (q, w1) h ⟨rfl, rfl⟩)
noncomputable def K_C_needMonk_15 (w : Wld) : Option (Option Nat) :=
  some (some 0)
set_option maxRecDepth 10000 in
theorem s_K_C_needMonk_15 {Z : ZT} {l : Launch} {o : Oc} {wo : Wld} {Ok : Cfg → Prop} (hC : Clo Z l 9 2 prog_1_method_65_code none 6 89 o wo Ok) (w : Wld) : SimK Ok (15, [], [], w) (K_C_needMonk_15 w) (Gn o wo w) := by
  unfold K_C_needMonk_15
  exact sim_thrn hC 151 153 0 (by decide +kernel) (by decide +kernel) (by decide +kernel) (by decide +kernel) rfl rfl rfl rfl
noncomputable def F_C_needMonk (w : Wld) (a1 : Int32) : Option (Option Nat) :=
  br (a1 < 0) (K_C_needMonk_15 w) (br (a1 < (w 56 1)) (some none) (K_C_needMonk_15 w))
set_option maxRecDepth 10000 in
theorem s_C_needMonk {Z : ZT} {l : Launch} {o : Oc} {wo : Wld} {Ok : Cfg → Prop} (hC : Clo Z l 9 2 prog_1_method_65_code none 6 89 o wo Ok) (w : Wld) (a1 : Int32) : SimK Ok (0, [(0, vR 42), (1, vI a1)], [], w) (F_C_needMonk w a1) (Gn o wo w) := by
  unfold F_C_needMonk
  refine sim_blk0 hC [(.iload_n 1, 0, 0, 0, 0)] [(0, vR 42), (1, vI a1)] [vI a1] w 1 (by decide +kernel) rfl rfl ?_
  refine sim_br hC (.ifCond .lt 14) 15 (by decide +kernel) rfl (by decide) ?_ ?_
  · refine sim_sub hC [] ?_
    exact s_K_C_needMonk_15 hC w
  · refine sim_blk0 hC [(.iload_n 1, 0, 0, 0, 0), (.aload_n 0, 0, 0, 0, 0), (.getfield 38, 42, 5, 58, 0), (.getfield 128, 56, 1, 0, 0)] [(0, vR 42), (1, vI a1)] [vI (w 56 1), vI a1] w 12 (by decide +kernel) rfl rfl ?_
    refine sim_br hC (.if_icmp .lt 11) 23 (by decide +kernel) rfl (by decide) ?_ ?_
    · exact sim_retn hC (by decide +kernel)
    · refine sim_sub hC [] ?_
      exact s_K_C_needMonk_15 hC w
theorem c_C_needMonk {Z : ZT} {l : Launch} (w : Wld) (a1 : Int32) (q : Option Nat) (h : F_C_needMonk w a1 = some q) : Con Z l mX10_needMonk 6 89 [vR 42, vI a1] w (ocN q) w :=
  Con_of (oc := 9) (by decide +kernel) rfl rfl (fun Ok hC => s_C_needMonk hC w a1 q h ⟨rfl, rfl⟩)
noncomputable def K_C_monk_118 (t0 : Int32) (w : Wld) : Option (Oc × Wld) :=
  some ((.inr (some t0), w))
set_option maxRecDepth 10000 in
theorem s_K_C_monk_118 {Z : ZT} {l : Launch} {o : Oc} {wo : Wld} {Ok : Cfg → Prop} (hC : Clo Z l 9 4 prog_1_method_8_code (some .int) 7 110 o wo Ok) (t0 : Int32) (w : Wld) : SimK Ok (118, [], [vI t0], w) (K_C_monk_118 t0 w) (Gt o wo) := by
  unfold K_C_monk_118
  exact sim_rett hC (by decide +kernel) trivial
noncomputable def F_C_monk (w : Wld) (a1 : Int32) (a2 : Int32) : Option (Oc × Wld) :=
  bn (F_C_needMonk w a1) w (bn (F_C_needWhat w a2 5) w (br (a2 = 0) (gd (vp_in a1 8) (some ((.inr (some (w 58 (Int32.toNatClampNeg a1))), w)))) (br (a2 = 1) (gd (vp_in ((0 : Int32) + a1) 53) (some ((.inr (some (w 66 (Int32.toNatClampNeg ((0 : Int32) + a1)))), w)))) (br (a2 = 2) (gd (vp_in ((8 : Int32) + a1) 53) (some ((.inr (some (w 66 (Int32.toNatClampNeg ((8 : Int32) + a1)))), w)))) (br (a2 = 3) (gd (vp_in ((16 : Int32) + a1) 53) (some ((.inr (some (w 66 (Int32.toNatClampNeg ((16 : Int32) + a1)))), w)))) (br (a2 = 4) (gd (vp_in ((24 : Int32) + a1) 53) (some ((.inr (some (w 66 (Int32.toNatClampNeg ((24 : Int32) + a1)))), w)))) (bd (F_Night_rises_55_65 w a1) (fun i1 w2 => br (i1 = 0) (K_C_monk_118 0 w2) (K_C_monk_118 1 w2)))))))))
set_option maxRecDepth 10000 in
theorem s_C_monk {Z : ZT} {l : Launch} {o : Oc} {wo : Wld} {Ok : Cfg → Prop} (hC : Clo Z l 9 4 prog_1_method_8_code (some .int) 7 110 o wo Ok) (w : Wld) (a1 : Int32) (a2 : Int32) : SimK Ok (0, [(0, vR 42), (1, vI a1), (2, vI a2)], [], w) (F_C_monk w a1 a2) (Gt o wo) := by
  unfold F_C_monk
  refine sim_blk0 hC [(.aload_n 0, 0, 0, 0, 0), (.iload_n 1, 0, 0, 0, 0)] [(0, vR 42), (1, vI a1), (2, vI a2)] [vI a1, vR 42] w 2 (by decide +kernel) rfl rfl ?_
  refine sim_vn hC 168 mX10_needMonk 6 89 42 [vI a1] [] (by decide +kernel) ml_9_168 rfl rfl rfl rfl rfl rfl (fun qz hz => c_C_needMonk w a1 qz hz) ?_
  refine sim_blk0 hC [(.iload_n 2, 0, 0, 0, 0), (.iconst 5, 0, 0, 0, 5)] [(0, vR 42), (1, vI a1), (2, vI a2)] [vI 5, vI a2] w 7 (by decide +kernel) rfl rfl ?_
  refine sim_sn hC 157 mX10_needWhat 6 89 [vI a2, vI 5] [] (by decide +kernel) ml_9_157 rfl rfl rfl rfl rfl (fun qz hz => c_C_needWhat w a2 5 qz hz) ?_
  refine sim_blk0 hC [(.aload_n 0, 0, 0, 0, 0), (.getfield 42, 42, 6, 66, 0), (.getfield 100, 64, 0, 67, 0), (.astore_n 3, 0, 0, 0, 0), (.iload_n 2, 0, 0, 0, 0)] [(0, vR 42), (1, vI a1), (2, vI a2), (3, vR 65)] [vI a2] w 19 (by decide +kernel) rfl rfl ?_
  refine sim_cases (fun h0 => ?_) (fun h0 => ?_)
  · refine sim_case hC 82 0 4 #[33, 43, 52, 62, 72] 33 33 52 h0 (by decide +kernel) (by decide) (by decide) (by decide +kernel) (by decide) ?_
    refine sim_blk1 hC [(.aload_n 0, 0, 0, 0, 0), (.getfield 38, 42, 5, 58, 0), (.getfield 171, 56, 5, 60, 0), (.iload_n 1, 0, 0, 0, 0), (.iaload, 58, 8, 0, 0)] [(0, vR 42), (1, vI a1), (2, vI a2), (3, vR 65)] [vI (w 58 (Int32.toNatClampNeg a1))] w 61 (by decide +kernel) rfl rfl ?_
    exact sim_rett hC (by decide +kernel) trivial
  · refine sim_cases (fun h1 => ?_) (fun h1 => ?_)
    · refine sim_case hC 82 0 4 #[33, 43, 52, 62, 72] 33 43 62 h1 (by decide +kernel) (by decide) (by decide) (by decide +kernel) (by decide) ?_
      refine sim_blk1 hC [(.aload_n 3, 0, 0, 0, 0), (.getfield 137, 65, 0, 68, 0), (.iconst 0, 0, 0, 0, 0), (.iload_n 1, 0, 0, 0, 0), (.iadd, 0, 0, 0, 0), (.iaload, 66, 53, 0, 0)] [(0, vR 42), (1, vI a1), (2, vI a2), (3, vR 65)] [vI (w 66 (Int32.toNatClampNeg ((0 : Int32) + a1)))] w 70 (by decide +kernel) rfl rfl ?_
      exact sim_rett hC (by decide +kernel) trivial
    · refine sim_cases (fun h2 => ?_) (fun h2 => ?_)
      · refine sim_case hC 82 0 4 #[33, 43, 52, 62, 72] 33 52 71 h2 (by decide +kernel) (by decide) (by decide) (by decide +kernel) (by decide) ?_
        refine sim_blk1 hC [(.aload_n 3, 0, 0, 0, 0), (.getfield 137, 65, 0, 68, 0), (.bipush 8, 0, 0, 0, 8), (.iload_n 1, 0, 0, 0, 0), (.iadd, 0, 0, 0, 0), (.iaload, 66, 53, 0, 0)] [(0, vR 42), (1, vI a1), (2, vI a2), (3, vR 65)] [vI (w 66 (Int32.toNatClampNeg ((8 : Int32) + a1)))] w 80 (by decide +kernel) rfl rfl ?_
        exact sim_rett hC (by decide +kernel) trivial
      · refine sim_cases (fun h3 => ?_) (fun h3 => ?_)
        · refine sim_case hC 82 0 4 #[33, 43, 52, 62, 72] 33 62 81 h3 (by decide +kernel) (by decide) (by decide) (by decide +kernel) (by decide) ?_
          refine sim_blk1 hC [(.aload_n 3, 0, 0, 0, 0), (.getfield 137, 65, 0, 68, 0), (.bipush 16, 0, 0, 0, 16), (.iload_n 1, 0, 0, 0, 0), (.iadd, 0, 0, 0, 0), (.iaload, 66, 53, 0, 0)] [(0, vR 42), (1, vI a1), (2, vI a2), (3, vR 65)] [vI (w 66 (Int32.toNatClampNeg ((16 : Int32) + a1)))] w 90 (by decide +kernel) rfl rfl ?_
          exact sim_rett hC (by decide +kernel) trivial
        · refine sim_cases (fun h4 => ?_) (fun h4 => ?_)
          · refine sim_case hC 82 0 4 #[33, 43, 52, 62, 72] 33 72 91 h4 (by decide +kernel) (by decide) (by decide) (by decide +kernel) (by decide) ?_
            refine sim_blk1 hC [(.aload_n 3, 0, 0, 0, 0), (.getfield 137, 65, 0, 68, 0), (.bipush 24, 0, 0, 0, 24), (.iload_n 1, 0, 0, 0, 0), (.iadd, 0, 0, 0, 0), (.iaload, 66, 53, 0, 0)] [(0, vR 42), (1, vI a1), (2, vI a2), (3, vR 65)] [vI (w 66 (Int32.toNatClampNeg ((24 : Int32) + a1)))] w 100 (by decide +kernel) rfl rfl ?_
            exact sim_rett hC (by decide +kernel) trivial
          · refine sim_dflt hC 82 0 4 #[33, 43, 52, 62, 72] 33 101 (by decide +kernel) (sw_out [0, 1, 2, 3, 4] 0 4 (by decide +kernel) (List.forall_mem_cons.mpr ⟨h0, List.forall_mem_cons.mpr ⟨h1, List.forall_mem_cons.mpr ⟨h2, List.forall_mem_cons.mpr ⟨h3, List.forall_mem_cons.mpr ⟨h4, fun _ h => absurd h List.not_mem_nil⟩⟩⟩⟩⟩)) (by decide) ?_
            refine sim_blk0 hC [(.aload_n 0, 0, 0, 0, 0), (.getfield 30, 42, 4, 57, 0), (.aload_n 3, 0, 0, 0, 0), (.iload_n 1, 0, 0, 0, 0)] [(0, vR 42), (1, vI a1), (2, vI a2), (3, vR 65)] [vI a1, vR 65, vR 55] w 107 (by decide +kernel) rfl rfl ?_
            refine sim_vd hC 174 mX4_rises 3 47 55 [vR 65, vI a1] [] (by decide +kernel) ml_9_174 rfl rfl rfl rfl rfl rfl (fun rz wz hz => c_Night_rises_55_65 w a1 rz wz hz) (fun i1 w2 => ?_)
            refine sim_br hC (.ifCond .eq 7) 117 (by decide +kernel) rfl (by decide) ?_ ?_
            · refine sim_blk0 hC [(.iconst 0, 0, 0, 0, 0)] [(0, vR 42), (1, vI a1), (2, vI a2), (3, vR 65)] [vI 0] w2 118 (by decide +kernel) rfl rfl ?_
              refine sim_sub hC [] ?_
              exact s_K_C_monk_118 hC 0 w2
            · refine sim_blk0 hC [(.iconst 1, 0, 0, 0, 1)] [(0, vR 42), (1, vI a1), (2, vI a2), (3, vR 65)] [vI 1] w2 114 (by decide +kernel) rfl rfl ?_
              refine sim_goto hC 4 118 (by decide +kernel) (by decide) ?_
              refine sim_sub hC [] ?_
              exact s_K_C_monk_118 hC 1 w2
theorem c_C_monk {Z : ZT} {l : Launch} (w : Wld) (a1 : Int32) (a2 : Int32) (q : Oc) (w1 : Wld) (h : F_C_monk w a1 a2 = some (q, w1)) : Con Z l mX10_monk 7 110 [vR 42, vI a1, vI a2] w q w1 :=
  Con_of (oc := 9) (by decide +kernel) rfl rfl (fun Ok hC => s_C_monk hC w a1 a2 (q, w1) h ⟨rfl, rfl⟩)
noncomputable def F_State_addFish_65 (w : Wld) (a1 : Int32) (a2 : Int32) : Option (Wld) :=
  gd (vp_in ((8 : Int32) + a1) 53) (gd (vp_in ((8 : Int32) + a1) 53) (bw (wup w 66 (Int32.toNatClampNeg ((8 : Int32) + a1)) (imin 9 ((w 66 (Int32.toNatClampNeg ((8 : Int32) + a1))) + a2))) (fun w1 => some w1)))
set_option maxRecDepth 10000 in
theorem s_State_addFish_65 {Z : ZT} {l : Launch} {o : Oc} {wo : Wld} {Ok : Cfg → Prop} (hC : Clo Z l 7 3 prog_9_method_4_code none 1 21 o wo Ok) (w : Wld) (a1 : Int32) (a2 : Int32) : SimK Ok (0, [(0, vR 65), (1, vI a1), (2, vI a2)], [], w) (F_State_addFish_65 w a1 a2) (Gv o wo) := by
  unfold F_State_addFish_65
  refine sim_blk1 hC [(.aload_n 0, 0, 0, 0, 0), (.getfield 11, 65, 0, 68, 0), (.bipush 8, 0, 0, 0, 8), (.iload_n 1, 0, 0, 0, 0), (.iadd, 0, 0, 0, 0), (.bipush 9, 0, 0, 0, 9), (.aload_n 0, 0, 0, 0, 0), (.getfield 11, 65, 0, 68, 0), (.bipush 8, 0, 0, 0, 8), (.iload_n 1, 0, 0, 0, 0), (.iadd, 0, 0, 0, 0), (.iaload, 66, 53, 0, 0), (.iload_n 2, 0, 0, 0, 0), (.iadd, 0, 0, 0, 0)] [(0, vR 65), (1, vI a1), (2, vI a2)] [vI ((w 66 (Int32.toNatClampNeg ((8 : Int32) + a1))) + a2), vI 9, vI ((8 : Int32) + a1), vR 66] w 21 (by decide +kernel) rfl rfl ?_
  refine sim_min hC 27 (by decide +kernel) ml_7_27 rfl rfl rfl ?_
  refine sim_blk1 hC [(.iastore, 66, 53, 0, 0)] [(0, vR 65), (1, vI a1), (2, vI a2)] [] (wup w 66 (Int32.toNatClampNeg ((8 : Int32) + a1)) (imin 9 ((w 66 (Int32.toNatClampNeg ((8 : Int32) + a1))) + a2))) 25 (by decide +kernel) rfl rfl ?_
  refine sim_bw (C := fun w1 => (25, [(0, vR 65), (1, vI a1), (2, vI a2)], [], w1)) (fun w1 => ?_)
  exact sim_retv hC (by decide +kernel)
theorem c_State_addFish_65 {Z : ZT} {l : Launch} (w : Wld) (a1 : Int32) (a2 : Int32) (w1 : Wld) (h : F_State_addFish_65 w a1 a2 = some w1) : Con Z l mX7_addFish 1 21 [vR 65, vI a1, vI a2] w (.inr none) w1 :=
  Con_of (oc := 7) (by decide +kernel) rfl rfl (fun Ok hC => s_State_addFish_65 hC w a1 a2 w1 h ⟨rfl, rfl⟩)
noncomputable def K_C_fish_16 (w : Wld) : Option (Oc × Wld) :=
  bd (F_C_refusedAct w) (fun i1 w2 => some ((.inr (some i1), w2)))
set_option maxRecDepth 10000 in
theorem s_K_C_fish_16 {Z : ZT} {l : Launch} {o : Oc} {wo : Wld} {Ok : Cfg → Prop} (hC : Clo Z l 9 3 prog_1_method_10_code (some .int) 7 110 o wo Ok) (w : Wld) : SimK Ok (16, [(0, vR 42)], [], w) (K_C_fish_16 w) (Gt o wo) := by
  unfold K_C_fish_16
  refine sim_blk0 hC [(.aload_n 0, 0, 0, 0, 0)] [(0, vR 42)] [vR 42] w 17 (by decide +kernel) rfl rfl ?_
  refine sim_vd hC 178 mX10_refusedAct 1 0 42 [] [] (by decide +kernel) ml_9_178 rfl rfl rfl rfl rfl rfl (fun rz wz hz => c_C_refusedAct w rz wz hz) (fun i1 w2 => ?_)
  exact sim_rett hC (by decide +kernel) trivial
noncomputable def F_C_fish (w : Wld) (a1 : Int32) (a2 : Int32) : Option (Oc × Wld) :=
  bn (F_C_needMonk w a1) w (br (a2 < 1) (K_C_fish_16 w) (br (a2 ≤ 9) (bv (F_Acts_keep_67_65 w) (fun w3 => bv (F_State_addFish_65 w3 a1 a2) (fun w4 => gd (vp_in ((8 : Int32) + a1) 53) (some ((.inr (some (w4 66 (Int32.toNatClampNeg ((8 : Int32) + a1)))), w4)))))) (K_C_fish_16 w)))
set_option maxRecDepth 10000 in
theorem s_C_fish {Z : ZT} {l : Launch} {o : Oc} {wo : Wld} {Ok : Cfg → Prop} (hC : Clo Z l 9 3 prog_1_method_10_code (some .int) 7 110 o wo Ok) (w : Wld) (a1 : Int32) (a2 : Int32) : SimK Ok (0, [(0, vR 42), (1, vI a1), (2, vI a2)], [], w) (F_C_fish w a1 a2) (Gt o wo) := by
  unfold F_C_fish
  refine sim_blk0 hC [(.aload_n 0, 0, 0, 0, 0), (.iload_n 1, 0, 0, 0, 0)] [(0, vR 42), (1, vI a1), (2, vI a2)] [vI a1, vR 42] w 2 (by decide +kernel) rfl rfl ?_
  refine sim_vn hC 168 mX10_needMonk 6 89 42 [vI a1] [] (by decide +kernel) ml_9_168 rfl rfl rfl rfl rfl rfl (fun qz hz => c_C_needMonk w a1 qz hz) ?_
  refine sim_blk0 hC [(.iload_n 2, 0, 0, 0, 0), (.iconst 1, 0, 0, 0, 1)] [(0, vR 42), (1, vI a1), (2, vI a2)] [vI 1, vI a2] w 7 (by decide +kernel) rfl rfl ?_
  refine sim_br hC (.if_icmp .lt 9) 16 (by decide +kernel) rfl (by decide) ?_ ?_
  · refine sim_sub hC [0] ?_
    exact s_K_C_fish_16 hC w
  · refine sim_blk0 hC [(.iload_n 2, 0, 0, 0, 0), (.bipush 9, 0, 0, 0, 9)] [(0, vR 42), (1, vI a1), (2, vI a2)] [vI 9, vI a2] w 13 (by decide +kernel) rfl rfl ?_
    refine sim_br hC (.if_icmp .le 8) 21 (by decide +kernel) rfl (by decide) ?_ ?_
    · refine sim_blk0 hC [(.aload_n 0, 0, 0, 0, 0), (.getfield 42, 42, 6, 66, 0), (.getfield 109, 64, 1, 69, 0), (.aload_n 0, 0, 0, 0, 0), (.getfield 42, 42, 6, 66, 0), (.getfield 100, 64, 0, 67, 0)] [(0, vR 42), (1, vI a1), (2, vI a2)] [vR 65, vR 67] w 35 (by decide +kernel) rfl rfl ?_
      refine sim_vv hC 182 mX0_keep 2 60 67 [vR 65] [] (by decide +kernel) ml_9_182 rfl rfl rfl rfl rfl rfl (fun wz hz => c_Acts_keep_67_65 w wz hz) (fun w3 => ?_)
      refine sim_blk0 hC [(.aload_n 0, 0, 0, 0, 0), (.getfield 42, 42, 6, 66, 0), (.getfield 100, 64, 0, 67, 0), (.iload_n 1, 0, 0, 0, 0), (.iload_n 2, 0, 0, 0, 0)] [(0, vR 42), (1, vI a1), (2, vI a2)] [vI a2, vI a1, vR 65] w3 47 (by decide +kernel) rfl rfl ?_
      refine sim_vv hC 188 mX7_addFish 1 21 65 [vI a1, vI a2] [] (by decide +kernel) ml_9_188 rfl rfl rfl rfl rfl rfl (fun wz hz => c_State_addFish_65 w3 a1 a2 wz hz) (fun w4 => ?_)
      refine sim_blk1 hC [(.aload_n 0, 0, 0, 0, 0), (.getfield 42, 42, 6, 66, 0), (.getfield 100, 64, 0, 67, 0), (.getfield 137, 65, 0, 68, 0), (.bipush 8, 0, 0, 0, 8), (.iload_n 1, 0, 0, 0, 0), (.iadd, 0, 0, 0, 0), (.iaload, 66, 53, 0, 0)] [(0, vR 42), (1, vI a1), (2, vI a2)] [vI (w4 66 (Int32.toNatClampNeg ((8 : Int32) + a1)))] w4 65 (by decide +kernel) rfl rfl ?_
      exact sim_rett hC (by decide +kernel) trivial
    · refine sim_sub hC [0] ?_
      exact s_K_C_fish_16 hC w
theorem c_C_fish {Z : ZT} {l : Launch} (w : Wld) (a1 : Int32) (a2 : Int32) (q : Oc) (w1 : Wld) (h : F_C_fish w a1 a2 = some (q, w1)) : Con Z l mX10_fish 7 110 [vR 42, vI a1, vI a2] w q w1 :=
  Con_of (oc := 9) (by decide +kernel) rfl rfl (fun Ok hC => s_C_fish hC w a1 a2 (q, w1) h ⟨rfl, rfl⟩)
noncomputable def F_C_changed (w : Wld) (a1 : Int32) (a2 : Int32) : Option (Int32 × Wld) :=
  gd (vp_in a1 53) (bi (w 66 (Int32.toNatClampNeg a1)) (fun i1 => bv (F_Acts_keep_67_65 w) (fun w2 => gd (vp_in a1 53) (bw (wup w2 66 (Int32.toNatClampNeg a1) a2) (fun w3 => some ((i1, w3)))))))
set_option maxRecDepth 10000 in
theorem s_C_changed {Z : ZT} {l : Launch} {o : Oc} {wo : Wld} {Ok : Cfg → Prop} (hC : Clo Z l 9 4 prog_1_method_18_code (some .int) 3 81 o wo Ok) (w : Wld) (a1 : Int32) (a2 : Int32) : SimK Ok (0, [(0, vR 42), (1, vI a1), (2, vI a2)], [], w) (F_C_changed w a1 a2) (Gi o wo) := by
  unfold F_C_changed
  refine sim_blk1 hC [(.aload_n 0, 0, 0, 0, 0), (.getfield 42, 42, 6, 66, 0), (.getfield 100, 64, 0, 67, 0), (.getfield 137, 65, 0, 68, 0), (.iload_n 1, 0, 0, 0, 0), (.iaload, 66, 53, 0, 0), (.istore_n 3, 0, 0, 0, 0)] [(0, vR 42), (1, vI a1), (2, vI a2), (3, vI (w 66 (Int32.toNatClampNeg a1)))] [] w 13 (by decide +kernel) rfl rfl ?_
  refine sim_bi (C := fun i1 => (13, [(0, vR 42), (1, vI a1), (2, vI a2), (3, vI i1)], [], w)) (fun i1 => ?_)
  refine sim_blk0 hC [(.aload_n 0, 0, 0, 0, 0), (.getfield 42, 42, 6, 66, 0), (.getfield 109, 64, 1, 69, 0), (.aload_n 0, 0, 0, 0, 0), (.getfield 42, 42, 6, 66, 0), (.getfield 100, 64, 0, 67, 0)] [(0, vR 42), (1, vI a1), (2, vI a2), (3, vI i1)] [vR 65, vR 67] w 27 (by decide +kernel) rfl rfl ?_
  refine sim_vv hC 182 mX0_keep 2 60 67 [vR 65] [] (by decide +kernel) ml_9_182 rfl rfl rfl rfl rfl rfl (fun wz hz => c_Acts_keep_67_65 w wz hz) (fun w2 => ?_)
  refine sim_blk1 hC [(.aload_n 0, 0, 0, 0, 0), (.getfield 42, 42, 6, 66, 0), (.getfield 100, 64, 0, 67, 0), (.getfield 137, 65, 0, 68, 0), (.iload_n 1, 0, 0, 0, 0), (.iload_n 2, 0, 0, 0, 0), (.iastore, 66, 53, 0, 0)] [(0, vR 42), (1, vI a1), (2, vI a2), (3, vI i1)] [] (wup w2 66 (Int32.toNatClampNeg a1) a2) 43 (by decide +kernel) rfl rfl ?_
  refine sim_bw (C := fun w3 => (43, [(0, vR 42), (1, vI a1), (2, vI a2), (3, vI i1)], [], w3)) (fun w3 => ?_)
  refine sim_blk0 hC [(.iload_n 3, 0, 0, 0, 0)] [(0, vR 42), (1, vI a1), (2, vI a2), (3, vI i1)] [vI i1] w3 44 (by decide +kernel) rfl rfl ?_
  exact sim_reti hC (by decide +kernel) trivial
theorem c_C_changed {Z : ZT} {l : Launch} (w : Wld) (a1 : Int32) (a2 : Int32) (r : Int32) (w1 : Wld) (h : F_C_changed w a1 a2 = some (r, w1)) : Con Z l mX10_changed 3 81 [vR 42, vI a1, vI a2] w (.inr (some r)) w1 :=
  Con_of (oc := 9) (by decide +kernel) rfl rfl (fun Ok hC => s_C_changed hC w a1 a2 (r, w1) h ⟨rfl, rfl⟩)
noncomputable def K_C_pray_15 (w : Wld) : Option (Oc × Wld) :=
  bd (F_C_refusedAct w) (fun i1 w2 => some ((.inr (some i1), w2)))
set_option maxRecDepth 10000 in
theorem s_K_C_pray_15 {Z : ZT} {l : Launch} {o : Oc} {wo : Wld} {Ok : Cfg → Prop} (hC : Clo Z l 9 3 prog_1_method_11_code (some .int) 7 110 o wo Ok) (w : Wld) : SimK Ok (15, [(0, vR 42)], [], w) (K_C_pray_15 w) (Gt o wo) := by
  unfold K_C_pray_15
  refine sim_blk0 hC [(.aload_n 0, 0, 0, 0, 0)] [(0, vR 42)] [vR 42] w 16 (by decide +kernel) rfl rfl ?_
  refine sim_vd hC 178 mX10_refusedAct 1 0 42 [] [] (by decide +kernel) ml_9_178 rfl rfl rfl rfl rfl rfl (fun rz wz hz => c_C_refusedAct w rz wz hz) (fun i1 w2 => ?_)
  exact sim_rett hC (by decide +kernel) trivial
noncomputable def F_C_pray (w : Wld) (a1 : Int32) (a2 : Int32) : Option (Oc × Wld) :=
  bn (F_C_needMonk w a1) w (br (a2 < 0) (K_C_pray_15 w) (br (a2 ≤ 99) (bd (F_C_changed w ((0 : Int32) + a1) a2) (fun i3 w4 => some ((.inr (some i3), w4)))) (K_C_pray_15 w)))
set_option maxRecDepth 10000 in
theorem s_C_pray {Z : ZT} {l : Launch} {o : Oc} {wo : Wld} {Ok : Cfg → Prop} (hC : Clo Z l 9 3 prog_1_method_11_code (some .int) 7 110 o wo Ok) (w : Wld) (a1 : Int32) (a2 : Int32) : SimK Ok (0, [(0, vR 42), (1, vI a1), (2, vI a2)], [], w) (F_C_pray w a1 a2) (Gt o wo) := by
  unfold F_C_pray
  refine sim_blk0 hC [(.aload_n 0, 0, 0, 0, 0), (.iload_n 1, 0, 0, 0, 0)] [(0, vR 42), (1, vI a1), (2, vI a2)] [vI a1, vR 42] w 2 (by decide +kernel) rfl rfl ?_
  refine sim_vn hC 168 mX10_needMonk 6 89 42 [vI a1] [] (by decide +kernel) ml_9_168 rfl rfl rfl rfl rfl rfl (fun qz hz => c_C_needMonk w a1 qz hz) ?_
  refine sim_blk0 hC [(.iload_n 2, 0, 0, 0, 0)] [(0, vR 42), (1, vI a1), (2, vI a2)] [vI a2] w 6 (by decide +kernel) rfl rfl ?_
  refine sim_br hC (.ifCond .lt 9) 15 (by decide +kernel) rfl (by decide) ?_ ?_
  · refine sim_sub hC [0] ?_
    exact s_K_C_pray_15 hC w
  · refine sim_blk0 hC [(.iload_n 2, 0, 0, 0, 0), (.bipush 99, 0, 0, 0, 99)] [(0, vR 42), (1, vI a1), (2, vI a2)] [vI 99, vI a2] w 12 (by decide +kernel) rfl rfl ?_
    refine sim_br hC (.if_icmp .le 8) 20 (by decide +kernel) rfl (by decide) ?_ ?_
    · refine sim_blk0 hC [(.aload_n 0, 0, 0, 0, 0), (.iconst 0, 0, 0, 0, 0), (.iload_n 1, 0, 0, 0, 0), (.iadd, 0, 0, 0, 0), (.iload_n 2, 0, 0, 0, 0)] [(0, vR 42), (1, vI a1), (2, vI a2)] [vI a2, vI ((0 : Int32) + a1), vR 42] w 25 (by decide +kernel) rfl rfl ?_
      refine sim_vd hC 191 mX10_changed 3 81 42 [vI ((0 : Int32) + a1), vI a2] [] (by decide +kernel) ml_9_191 rfl rfl rfl rfl rfl rfl (fun rz wz hz => c_C_changed w ((0 : Int32) + a1) a2 rz wz hz) (fun i3 w4 => ?_)
      exact sim_rett hC (by decide +kernel) trivial
    · refine sim_sub hC [0] ?_
      exact s_K_C_pray_15 hC w
theorem c_C_pray {Z : ZT} {l : Launch} (w : Wld) (a1 : Int32) (a2 : Int32) (q : Oc) (w1 : Wld) (h : F_C_pray w a1 a2 = some (q, w1)) : Con Z l mX10_pray 7 110 [vR 42, vI a1, vI a2] w q w1 :=
  Con_of (oc := 9) (by decide +kernel) rfl rfl (fun Ok hC => s_C_pray hC w a1 a2 (q, w1) h ⟨rfl, rfl⟩)
noncomputable def K_C_tie_38 (a3 : Int32) (t0 : Int32) (w : Wld) : Option (Oc × Wld) :=
  br (¬ t0 = a3) (bd (F_C_changed w 50 t0) (fun i2 w3 => some ((.inr (some 1), w3)))) (bd (F_C_refusedAct w) (fun i4 w5 => some ((.inr (some 0), w5))))
set_option maxRecDepth 10000 in
theorem s_K_C_tie_38 {Z : ZT} {l : Launch} {o : Oc} {wo : Wld} {Ok : Cfg → Prop} (hC : Clo Z l 9 5 prog_1_method_12_code (some .boolean) 7 110 o wo Ok) (a3 : Int32) (t0 : Int32) (w : Wld) : SimK Ok (38, [(0, vR 42), (3, vI a3)], [vI t0], w) (K_C_tie_38 a3 t0 w) (Gt o wo) := by
  unfold K_C_tie_38
  refine sim_blk0 hC [(.istore 4, 0, 0, 0, 0), (.iload 4, 0, 0, 0, 0), (.iload_n 3, 0, 0, 0, 0)] [(0, vR 42), (3, vI a3), (4, vI t0)] [vI a3, vI t0] w 43 (by decide +kernel) rfl rfl ?_
  refine sim_br hC (.if_icmp .ne 10) 53 (by decide +kernel) rfl (by decide) ?_ ?_
  · refine sim_blk0 hC [(.aload_n 0, 0, 0, 0, 0), (.bipush 50, 0, 0, 0, 50), (.iload 4, 0, 0, 0, 0)] [(0, vR 42), (3, vI a3), (4, vI t0)] [vI t0, vI 50, vR 42] w 58 (by decide +kernel) rfl rfl ?_
    refine sim_vd hC 191 mX10_changed 3 81 42 [vI 50, vI t0] [] (by decide +kernel) ml_9_191 rfl rfl rfl rfl rfl rfl (fun rz wz hz => c_C_changed w 50 t0 rz wz hz) (fun i2 w3 => ?_)
    refine sim_blk0 hC [(.pop, 0, 0, 0, 0), (.iconst 1, 0, 0, 0, 1)] [(0, vR 42), (3, vI a3), (4, vI t0)] [vI 1] w3 63 (by decide +kernel) rfl rfl ?_
    exact sim_rett hC (by decide +kernel) (Or.inr rfl)
  · refine sim_blk0 hC [(.aload_n 0, 0, 0, 0, 0)] [(0, vR 42), (3, vI a3), (4, vI t0)] [vR 42] w 47 (by decide +kernel) rfl rfl ?_
    refine sim_vd hC 178 mX10_refusedAct 1 0 42 [] [] (by decide +kernel) ml_9_178 rfl rfl rfl rfl rfl rfl (fun rz wz hz => c_C_refusedAct w rz wz hz) (fun i4 w5 => ?_)
    refine sim_blk0 hC [(.pop, 0, 0, 0, 0), (.iconst 0, 0, 0, 0, 0)] [(0, vR 42), (3, vI a3), (4, vI t0)] [vI 0] w5 52 (by decide +kernel) rfl rfl ?_
    exact sim_rett hC (by decide +kernel) (Or.inl rfl)
noncomputable def F_C_tie (w : Wld) (a1 : Int32) (a2 : Int32) : Option (Oc × Wld) :=
  bn (F_C_needMonk w a1) w (gd (vp_in 50 53) (bi (w 66 (Int32.toNatClampNeg 50)) (fun i1 => br (a2 = 0) (K_C_tie_38 i1 (i1 &&& (((1 : Int32) <<< (a1 &&& 31)) ^^^ (-1 : Int32))) w) (K_C_tie_38 i1 (i1 ||| ((1 : Int32) <<< (a1 &&& 31))) w))))
set_option maxRecDepth 10000 in
theorem s_C_tie {Z : ZT} {l : Launch} {o : Oc} {wo : Wld} {Ok : Cfg → Prop} (hC : Clo Z l 9 5 prog_1_method_12_code (some .boolean) 7 110 o wo Ok) (w : Wld) (a1 : Int32) (a2 : Int32) : SimK Ok (0, [(0, vR 42), (1, vI a1), (2, vI a2)], [], w) (F_C_tie w a1 a2) (Gt o wo) := by
  unfold F_C_tie
  refine sim_blk0 hC [(.aload_n 0, 0, 0, 0, 0), (.iload_n 1, 0, 0, 0, 0)] [(0, vR 42), (1, vI a1), (2, vI a2)] [vI a1, vR 42] w 2 (by decide +kernel) rfl rfl ?_
  refine sim_vn hC 168 mX10_needMonk 6 89 42 [vI a1] [] (by decide +kernel) ml_9_168 rfl rfl rfl rfl rfl rfl (fun qz hz => c_C_needMonk w a1 qz hz) ?_
  refine sim_blk1 hC [(.aload_n 0, 0, 0, 0, 0), (.getfield 42, 42, 6, 66, 0), (.getfield 100, 64, 0, 67, 0), (.getfield 137, 65, 0, 68, 0), (.bipush 50, 0, 0, 0, 50), (.iaload, 66, 53, 0, 0), (.istore_n 3, 0, 0, 0, 0)] [(0, vR 42), (1, vI a1), (2, vI a2), (3, vI (w 66 (Int32.toNatClampNeg 50)))] [] w 19 (by decide +kernel) rfl rfl ?_
  refine sim_bi (C := fun i1 => (19, [(0, vR 42), (1, vI a1), (2, vI a2), (3, vI i1)], [], w)) (fun i1 => ?_)
  refine sim_blk0 hC [(.iload_n 2, 0, 0, 0, 0)] [(0, vR 42), (1, vI a1), (2, vI a2), (3, vI i1)] [vI a2] w 20 (by decide +kernel) rfl rfl ?_
  refine sim_br hC (.ifCond .eq 11) 31 (by decide +kernel) rfl (by decide) ?_ ?_
  · refine sim_blk0 hC [(.iload_n 3, 0, 0, 0, 0), (.iconst 1, 0, 0, 0, 1), (.iload_n 1, 0, 0, 0, 0), (.ishl, 0, 0, 0, 0), (.iconst (-1), 0, 0, 0, (-1)), (.ixor, 0, 0, 0, 0), (.iand, 0, 0, 0, 0)] [(0, vR 42), (1, vI a1), (2, vI a2), (3, vI i1)] [vI (i1 &&& (((1 : Int32) <<< (a1 &&& 31)) ^^^ (-1 : Int32)))] w 38 (by decide +kernel) rfl rfl ?_
    refine sim_sub hC [0, 3] ?_
    exact s_K_C_tie_38 hC i1 (i1 &&& (((1 : Int32) <<< (a1 &&& 31)) ^^^ (-1 : Int32))) w
  · refine sim_blk0 hC [(.iload_n 3, 0, 0, 0, 0), (.iconst 1, 0, 0, 0, 1), (.iload_n 1, 0, 0, 0, 0), (.ishl, 0, 0, 0, 0), (.ior, 0, 0, 0, 0)] [(0, vR 42), (1, vI a1), (2, vI a2), (3, vI i1)] [vI (i1 ||| ((1 : Int32) <<< (a1 &&& 31)))] w 28 (by decide +kernel) rfl rfl ?_
    refine sim_goto hC 10 38 (by decide +kernel) (by decide) ?_
    refine sim_sub hC [0, 3] ?_
    exact s_K_C_tie_38 hC i1 (i1 ||| ((1 : Int32) <<< (a1 &&& 31))) w
theorem c_C_tie {Z : ZT} {l : Launch} (w : Wld) (a1 : Int32) (a2 : Int32) (q : Oc) (w1 : Wld) (h : F_C_tie w a1 a2 = some (q, w1)) : Con Z l mX10_tie 7 110 [vR 42, vI a1, vI a2] w q w1 :=
  Con_of (oc := 9) (by decide +kernel) rfl rfl (fun Ok hC => s_C_tie hC w a1 a2 (q, w1) h ⟨rfl, rfl⟩)
noncomputable def K_C_changedToAnother_29 (t0 : Int32) (w : Wld) : Option (Int32 × Wld) :=
  some ((t0, w))
set_option maxRecDepth 10000 in
theorem s_K_C_changedToAnother_29 {Z : ZT} {l : Launch} {o : Oc} {wo : Wld} {Ok : Cfg → Prop} (hC : Clo Z l 9 3 prog_1_method_17_code (some .int) 4 104 o wo Ok) (t0 : Int32) (w : Wld) : SimK Ok (29, [], [vI t0], w) (K_C_changedToAnother_29 t0 w) (Gi o wo) := by
  unfold K_C_changedToAnother_29
  exact sim_reti hC (by decide +kernel) trivial
noncomputable def F_C_changedToAnother (w : Wld) (a1 : Int32) (a2 : Int32) : Option (Int32 × Wld) :=
  gd (vp_in a1 53) (br (¬ (w 66 (Int32.toNatClampNeg a1)) = a2) (bd (F_C_changed w a1 a2) (fun i1 w2 => K_C_changedToAnother_29 i1 w2)) (bd (F_C_refusedAct w) (fun i3 w4 => K_C_changedToAnother_29 i3 w4)))
set_option maxRecDepth 10000 in
theorem s_C_changedToAnother {Z : ZT} {l : Launch} {o : Oc} {wo : Wld} {Ok : Cfg → Prop} (hC : Clo Z l 9 3 prog_1_method_17_code (some .int) 4 104 o wo Ok) (w : Wld) (a1 : Int32) (a2 : Int32) : SimK Ok (0, [(0, vR 42), (1, vI a1), (2, vI a2)], [], w) (F_C_changedToAnother w a1 a2) (Gi o wo) := by
  unfold F_C_changedToAnother
  refine sim_blk1 hC [(.aload_n 0, 0, 0, 0, 0), (.getfield 42, 42, 6, 66, 0), (.getfield 100, 64, 0, 67, 0), (.getfield 137, 65, 0, 68, 0), (.iload_n 1, 0, 0, 0, 0), (.iaload, 66, 53, 0, 0), (.iload_n 2, 0, 0, 0, 0)] [(0, vR 42), (1, vI a1), (2, vI a2)] [vI a2, vI (w 66 (Int32.toNatClampNeg a1))] w 13 (by decide +kernel) rfl rfl ?_
  refine sim_br hC (.if_icmp .ne 10) 23 (by decide +kernel) rfl (by decide) ?_ ?_
  · refine sim_blk0 hC [(.aload_n 0, 0, 0, 0, 0), (.iload_n 1, 0, 0, 0, 0), (.iload_n 2, 0, 0, 0, 0)] [(0, vR 42), (1, vI a1), (2, vI a2)] [vI a2, vI a1, vR 42] w 26 (by decide +kernel) rfl rfl ?_
    refine sim_vd hC 191 mX10_changed 3 81 42 [vI a1, vI a2] [] (by decide +kernel) ml_9_191 rfl rfl rfl rfl rfl rfl (fun rz wz hz => c_C_changed w a1 a2 rz wz hz) (fun i1 w2 => ?_)
    refine sim_sub hC [] ?_
    exact s_K_C_changedToAnother_29 hC i1 w2
  · refine sim_blk0 hC [(.aload_n 0, 0, 0, 0, 0)] [(0, vR 42), (1, vI a1), (2, vI a2)] [vR 42] w 17 (by decide +kernel) rfl rfl ?_
    refine sim_vd hC 178 mX10_refusedAct 1 0 42 [] [] (by decide +kernel) ml_9_178 rfl rfl rfl rfl rfl rfl (fun rz wz hz => c_C_refusedAct w rz wz hz) (fun i3 w4 => ?_)
    refine sim_goto hC 9 29 (by decide +kernel) (by decide) ?_
    refine sim_sub hC [] ?_
    exact s_K_C_changedToAnother_29 hC i3 w4
theorem c_C_changedToAnother {Z : ZT} {l : Launch} (w : Wld) (a1 : Int32) (a2 : Int32) (r : Int32) (w1 : Wld) (h : F_C_changedToAnother w a1 a2 = some (r, w1)) : Con Z l mX10_changedToAnother 4 104 [vR 42, vI a1, vI a2] w (.inr (some r)) w1 :=
  Con_of (oc := 9) (by decide +kernel) rfl rfl (fun Ok hC => s_C_changedToAnother hC w a1 a2 (r, w1) h ⟨rfl, rfl⟩)
noncomputable def F_C_move (w : Wld) (a1 : Int32) (a2 : Int32) : Option (Oc × Wld) :=
  bn (F_C_needMonk w a1) w (bn (F_C_needRoom w a2) w (bd (F_C_changedToAnother w ((16 : Int32) + a1) a2) (fun i1 w2 => some ((.inr (some i1), w2)))))
set_option maxRecDepth 10000 in
theorem s_C_move {Z : ZT} {l : Launch} {o : Oc} {wo : Wld} {Ok : Cfg → Prop} (hC : Clo Z l 9 3 prog_1_method_13_code (some .int) 7 126 o wo Ok) (w : Wld) (a1 : Int32) (a2 : Int32) : SimK Ok (0, [(0, vR 42), (1, vI a1), (2, vI a2)], [], w) (F_C_move w a1 a2) (Gt o wo) := by
  unfold F_C_move
  refine sim_blk0 hC [(.aload_n 0, 0, 0, 0, 0), (.iload_n 1, 0, 0, 0, 0)] [(0, vR 42), (1, vI a1), (2, vI a2)] [vI a1, vR 42] w 2 (by decide +kernel) rfl rfl ?_
  refine sim_vn hC 168 mX10_needMonk 6 89 42 [vI a1] [] (by decide +kernel) ml_9_168 rfl rfl rfl rfl rfl rfl (fun qz hz => c_C_needMonk w a1 qz hz) ?_
  refine sim_blk0 hC [(.aload_n 0, 0, 0, 0, 0), (.iload_n 2, 0, 0, 0, 0)] [(0, vR 42), (1, vI a1), (2, vI a2)] [vI a2, vR 42] w 7 (by decide +kernel) rfl rfl ?_
  refine sim_vn hC 154 mX10_needRoom 6 89 42 [vI a2] [] (by decide +kernel) ml_9_154 rfl rfl rfl rfl rfl rfl (fun qz hz => c_C_needRoom w a2 qz hz) ?_
  refine sim_blk0 hC [(.aload_n 0, 0, 0, 0, 0), (.bipush 16, 0, 0, 0, 16), (.iload_n 1, 0, 0, 0, 0), (.iadd, 0, 0, 0, 0), (.iload_n 2, 0, 0, 0, 0)] [(0, vR 42), (1, vI a1), (2, vI a2)] [vI a2, vI ((16 : Int32) + a1), vR 42] w 16 (by decide +kernel) rfl rfl ?_
  refine sim_vd hC 194 mX10_changedToAnother 4 104 42 [vI ((16 : Int32) + a1), vI a2] [] (by decide +kernel) ml_9_194 rfl rfl rfl rfl rfl rfl (fun rz wz hz => c_C_changedToAnother w ((16 : Int32) + a1) a2 rz wz hz) (fun i1 w2 => ?_)
  exact sim_rett hC (by decide +kernel) trivial
theorem c_C_move {Z : ZT} {l : Launch} (w : Wld) (a1 : Int32) (a2 : Int32) (q : Oc) (w1 : Wld) (h : F_C_move w a1 a2 = some (q, w1)) : Con Z l mX10_move 7 126 [vR 42, vI a1, vI a2] w q w1 :=
  Con_of (oc := 9) (by decide +kernel) rfl rfl (fun Ok hC => s_C_move hC w a1 a2 (q, w1) h ⟨rfl, rfl⟩)
noncomputable def K_C_door_22 (a1 : Int32) (a3 : Int32) (t1 : Int32) (w : Wld) : Option (Oc × Wld) :=
  bd (F_C_changedToAnother w (t1 + a1) a3) (fun i1 w2 => some ((.inr (some i1), w2)))
set_option maxRecDepth 10000 in
theorem s_K_C_door_22 {Z : ZT} {l : Launch} {o : Oc} {wo : Wld} {Ok : Cfg → Prop} (hC : Clo Z l 9 4 prog_1_method_14_code (some .int) 7 126 o wo Ok) (a1 : Int32) (a3 : Int32) (t1 : Int32) (w : Wld) : SimK Ok (22, [(1, vI a1), (3, vI a3)], [vI t1, vR 42], w) (K_C_door_22 a1 a3 t1 w) (Gt o wo) := by
  unfold K_C_door_22
  refine sim_blk0 hC [(.iload_n 1, 0, 0, 0, 0), (.iadd, 0, 0, 0, 0), (.iload_n 3, 0, 0, 0, 0)] [(1, vI a1), (3, vI a3)] [vI a3, vI (t1 + a1), vR 42] w 25 (by decide +kernel) rfl rfl ?_
  refine sim_vd hC 194 mX10_changedToAnother 4 104 42 [vI (t1 + a1), vI a3] [] (by decide +kernel) ml_9_194 rfl rfl rfl rfl rfl rfl (fun rz wz hz => c_C_changedToAnother w (t1 + a1) a3 rz wz hz) (fun i1 w2 => ?_)
  exact sim_rett hC (by decide +kernel) trivial
noncomputable def F_C_door (w : Wld) (a1 : Int32) (a2 : Int32) (a3 : Int32) : Option (Oc × Wld) :=
  bn (F_C_needRoom w a1) w (bn (F_C_needRoom w a3) w (br (a2 = 0) (K_C_door_22 a1 a3 32 w) (K_C_door_22 a1 a3 41 w)))
set_option maxRecDepth 10000 in
theorem s_C_door {Z : ZT} {l : Launch} {o : Oc} {wo : Wld} {Ok : Cfg → Prop} (hC : Clo Z l 9 4 prog_1_method_14_code (some .int) 7 126 o wo Ok) (w : Wld) (a1 : Int32) (a2 : Int32) (a3 : Int32) : SimK Ok (0, [(0, vR 42), (1, vI a1), (2, vI a2), (3, vI a3)], [], w) (F_C_door w a1 a2 a3) (Gt o wo) := by
  unfold F_C_door
  refine sim_blk0 hC [(.aload_n 0, 0, 0, 0, 0), (.iload_n 1, 0, 0, 0, 0)] [(0, vR 42), (1, vI a1), (2, vI a2), (3, vI a3)] [vI a1, vR 42] w 2 (by decide +kernel) rfl rfl ?_
  refine sim_vn hC 154 mX10_needRoom 6 89 42 [vI a1] [] (by decide +kernel) ml_9_154 rfl rfl rfl rfl rfl rfl (fun qz hz => c_C_needRoom w a1 qz hz) ?_
  refine sim_blk0 hC [(.aload_n 0, 0, 0, 0, 0), (.iload_n 3, 0, 0, 0, 0)] [(0, vR 42), (1, vI a1), (2, vI a2), (3, vI a3)] [vI a3, vR 42] w 7 (by decide +kernel) rfl rfl ?_
  refine sim_vn hC 154 mX10_needRoom 6 89 42 [vI a3] [] (by decide +kernel) ml_9_154 rfl rfl rfl rfl rfl rfl (fun qz hz => c_C_needRoom w a3 qz hz) ?_
  refine sim_blk0 hC [(.aload_n 0, 0, 0, 0, 0), (.iload_n 2, 0, 0, 0, 0)] [(0, vR 42), (1, vI a1), (2, vI a2), (3, vI a3)] [vI a2, vR 42] w 12 (by decide +kernel) rfl rfl ?_
  refine sim_br hC (.ifCond .eq 8) 20 (by decide +kernel) rfl (by decide) ?_ ?_
  · refine sim_blk0 hC [(.bipush 32, 0, 0, 0, 32)] [(0, vR 42), (1, vI a1), (2, vI a2), (3, vI a3)] [vI 32, vR 42] w 22 (by decide +kernel) rfl rfl ?_
    refine sim_sub hC [1, 3] ?_
    exact s_K_C_door_22 hC a1 a3 32 w
  · refine sim_blk0 hC [(.bipush 41, 0, 0, 0, 41)] [(0, vR 42), (1, vI a1), (2, vI a2), (3, vI a3)] [vI 41, vR 42] w 17 (by decide +kernel) rfl rfl ?_
    refine sim_goto hC 5 22 (by decide +kernel) (by decide) ?_
    refine sim_sub hC [1, 3] ?_
    exact s_K_C_door_22 hC a1 a3 41 w
theorem c_C_door {Z : ZT} {l : Launch} (w : Wld) (a1 : Int32) (a2 : Int32) (a3 : Int32) (q : Oc) (w1 : Wld) (h : F_C_door w a1 a2 a3 = some (q, w1)) : Con Z l mX10_door 7 126 [vR 42, vI a1, vI a2, vI a3] w q w1 :=
  Con_of (oc := 9) (by decide +kernel) rfl rfl (fun Ok hC => s_C_door hC w a1 a2 a3 (q, w1) h ⟨rfl, rfl⟩)
def V_C_passNights_2 (a1 : Int32) : (Int32 × Wld) → Cfg := fun s => (2, [(0, vR 42), (1, vI a1), (2, vI s.1)], [], s.2)
def E_C_passNights_2 (a1 : Int32) : (Wld) → Cfg := fun s => (24, [], [], s)
noncomputable def B_C_passNights_2 (a1 : Int32) (s : Int32 × Wld) : Option ((Int32 × Wld) ⊕ (Wld)) :=
  br (a1 ≤ s.1) (some (.inr s.2)) (bv (F_Night_pass_55_84 s.2) (fun w1 => bi (s.1 + 1) (fun i2 => some (.inl ((i2, w1))))))
set_option maxRecDepth 10000 in
theorem s_B_C_passNights_2 {Z : ZT} {l : Launch} {o : Oc} {wo : Wld} {Ok : Cfg → Prop} (hC : Clo Z l 9 3 prog_1_method_33_code none 5 93 o wo Ok) (a1 : Int32) (s : Int32 × Wld) : SimK Ok (V_C_passNights_2 a1 s) (B_C_passNights_2 a1 s) (GLp Ok (V_C_passNights_2 a1) (GEp Ok (E_C_passNights_2 a1))) := by
  unfold B_C_passNights_2
  show SimK Ok (2, [(0, vR 42), (1, vI a1), (2, vI s.1)], [], s.2) _ _
  refine sim_blk0 hC [(.iload_n 2, 0, 0, 0, 0), (.iload_n 1, 0, 0, 0, 0)] [(0, vR 42), (1, vI a1), (2, vI s.1)] [vI a1, vI s.1] s.2 4 (by decide +kernel) rfl rfl ?_
  refine sim_br hC (.if_icmp .ge 20) 24 (by decide +kernel) rfl (by decide) ?_ ?_
  · refine sim_sub hC [] ?_
    exact sim_exit (E := (E_C_passNights_2 a1)) s.2
  · refine sim_blk0 hC [(.aload_n 0, 0, 0, 0, 0), (.getfield 30, 42, 4, 57, 0), (.aload_n 0, 0, 0, 0, 0), (.getfield 56, 42, 9, 86, 0)] [(0, vR 42), (1, vI a1), (2, vI s.1)] [vR 84, vR 55] s.2 15 (by decide +kernel) rfl rfl ?_
    refine sim_vv hC 185 mX4_pass 4 69 55 [vR 84] [] (by decide +kernel) ml_9_185 rfl rfl rfl rfl rfl rfl (fun wz hz => c_Night_pass_55_84 s.2 wz hz) (fun w1 => ?_)
    refine sim_blk0 hC [(.iinc 2 1, 0, 0, 0, 1)] [(0, vR 42), (1, vI a1), (2, vI (s.1 + 1))] [] w1 21 (by decide +kernel) rfl rfl ?_
    refine sim_bi (C := fun i2 => (21, [(0, vR 42), (1, vI a1), (2, vI i2)], [], w1)) (fun i2 => ?_)
    refine sim_goto hC (-19) 2 (by decide +kernel) (by decide) ?_
    exact sim_back (V := (V_C_passNights_2 a1)) ((i2, w1))
noncomputable def F_C_passNights (w : Wld) (a1 : Int32) : Option (Wld) :=
  bl (loop (B_C_passNights_2 a1) ((0, w))) (fun r3 => some r3)
set_option maxRecDepth 10000 in
theorem s_C_passNights {Z : ZT} {l : Launch} {o : Oc} {wo : Wld} {Ok : Cfg → Prop} (hC : Clo Z l 9 3 prog_1_method_33_code none 5 93 o wo Ok) (w : Wld) (a1 : Int32) : SimK Ok (0, [(0, vR 42), (1, vI a1)], [], w) (F_C_passNights w a1) (Gv o wo) := by
  unfold F_C_passNights
  refine sim_blk0 hC [(.iconst 0, 0, 0, 0, 0), (.istore_n 2, 0, 0, 0, 0)] [(0, vR 42), (1, vI a1), (2, vI 0)] [] w 2 (by decide +kernel) rfl rfl ?_
  refine sim_bl (E := (E_C_passNights_2 a1)) ?_ (fun r3 => ?_)
  · exact sim_loop (V := (V_C_passNights_2 a1)) (fun sz => s_B_C_passNights_2 hC a1 sz) ((0, w))
  · show SimK Ok (24, [], [], r3) _ _
    exact sim_retv hC (by decide +kernel)
theorem c_C_passNights {Z : ZT} {l : Launch} (w : Wld) (a1 : Int32) (w1 : Wld) (h : F_C_passNights w a1 = some w1) : Con Z l mX10_passNights 5 93 [vR 42, vI a1] w (.inr none) w1 :=
  Con_of (oc := 9) (by decide +kernel) rfl rfl (fun Ok hC => s_C_passNights hC w a1 w1 h ⟨rfl, rfl⟩)
noncomputable def F_C_goAhead (w : Wld) (a1 : Int32) : Option (Wld) :=
  bv (F_C_beginTrial w) (fun w1 => bv (F_C_passNights w1 a1) (fun w2 => some w2))
set_option maxRecDepth 10000 in
theorem s_C_goAhead {Z : ZT} {l : Launch} {o : Oc} {wo : Wld} {Ok : Cfg → Prop} (hC : Clo Z l 9 2 prog_1_method_34_code none 6 115 o wo Ok) (w : Wld) (a1 : Int32) : SimK Ok (0, [(0, vR 42), (1, vI a1)], [], w) (F_C_goAhead w a1) (Gv o wo) := by
  unfold F_C_goAhead
  refine sim_blk0 hC [(.aload_n 0, 0, 0, 0, 0)] [(0, vR 42), (1, vI a1)] [vR 42] w 1 (by decide +kernel) rfl rfl ?_
  refine sim_vv hC 212 mX10_beginTrial 2 81 42 [] [] (by decide +kernel) ml_9_212 rfl rfl rfl rfl rfl rfl (fun wz hz => c_C_beginTrial w wz hz) (fun w1 => ?_)
  refine sim_blk0 hC [(.aload_n 0, 0, 0, 0, 0), (.iload_n 1, 0, 0, 0, 0)] [(0, vR 42), (1, vI a1)] [vI a1, vR 42] w1 6 (by decide +kernel) rfl rfl ?_
  refine sim_vv hC 223 mX10_passNights 5 93 42 [vI a1] [] (by decide +kernel) ml_9_223 rfl rfl rfl rfl rfl rfl (fun wz hz => c_C_passNights w1 a1 wz hz) (fun w2 => ?_)
  exact sim_retv hC (by decide +kernel)
theorem c_C_goAhead {Z : ZT} {l : Launch} (w : Wld) (a1 : Int32) (w1 : Wld) (h : F_C_goAhead w a1 = some w1) : Con Z l mX10_goAhead 6 115 [vR 42, vI a1] w (.inr none) w1 :=
  Con_of (oc := 9) (by decide +kernel) rfl rfl (fun Ok hC => s_C_goAhead hC w a1 w1 h ⟨rfl, rfl⟩)
def V_Night_matins_55_4 (w : Wld) : (Int32 × Int32) → Cfg := fun s => (4, [(0, vR 55), (1, vI s.1), (2, vI s.2)], [], w)
def E_Night_matins_55_4 (w : Wld) : (Int32) → Cfg := fun s => (47, [(1, vI s)], [], w)
noncomputable def B_Night_matins_55_4 (w : Wld) (s : Int32 × Int32) : Option ((Int32 × Int32) ⊕ (Int32)) :=
  br ((w 56 1) ≤ s.2) (some (.inr s.1)) (gd (vp_in s.2 8) (gd (vp_in (w 63 (Int32.toNatClampNeg s.2)) 9) (bi (s.1 + ((((w 55 3) >>> (s.2 &&& 31)) &&& (1 : Int32)) * (w 57 (Int32.toNatClampNeg (w 63 (Int32.toNatClampNeg s.2)))))) (fun i1 => bi (s.2 + 1) (fun i2 => some (.inl ((i1, i2))))))))
set_option maxRecDepth 10000 in
theorem s_B_Night_matins_55_4 {Z : ZT} {l : Launch} {o : Oc} {wo : Wld} {Ok : Cfg → Prop} (hC : Clo Z l 4 3 prog_6_method_7_code (some .int) 1 0 o wo Ok) (w : Wld) (s : Int32 × Int32) : SimK Ok (V_Night_matins_55_4 w s) (B_Night_matins_55_4 w s) (GLp Ok (V_Night_matins_55_4 w) (GEp Ok (E_Night_matins_55_4 w))) := by
  unfold B_Night_matins_55_4
  show SimK Ok (4, [(0, vR 55), (1, vI s.1), (2, vI s.2)], [], w) _ _
  refine sim_blk0 hC [(.iload_n 2, 0, 0, 0, 0), (.aload_n 0, 0, 0, 0, 0), (.getfield 12, 55, 0, 58, 0), (.getfield 57, 56, 1, 0, 0)] [(0, vR 55), (1, vI s.1), (2, vI s.2)] [vI (w 56 1), vI s.2] w 12 (by decide +kernel) rfl rfl ?_
  refine sim_br hC (.if_icmp .ge 35) 47 (by decide +kernel) rfl (by decide) ?_ ?_
  · refine sim_sub hC [1] ?_
    exact sim_exit (E := (E_Night_matins_55_4 w)) s.1
  · refine sim_blk2 hC [(.iload_n 1, 0, 0, 0, 0), (.aload_n 0, 0, 0, 0, 0), (.getfield 27, 55, 3, 0, 0), (.iload_n 2, 0, 0, 0, 0), (.ishr, 0, 0, 0, 0), (.iconst 1, 0, 0, 0, 1), (.iand, 0, 0, 0, 0), (.aload_n 0, 0, 0, 0, 0), (.getfield 12, 55, 0, 58, 0), (.getfield 54, 56, 4, 59, 0), (.aload_n 0, 0, 0, 0, 0), (.getfield 24, 55, 2, 65, 0), (.iload_n 2, 0, 0, 0, 0), (.iaload, 63, 8, 0, 0), (.iaload, 57, 9, 0, 0), (.imul, 0, 0, 0, 0), (.iadd, 0, 0, 0, 0), (.istore_n 1, 0, 0, 0, 0)] [(0, vR 55), (1, vI (s.1 + ((((w 55 3) >>> (s.2 &&& 31)) &&& (1 : Int32)) * (w 57 (Int32.toNatClampNeg (w 63 (Int32.toNatClampNeg s.2))))))), (2, vI s.2)] [] w 41 (by decide +kernel) rfl rfl ?_
    refine sim_bi (C := fun i1 => (41, [(0, vR 55), (1, vI i1), (2, vI s.2)], [], w)) (fun i1 => ?_)
    refine sim_blk0 hC [(.iinc 2 1, 0, 0, 0, 1)] [(0, vR 55), (1, vI i1), (2, vI (s.2 + 1))] [] w 44 (by decide +kernel) rfl rfl ?_
    refine sim_bi (C := fun i2 => (44, [(0, vR 55), (1, vI i1), (2, vI i2)], [], w)) (fun i2 => ?_)
    refine sim_goto hC (-40) 4 (by decide +kernel) (by decide) ?_
    exact sim_back (V := (V_Night_matins_55_4 w)) ((i1, i2))
noncomputable def F_Night_matins_55 (w : Wld) : Option (Int32) :=
  bl (loop (B_Night_matins_55_4 w) ((0, 0))) (fun r3 => some r3)
set_option maxRecDepth 10000 in
theorem s_Night_matins_55 {Z : ZT} {l : Launch} {o : Oc} {wo : Wld} {Ok : Cfg → Prop} (hC : Clo Z l 4 3 prog_6_method_7_code (some .int) 1 0 o wo Ok) (w : Wld) : SimK Ok (0, [(0, vR 55)], [], w) (F_Night_matins_55 w) (Gp o wo w) := by
  unfold F_Night_matins_55
  refine sim_blk0 hC [(.iconst 0, 0, 0, 0, 0), (.istore_n 1, 0, 0, 0, 0), (.iconst 0, 0, 0, 0, 0), (.istore_n 2, 0, 0, 0, 0)] [(0, vR 55), (1, vI 0), (2, vI 0)] [] w 4 (by decide +kernel) rfl rfl ?_
  refine sim_bl (E := (E_Night_matins_55_4 w)) ?_ (fun r3 => ?_)
  · exact sim_loop (V := (V_Night_matins_55_4 w)) (fun sz => s_B_Night_matins_55_4 hC w sz) ((0, 0))
  · show SimK Ok (47, [(1, vI r3)], [], w) _ _
    refine sim_blk0 hC [(.iload_n 1, 0, 0, 0, 0)] [(1, vI r3)] [vI r3] w 48 (by decide +kernel) rfl rfl ?_
    exact sim_retp hC (by decide +kernel) trivial
theorem c_Night_matins_55 {Z : ZT} {l : Launch} (w : Wld) (r : Int32) (h : F_Night_matins_55 w = some r) : Con Z l mX4_matins 1 0 [vR 55] w (.inr (some r)) w :=
  Con_of (oc := 4) (by decide +kernel) rfl rfl (fun Ok hC => s_Night_matins_55 hC w r h ⟨rfl, rfl⟩)
noncomputable def F_C_up (w : Wld) (a1 : Int32) (a2 : Int32) : Option (Oc × Wld) :=
  bn (F_C_needWhat w a2 2) w (bn (F_C_needWithin w a1 1 60) w (bv (F_C_goAhead w a1) (fun w1 => br (a2 = 0) (some ((.inr (some (w1 55 3)), w1))) (br (a2 = 1) (bp (F_Night_matins_55 w1) (fun i3 => some ((.inr (some i3), w1)))) (bp (F_Night_missing_55 w1) (fun i2 => some ((.inr (some i2), w1))))))))
set_option maxRecDepth 10000 in
theorem s_C_up {Z : ZT} {l : Launch} {o : Oc} {wo : Wld} {Ok : Cfg → Prop} (hC : Clo Z l 9 3 prog_1_method_19_code (some .int) 7 136 o wo Ok) (w : Wld) (a1 : Int32) (a2 : Int32) : SimK Ok (0, [(0, vR 42), (1, vI a1), (2, vI a2)], [], w) (F_C_up w a1 a2) (Gt o wo) := by
  unfold F_C_up
  refine sim_blk0 hC [(.iload_n 2, 0, 0, 0, 0), (.iconst 2, 0, 0, 0, 2)] [(0, vR 42), (1, vI a1), (2, vI a2)] [vI 2, vI a2] w 2 (by decide +kernel) rfl rfl ?_
  refine sim_sn hC 157 mX10_needWhat 6 89 [vI a2, vI 2] [] (by decide +kernel) ml_9_157 rfl rfl rfl rfl rfl (fun qz hz => c_C_needWhat w a2 2 qz hz) ?_
  refine sim_blk0 hC [(.iload_n 1, 0, 0, 0, 0), (.iconst 1, 0, 0, 0, 1), (.bipush 60, 0, 0, 0, 60)] [(0, vR 42), (1, vI a1), (2, vI a2)] [vI 60, vI 1, vI a1] w 9 (by decide +kernel) rfl rfl ?_
  refine sim_sn hC 77 mX10_needWithin 6 89 [vI a1, vI 1, vI 60] [] (by decide +kernel) ml_9_77 rfl rfl rfl rfl rfl (fun qz hz => c_C_needWithin w a1 1 60 qz hz) ?_
  refine sim_blk0 hC [(.aload_n 0, 0, 0, 0, 0), (.iload_n 1, 0, 0, 0, 0)] [(0, vR 42), (1, vI a1), (2, vI a2)] [vI a1, vR 42] w 14 (by decide +kernel) rfl rfl ?_
  refine sim_vv hC 200 mX10_goAhead 6 115 42 [vI a1] [] (by decide +kernel) ml_9_200 rfl rfl rfl rfl rfl rfl (fun wz hz => c_C_goAhead w a1 wz hz) (fun w1 => ?_)
  refine sim_blk0 hC [(.iload_n 2, 0, 0, 0, 0)] [(0, vR 42), (1, vI a1), (2, vI a2)] [vI a2] w1 18 (by decide +kernel) rfl rfl ?_
  refine sim_cases (fun h0 => ?_) (fun h0 => ?_)
  · refine sim_look hC 42 #[(0, 26), (1, 34)] 26 26 44 (by decide +kernel) (by decide +kernel) (by rw [h0]; decide +kernel) (by decide) ?_
    refine sim_blk0 hC [(.aload_n 0, 0, 0, 0, 0), (.getfield 30, 42, 4, 57, 0), (.getfield 203, 55, 3, 0, 0)] [(0, vR 42), (1, vI a1), (2, vI a2)] [vI (w1 55 3)] w1 51 (by decide +kernel) rfl rfl ?_
    exact sim_rett hC (by decide +kernel) trivial
  · refine sim_cases (fun h1 => ?_) (fun h1 => ?_)
    · refine sim_look hC 42 #[(0, 26), (1, 34)] 26 34 52 (by decide +kernel) (by decide +kernel) (by rw [h1]; decide +kernel) (by decide) ?_
      refine sim_blk0 hC [(.aload_n 0, 0, 0, 0, 0), (.getfield 30, 42, 4, 57, 0)] [(0, vR 42), (1, vI a1), (2, vI a2)] [vR 55] w1 56 (by decide +kernel) rfl rfl ?_
      refine sim_vp hC 206 mX4_matins 1 0 55 [] [] (by decide +kernel) ml_9_206 rfl rfl rfl rfl rfl rfl (fun rz hz => c_Night_matins_55 w1 rz hz) (fun i3 => ?_)
      exact sim_rett hC (by decide +kernel) trivial
    · refine sim_look hC 42 #[(0, 26), (1, 34)] 26 42 60 (by decide +kernel) (by decide +kernel) (look_out2 h0 h1) (by decide) ?_
      refine sim_blk0 hC [(.aload_n 0, 0, 0, 0, 0), (.getfield 30, 42, 4, 57, 0)] [(0, vR 42), (1, vI a1), (2, vI a2)] [vR 55] w1 64 (by decide +kernel) rfl rfl ?_
      refine sim_vp hC 209 mX4_missing 2 22 55 [] [] (by decide +kernel) ml_9_209 rfl rfl rfl rfl rfl rfl (fun rz hz => c_Night_missing_55 w1 rz hz) (fun i2 => ?_)
      exact sim_rett hC (by decide +kernel) trivial
theorem c_C_up {Z : ZT} {l : Launch} (w : Wld) (a1 : Int32) (a2 : Int32) (q : Oc) (w1 : Wld) (h : F_C_up w a1 a2 = some (q, w1)) : Con Z l mX10_up 7 136 [vR 42, vI a1, vI a2] w q w1 :=
  Con_of (oc := 9) (by decide +kernel) rfl rfl (fun Ok hC => s_C_up hC w a1 a2 (q, w1) h ⟨rfl, rfl⟩)
noncomputable def K_C_then_39 (a1 : Int32) (t1 : Int32) (w : Wld) : Option (Oc × Wld) :=
  gd (vp_in (t1 + a1) 53) (some ((.inr (some (w 85 (Int32.toNatClampNeg (t1 + a1)))), w)))
set_option maxRecDepth 10000 in
theorem s_K_C_then_39 {Z : ZT} {l : Launch} {o : Oc} {wo : Wld} {Ok : Cfg → Prop} (hC : Clo Z l 9 4 prog_1_method_20_code (some .int) 7 136 o wo Ok) (a1 : Int32) (t1 : Int32) (w : Wld) : SimK Ok (39, [(1, vI a1)], [vI t1, vR 85], w) (K_C_then_39 a1 t1 w) (Gt o wo) := by
  unfold K_C_then_39
  refine sim_blk1 hC [(.iload_n 1, 0, 0, 0, 0), (.iadd, 0, 0, 0, 0), (.iaload, 85, 53, 0, 0)] [(1, vI a1)] [vI (w 85 (Int32.toNatClampNeg (t1 + a1)))] w 42 (by decide +kernel) rfl rfl ?_
  exact sim_rett hC (by decide +kernel) trivial
noncomputable def F_C_then (w : Wld) (a1 : Int32) (a2 : Int32) (a3 : Int32) : Option (Oc × Wld) :=
  bn (F_C_needMonk w a1) w (bn (F_C_needWhat w a3 1) w (bn (F_C_needWithin w a2 0 60) w (bv (F_C_goAhead w a2) (fun w1 => br (¬ a3 = 0) (K_C_then_39 a1 0 w1) (K_C_then_39 a1 16 w1)))))
set_option maxRecDepth 10000 in
theorem s_C_then {Z : ZT} {l : Launch} {o : Oc} {wo : Wld} {Ok : Cfg → Prop} (hC : Clo Z l 9 4 prog_1_method_20_code (some .int) 7 136 o wo Ok) (w : Wld) (a1 : Int32) (a2 : Int32) (a3 : Int32) : SimK Ok (0, [(0, vR 42), (1, vI a1), (2, vI a2), (3, vI a3)], [], w) (F_C_then w a1 a2 a3) (Gt o wo) := by
  unfold F_C_then
  refine sim_blk0 hC [(.aload_n 0, 0, 0, 0, 0), (.iload_n 1, 0, 0, 0, 0)] [(0, vR 42), (1, vI a1), (2, vI a2), (3, vI a3)] [vI a1, vR 42] w 2 (by decide +kernel) rfl rfl ?_
  refine sim_vn hC 168 mX10_needMonk 6 89 42 [vI a1] [] (by decide +kernel) ml_9_168 rfl rfl rfl rfl rfl rfl (fun qz hz => c_C_needMonk w a1 qz hz) ?_
  refine sim_blk0 hC [(.iload_n 3, 0, 0, 0, 0), (.iconst 1, 0, 0, 0, 1)] [(0, vR 42), (1, vI a1), (2, vI a2), (3, vI a3)] [vI 1, vI a3] w 7 (by decide +kernel) rfl rfl ?_
  refine sim_sn hC 157 mX10_needWhat 6 89 [vI a3, vI 1] [] (by decide +kernel) ml_9_157 rfl rfl rfl rfl rfl (fun qz hz => c_C_needWhat w a3 1 qz hz) ?_
  refine sim_blk0 hC [(.iload_n 2, 0, 0, 0, 0), (.iconst 0, 0, 0, 0, 0), (.bipush 60, 0, 0, 0, 60)] [(0, vR 42), (1, vI a1), (2, vI a2), (3, vI a3)] [vI 60, vI 0, vI a2] w 14 (by decide +kernel) rfl rfl ?_
  refine sim_sn hC 77 mX10_needWithin 6 89 [vI a2, vI 0, vI 60] [] (by decide +kernel) ml_9_77 rfl rfl rfl rfl rfl (fun qz hz => c_C_needWithin w a2 0 60 qz hz) ?_
  refine sim_blk0 hC [(.aload_n 0, 0, 0, 0, 0), (.iload_n 2, 0, 0, 0, 0)] [(0, vR 42), (1, vI a1), (2, vI a2), (3, vI a3)] [vI a2, vR 42] w 19 (by decide +kernel) rfl rfl ?_
  refine sim_vv hC 200 mX10_goAhead 6 115 42 [vI a2] [] (by decide +kernel) ml_9_200 rfl rfl rfl rfl rfl rfl (fun wz hz => c_C_goAhead w a2 wz hz) (fun w1 => ?_)
  refine sim_blk0 hC [(.aload_n 0, 0, 0, 0, 0), (.getfield 56, 42, 9, 86, 0), (.getfield 137, 84, 0, 87, 0), (.iload_n 3, 0, 0, 0, 0)] [(0, vR 42), (1, vI a1), (2, vI a2), (3, vI a3)] [vI a3, vR 85] w1 30 (by decide +kernel) rfl rfl ?_
  refine sim_br hC (.ifCond .ne 8) 38 (by decide +kernel) rfl (by decide) ?_ ?_
  · refine sim_blk0 hC [(.iconst 0, 0, 0, 0, 0)] [(0, vR 42), (1, vI a1), (2, vI a2), (3, vI a3)] [vI 0, vR 85] w1 39 (by decide +kernel) rfl rfl ?_
    refine sim_sub hC [1] ?_
    exact s_K_C_then_39 hC a1 0 w1
  · refine sim_blk0 hC [(.bipush 16, 0, 0, 0, 16)] [(0, vR 42), (1, vI a1), (2, vI a2), (3, vI a3)] [vI 16, vR 85] w1 35 (by decide +kernel) rfl rfl ?_
    refine sim_goto hC 4 39 (by decide +kernel) (by decide) ?_
    refine sim_sub hC [1] ?_
    exact s_K_C_then_39 hC a1 16 w1
theorem c_C_then {Z : ZT} {l : Launch} (w : Wld) (a1 : Int32) (a2 : Int32) (a3 : Int32) (q : Oc) (w1 : Wld) (h : F_C_then w a1 a2 a3 = some (q, w1)) : Con Z l mX10_then 7 136 [vR 42, vI a1, vI a2, vI a3] w q w1 :=
  Con_of (oc := 9) (by decide +kernel) rfl rfl (fun Ok hC => s_C_then hC w a1 a2 a3 (q, w1) h ⟨rfl, rfl⟩)
def V_C_meets_23 (a1 : Int32) (a2 : Int32) : (Int32 × Wld) → Cfg := fun s => (23, [(0, vR 42), (1, vI a1), (2, vI a2), (3, vI s.1)], [], s.2)
def E_C_meets_23 (a1 : Int32) (a2 : Int32) : (Wld) → Cfg := fun s => (68, [], [], s)
noncomputable def B_C_meets_23 (a1 : Int32) (a2 : Int32) (s : Int32 × Wld) : Option ((Int32 × Wld) ⊕ ((Wld) ⊕ (Oc × Wld))) :=
  br ((60 : Int32) < s.1) (some (.inr (.inl s.2))) (gd (vp_in ((24 : Int32) + a1) 53) (br (¬ (((s.2 85 (Int32.toNatClampNeg ((24 : Int32) + a1))) >>> (a2 &&& 31)) &&& (1 : Int32)) = 1) (bv (F_Night_pass_55_84 s.2) (fun w2 => bi (s.1 + 1) (fun i3 => some (.inl ((i3, w2)))))) (some (.inr (.inr ((.inr (some s.1), s.2)))))))
set_option maxRecDepth 10000 in
theorem s_B_C_meets_23 {Z : ZT} {l : Launch} {o : Oc} {wo : Wld} {Ok : Cfg → Prop} (hC : Clo Z l 9 4 prog_1_method_22_code (some .int) 7 110 o wo Ok) (a1 : Int32) (a2 : Int32) (s : Int32 × Wld) : SimK Ok (V_C_meets_23 a1 a2 s) (B_C_meets_23 a1 a2 s) (GLp Ok (V_C_meets_23 a1 a2) (GLp Ok (E_C_meets_23 a1 a2) (Gt o wo))) := by
  unfold B_C_meets_23
  show SimK Ok (23, [(0, vR 42), (1, vI a1), (2, vI a2), (3, vI s.1)], [], s.2) _ _
  refine sim_blk0 hC [(.iload_n 3, 0, 0, 0, 0), (.bipush 60, 0, 0, 0, 60)] [(0, vR 42), (1, vI a1), (2, vI a2), (3, vI s.1)] [vI 60, vI s.1] s.2 26 (by decide +kernel) rfl rfl ?_
  refine sim_br hC (.if_icmp .gt 42) 68 (by decide +kernel) rfl (by decide) ?_ ?_
  · refine sim_sub hC [] ?_
    exact sim_exitx (E := (E_C_meets_23 a1 a2)) s.2
  · refine sim_blk1 hC [(.aload_n 0, 0, 0, 0, 0), (.getfield 56, 42, 9, 86, 0), (.getfield 137, 84, 0, 87, 0), (.bipush 24, 0, 0, 0, 24), (.iload_n 1, 0, 0, 0, 0), (.iadd, 0, 0, 0, 0), (.iaload, 85, 53, 0, 0), (.iload_n 2, 0, 0, 0, 0), (.ishr, 0, 0, 0, 0), (.iconst 1, 0, 0, 0, 1), (.iand, 0, 0, 0, 0), (.iconst 1, 0, 0, 0, 1)] [(0, vR 42), (1, vI a1), (2, vI a2), (3, vI s.1)] [vI 1, vI (((s.2 85 (Int32.toNatClampNeg ((24 : Int32) + a1))) >>> (a2 &&& 31)) &&& (1 : Int32))] s.2 46 (by decide +kernel) rfl rfl ?_
    refine sim_br hC (.if_icmp .ne 5) 51 (by decide +kernel) rfl (by decide) ?_ ?_
    · refine sim_blk0 hC [(.aload_n 0, 0, 0, 0, 0), (.getfield 30, 42, 4, 57, 0), (.aload_n 0, 0, 0, 0, 0), (.getfield 56, 42, 9, 86, 0)] [(0, vR 42), (1, vI a1), (2, vI a2), (3, vI s.1)] [vR 84, vR 55] s.2 59 (by decide +kernel) rfl rfl ?_
      refine sim_vv hC 185 mX4_pass 4 69 55 [vR 84] [] (by decide +kernel) ml_9_185 rfl rfl rfl rfl rfl rfl (fun wz hz => c_Night_pass_55_84 s.2 wz hz) (fun w2 => ?_)
      refine sim_blk0 hC [(.iinc 3 1, 0, 0, 0, 1)] [(0, vR 42), (1, vI a1), (2, vI a2), (3, vI (s.1 + 1))] [] w2 65 (by decide +kernel) rfl rfl ?_
      refine sim_bi (C := fun i3 => (65, [(0, vR 42), (1, vI a1), (2, vI a2), (3, vI i3)], [], w2)) (fun i3 => ?_)
      refine sim_goto hC (-42) 23 (by decide +kernel) (by decide) ?_
      exact sim_back (V := (V_C_meets_23 a1 a2)) ((i3, w2))
    · refine sim_blk0 hC [(.iload_n 3, 0, 0, 0, 0)] [(0, vR 42), (1, vI a1), (2, vI a2), (3, vI s.1)] [vI s.1] s.2 50 (by decide +kernel) rfl rfl ?_
      refine sim_outx ?_
      exact sim_rett hC (by decide +kernel) trivial
noncomputable def F_C_meets (w : Wld) (a1 : Int32) (a2 : Int32) : Option (Oc × Wld) :=
  bn (F_C_needMonk w a1) w (bn (F_C_needMonk w a2) w (br (¬ a1 = a2) (bv (F_C_beginTrial w) (fun w1 => bx (loop (B_C_meets_23 a1 a2) ((0, w1))) (fun r4 => some ((.inr (some (-1)), r4))))) (some ((.inr (some (-1)), w)))))
set_option maxRecDepth 10000 in
theorem s_C_meets {Z : ZT} {l : Launch} {o : Oc} {wo : Wld} {Ok : Cfg → Prop} (hC : Clo Z l 9 4 prog_1_method_22_code (some .int) 7 110 o wo Ok) (w : Wld) (a1 : Int32) (a2 : Int32) : SimK Ok (0, [(0, vR 42), (1, vI a1), (2, vI a2)], [], w) (F_C_meets w a1 a2) (Gt o wo) := by
  unfold F_C_meets
  refine sim_blk0 hC [(.aload_n 0, 0, 0, 0, 0), (.iload_n 1, 0, 0, 0, 0)] [(0, vR 42), (1, vI a1), (2, vI a2)] [vI a1, vR 42] w 2 (by decide +kernel) rfl rfl ?_
  refine sim_vn hC 168 mX10_needMonk 6 89 42 [vI a1] [] (by decide +kernel) ml_9_168 rfl rfl rfl rfl rfl rfl (fun qz hz => c_C_needMonk w a1 qz hz) ?_
  refine sim_blk0 hC [(.aload_n 0, 0, 0, 0, 0), (.iload_n 2, 0, 0, 0, 0)] [(0, vR 42), (1, vI a1), (2, vI a2)] [vI a2, vR 42] w 7 (by decide +kernel) rfl rfl ?_
  refine sim_vn hC 168 mX10_needMonk 6 89 42 [vI a2] [] (by decide +kernel) ml_9_168 rfl rfl rfl rfl rfl rfl (fun qz hz => c_C_needMonk w a2 qz hz) ?_
  refine sim_blk0 hC [(.iload_n 1, 0, 0, 0, 0), (.iload_n 2, 0, 0, 0, 0)] [(0, vR 42), (1, vI a1), (2, vI a2)] [vI a2, vI a1] w 12 (by decide +kernel) rfl rfl ?_
  refine sim_br hC (.if_icmp .ne 5) 17 (by decide +kernel) rfl (by decide) ?_ ?_
  · refine sim_blk0 hC [(.aload_n 0, 0, 0, 0, 0)] [(0, vR 42), (1, vI a1), (2, vI a2)] [vR 42] w 18 (by decide +kernel) rfl rfl ?_
    refine sim_vv hC 212 mX10_beginTrial 2 81 42 [] [] (by decide +kernel) ml_9_212 rfl rfl rfl rfl rfl rfl (fun wz hz => c_C_beginTrial w wz hz) (fun w1 => ?_)
    refine sim_blk0 hC [(.iconst 0, 0, 0, 0, 0), (.istore_n 3, 0, 0, 0, 0)] [(0, vR 42), (1, vI a1), (2, vI a2), (3, vI 0)] [] w1 23 (by decide +kernel) rfl rfl ?_
    refine sim_bx (E := (E_C_meets_23 a1 a2)) ?_ (fun r4 => ?_)
    · exact sim_loop (V := (V_C_meets_23 a1 a2)) (fun sz => s_B_C_meets_23 hC a1 a2 sz) ((0, w1))
    · show SimK Ok (68, [], [], r4) _ _
      refine sim_blk0 hC [(.iconst (-1), 0, 0, 0, (-1))] [] [vI (-1)] r4 69 (by decide +kernel) rfl rfl ?_
      exact sim_rett hC (by decide +kernel) trivial
  · refine sim_blk0 hC [(.iconst (-1), 0, 0, 0, (-1))] [(0, vR 42), (1, vI a1), (2, vI a2)] [vI (-1)] w 16 (by decide +kernel) rfl rfl ?_
    exact sim_rett hC (by decide +kernel) trivial
theorem c_C_meets {Z : ZT} {l : Launch} (w : Wld) (a1 : Int32) (a2 : Int32) (q : Oc) (w1 : Wld) (h : F_C_meets w a1 a2 = some (q, w1)) : Con Z l mX10_meets 7 110 [vR 42, vI a1, vI a2] w q w1 :=
  Con_of (oc := 9) (by decide +kernel) rfl rfl (fun Ok hC => s_C_meets hC w a1 a2 (q, w1) h ⟨rfl, rfl⟩)
def V_C_often_21 (a1 : Int32) (a2 : Int32) : (Int32 × Int32 × Wld) → Cfg := fun s => (21, [(0, vR 42), (1, vI a1), (2, vI a2), (3, vI s.1), (4, vI s.2.1)], [], s.2.2)
def E_C_often_21 (a1 : Int32) (a2 : Int32) : (Int32 × Wld) → Cfg := fun s => (58, [(3, vI s.1)], [], s.2)
noncomputable def B_C_often_21 (a1 : Int32) (a2 : Int32) (s : Int32 × Int32 × Wld) : Option ((Int32 × Int32 × Wld) ⊕ (Int32 × Wld)) :=
  br (a2 ≤ s.2.1) (some (.inr ((s.1, s.2.2)))) (bv (F_Night_pass_55_84 s.2.2) (fun w2 => bi (s.1 + (((w2 55 3) >>> (a1 &&& 31)) &&& (1 : Int32))) (fun i3 => bi (s.2.1 + 1) (fun i4 => some (.inl ((i3, i4, w2)))))))
set_option maxRecDepth 10000 in
theorem s_B_C_often_21 {Z : ZT} {l : Launch} {o : Oc} {wo : Wld} {Ok : Cfg → Prop} (hC : Clo Z l 9 5 prog_1_method_23_code (some .int) 7 111 o wo Ok) (a1 : Int32) (a2 : Int32) (s : Int32 × Int32 × Wld) : SimK Ok (V_C_often_21 a1 a2 s) (B_C_often_21 a1 a2 s) (GLp Ok (V_C_often_21 a1 a2) (GEp Ok (E_C_often_21 a1 a2))) := by
  unfold B_C_often_21
  show SimK Ok (21, [(0, vR 42), (1, vI a1), (2, vI a2), (3, vI s.1), (4, vI s.2.1)], [], s.2.2) _ _
  refine sim_blk0 hC [(.iload 4, 0, 0, 0, 0), (.iload_n 2, 0, 0, 0, 0)] [(0, vR 42), (1, vI a1), (2, vI a2), (3, vI s.1), (4, vI s.2.1)] [vI a2, vI s.2.1] s.2.2 24 (by decide +kernel) rfl rfl ?_
  refine sim_br hC (.if_icmp .ge 34) 58 (by decide +kernel) rfl (by decide) ?_ ?_
  · refine sim_sub hC [3] ?_
    exact sim_exit (E := (E_C_often_21 a1 a2)) ((s.1, s.2.2))
  · refine sim_blk0 hC [(.aload_n 0, 0, 0, 0, 0), (.getfield 30, 42, 4, 57, 0), (.aload_n 0, 0, 0, 0, 0), (.getfield 56, 42, 9, 86, 0)] [(0, vR 42), (1, vI a1), (2, vI a2), (3, vI s.1), (4, vI s.2.1)] [vR 84, vR 55] s.2.2 35 (by decide +kernel) rfl rfl ?_
    refine sim_vv hC 185 mX4_pass 4 69 55 [vR 84] [] (by decide +kernel) ml_9_185 rfl rfl rfl rfl rfl rfl (fun wz hz => c_Night_pass_55_84 s.2.2 wz hz) (fun w2 => ?_)
    refine sim_blk0 hC [(.iload_n 3, 0, 0, 0, 0), (.aload_n 0, 0, 0, 0, 0), (.getfield 30, 42, 4, 57, 0), (.getfield 203, 55, 3, 0, 0), (.iload_n 1, 0, 0, 0, 0), (.ishr, 0, 0, 0, 0), (.iconst 1, 0, 0, 0, 1), (.iand, 0, 0, 0, 0), (.iadd, 0, 0, 0, 0), (.istore_n 3, 0, 0, 0, 0)] [(0, vR 42), (1, vI a1), (2, vI a2), (3, vI (s.1 + (((w2 55 3) >>> (a1 &&& 31)) &&& (1 : Int32)))), (4, vI s.2.1)] [] w2 52 (by decide +kernel) rfl rfl ?_
    refine sim_bi (C := fun i3 => (52, [(0, vR 42), (1, vI a1), (2, vI a2), (3, vI i3), (4, vI s.2.1)], [], w2)) (fun i3 => ?_)
    refine sim_blk0 hC [(.iinc 4 1, 0, 0, 0, 1)] [(0, vR 42), (1, vI a1), (2, vI a2), (3, vI i3), (4, vI (s.2.1 + 1))] [] w2 55 (by decide +kernel) rfl rfl ?_
    refine sim_bi (C := fun i4 => (55, [(0, vR 42), (1, vI a1), (2, vI a2), (3, vI i3), (4, vI i4)], [], w2)) (fun i4 => ?_)
    refine sim_goto hC (-34) 21 (by decide +kernel) (by decide) ?_
    exact sim_back (V := (V_C_often_21 a1 a2)) ((i3, i4, w2))
noncomputable def F_C_often (w : Wld) (a1 : Int32) (a2 : Int32) : Option (Oc × Wld) :=
  bn (F_C_needMonk w a1) w (bn (F_C_needWithin w a2 0 60) w (bv (F_C_beginTrial w) (fun w1 => bl (loop (B_C_often_21 a1 a2) ((0, 0, w1))) (fun r5 => some ((.inr (some r5.1), r5.2))))))
set_option maxRecDepth 10000 in
theorem s_C_often {Z : ZT} {l : Launch} {o : Oc} {wo : Wld} {Ok : Cfg → Prop} (hC : Clo Z l 9 5 prog_1_method_23_code (some .int) 7 111 o wo Ok) (w : Wld) (a1 : Int32) (a2 : Int32) : SimK Ok (0, [(0, vR 42), (1, vI a1), (2, vI a2)], [], w) (F_C_often w a1 a2) (Gt o wo) := by
  unfold F_C_often
  refine sim_blk0 hC [(.aload_n 0, 0, 0, 0, 0), (.iload_n 1, 0, 0, 0, 0)] [(0, vR 42), (1, vI a1), (2, vI a2)] [vI a1, vR 42] w 2 (by decide +kernel) rfl rfl ?_
  refine sim_vn hC 168 mX10_needMonk 6 89 42 [vI a1] [] (by decide +kernel) ml_9_168 rfl rfl rfl rfl rfl rfl (fun qz hz => c_C_needMonk w a1 qz hz) ?_
  refine sim_blk0 hC [(.iload_n 2, 0, 0, 0, 0), (.iconst 0, 0, 0, 0, 0), (.bipush 60, 0, 0, 0, 60)] [(0, vR 42), (1, vI a1), (2, vI a2)] [vI 60, vI 0, vI a2] w 9 (by decide +kernel) rfl rfl ?_
  refine sim_sn hC 77 mX10_needWithin 6 89 [vI a2, vI 0, vI 60] [] (by decide +kernel) ml_9_77 rfl rfl rfl rfl rfl (fun qz hz => c_C_needWithin w a2 0 60 qz hz) ?_
  refine sim_blk0 hC [(.aload_n 0, 0, 0, 0, 0)] [(0, vR 42), (1, vI a1), (2, vI a2)] [vR 42] w 13 (by decide +kernel) rfl rfl ?_
  refine sim_vv hC 212 mX10_beginTrial 2 81 42 [] [] (by decide +kernel) ml_9_212 rfl rfl rfl rfl rfl rfl (fun wz hz => c_C_beginTrial w wz hz) (fun w1 => ?_)
  refine sim_blk0 hC [(.iconst 0, 0, 0, 0, 0), (.istore_n 3, 0, 0, 0, 0), (.iconst 0, 0, 0, 0, 0), (.istore 4, 0, 0, 0, 0)] [(0, vR 42), (1, vI a1), (2, vI a2), (3, vI 0), (4, vI 0)] [] w1 21 (by decide +kernel) rfl rfl ?_
  refine sim_bl (E := (E_C_often_21 a1 a2)) ?_ (fun r5 => ?_)
  · exact sim_loop (V := (V_C_often_21 a1 a2)) (fun sz => s_B_C_often_21 hC a1 a2 sz) ((0, 0, w1))
  · show SimK Ok (58, [(3, vI r5.1)], [], r5.2) _ _
    refine sim_blk0 hC [(.iload_n 3, 0, 0, 0, 0)] [(3, vI r5.1)] [vI r5.1] r5.2 59 (by decide +kernel) rfl rfl ?_
    exact sim_rett hC (by decide +kernel) trivial
theorem c_C_often {Z : ZT} {l : Launch} (w : Wld) (a1 : Int32) (a2 : Int32) (q : Oc) (w1 : Wld) (h : F_C_often w a1 a2 = some (q, w1)) : Con Z l mX10_often 7 111 [vR 42, vI a1, vI a2] w q w1 :=
  Con_of (oc := 9) (by decide +kernel) rfl rfl (fun Ok hC => s_C_often hC w a1 a2 (q, w1) h ⟨rfl, rfl⟩)
def V_C_ringBits_5 (a1 : Int32) (w : Wld) : (Int32 × Int32) → Cfg := fun s => (5, [(0, vR 42), (1, vI a1), (3, vI s.1), (4, vI s.2)], [], w)
def E_C_ringBits_5 (a1 : Int32) (w : Wld) : (Int32) → Cfg := fun s => (38, [(0, vR 42), (1, vI a1), (3, vI s)], [], w)
noncomputable def B_C_ringBits_5 (a1 : Int32) (w : Wld) (s : Int32 × Int32) : Option ((Int32 × Int32) ⊕ (Int32)) :=
  br ((w 56 0) ≤ s.2) (some (.inr s.1)) (gd (vp_in (a1 + s.1) 53) (bi (w 66 (Int32.toNatClampNeg (a1 + s.1))) (fun i1 => bi (s.2 + 1) (fun i2 => some (.inl ((i1, i2)))))))
set_option maxRecDepth 10000 in
theorem s_B_C_ringBits_5 {Z : ZT} {l : Launch} {o : Oc} {wo : Wld} {Ok : Cfg → Prop} (hC : Clo Z l 9 6 prog_1_method_36_code (some .int) 1 0 o wo Ok) (a1 : Int32) (w : Wld) (s : Int32 × Int32) : SimK Ok (V_C_ringBits_5 a1 w s) (B_C_ringBits_5 a1 w s) (GLp Ok (V_C_ringBits_5 a1 w) (GEp Ok (E_C_ringBits_5 a1 w))) := by
  unfold B_C_ringBits_5
  show SimK Ok (5, [(0, vR 42), (1, vI a1), (3, vI s.1), (4, vI s.2)], [], w) _ _
  refine sim_blk0 hC [(.iload 4, 0, 0, 0, 0), (.aload_n 0, 0, 0, 0, 0), (.getfield 38, 42, 5, 58, 0), (.getfield 125, 56, 0, 0, 0)] [(0, vR 42), (1, vI a1), (3, vI s.1), (4, vI s.2)] [vI (w 56 0), vI s.2] w 14 (by decide +kernel) rfl rfl ?_
  refine sim_br hC (.if_icmp .ge 24) 38 (by decide +kernel) rfl (by decide) ?_ ?_
  · refine sim_sub hC [0, 1, 2] ?_
    exact sim_exit (E := (E_C_ringBits_5 a1 w)) s.1
  · refine sim_blk1 hC [(.aload_n 0, 0, 0, 0, 0), (.getfield 42, 42, 6, 66, 0), (.getfield 100, 64, 0, 67, 0), (.getfield 137, 65, 0, 68, 0), (.iload_n 1, 0, 0, 0, 0), (.iload_n 3, 0, 0, 0, 0), (.iadd, 0, 0, 0, 0), (.iaload, 66, 53, 0, 0), (.istore_n 3, 0, 0, 0, 0)] [(0, vR 42), (1, vI a1), (3, vI (w 66 (Int32.toNatClampNeg (a1 + s.1)))), (4, vI s.2)] [] w 32 (by decide +kernel) rfl rfl ?_
    refine sim_bi (C := fun i1 => (32, [(0, vR 42), (1, vI a1), (3, vI i1), (4, vI s.2)], [], w)) (fun i1 => ?_)
    refine sim_blk0 hC [(.iinc 4 1, 0, 0, 0, 1)] [(0, vR 42), (1, vI a1), (3, vI i1), (4, vI (s.2 + 1))] [] w 35 (by decide +kernel) rfl rfl ?_
    refine sim_bi (C := fun i2 => (35, [(0, vR 42), (1, vI a1), (3, vI i1), (4, vI i2)], [], w)) (fun i2 => ?_)
    refine sim_goto hC (-30) 5 (by decide +kernel) (by decide) ?_
    exact sim_back (V := (V_C_ringBits_5 a1 w)) ((i1, i2))
def V_C_ringBits_44 (a1 : Int32) (w : Wld) : (Int32 × Int32 × Int32) → Cfg := fun s => (44, [(0, vR 42), (1, vI a1), (3, vI s.1), (4, vI s.2.1), (5, vI s.2.2)], [], w)
def E_C_ringBits_44 (a1 : Int32) (w : Wld) : (Int32) → Cfg := fun s => (85, [(4, vI s)], [], w)
noncomputable def B_C_ringBits_44 (a1 : Int32) (w : Wld) (s : Int32 × Int32 × Int32) : Option ((Int32 × Int32 × Int32) ⊕ (Int32)) :=
  br ((w 56 0) ≤ s.2.2) (some (.inr s.2.1)) (bi (s.2.1 ||| ((1 : Int32) <<< (s.1 &&& 31))) (fun i4 => gd (vp_in (a1 + s.1) 53) (bi (w 66 (Int32.toNatClampNeg (a1 + s.1))) (fun i5 => bi (s.2.2 + 1) (fun i6 => some (.inl ((i5, i4, i6))))))))
set_option maxRecDepth 10000 in
theorem s_B_C_ringBits_44 {Z : ZT} {l : Launch} {o : Oc} {wo : Wld} {Ok : Cfg → Prop} (hC : Clo Z l 9 6 prog_1_method_36_code (some .int) 1 0 o wo Ok) (a1 : Int32) (w : Wld) (s : Int32 × Int32 × Int32) : SimK Ok (V_C_ringBits_44 a1 w s) (B_C_ringBits_44 a1 w s) (GLp Ok (V_C_ringBits_44 a1 w) (GEp Ok (E_C_ringBits_44 a1 w))) := by
  unfold B_C_ringBits_44
  show SimK Ok (44, [(0, vR 42), (1, vI a1), (3, vI s.1), (4, vI s.2.1), (5, vI s.2.2)], [], w) _ _
  refine sim_blk0 hC [(.iload 5, 0, 0, 0, 0), (.aload_n 0, 0, 0, 0, 0), (.getfield 38, 42, 5, 58, 0), (.getfield 125, 56, 0, 0, 0)] [(0, vR 42), (1, vI a1), (3, vI s.1), (4, vI s.2.1), (5, vI s.2.2)] [vI (w 56 0), vI s.2.2] w 53 (by decide +kernel) rfl rfl ?_
  refine sim_br hC (.if_icmp .ge 32) 85 (by decide +kernel) rfl (by decide) ?_ ?_
  · refine sim_sub hC [3] ?_
    exact sim_exit (E := (E_C_ringBits_44 a1 w)) s.2.1
  · refine sim_blk0 hC [(.iload 4, 0, 0, 0, 0), (.iconst 1, 0, 0, 0, 1), (.iload_n 3, 0, 0, 0, 0), (.ishl, 0, 0, 0, 0), (.ior, 0, 0, 0, 0), (.istore 4, 0, 0, 0, 0)] [(0, vR 42), (1, vI a1), (3, vI s.1), (4, vI (s.2.1 ||| ((1 : Int32) <<< (s.1 &&& 31)))), (5, vI s.2.2)] [] w 64 (by decide +kernel) rfl rfl ?_
    refine sim_bi (C := fun i4 => (64, [(0, vR 42), (1, vI a1), (3, vI s.1), (4, vI i4), (5, vI s.2.2)], [], w)) (fun i4 => ?_)
    refine sim_blk1 hC [(.aload_n 0, 0, 0, 0, 0), (.getfield 42, 42, 6, 66, 0), (.getfield 100, 64, 0, 67, 0), (.getfield 137, 65, 0, 68, 0), (.iload_n 1, 0, 0, 0, 0), (.iload_n 3, 0, 0, 0, 0), (.iadd, 0, 0, 0, 0), (.iaload, 66, 53, 0, 0), (.istore_n 3, 0, 0, 0, 0)] [(0, vR 42), (1, vI a1), (3, vI (w 66 (Int32.toNatClampNeg (a1 + s.1)))), (4, vI i4), (5, vI s.2.2)] [] w 79 (by decide +kernel) rfl rfl ?_
    refine sim_bi (C := fun i5 => (79, [(0, vR 42), (1, vI a1), (3, vI i5), (4, vI i4), (5, vI s.2.2)], [], w)) (fun i5 => ?_)
    refine sim_blk0 hC [(.iinc 5 1, 0, 0, 0, 1)] [(0, vR 42), (1, vI a1), (3, vI i5), (4, vI i4), (5, vI (s.2.2 + 1))] [] w 82 (by decide +kernel) rfl rfl ?_
    refine sim_bi (C := fun i6 => (82, [(0, vR 42), (1, vI a1), (3, vI i5), (4, vI i4), (5, vI i6)], [], w)) (fun i6 => ?_)
    refine sim_goto hC (-38) 44 (by decide +kernel) (by decide) ?_
    exact sim_back (V := (V_C_ringBits_44 a1 w)) ((i5, i4, i6))
noncomputable def F_C_ringBits (w : Wld) (a1 : Int32) (a2 : Int32) : Option (Int32) :=
  bl (loop (B_C_ringBits_5 a1 w) ((a2, 0))) (fun r3 => bl (loop (B_C_ringBits_44 a1 w) ((r3, 0, 0))) (fun r7 => some r7))
set_option maxRecDepth 10000 in
theorem s_C_ringBits {Z : ZT} {l : Launch} {o : Oc} {wo : Wld} {Ok : Cfg → Prop} (hC : Clo Z l 9 6 prog_1_method_36_code (some .int) 1 0 o wo Ok) (w : Wld) (a1 : Int32) (a2 : Int32) : SimK Ok (0, [(0, vR 42), (1, vI a1), (2, vI a2)], [], w) (F_C_ringBits w a1 a2) (Gp o wo w) := by
  unfold F_C_ringBits
  refine sim_blk0 hC [(.iload_n 2, 0, 0, 0, 0), (.istore_n 3, 0, 0, 0, 0), (.iconst 0, 0, 0, 0, 0), (.istore 4, 0, 0, 0, 0)] [(0, vR 42), (1, vI a1), (2, vI a2), (3, vI a2), (4, vI 0)] [] w 5 (by decide +kernel) rfl rfl ?_
  refine sim_bl (E := (E_C_ringBits_5 a1 w)) ?_ (fun r3 => ?_)
  · refine sim_sub hC [0, 1, 3, 4] ?_
    exact sim_loop (V := (V_C_ringBits_5 a1 w)) (fun sz => s_B_C_ringBits_5 hC a1 w sz) ((a2, 0))
  · show SimK Ok (38, [(0, vR 42), (1, vI a1), (3, vI r3)], [], w) _ _
    refine sim_blk0 hC [(.iconst 0, 0, 0, 0, 0), (.istore 4, 0, 0, 0, 0), (.iconst 0, 0, 0, 0, 0), (.istore 5, 0, 0, 0, 0)] [(0, vR 42), (1, vI a1), (3, vI r3), (4, vI 0), (5, vI 0)] [] w 44 (by decide +kernel) rfl rfl ?_
    refine sim_bl (E := (E_C_ringBits_44 a1 w)) ?_ (fun r7 => ?_)
    · exact sim_loop (V := (V_C_ringBits_44 a1 w)) (fun sz => s_B_C_ringBits_44 hC a1 w sz) ((r3, 0, 0))
    · show SimK Ok (85, [(4, vI r7)], [], w) _ _
      refine sim_blk0 hC [(.iload 4, 0, 0, 0, 0)] [(4, vI r7)] [vI r7] w 87 (by decide +kernel) rfl rfl ?_
      exact sim_retp hC (by decide +kernel) trivial
theorem c_C_ringBits {Z : ZT} {l : Launch} (w : Wld) (a1 : Int32) (a2 : Int32) (r : Int32) (h : F_C_ringBits w a1 a2 = some r) : Con Z l mX10_ringBits 1 0 [vR 42, vI a1, vI a2] w (.inr (some r)) w :=
  Con_of (oc := 9) (by decide +kernel) rfl rfl (fun Ok hC => s_C_ringBits hC w a1 a2 r h ⟨rfl, rfl⟩)
def V_C_stepsInto_6 (a1 : Int32) (a2 : Int32) (w : Wld) : (Int32 × Int32) → Cfg := fun s => (6, [(0, vR 42), (1, vI a1), (2, vI a2), (4, vI s.1), (5, vI s.2)], [], w)
def E_C_stepsInto_6 (a1 : Int32) (a2 : Int32) (w : Wld) : (Int32) → Cfg := fun s => (50, [(5, vI s)], [], w)
noncomputable def B_C_stepsInto_6 (a1 : Int32) (a2 : Int32) (w : Wld) (s : Int32 × Int32) : Option ((Int32 × Int32) ⊕ (Int32)) :=
  br ((w 56 0) ≤ s.2) (some (.inr s.2)) (br (¬ ((a1 >>> (s.1 &&& 31)) &&& (1 : Int32)) = 0) (some (.inr s.2)) (gd (vp_in (a2 + s.1) 53) (bi (w 66 (Int32.toNatClampNeg (a2 + s.1))) (fun i1 => bi (s.2 + 1) (fun i2 => some (.inl ((i1, i2))))))))
set_option maxRecDepth 10000 in
theorem s_B_C_stepsInto_6 {Z : ZT} {l : Launch} {o : Oc} {wo : Wld} {Ok : Cfg → Prop} (hC : Clo Z l 9 6 prog_1_method_37_code (some .int) 1 0 o wo Ok) (a1 : Int32) (a2 : Int32) (w : Wld) (s : Int32 × Int32) : SimK Ok (V_C_stepsInto_6 a1 a2 w s) (B_C_stepsInto_6 a1 a2 w s) (GLp Ok (V_C_stepsInto_6 a1 a2 w) (GEp Ok (E_C_stepsInto_6 a1 a2 w))) := by
  unfold B_C_stepsInto_6
  show SimK Ok (6, [(0, vR 42), (1, vI a1), (2, vI a2), (4, vI s.1), (5, vI s.2)], [], w) _ _
  refine sim_blk0 hC [(.iload 5, 0, 0, 0, 0), (.aload_n 0, 0, 0, 0, 0), (.getfield 38, 42, 5, 58, 0), (.getfield 125, 56, 0, 0, 0)] [(0, vR 42), (1, vI a1), (2, vI a2), (4, vI s.1), (5, vI s.2)] [vI (w 56 0), vI s.2] w 15 (by decide +kernel) rfl rfl ?_
  refine sim_br hC (.if_icmp .ge 35) 50 (by decide +kernel) rfl (by decide) ?_ ?_
  · refine sim_sub hC [4] ?_
    exact sim_exit (E := (E_C_stepsInto_6 a1 a2 w)) s.2
  · refine sim_blk0 hC [(.iload_n 1, 0, 0, 0, 0), (.iload 4, 0, 0, 0, 0), (.ishr, 0, 0, 0, 0), (.iconst 1, 0, 0, 0, 1), (.iand, 0, 0, 0, 0)] [(0, vR 42), (1, vI a1), (2, vI a2), (4, vI s.1), (5, vI s.2)] [vI ((a1 >>> (s.1 &&& 31)) &&& (1 : Int32))] w 24 (by decide +kernel) rfl rfl ?_
    refine sim_br hC (.ifCond .ne 26) 50 (by decide +kernel) rfl (by decide) ?_ ?_
    · refine sim_sub hC [4] ?_
      exact sim_exit (E := (E_C_stepsInto_6 a1 a2 w)) s.2
    · refine sim_blk1 hC [(.aload_n 0, 0, 0, 0, 0), (.getfield 42, 42, 6, 66, 0), (.getfield 100, 64, 0, 67, 0), (.getfield 137, 65, 0, 68, 0), (.iload_n 2, 0, 0, 0, 0), (.iload 4, 0, 0, 0, 0), (.iadd, 0, 0, 0, 0), (.iaload, 66, 53, 0, 0), (.istore 4, 0, 0, 0, 0)] [(0, vR 42), (1, vI a1), (2, vI a2), (4, vI (w 66 (Int32.toNatClampNeg (a2 + s.1)))), (5, vI s.2)] [] w 44 (by decide +kernel) rfl rfl ?_
      refine sim_bi (C := fun i1 => (44, [(0, vR 42), (1, vI a1), (2, vI a2), (4, vI i1), (5, vI s.2)], [], w)) (fun i1 => ?_)
      refine sim_blk0 hC [(.iinc 5 1, 0, 0, 0, 1)] [(0, vR 42), (1, vI a1), (2, vI a2), (4, vI i1), (5, vI (s.2 + 1))] [] w 47 (by decide +kernel) rfl rfl ?_
      refine sim_bi (C := fun i2 => (47, [(0, vR 42), (1, vI a1), (2, vI a2), (4, vI i1), (5, vI i2)], [], w)) (fun i2 => ?_)
      refine sim_goto hC (-41) 6 (by decide +kernel) (by decide) ?_
      exact sim_back (V := (V_C_stepsInto_6 a1 a2 w)) ((i1, i2))
noncomputable def F_C_stepsInto (w : Wld) (a1 : Int32) (a2 : Int32) (a3 : Int32) : Option (Int32) :=
  bl (loop (B_C_stepsInto_6 a1 a2 w) ((a3, 0))) (fun r3 => some r3)
set_option maxRecDepth 10000 in
theorem s_C_stepsInto {Z : ZT} {l : Launch} {o : Oc} {wo : Wld} {Ok : Cfg → Prop} (hC : Clo Z l 9 6 prog_1_method_37_code (some .int) 1 0 o wo Ok) (w : Wld) (a1 : Int32) (a2 : Int32) (a3 : Int32) : SimK Ok (0, [(0, vR 42), (1, vI a1), (2, vI a2), (3, vI a3)], [], w) (F_C_stepsInto w a1 a2 a3) (Gp o wo w) := by
  unfold F_C_stepsInto
  refine sim_blk0 hC [(.iload_n 3, 0, 0, 0, 0), (.istore 4, 0, 0, 0, 0), (.iconst 0, 0, 0, 0, 0), (.istore 5, 0, 0, 0, 0)] [(0, vR 42), (1, vI a1), (2, vI a2), (3, vI a3), (4, vI a3), (5, vI 0)] [] w 6 (by decide +kernel) rfl rfl ?_
  refine sim_bl (E := (E_C_stepsInto_6 a1 a2 w)) ?_ (fun r3 => ?_)
  · refine sim_sub hC [0, 1, 2, 4, 5] ?_
    exact sim_loop (V := (V_C_stepsInto_6 a1 a2 w)) (fun sz => s_B_C_stepsInto_6 hC a1 a2 w sz) ((a3, 0))
  · show SimK Ok (50, [(5, vI r3)], [], w) _ _
    refine sim_blk0 hC [(.iload 5, 0, 0, 0, 0)] [(5, vI r3)] [vI r3] w 52 (by decide +kernel) rfl rfl ?_
    exact sim_retp hC (by decide +kernel) trivial
theorem c_C_stepsInto {Z : ZT} {l : Launch} (w : Wld) (a1 : Int32) (a2 : Int32) (a3 : Int32) (r : Int32) (h : F_C_stepsInto w a1 a2 a3 = some r) : Con Z l mX10_stepsInto 1 0 [vR 42, vI a1, vI a2, vI a3] w (.inr (some r)) w :=
  Con_of (oc := 9) (by decide +kernel) rfl rfl (fun Ok hC => s_C_stepsInto hC w a1 a2 a3 r h ⟨rfl, rfl⟩)
noncomputable def K_C_ring_53 (t0 : Int32) (w : Wld) : Option (Oc × Wld) :=
  some ((.inr (some t0), w))
set_option maxRecDepth 10000 in
theorem s_K_C_ring_53 {Z : ZT} {l : Launch} {o : Oc} {wo : Wld} {Ok : Cfg → Prop} (hC : Clo Z l 9 6 prog_1_method_35_code (some .int) 7 110 o wo Ok) (t0 : Int32) (w : Wld) : SimK Ok (53, [], [vI t0], w) (K_C_ring_53 t0 w) (Gt o wo) := by
  unfold K_C_ring_53
  exact sim_rett hC (by decide +kernel) trivial
noncomputable def K_C_ring_21 (a1 : Int32) (a3 : Int32) (t0 : Int32) (w : Wld) : Option (Oc × Wld) :=
  bp (F_C_ringBits w t0 a1) (fun i1 => br (¬ a3 = 0) (bp (F_C_stepsInto w i1 t0 a1) (fun i2 => K_C_ring_53 i2 w)) (bp (F_JI_bitCount w i1) (fun i3 => K_C_ring_53 i3 w)))
set_option maxRecDepth 10000 in
theorem s_K_C_ring_21 {Z : ZT} {l : Launch} {o : Oc} {wo : Wld} {Ok : Cfg → Prop} (hC : Clo Z l 9 6 prog_1_method_35_code (some .int) 7 110 o wo Ok) (a1 : Int32) (a3 : Int32) (t0 : Int32) (w : Wld) : SimK Ok (21, [(0, vR 42), (1, vI a1), (3, vI a3)], [vI t0], w) (K_C_ring_21 a1 a3 t0 w) (Gt o wo) := by
  unfold K_C_ring_21
  refine sim_blk0 hC [(.istore 4, 0, 0, 0, 0), (.aload_n 0, 0, 0, 0, 0), (.iload 4, 0, 0, 0, 0), (.iload_n 1, 0, 0, 0, 0)] [(0, vR 42), (1, vI a1), (3, vI a3), (4, vI t0)] [vI a1, vI t0, vR 42] w 27 (by decide +kernel) rfl rfl ?_
  refine sim_vp hC 239 mX10_ringBits 1 0 42 [vI t0, vI a1] [] (by decide +kernel) ml_9_239 rfl rfl rfl rfl rfl rfl (fun rz hz => c_C_ringBits w t0 a1 rz hz) (fun i1 => ?_)
  refine sim_blk0 hC [(.istore 5, 0, 0, 0, 0), (.iload_n 3, 0, 0, 0, 0)] [(0, vR 42), (1, vI a1), (3, vI a3), (4, vI t0), (5, vI i1)] [vI a3] w 33 (by decide +kernel) rfl rfl ?_
  refine sim_br hC (.ifCond .ne 11) 44 (by decide +kernel) rfl (by decide) ?_ ?_
  · refine sim_blk0 hC [(.aload_n 0, 0, 0, 0, 0), (.iload 5, 0, 0, 0, 0), (.iload 4, 0, 0, 0, 0), (.iload_n 1, 0, 0, 0, 0)] [(0, vR 42), (1, vI a1), (3, vI a3), (4, vI t0), (5, vI i1)] [vI a1, vI t0, vI i1, vR 42] w 50 (by decide +kernel) rfl rfl ?_
    refine sim_vp hC 242 mX10_stepsInto 1 0 42 [vI i1, vI t0, vI a1] [] (by decide +kernel) ml_9_242 rfl rfl rfl rfl rfl rfl (fun rz hz => c_C_stepsInto w i1 t0 a1 rz hz) (fun i2 => ?_)
    refine sim_sub hC [] ?_
    exact s_K_C_ring_53 hC i2 w
  · refine sim_blk0 hC [(.iload 5, 0, 0, 0, 0)] [(0, vR 42), (1, vI a1), (3, vI a3), (4, vI t0), (5, vI i1)] [vI i1] w 38 (by decide +kernel) rfl rfl ?_
    refine sim_sp hC 218 mJ6_bitCount_0f7a4 1 0 [vI i1] [] (by decide +kernel) ml_9_218 rfl rfl rfl rfl rfl (fun rz hz => c_JI_bitCount w i1 rz hz) (fun i3 => ?_)
    refine sim_goto hC 12 53 (by decide +kernel) (by decide) ?_
    refine sim_sub hC [] ?_
    exact s_K_C_ring_53 hC i3 w
noncomputable def F_C_ring (w : Wld) (a1 : Int32) (a2 : Int32) (a3 : Int32) : Option (Oc × Wld) :=
  bn (F_C_needRoom w a1) w (bn (F_C_needWhat w a3 1) w (br (a2 = 0) (K_C_ring_21 a1 a3 32 w) (K_C_ring_21 a1 a3 41 w)))
set_option maxRecDepth 10000 in
theorem s_C_ring {Z : ZT} {l : Launch} {o : Oc} {wo : Wld} {Ok : Cfg → Prop} (hC : Clo Z l 9 6 prog_1_method_35_code (some .int) 7 110 o wo Ok) (w : Wld) (a1 : Int32) (a2 : Int32) (a3 : Int32) : SimK Ok (0, [(0, vR 42), (1, vI a1), (2, vI a2), (3, vI a3)], [], w) (F_C_ring w a1 a2 a3) (Gt o wo) := by
  unfold F_C_ring
  refine sim_blk0 hC [(.aload_n 0, 0, 0, 0, 0), (.iload_n 1, 0, 0, 0, 0)] [(0, vR 42), (1, vI a1), (2, vI a2), (3, vI a3)] [vI a1, vR 42] w 2 (by decide +kernel) rfl rfl ?_
  refine sim_vn hC 154 mX10_needRoom 6 89 42 [vI a1] [] (by decide +kernel) ml_9_154 rfl rfl rfl rfl rfl rfl (fun qz hz => c_C_needRoom w a1 qz hz) ?_
  refine sim_blk0 hC [(.iload_n 3, 0, 0, 0, 0), (.iconst 1, 0, 0, 0, 1)] [(0, vR 42), (1, vI a1), (2, vI a2), (3, vI a3)] [vI 1, vI a3] w 7 (by decide +kernel) rfl rfl ?_
  refine sim_sn hC 157 mX10_needWhat 6 89 [vI a3, vI 1] [] (by decide +kernel) ml_9_157 rfl rfl rfl rfl rfl (fun qz hz => c_C_needWhat w a3 1 qz hz) ?_
  refine sim_blk0 hC [(.iload_n 2, 0, 0, 0, 0)] [(0, vR 42), (1, vI a1), (2, vI a2), (3, vI a3)] [vI a2] w 11 (by decide +kernel) rfl rfl ?_
  refine sim_br hC (.ifCond .eq 8) 19 (by decide +kernel) rfl (by decide) ?_ ?_
  · refine sim_blk0 hC [(.bipush 32, 0, 0, 0, 32)] [(0, vR 42), (1, vI a1), (2, vI a2), (3, vI a3)] [vI 32] w 21 (by decide +kernel) rfl rfl ?_
    refine sim_sub hC [0, 1, 3] ?_
    exact s_K_C_ring_21 hC a1 a3 32 w
  · refine sim_blk0 hC [(.bipush 41, 0, 0, 0, 41)] [(0, vR 42), (1, vI a1), (2, vI a2), (3, vI a3)] [vI 41] w 16 (by decide +kernel) rfl rfl ?_
    refine sim_goto hC 5 21 (by decide +kernel) (by decide) ?_
    refine sim_sub hC [0, 1, 3] ?_
    exact s_K_C_ring_21 hC a1 a3 41 w
theorem c_C_ring {Z : ZT} {l : Launch} (w : Wld) (a1 : Int32) (a2 : Int32) (a3 : Int32) (q : Oc) (w1 : Wld) (h : F_C_ring w a1 a2 a3 = some (q, w1)) : Con Z l mX10_ring 7 110 [vR 42, vI a1, vI a2, vI a3] w q w1 :=
  Con_of (oc := 9) (by decide +kernel) rfl rfl (fun Ok hC => s_C_ring hC w a1 a2 a3 (q, w1) h ⟨rfl, rfl⟩)
def V_C_stepFrom_4 (a1 : Int32) (w : Wld) : (Int32 × Int32) → Cfg := fun s => (4, [(0, vR 42), (1, vI a1), (2, vI s.1), (3, vI s.2)], [], w)
def E_C_stepFrom_4 (a1 : Int32) (w : Wld) : (Int32) → Cfg := fun s => (70, [(2, vI s)], [], w)
noncomputable def K_C_stepFrom_64 (a1 : Int32) (a2 : Int32) (a3 : Int32) (w : Wld) : Option ((Int32 × Int32) ⊕ (Int32)) :=
  bi (a3 + 1) (fun i1 => some (.inl ((a2, i1))))
set_option maxRecDepth 10000 in
theorem s_K_C_stepFrom_64 {Z : ZT} {l : Launch} {o : Oc} {wo : Wld} {Ok : Cfg → Prop} (hC : Clo Z l 9 4 prog_1_method_39_code (some .int) 1 0 o wo Ok) (a1 : Int32) (a2 : Int32) (a3 : Int32) (w : Wld) : SimK Ok (64, [(0, vR 42), (1, vI a1), (2, vI a2), (3, vI a3)], [], w) (K_C_stepFrom_64 a1 a2 a3 w) (GLp Ok (V_C_stepFrom_4 a1 w) (GEp Ok (E_C_stepFrom_4 a1 w))) := by
  unfold K_C_stepFrom_64
  refine sim_blk0 hC [(.iinc 3 1, 0, 0, 0, 1)] [(0, vR 42), (1, vI a1), (2, vI a2), (3, vI (a3 + 1))] [] w 67 (by decide +kernel) rfl rfl ?_
  refine sim_bi (C := fun i1 => (67, [(0, vR 42), (1, vI a1), (2, vI a2), (3, vI i1)], [], w)) (fun i1 => ?_)
  refine sim_goto hC (-63) 4 (by decide +kernel) (by decide) ?_
  exact sim_back (V := (V_C_stepFrom_4 a1 w)) ((a2, i1))
noncomputable def B_C_stepFrom_4 (a1 : Int32) (w : Wld) (s : Int32 × Int32) : Option ((Int32 × Int32) ⊕ (Int32)) :=
  br ((w 56 0) ≤ s.2) (some (.inr s.1)) (br (¬ ((a1 >>> (s.2 &&& 31)) &&& (1 : Int32)) = 1) (K_C_stepFrom_64 a1 s.1 s.2 w) (gd (vp_in ((32 : Int32) + s.2) 53) (bi (s.1 ||| ((1 : Int32) <<< ((w 66 (Int32.toNatClampNeg ((32 : Int32) + s.2))) &&& 31))) (fun i2 => gd (vp_in ((41 : Int32) + s.2) 53) (bi (i2 ||| ((1 : Int32) <<< ((w 66 (Int32.toNatClampNeg ((41 : Int32) + s.2))) &&& 31))) (fun i3 => K_C_stepFrom_64 a1 i3 s.2 w))))))
set_option maxRecDepth 10000 in
theorem s_B_C_stepFrom_4 {Z : ZT} {l : Launch} {o : Oc} {wo : Wld} {Ok : Cfg → Prop} (hC : Clo Z l 9 4 prog_1_method_39_code (some .int) 1 0 o wo Ok) (a1 : Int32) (w : Wld) (s : Int32 × Int32) : SimK Ok (V_C_stepFrom_4 a1 w s) (B_C_stepFrom_4 a1 w s) (GLp Ok (V_C_stepFrom_4 a1 w) (GEp Ok (E_C_stepFrom_4 a1 w))) := by
  unfold B_C_stepFrom_4
  show SimK Ok (4, [(0, vR 42), (1, vI a1), (2, vI s.1), (3, vI s.2)], [], w) _ _
  refine sim_blk0 hC [(.iload_n 3, 0, 0, 0, 0), (.aload_n 0, 0, 0, 0, 0), (.getfield 38, 42, 5, 58, 0), (.getfield 125, 56, 0, 0, 0)] [(0, vR 42), (1, vI a1), (2, vI s.1), (3, vI s.2)] [vI (w 56 0), vI s.2] w 12 (by decide +kernel) rfl rfl ?_
  refine sim_br hC (.if_icmp .ge 58) 70 (by decide +kernel) rfl (by decide) ?_ ?_
  · refine sim_sub hC [2] ?_
    exact sim_exit (E := (E_C_stepFrom_4 a1 w)) s.1
  · refine sim_blk0 hC [(.iload_n 1, 0, 0, 0, 0), (.iload_n 3, 0, 0, 0, 0), (.ishr, 0, 0, 0, 0), (.iconst 1, 0, 0, 0, 1), (.iand, 0, 0, 0, 0), (.iconst 1, 0, 0, 0, 1)] [(0, vR 42), (1, vI a1), (2, vI s.1), (3, vI s.2)] [vI 1, vI ((a1 >>> (s.2 &&& 31)) &&& (1 : Int32))] w 21 (by decide +kernel) rfl rfl ?_
    refine sim_br hC (.if_icmp .ne 43) 64 (by decide +kernel) rfl (by decide) ?_ ?_
    · exact s_K_C_stepFrom_64 hC a1 s.1 s.2 w
    · refine sim_blk1 hC [(.iload_n 2, 0, 0, 0, 0), (.iconst 1, 0, 0, 0, 1), (.aload_n 0, 0, 0, 0, 0), (.getfield 42, 42, 6, 66, 0), (.getfield 100, 64, 0, 67, 0), (.getfield 137, 65, 0, 68, 0), (.bipush 32, 0, 0, 0, 32), (.iload_n 3, 0, 0, 0, 0), (.iadd, 0, 0, 0, 0), (.iaload, 66, 53, 0, 0), (.ishl, 0, 0, 0, 0), (.ior, 0, 0, 0, 0), (.istore_n 2, 0, 0, 0, 0)] [(0, vR 42), (1, vI a1), (2, vI (s.1 ||| ((1 : Int32) <<< ((w 66 (Int32.toNatClampNeg ((32 : Int32) + s.2))) &&& 31)))), (3, vI s.2)] [] w 44 (by decide +kernel) rfl rfl ?_
      refine sim_bi (C := fun i2 => (44, [(0, vR 42), (1, vI a1), (2, vI i2), (3, vI s.2)], [], w)) (fun i2 => ?_)
      refine sim_blk1 hC [(.iload_n 2, 0, 0, 0, 0), (.iconst 1, 0, 0, 0, 1), (.aload_n 0, 0, 0, 0, 0), (.getfield 42, 42, 6, 66, 0), (.getfield 100, 64, 0, 67, 0), (.getfield 137, 65, 0, 68, 0), (.bipush 41, 0, 0, 0, 41), (.iload_n 3, 0, 0, 0, 0), (.iadd, 0, 0, 0, 0), (.iaload, 66, 53, 0, 0), (.ishl, 0, 0, 0, 0), (.ior, 0, 0, 0, 0), (.istore_n 2, 0, 0, 0, 0)] [(0, vR 42), (1, vI a1), (2, vI (i2 ||| ((1 : Int32) <<< ((w 66 (Int32.toNatClampNeg ((41 : Int32) + s.2))) &&& 31)))), (3, vI s.2)] [] w 64 (by decide +kernel) rfl rfl ?_
      refine sim_bi (C := fun i3 => (64, [(0, vR 42), (1, vI a1), (2, vI i3), (3, vI s.2)], [], w)) (fun i3 => ?_)
      exact s_K_C_stepFrom_64 hC a1 i3 s.2 w
noncomputable def F_C_stepFrom (w : Wld) (a1 : Int32) : Option (Int32) :=
  bl (loop (B_C_stepFrom_4 a1 w) ((0, 0))) (fun r4 => some r4)
set_option maxRecDepth 10000 in
theorem s_C_stepFrom {Z : ZT} {l : Launch} {o : Oc} {wo : Wld} {Ok : Cfg → Prop} (hC : Clo Z l 9 4 prog_1_method_39_code (some .int) 1 0 o wo Ok) (w : Wld) (a1 : Int32) : SimK Ok (0, [(0, vR 42), (1, vI a1)], [], w) (F_C_stepFrom w a1) (Gp o wo w) := by
  unfold F_C_stepFrom
  refine sim_blk0 hC [(.iconst 0, 0, 0, 0, 0), (.istore_n 2, 0, 0, 0, 0), (.iconst 0, 0, 0, 0, 0), (.istore_n 3, 0, 0, 0, 0)] [(0, vR 42), (1, vI a1), (2, vI 0), (3, vI 0)] [] w 4 (by decide +kernel) rfl rfl ?_
  refine sim_bl (E := (E_C_stepFrom_4 a1 w)) ?_ (fun r4 => ?_)
  · exact sim_loop (V := (V_C_stepFrom_4 a1 w)) (fun sz => s_B_C_stepFrom_4 hC a1 w sz) ((0, 0))
  · show SimK Ok (70, [(2, vI r4)], [], w) _ _
    refine sim_blk0 hC [(.iload_n 2, 0, 0, 0, 0)] [(2, vI r4)] [vI r4] w 71 (by decide +kernel) rfl rfl ?_
    exact sim_retp hC (by decide +kernel) trivial
theorem c_C_stepFrom {Z : ZT} {l : Launch} (w : Wld) (a1 : Int32) (r : Int32) (h : F_C_stepFrom w a1 = some r) : Con Z l mX10_stepFrom 1 0 [vR 42, vI a1] w (.inr (some r)) w :=
  Con_of (oc := 9) (by decide +kernel) rfl rfl (fun Ok hC => s_C_stepFrom hC w a1 r h ⟨rfl, rfl⟩)
def V_C_from_11 (w : Wld) : (Int32 × Int32) → Cfg := fun s => (11, [(0, vR 42), (2, vI s.1), (3, vI s.2)], [], w)
def E_C_from_11 (w : Wld) : (Int32) → Cfg := fun s => (36, [(2, vI s)], [], w)
noncomputable def B_C_from_11 (w : Wld) (s : Int32 × Int32) : Option ((Int32 × Int32) ⊕ (Int32)) :=
  br ((w 56 0) ≤ s.2) (some (.inr s.1)) (bp (F_C_stepFrom w s.1) (fun i2 => bi (s.1 ||| i2) (fun i3 => bi (s.2 + 1) (fun i4 => some (.inl ((i3, i4)))))))
set_option maxRecDepth 10000 in
theorem s_B_C_from_11 {Z : ZT} {l : Launch} {o : Oc} {wo : Wld} {Ok : Cfg → Prop} (hC : Clo Z l 9 4 prog_1_method_38_code (some .int) 7 110 o wo Ok) (w : Wld) (s : Int32 × Int32) : SimK Ok (V_C_from_11 w s) (B_C_from_11 w s) (GLp Ok (V_C_from_11 w) (GEp Ok (E_C_from_11 w))) := by
  unfold B_C_from_11
  show SimK Ok (11, [(0, vR 42), (2, vI s.1), (3, vI s.2)], [], w) _ _
  refine sim_blk0 hC [(.iload_n 3, 0, 0, 0, 0), (.aload_n 0, 0, 0, 0, 0), (.getfield 38, 42, 5, 58, 0), (.getfield 125, 56, 0, 0, 0)] [(0, vR 42), (2, vI s.1), (3, vI s.2)] [vI (w 56 0), vI s.2] w 19 (by decide +kernel) rfl rfl ?_
  refine sim_br hC (.if_icmp .ge 17) 36 (by decide +kernel) rfl (by decide) ?_ ?_
  · refine sim_sub hC [1] ?_
    exact sim_exit (E := (E_C_from_11 w)) s.1
  · refine sim_blk0 hC [(.iload_n 2, 0, 0, 0, 0), (.aload_n 0, 0, 0, 0, 0), (.iload_n 2, 0, 0, 0, 0)] [(0, vR 42), (2, vI s.1), (3, vI s.2)] [vI s.1, vR 42, vI s.1] w 25 (by decide +kernel) rfl rfl ?_
    refine sim_vp hC 246 mX10_stepFrom 1 0 42 [vI s.1] [vI s.1] (by decide +kernel) ml_9_246 rfl rfl rfl rfl rfl rfl (fun rz hz => c_C_stepFrom w s.1 rz hz) (fun i2 => ?_)
    refine sim_blk0 hC [(.ior, 0, 0, 0, 0), (.istore_n 2, 0, 0, 0, 0)] [(0, vR 42), (2, vI (s.1 ||| i2)), (3, vI s.2)] [] w 30 (by decide +kernel) rfl rfl ?_
    refine sim_bi (C := fun i3 => (30, [(0, vR 42), (2, vI i3), (3, vI s.2)], [], w)) (fun i3 => ?_)
    refine sim_blk0 hC [(.iinc 3 1, 0, 0, 0, 1)] [(0, vR 42), (2, vI i3), (3, vI (s.2 + 1))] [] w 33 (by decide +kernel) rfl rfl ?_
    refine sim_bi (C := fun i4 => (33, [(0, vR 42), (2, vI i3), (3, vI i4)], [], w)) (fun i4 => ?_)
    refine sim_goto hC (-22) 11 (by decide +kernel) (by decide) ?_
    exact sim_back (V := (V_C_from_11 w)) ((i3, i4))
noncomputable def F_C_from (w : Wld) (a1 : Int32) : Option (Oc × Wld) :=
  bn (F_C_needRoom w a1) w (bi ((1 : Int32) <<< (a1 &&& 31)) (fun i1 => bl (loop (B_C_from_11 w) ((i1, 0))) (fun r5 => some ((.inr (some r5), w)))))
set_option maxRecDepth 10000 in
theorem s_C_from {Z : ZT} {l : Launch} {o : Oc} {wo : Wld} {Ok : Cfg → Prop} (hC : Clo Z l 9 4 prog_1_method_38_code (some .int) 7 110 o wo Ok) (w : Wld) (a1 : Int32) : SimK Ok (0, [(0, vR 42), (1, vI a1)], [], w) (F_C_from w a1) (Gt o wo) := by
  unfold F_C_from
  refine sim_blk0 hC [(.aload_n 0, 0, 0, 0, 0), (.iload_n 1, 0, 0, 0, 0)] [(0, vR 42), (1, vI a1)] [vI a1, vR 42] w 2 (by decide +kernel) rfl rfl ?_
  refine sim_vn hC 154 mX10_needRoom 6 89 42 [vI a1] [] (by decide +kernel) ml_9_154 rfl rfl rfl rfl rfl rfl (fun qz hz => c_C_needRoom w a1 qz hz) ?_
  refine sim_blk0 hC [(.iconst 1, 0, 0, 0, 1), (.iload_n 1, 0, 0, 0, 0), (.ishl, 0, 0, 0, 0), (.istore_n 2, 0, 0, 0, 0)] [(0, vR 42), (1, vI a1), (2, vI ((1 : Int32) <<< (a1 &&& 31)))] [] w 9 (by decide +kernel) rfl rfl ?_
  refine sim_bi (C := fun i1 => (9, [(0, vR 42), (1, vI a1), (2, vI i1)], [], w)) (fun i1 => ?_)
  refine sim_blk0 hC [(.iconst 0, 0, 0, 0, 0), (.istore_n 3, 0, 0, 0, 0)] [(0, vR 42), (1, vI a1), (2, vI i1), (3, vI 0)] [] w 11 (by decide +kernel) rfl rfl ?_
  refine sim_bl (E := (E_C_from_11 w)) ?_ (fun r5 => ?_)
  · refine sim_sub hC [0, 2, 3] ?_
    exact sim_loop (V := (V_C_from_11 w)) (fun sz => s_B_C_from_11 hC w sz) ((i1, 0))
  · show SimK Ok (36, [(2, vI r5)], [], w) _ _
    refine sim_blk0 hC [(.iload_n 2, 0, 0, 0, 0)] [(2, vI r5)] [vI r5] w 37 (by decide +kernel) rfl rfl ?_
    exact sim_rett hC (by decide +kernel) trivial
theorem c_C_from {Z : ZT} {l : Launch} (w : Wld) (a1 : Int32) (q : Oc) (w1 : Wld) (h : F_C_from w a1 = some (q, w1)) : Con Z l mX10_from 7 110 [vR 42, vI a1] w q w1 :=
  Con_of (oc := 9) (by decide +kernel) rfl rfl (fun Ok hC => s_C_from hC w a1 (q, w1) h ⟨rfl, rfl⟩)
def V_C_meeting_7 (a1 : Int32) : (Int32 × Wld) → Cfg := fun s => (7, [(0, vR 42), (1, vI a1), (2, vI s.1)], [], s.2)
def E_C_meeting_7 (a1 : Int32) : (Wld) → Cfg := fun s => (47, [(0, vR 42), (1, vI a1)], [], s)
noncomputable def B_C_meeting_7 (a1 : Int32) (s : Int32 × Wld) : Option ((Int32 × Wld) ⊕ (Wld)) :=
  br ((s.2 56 1) ≤ s.1) (some (.inr s.2)) (gd (vp_in ((16 : Int32) + s.1) 53) (gd (vp_in s.1 100) (bw (wup s.2 86 (Int32.toNatClampNeg s.1) ((1 : Int32) <<< ((s.2 66 (Int32.toNatClampNeg ((16 : Int32) + s.1))) &&& 31))) (fun w1 => bi (s.1 + 1) (fun i2 => some (.inl ((i2, w1))))))))
set_option maxRecDepth 10000 in
theorem s_B_C_meeting_7 {Z : ZT} {l : Launch} {o : Oc} {wo : Wld} {Ok : Cfg → Prop} (hC : Clo Z l 9 5 prog_1_method_40_code (some .int) 7 110 o wo Ok) (a1 : Int32) (s : Int32 × Wld) : SimK Ok (V_C_meeting_7 a1 s) (B_C_meeting_7 a1 s) (GLp Ok (V_C_meeting_7 a1) (GEp Ok (E_C_meeting_7 a1))) := by
  unfold B_C_meeting_7
  show SimK Ok (7, [(0, vR 42), (1, vI a1), (2, vI s.1)], [], s.2) _ _
  refine sim_blk0 hC [(.iload_n 2, 0, 0, 0, 0), (.aload_n 0, 0, 0, 0, 0), (.getfield 38, 42, 5, 58, 0), (.getfield 128, 56, 1, 0, 0)] [(0, vR 42), (1, vI a1), (2, vI s.1)] [vI (s.2 56 1), vI s.1] s.2 15 (by decide +kernel) rfl rfl ?_
  refine sim_br hC (.if_icmp .ge 32) 47 (by decide +kernel) rfl (by decide) ?_ ?_
  · refine sim_sub hC [0, 1] ?_
    exact sim_exit (E := (E_C_meeting_7 a1)) s.2
  · refine sim_blk2 hC [(.aload_n 0, 0, 0, 0, 0), (.getfield 60, 42, 10, 88, 0), (.iload_n 2, 0, 0, 0, 0), (.iconst 1, 0, 0, 0, 1), (.aload_n 0, 0, 0, 0, 0), (.getfield 42, 42, 6, 66, 0), (.getfield 100, 64, 0, 67, 0), (.getfield 137, 65, 0, 68, 0), (.bipush 16, 0, 0, 0, 16), (.iload_n 2, 0, 0, 0, 0), (.iadd, 0, 0, 0, 0), (.iaload, 66, 53, 0, 0), (.ishl, 0, 0, 0, 0), (.iastore, 86, 100, 0, 0)] [(0, vR 42), (1, vI a1), (2, vI s.1)] [] (wup s.2 86 (Int32.toNatClampNeg s.1) ((1 : Int32) <<< ((s.2 66 (Int32.toNatClampNeg ((16 : Int32) + s.1))) &&& 31))) 41 (by decide +kernel) rfl rfl ?_
    refine sim_bw (C := fun w1 => (41, [(0, vR 42), (1, vI a1), (2, vI s.1)], [], w1)) (fun w1 => ?_)
    refine sim_blk0 hC [(.iinc 2 1, 0, 0, 0, 1)] [(0, vR 42), (1, vI a1), (2, vI (s.1 + 1))] [] w1 44 (by decide +kernel) rfl rfl ?_
    refine sim_bi (C := fun i2 => (44, [(0, vR 42), (1, vI a1), (2, vI i2)], [], w1)) (fun i2 => ?_)
    refine sim_goto hC (-37) 7 (by decide +kernel) (by decide) ?_
    exact sim_back (V := (V_C_meeting_7 a1)) ((i2, w1))
def V_C_meeting_49 (a1 : Int32) : (Int32 × Wld) → Cfg := fun s => (49, [(0, vR 42), (1, vI a1), (2, vI s.1)], [], s.2)
def E_C_meeting_49 (a1 : Int32) : (Wld) → Cfg := fun s => (139, [], [], s)
def V_C_meeting_70 (a1 : Int32) (a2 : Int32) : (Int32 × Int32 × Wld) → Cfg := fun s => (70, [(0, vR 42), (1, vI a1), (2, vI a2), (3, vI s.1), (4, vI s.2.1)], [], s.2.2)
def E_C_meeting_70 (a1 : Int32) (a2 : Int32) : (Int32 × Wld) → Cfg := fun s => (116, [(0, vR 42), (1, vI a1), (2, vI a2), (3, vI s.1)], [], s.2)
noncomputable def B_C_meeting_70 (a1 : Int32) (a2 : Int32) (s : Int32 × Int32 × Wld) : Option ((Int32 × Int32 × Wld) ⊕ (Int32 × Wld)) :=
  br ((s.2.2 56 1) ≤ s.2.1) (some (.inr ((s.1, s.2.2)))) (gd (vp_in s.2.1 100) (bi (s.1 &&& (s.2.2 86 (Int32.toNatClampNeg s.2.1))) (fun i5 => gd (vp_in s.2.1 100) (bp (F_C_stepFrom s.2.2 (s.2.2 86 (Int32.toNatClampNeg s.2.1))) (fun i6 => gd (vp_in s.2.1 100) (bw (wup s.2.2 86 (Int32.toNatClampNeg s.2.1) i6) (fun w7 => bi (s.2.1 + 1) (fun i8 => some (.inl ((i5, i8, w7)))))))))))
set_option maxRecDepth 10000 in
theorem s_B_C_meeting_70 {Z : ZT} {l : Launch} {o : Oc} {wo : Wld} {Ok : Cfg → Prop} (hC : Clo Z l 9 5 prog_1_method_40_code (some .int) 7 110 o wo Ok) (a1 : Int32) (a2 : Int32) (s : Int32 × Int32 × Wld) : SimK Ok (V_C_meeting_70 a1 a2 s) (B_C_meeting_70 a1 a2 s) (GLp Ok (V_C_meeting_70 a1 a2) (GEp Ok (E_C_meeting_70 a1 a2))) := by
  unfold B_C_meeting_70
  show SimK Ok (70, [(0, vR 42), (1, vI a1), (2, vI a2), (3, vI s.1), (4, vI s.2.1)], [], s.2.2) _ _
  refine sim_blk0 hC [(.iload 4, 0, 0, 0, 0), (.aload_n 0, 0, 0, 0, 0), (.getfield 38, 42, 5, 58, 0), (.getfield 128, 56, 1, 0, 0)] [(0, vR 42), (1, vI a1), (2, vI a2), (3, vI s.1), (4, vI s.2.1)] [vI (s.2.2 56 1), vI s.2.1] s.2.2 79 (by decide +kernel) rfl rfl ?_
  refine sim_br hC (.if_icmp .ge 37) 116 (by decide +kernel) rfl (by decide) ?_ ?_
  · refine sim_sub hC [0, 1, 2, 3] ?_
    exact sim_exit (E := (E_C_meeting_70 a1 a2)) ((s.1, s.2.2))
  · refine sim_blk1 hC [(.iload_n 3, 0, 0, 0, 0), (.aload_n 0, 0, 0, 0, 0), (.getfield 60, 42, 10, 88, 0), (.iload 4, 0, 0, 0, 0), (.iaload, 86, 100, 0, 0), (.iand, 0, 0, 0, 0), (.istore_n 3, 0, 0, 0, 0)] [(0, vR 42), (1, vI a1), (2, vI a2), (3, vI (s.1 &&& (s.2.2 86 (Int32.toNatClampNeg s.2.1)))), (4, vI s.2.1)] [] s.2.2 92 (by decide +kernel) rfl rfl ?_
    refine sim_bi (C := fun i5 => (92, [(0, vR 42), (1, vI a1), (2, vI a2), (3, vI i5), (4, vI s.2.1)], [], s.2.2)) (fun i5 => ?_)
    refine sim_blk1 hC [(.aload_n 0, 0, 0, 0, 0), (.getfield 60, 42, 10, 88, 0), (.iload 4, 0, 0, 0, 0), (.aload_n 0, 0, 0, 0, 0), (.aload_n 0, 0, 0, 0, 0), (.getfield 60, 42, 10, 88, 0), (.iload 4, 0, 0, 0, 0), (.iaload, 86, 100, 0, 0)] [(0, vR 42), (1, vI a1), (2, vI a2), (3, vI i5), (4, vI s.2.1)] [vI (s.2.2 86 (Int32.toNatClampNeg s.2.1)), vR 42, vI s.2.1, vR 86] s.2.2 106 (by decide +kernel) rfl rfl ?_
    refine sim_vp hC 246 mX10_stepFrom 1 0 42 [vI (s.2.2 86 (Int32.toNatClampNeg s.2.1))] [vI s.2.1, vR 86] (by decide +kernel) ml_9_246 rfl rfl rfl rfl rfl rfl (fun rz hz => c_C_stepFrom s.2.2 (s.2.2 86 (Int32.toNatClampNeg s.2.1)) rz hz) (fun i6 => ?_)
    refine sim_blk1 hC [(.iastore, 86, 100, 0, 0)] [(0, vR 42), (1, vI a1), (2, vI a2), (3, vI i5), (4, vI s.2.1)] [] (wup s.2.2 86 (Int32.toNatClampNeg s.2.1) i6) 110 (by decide +kernel) rfl rfl ?_
    refine sim_bw (C := fun w7 => (110, [(0, vR 42), (1, vI a1), (2, vI a2), (3, vI i5), (4, vI s.2.1)], [], w7)) (fun w7 => ?_)
    refine sim_blk0 hC [(.iinc 4 1, 0, 0, 0, 1)] [(0, vR 42), (1, vI a1), (2, vI a2), (3, vI i5), (4, vI (s.2.1 + 1))] [] w7 113 (by decide +kernel) rfl rfl ?_
    refine sim_bi (C := fun i8 => (113, [(0, vR 42), (1, vI a1), (2, vI a2), (3, vI i5), (4, vI i8)], [], w7)) (fun i8 => ?_)
    refine sim_goto hC (-43) 70 (by decide +kernel) (by decide) ?_
    exact sim_back (V := (V_C_meeting_70 a1 a2)) ((i5, i8, w7))
noncomputable def K_C_meeting_132t (t0 : Int32) (w : Wld) : Option ((Int32 × Wld) ⊕ ((Wld) ⊕ (Oc × Wld))) :=
  some (.inr (.inr ((.inr (some t0), w))))
set_option maxRecDepth 10000 in
theorem s_K_C_meeting_132t {Z : ZT} {l : Launch} {o : Oc} {wo : Wld} {Ok : Cfg → Prop} {Vp49 : (Int32 × Wld) → Cfg} {Ep49 : (Wld) → Cfg} (hC : Clo Z l 9 5 prog_1_method_40_code (some .int) 7 110 o wo Ok) (t0 : Int32) (w : Wld) : SimK Ok (132, [], [vI t0], w) (K_C_meeting_132t t0 w) (GLp Ok Vp49 (GLp Ok Ep49 (Gt o wo))) := by
  unfold K_C_meeting_132t
  refine sim_outx ?_
  exact sim_rett hC (by decide +kernel) trivial
noncomputable def B_C_meeting_49 (a1 : Int32) (s : Int32 × Wld) : Option ((Int32 × Wld) ⊕ ((Wld) ⊕ (Oc × Wld))) :=
  br ((80 : Int32) < s.1) (some (.inr (.inl s.2))) (bi (((1 : Int32) <<< ((s.2 56 0) &&& 31)) - (1 : Int32)) (fun i4 => bl (loop (B_C_meeting_70 a1 s.1) ((i4, 0, s.2))) (fun r9 => br (r9.1 = 0) (bi (s.1 + 1) (fun i10 => some (.inl ((i10, r9.2))))) (br (¬ a1 = 0) (K_C_meeting_132t s.1 r9.2) (bp (F_JI_numberOfTrailingZeros r9.2 r9.1) (fun i11 => K_C_meeting_132t i11 r9.2))))))
set_option maxRecDepth 10000 in
theorem s_B_C_meeting_49 {Z : ZT} {l : Launch} {o : Oc} {wo : Wld} {Ok : Cfg → Prop} (hC : Clo Z l 9 5 prog_1_method_40_code (some .int) 7 110 o wo Ok) (a1 : Int32) (s : Int32 × Wld) : SimK Ok (V_C_meeting_49 a1 s) (B_C_meeting_49 a1 s) (GLp Ok (V_C_meeting_49 a1) (GLp Ok (E_C_meeting_49 a1) (Gt o wo))) := by
  unfold B_C_meeting_49
  show SimK Ok (49, [(0, vR 42), (1, vI a1), (2, vI s.1)], [], s.2) _ _
  refine sim_blk0 hC [(.iload_n 2, 0, 0, 0, 0), (.bipush 80, 0, 0, 0, 80)] [(0, vR 42), (1, vI a1), (2, vI s.1)] [vI 80, vI s.1] s.2 52 (by decide +kernel) rfl rfl ?_
  refine sim_br hC (.if_icmp .gt 87) 139 (by decide +kernel) rfl (by decide) ?_ ?_
  · refine sim_sub hC [] ?_
    exact sim_exitx (E := (E_C_meeting_49 a1)) s.2
  · refine sim_blk0 hC [(.iconst 1, 0, 0, 0, 1), (.aload_n 0, 0, 0, 0, 0), (.getfield 38, 42, 5, 58, 0), (.getfield 125, 56, 0, 0, 0), (.ishl, 0, 0, 0, 0), (.iconst 1, 0, 0, 0, 1), (.isub, 0, 0, 0, 0), (.istore_n 3, 0, 0, 0, 0)] [(0, vR 42), (1, vI a1), (2, vI s.1), (3, vI (((1 : Int32) <<< ((s.2 56 0) &&& 31)) - (1 : Int32)))] [] s.2 67 (by decide +kernel) rfl rfl ?_
    refine sim_bi (C := fun i4 => (67, [(0, vR 42), (1, vI a1), (2, vI s.1), (3, vI i4)], [], s.2)) (fun i4 => ?_)
    refine sim_blk0 hC [(.iconst 0, 0, 0, 0, 0), (.istore 4, 0, 0, 0, 0)] [(0, vR 42), (1, vI a1), (2, vI s.1), (3, vI i4), (4, vI 0)] [] s.2 70 (by decide +kernel) rfl rfl ?_
    refine sim_bl (E := (E_C_meeting_70 a1 s.1)) ?_ (fun r9 => ?_)
    · exact sim_loop (V := (V_C_meeting_70 a1 s.1)) (fun sz => s_B_C_meeting_70 hC a1 s.1 sz) ((i4, 0, s.2))
    · show SimK Ok (116, [(0, vR 42), (1, vI a1), (2, vI s.1), (3, vI r9.1)], [], r9.2) _ _
      refine sim_blk0 hC [(.iload_n 3, 0, 0, 0, 0)] [(0, vR 42), (1, vI a1), (2, vI s.1), (3, vI r9.1)] [vI r9.1] r9.2 117 (by decide +kernel) rfl rfl ?_
      refine sim_br hC (.ifCond .eq 16) 133 (by decide +kernel) rfl (by decide) ?_ ?_
      · refine sim_blk0 hC [(.iinc 2 1, 0, 0, 0, 1)] [(0, vR 42), (1, vI a1), (2, vI (s.1 + 1)), (3, vI r9.1)] [] r9.2 136 (by decide +kernel) rfl rfl ?_
        refine sim_bi (C := fun i10 => (136, [(0, vR 42), (1, vI a1), (2, vI i10), (3, vI r9.1)], [], r9.2)) (fun i10 => ?_)
        refine sim_goto hC (-87) 49 (by decide +kernel) (by decide) ?_
        refine sim_sub hC [0, 1, 2] ?_
        exact sim_back (V := (V_C_meeting_49 a1)) ((i10, r9.2))
      · refine sim_blk0 hC [(.iload_n 1, 0, 0, 0, 0)] [(0, vR 42), (1, vI a1), (2, vI s.1), (3, vI r9.1)] [vI a1] r9.2 121 (by decide +kernel) rfl rfl ?_
        refine sim_br hC (.ifCond .ne 10) 131 (by decide +kernel) rfl (by decide) ?_ ?_
        · refine sim_blk0 hC [(.iload_n 2, 0, 0, 0, 0)] [(0, vR 42), (1, vI a1), (2, vI s.1), (3, vI r9.1)] [vI s.1] r9.2 132 (by decide +kernel) rfl rfl ?_
          refine sim_sub hC [] ?_
          exact s_K_C_meeting_132t hC s.1 r9.2
        · refine sim_blk0 hC [(.iload_n 3, 0, 0, 0, 0)] [(0, vR 42), (1, vI a1), (2, vI s.1), (3, vI r9.1)] [vI r9.1] r9.2 125 (by decide +kernel) rfl rfl ?_
          refine sim_sp hC 249 mJ6_numberOfTrailingZeros_0f7a4 1 0 [vI r9.1] [] (by decide +kernel) ml_9_249 rfl rfl rfl rfl rfl (fun rz hz => c_JI_numberOfTrailingZeros r9.2 r9.1 rz hz) (fun i11 => ?_)
          refine sim_goto hC 4 132 (by decide +kernel) (by decide) ?_
          refine sim_sub hC [] ?_
          exact s_K_C_meeting_132t hC i11 r9.2
noncomputable def F_C_meeting (w : Wld) (a1 : Int32) : Option (Oc × Wld) :=
  bn (F_C_needWhat w a1 1) w (bl (loop (B_C_meeting_7 a1) ((0, w))) (fun r3 => bx (loop (B_C_meeting_49 a1) ((0, r3))) (fun r12 => some ((.inr (some (-1)), r12)))))
set_option maxRecDepth 10000 in
theorem s_C_meeting {Z : ZT} {l : Launch} {o : Oc} {wo : Wld} {Ok : Cfg → Prop} (hC : Clo Z l 9 5 prog_1_method_40_code (some .int) 7 110 o wo Ok) (w : Wld) (a1 : Int32) : SimK Ok (0, [(0, vR 42), (1, vI a1)], [], w) (F_C_meeting w a1) (Gt o wo) := by
  unfold F_C_meeting
  refine sim_blk0 hC [(.iload_n 1, 0, 0, 0, 0), (.iconst 1, 0, 0, 0, 1)] [(0, vR 42), (1, vI a1)] [vI 1, vI a1] w 2 (by decide +kernel) rfl rfl ?_
  refine sim_sn hC 157 mX10_needWhat 6 89 [vI a1, vI 1] [] (by decide +kernel) ml_9_157 rfl rfl rfl rfl rfl (fun qz hz => c_C_needWhat w a1 1 qz hz) ?_
  refine sim_blk0 hC [(.iconst 0, 0, 0, 0, 0), (.istore_n 2, 0, 0, 0, 0)] [(0, vR 42), (1, vI a1), (2, vI 0)] [] w 7 (by decide +kernel) rfl rfl ?_
  refine sim_bl (E := (E_C_meeting_7 a1)) ?_ (fun r3 => ?_)
  · exact sim_loop (V := (V_C_meeting_7 a1)) (fun sz => s_B_C_meeting_7 hC a1 sz) ((0, w))
  · show SimK Ok (47, [(0, vR 42), (1, vI a1)], [], r3) _ _
    refine sim_blk0 hC [(.iconst 0, 0, 0, 0, 0), (.istore_n 2, 0, 0, 0, 0)] [(0, vR 42), (1, vI a1), (2, vI 0)] [] r3 49 (by decide +kernel) rfl rfl ?_
    refine sim_bx (E := (E_C_meeting_49 a1)) ?_ (fun r12 => ?_)
    · exact sim_loop (V := (V_C_meeting_49 a1)) (fun sz => s_B_C_meeting_49 hC a1 sz) ((0, r3))
    · show SimK Ok (139, [], [], r12) _ _
      refine sim_blk0 hC [(.iconst (-1), 0, 0, 0, (-1))] [] [vI (-1)] r12 140 (by decide +kernel) rfl rfl ?_
      exact sim_rett hC (by decide +kernel) trivial
theorem c_C_meeting {Z : ZT} {l : Launch} (w : Wld) (a1 : Int32) (q : Oc) (w1 : Wld) (h : F_C_meeting w a1 = some (q, w1)) : Con Z l mX10_meeting 7 110 [vR 42, vI a1] w q w1 :=
  Con_of (oc := 9) (by decide +kernel) rfl rfl (fun Ok hC => s_C_meeting hC w a1 (q, w1) h ⟨rfl, rfl⟩)
