def V_Tokens_step_45_8 : (Wld) → Cfg := fun s => (8, [(0, vR 45)], [], s)
def E_Tokens_step_45_8 : (Wld) → Cfg := fun s => (60, [(0, vR 45)], [], s)
noncomputable def K_Tokens_step_45_47 (w : Wld) : Option ((Wld) ⊕ (Wld)) :=
  bw (wup w 45 3 ((w 45 3) + (1 : Int32))) (fun w2 => some (.inl w2))
set_option maxRecDepth 10000 in
theorem s_K_Tokens_step_45_47 {Z : ZT} {l : Launch} {o : Oc} {wo : Wld} {Ok : Cfg → Prop} (hD : Clo3 Z l 8 1 prog_10_method_3_code none 6 126 o wo Ok) (w : Wld) : SimK Ok (47, [(0, vR 45)], [], w) (K_Tokens_step_45_47 w) (GLp Ok (V_Tokens_step_45_8) (GEp Ok (E_Tokens_step_45_8))) := by
  unfold K_Tokens_step_45_47
  have hC := hD.1
  have hC2 := hD.2
  refine sim_blk0 hC [(.aload_n 0, 0, 0, 0, 0), (.dup, 0, 0, 0, 0), (.getfield 22, 45, 3, 0, 0), (.iconst 1, 0, 0, 0, 1), (.iadd, 0, 0, 0, 0), (.putfield 22, 45, 3, 0, 0)] [(0, vR 45)] [] (wup w 45 3 ((w 45 3) + (1 : Int32))) 57 (by decide +kernel) rfl rfl ?_
  refine sim_bw (C := fun w2 => (57, [(0, vR 45)], [], w2)) (fun w2 => ?_)
  refine sim_goto hC (-49) 8 (by decide +kernel) (by decide) ?_
  exact sim_back (V := (V_Tokens_step_45_8)) w2
noncomputable def B_Tokens_step_45_8 (s : Wld) : Option ((Wld) ⊕ (Wld)) :=
  br ((s 45 1) ≤ (s 45 3)) (some (.inr s)) (gd (vp_in (s 45 3) 700) (br ((s 46 (Int32.toNatClampNeg (s 45 3))) = 32) (K_Tokens_step_45_47 s) (gd (vp_in (s 45 3) 700) (br (¬ (s 46 (Int32.toNatClampNeg (s 45 3))) = 10) (some (.inr s)) (K_Tokens_step_45_47 s)))))
set_option maxRecDepth 10000 in
theorem s_B_Tokens_step_45_8 {Z : ZT} {l : Launch} {o : Oc} {wo : Wld} {Ok : Cfg → Prop} (hD : Clo3 Z l 8 1 prog_10_method_3_code none 6 126 o wo Ok) (s : Wld) : SimK Ok (V_Tokens_step_45_8 s) (B_Tokens_step_45_8 s) (GLp Ok (V_Tokens_step_45_8) (GEp Ok (E_Tokens_step_45_8))) := by
  unfold B_Tokens_step_45_8
  have hC := hD.1
  have hC2 := hD.2
  show SimK Ok (8, [(0, vR 45)], [], s) _ _
  refine sim_blk0 hC [(.aload_n 0, 0, 0, 0, 0), (.getfield 22, 45, 3, 0, 0), (.aload_n 0, 0, 0, 0, 0), (.getfield 15, 45, 1, 0, 0)] [(0, vR 45)] [vI (s 45 1), vI (s 45 3)] s 16 (by decide +kernel) rfl rfl ?_
  refine sim_br hC (.if_icmp .ge 44) 60 (by decide +kernel) rfl (by decide) ?_ ?_
  · exact sim_exit (E := (E_Tokens_step_45_8)) s
  · refine sim_blk1 hC [(.aload_n 0, 0, 0, 0, 0), (.getfield 9, 45, 0, 48, 0), (.aload_n 0, 0, 0, 0, 0), (.getfield 22, 45, 3, 0, 0), (.baload, 46, 700, 1, 0), (.bipush 32, 0, 0, 0, 32)] [(0, vR 45)] [vI 32, vI (s 46 (Int32.toNatClampNeg (s 45 3)))] s 30 (by decide +kernel) rfl rfl ?_
    refine sim_br hC (.if_icmp .eq 17) 47 (by decide +kernel) rfl (by decide) ?_ ?_
    · exact s_K_Tokens_step_45_47 hD s
    · refine sim_blk1 hC [(.aload_n 0, 0, 0, 0, 0), (.getfield 9, 45, 0, 48, 0), (.aload_n 0, 0, 0, 0, 0), (.getfield 22, 45, 3, 0, 0), (.baload, 46, 700, 1, 0), (.bipush 10, 0, 0, 0, 10)] [(0, vR 45)] [vI 10, vI (s 46 (Int32.toNatClampNeg (s 45 3)))] s 44 (by decide +kernel) rfl rfl ?_
      refine sim_br hC (.if_icmp .ne 16) 60 (by decide +kernel) rfl (by decide) ?_ ?_
      · exact sim_exit (E := (E_Tokens_step_45_8)) s
      · exact s_K_Tokens_step_45_47 hD s
noncomputable def K_Tokens_step_45_176 (w : Wld) : Option (Wld) :=
  some w
set_option maxRecDepth 10000 in
theorem s_K_Tokens_step_45_176 {Z : ZT} {l : Launch} {o : Oc} {wo : Wld} {Ok : Cfg → Prop} (hD : Clo3 Z l 8 1 prog_10_method_3_code none 6 126 o wo Ok) (w : Wld) : SimK Ok (176, [], [], w) (K_Tokens_step_45_176 w) (Gv o wo) := by
  unfold K_Tokens_step_45_176
  have hC := hD.1
  have hC2 := hD.2
  exact sim_retv hC (by decide +kernel)
noncomputable def F_Tokens_step_45 (w : Wld) : Option (Wld) :=
  bw (wup w 45 3 (w 45 2)) (fun w1 => bl (loop (B_Tokens_step_45_8) w1) (fun r3 => bw (wup r3 45 2 (r3 45 3)) (fun w4 => bw (wup w4 45 5 0) (fun w5 => bw (wup w5 45 6 (-1)) (fun w6 => bw (wup w6 45 7 0) (fun w7 => br ((w7 45 3) < (w7 45 1)) (gd (vp_in (w7 45 3) 700) (bp (F_Tokens_isLetter w7 (w7 46 (Int32.toNatClampNeg (w7 45 3)))) (fun i8 => br (i8 = 0) (gd (vp_in (w7 45 3) 700) (bp (F_Tokens_isDigit w7 (w7 46 (Int32.toNatClampNeg (w7 45 3)))) (fun i9 => br (i9 = 0) (bw (wup w7 45 4 3) (fun w10 => gd (vp_in (w10 45 3) 700) (bw (wup w10 45 7 (w10 46 (Int32.toNatClampNeg (w10 45 3)))) (fun w11 => bw (wup w11 45 2 ((w11 45 2) + (1 : Int32))) (fun w12 => K_Tokens_step_45_176 w12))))) (bv (F_Tokens_readNumber_45 w7) (fun w13 => K_Tokens_step_45_176 w13))))) (bv (F_Tokens_readWord_45 w7) (fun w14 => K_Tokens_step_45_176 w14))))) (bw (wup w7 45 4 0) (fun w15 => K_Tokens_step_45_176 w15))))))))
set_option maxRecDepth 10000 in
theorem s_Tokens_step_45 {Z : ZT} {l : Launch} {o : Oc} {wo : Wld} {Ok : Cfg → Prop} (hD : Clo3 Z l 8 1 prog_10_method_3_code none 6 126 o wo Ok) (w : Wld) : SimK Ok (0, [(0, vR 45)], [], w) (F_Tokens_step_45 w) (Gv o wo) := by
  unfold F_Tokens_step_45
  have hC := hD.1
  have hC2 := hD.2
  refine sim_blk0 hC [(.aload_n 0, 0, 0, 0, 0), (.aload_n 0, 0, 0, 0, 0), (.getfield 19, 45, 2, 0, 0), (.putfield 22, 45, 3, 0, 0)] [(0, vR 45)] [] (wup w 45 3 (w 45 2)) 8 (by decide +kernel) rfl rfl ?_
  refine sim_bw (C := fun w1 => (8, [(0, vR 45)], [], w1)) (fun w1 => ?_)
  refine sim_bl (E := (E_Tokens_step_45_8)) ?_ (fun r3 => ?_)
  · exact sim_loop (V := (V_Tokens_step_45_8)) (fun sz => s_B_Tokens_step_45_8 hD sz) w1
  · show SimK Ok (60, [(0, vR 45)], [], r3) _ _
    refine sim_blk0 hC [(.aload_n 0, 0, 0, 0, 0), (.aload_n 0, 0, 0, 0, 0), (.getfield 22, 45, 3, 0, 0), (.putfield 19, 45, 2, 0, 0)] [(0, vR 45)] [] (wup r3 45 2 (r3 45 3)) 68 (by decide +kernel) rfl rfl ?_
    refine sim_bw (C := fun w4 => (68, [(0, vR 45)], [], w4)) (fun w4 => ?_)
    refine sim_blk0 hC [(.aload_n 0, 0, 0, 0, 0)] [(0, vR 45)] [vR 45] w4 69 (by decide +kernel) rfl rfl ?_
    refine sim_gse hC2 28 0 (by decide +kernel) (by decide) ?_
    refine sim_blk0 hC [(.putfield 34, 45, 5, 1, 0)] [(0, vR 45)] [] (wup w4 45 5 0) 75 (by decide +kernel) rfl rfl ?_
    refine sim_bw (C := fun w5 => (75, [(0, vR 45)], [], w5)) (fun w5 => ?_)
    refine sim_blk0 hC [(.aload_n 0, 0, 0, 0, 0), (.iconst (-1), 0, 0, 0, (-1)), (.putfield 37, 45, 6, 0, 0)] [(0, vR 45)] [] (wup w5 45 6 (-1)) 80 (by decide +kernel) rfl rfl ?_
    refine sim_bw (C := fun w6 => (80, [(0, vR 45)], [], w6)) (fun w6 => ?_)
    refine sim_blk0 hC [(.aload_n 0, 0, 0, 0, 0), (.iconst 0, 0, 0, 0, 0), (.putfield 40, 45, 7, 0, 0)] [(0, vR 45)] [] (wup w6 45 7 0) 85 (by decide +kernel) rfl rfl ?_
    refine sim_bw (C := fun w7 => (85, [(0, vR 45)], [], w7)) (fun w7 => ?_)
    refine sim_blk0 hC [(.aload_n 0, 0, 0, 0, 0), (.getfield 22, 45, 3, 0, 0), (.aload_n 0, 0, 0, 0, 0), (.getfield 15, 45, 1, 0, 0)] [(0, vR 45)] [vI (w7 45 1), vI (w7 45 3)] w7 93 (by decide +kernel) rfl rfl ?_
    refine sim_br hC (.if_icmp .lt 11) 104 (by decide +kernel) rfl (by decide) ?_ ?_
    · refine sim_blk1 hC [(.aload_n 0, 0, 0, 0, 0), (.getfield 9, 45, 0, 48, 0), (.aload_n 0, 0, 0, 0, 0), (.getfield 22, 45, 3, 0, 0), (.baload, 46, 700, 1, 0)] [(0, vR 45)] [vI (w7 46 (Int32.toNatClampNeg (w7 45 3)))] w7 113 (by decide +kernel) rfl rfl ?_
      refine sim_sp hC 61 mX8_isLetter 1 0 [vI (w7 46 (Int32.toNatClampNeg (w7 45 3)))] [] (by decide +kernel) ml_8_61 rfl rfl rfl rfl rfl (fun rz hz => c_Tokens_isLetter w7 (w7 46 (Int32.toNatClampNeg (w7 45 3))) rz hz) (fun i8 => ?_)
      refine sim_br hC (.ifCond .eq 10) 126 (by decide +kernel) rfl (by decide) ?_ ?_
      · refine sim_blk1 hC [(.aload_n 0, 0, 0, 0, 0), (.getfield 9, 45, 0, 48, 0), (.aload_n 0, 0, 0, 0, 0), (.getfield 22, 45, 3, 0, 0), (.baload, 46, 700, 1, 0)] [(0, vR 45)] [vI (w7 46 (Int32.toNatClampNeg (w7 45 3)))] w7 135 (by decide +kernel) rfl rfl ?_
        refine sim_sp hC 68 mX8_isDigit 1 0 [vI (w7 46 (Int32.toNatClampNeg (w7 45 3)))] [] (by decide +kernel) ml_8_68 rfl rfl rfl rfl rfl (fun rz hz => c_Tokens_isDigit w7 (w7 46 (Int32.toNatClampNeg (w7 45 3))) rz hz) (fun i9 => ?_)
        refine sim_br hC (.ifCond .eq 10) 148 (by decide +kernel) rfl (by decide) ?_ ?_
        · refine sim_blk0 hC [(.aload_n 0, 0, 0, 0, 0), (.iconst 3, 0, 0, 0, 3), (.putfield 25, 45, 4, 0, 0)] [(0, vR 45)] [] (wup w7 45 4 3) 153 (by decide +kernel) rfl rfl ?_
          refine sim_bw (C := fun w10 => (153, [(0, vR 45)], [], w10)) (fun w10 => ?_)
          refine sim_blk1 hC [(.aload_n 0, 0, 0, 0, 0), (.aload_n 0, 0, 0, 0, 0), (.getfield 9, 45, 0, 48, 0), (.aload_n 0, 0, 0, 0, 0), (.getfield 22, 45, 3, 0, 0), (.baload, 46, 700, 1, 0), (.putfield 40, 45, 7, 0, 0)] [(0, vR 45)] [] (wup w10 45 7 (w10 46 (Int32.toNatClampNeg (w10 45 3)))) 166 (by decide +kernel) rfl rfl ?_
          refine sim_bw (C := fun w11 => (166, [(0, vR 45)], [], w11)) (fun w11 => ?_)
          refine sim_blk0 hC [(.aload_n 0, 0, 0, 0, 0), (.dup, 0, 0, 0, 0), (.getfield 19, 45, 2, 0, 0), (.iconst 1, 0, 0, 0, 1), (.iadd, 0, 0, 0, 0), (.putfield 19, 45, 2, 0, 0)] [(0, vR 45)] [] (wup w11 45 2 ((w11 45 2) + (1 : Int32))) 176 (by decide +kernel) rfl rfl ?_
          refine sim_bw (C := fun w12 => (176, [(0, vR 45)], [], w12)) (fun w12 => ?_)
          refine sim_sub hC [] ?_
          exact s_K_Tokens_step_45_176 hD w12
        · refine sim_blk0 hC [(.aload_n 0, 0, 0, 0, 0)] [(0, vR 45)] [vR 45] w7 142 (by decide +kernel) rfl rfl ?_
          refine sim_vv hC 71 mX8_readNumber 2 20 45 [] [] (by decide +kernel) ml_8_71 rfl rfl rfl rfl rfl rfl (fun wz hz => c_Tokens_readNumber_45 w7 wz hz) (fun w13 => ?_)
          refine sim_goto hC 31 176 (by decide +kernel) (by decide) ?_
          refine sim_sub hC [] ?_
          exact s_K_Tokens_step_45_176 hD w13
      · refine sim_blk0 hC [(.aload_n 0, 0, 0, 0, 0)] [(0, vR 45)] [vR 45] w7 120 (by decide +kernel) rfl rfl ?_
        refine sim_vv hC 65 mX8_readWord 5 103 45 [] [] (by decide +kernel) ml_8_65 rfl rfl rfl rfl rfl rfl (fun wz hz => c_Tokens_readWord_45 w7 wz hz) (fun w14 => ?_)
        refine sim_goto hC 53 176 (by decide +kernel) (by decide) ?_
        refine sim_sub hC [] ?_
        exact s_K_Tokens_step_45_176 hD w14
    · refine sim_blk0 hC [(.aload_n 0, 0, 0, 0, 0), (.iconst 0, 0, 0, 0, 0), (.putfield 25, 45, 4, 0, 0)] [(0, vR 45)] [] (wup w7 45 4 0) 101 (by decide +kernel) rfl rfl ?_
      refine sim_bw (C := fun w15 => (101, [(0, vR 45)], [], w15)) (fun w15 => ?_)
      refine sim_goto hC 75 176 (by decide +kernel) (by decide) ?_
      refine sim_sub hC [] ?_
      exact s_K_Tokens_step_45_176 hD w15
theorem c_Tokens_step_45 {Z : ZT} {l : Launch} (w : Wld) (w1 : Wld) (h : F_Tokens_step_45 w = some w1) : Con Z l mX8_step 6 126 [vR 45] w (.inr none) w1 :=
  Con_of3 (oc := 8) (by decide +kernel) rfl rfl (fun Ok hC => s_Tokens_step_45 hC w w1 h ⟨rfl, rfl⟩)
noncomputable def F_Tokens_begin_45_43 (w : Wld) (a2 : Int32) : Option (Wld) :=
  bw (wup w 45 1 (imax 0 (imin a2 (imin 700 700)))) (fun w1 => gd (cpO w1 43 700 700 1 0 0 (w1 45 1)) (bw (wcp w1 43 46 (Int32.toNatClampNeg 0) (Int32.toNatClampNeg 0) (Int32.toNatClampNeg (w1 45 1))) (fun w2 => bw (wup w2 45 2 0) (fun w3 => bv (F_Tokens_step_45 w3) (fun w4 => some w4)))))
set_option maxRecDepth 10000 in
theorem s_Tokens_begin_45_43 {Z : ZT} {l : Launch} {o : Oc} {wo : Wld} {Ok : Cfg → Prop} (hC : Clo Z l 8 3 prog_10_method_2_code none 7 146 o wo Ok) (w : Wld) (a2 : Int32) : SimK Ok (0, [(0, vR 45), (1, vR 43), (2, vI a2)], [], w) (F_Tokens_begin_45_43 w a2) (Gv o wo) := by
  unfold F_Tokens_begin_45_43
  refine sim_blk0 hC [(.aload_n 0, 0, 0, 0, 0), (.iconst 0, 0, 0, 0, 0), (.iload_n 2, 0, 0, 0, 0), (.aload_n 1, 0, 0, 0, 0), (.arraylength, 43, 700, 1, 700), (.sipush 700, 0, 0, 0, 700)] [(0, vR 45), (1, vR 43), (2, vI a2)] [vI 700, vI 700, vI a2, vI 0, vR 45] w 8 (by decide +kernel) rfl rfl ?_
  refine sim_min hC 43 (by decide +kernel) ml_8_43 rfl rfl rfl ?_
  refine sim_min hC 43 (by decide +kernel) ml_8_43 rfl rfl rfl ?_
  refine sim_max hC 49 (by decide +kernel) ml_8_49 rfl rfl rfl ?_
  refine sim_blk0 hC [(.putfield 15, 45, 1, 0, 0)] [(0, vR 45), (1, vR 43), (2, vI a2)] [] (wup w 45 1 (imax 0 (imin a2 (imin 700 700)))) 20 (by decide +kernel) rfl rfl ?_
  refine sim_bw (C := fun w1 => (20, [(0, vR 45), (1, vR 43), (2, vI a2)], [], w1)) (fun w1 => ?_)
  refine sim_blk0 hC [(.aload_n 1, 0, 0, 0, 0), (.iconst 0, 0, 0, 0, 0), (.aload_n 0, 0, 0, 0, 0), (.getfield 9, 45, 0, 48, 0), (.iconst 0, 0, 0, 0, 0), (.aload_n 0, 0, 0, 0, 0), (.getfield 15, 45, 1, 0, 0)] [(0, vR 45), (1, vR 43), (2, vI a2)] [vI (w1 45 1), vI 0, vR 46, vI 0, vR 43] w1 31 (by decide +kernel) rfl rfl ?_
  refine sim_copy hC 52 43 46 700 700 1 (by decide +kernel) (by decide) (by decide) (by decide +kernel) (by decide +kernel) rfl rfl rfl (fun w2 => ?_)
  refine sim_blk0 hC [(.aload_n 0, 0, 0, 0, 0), (.iconst 0, 0, 0, 0, 0), (.putfield 19, 45, 2, 0, 0)] [(0, vR 45), (1, vR 43), (2, vI a2)] [] (wup w2 45 2 0) 39 (by decide +kernel) rfl rfl ?_
  refine sim_bw (C := fun w3 => (39, [(0, vR 45), (1, vR 43), (2, vI a2)], [], w3)) (fun w3 => ?_)
  refine sim_blk0 hC [(.aload_n 0, 0, 0, 0, 0)] [(0, vR 45), (1, vR 43), (2, vI a2)] [vR 45] w3 40 (by decide +kernel) rfl rfl ?_
  refine sim_vv hC 58 mX8_step 6 126 45 [] [] (by decide +kernel) ml_8_58 rfl rfl rfl rfl rfl rfl (fun wz hz => c_Tokens_step_45 w3 wz hz) (fun w4 => ?_)
  exact sim_retv hC (by decide +kernel)
theorem c_Tokens_begin_45_43 {Z : ZT} {l : Launch} (w : Wld) (a2 : Int32) (w1 : Wld) (h : F_Tokens_begin_45_43 w a2 = some w1) : Con Z l mX8_begin 7 146 [vR 45, vR 43, vI a2] w (.inr none) w1 :=
  Con_of (oc := 8) (by decide +kernel) rfl rfl (fun Ok hC => s_Tokens_begin_45_43 hC w a2 w1 h ⟨rfl, rfl⟩)
noncomputable def F_Reader_begin_44_43 (w : Wld) (a2 : Int32) : Option (Wld) :=
  bv (F_House_clear_47 w) (fun w1 => bv (F_State_clear_53 w1) (fun w2 => gd ((0 : Int32) = 0 ∨ (0 : Int32) = 1) (bw (wup w2 44 1 0) (fun w3 => gd ((0 : Int32) = 0 ∨ (0 : Int32) = 1) (bw (wup w3 44 2 0) (fun w4 => gd ((0 : Int32) = 0 ∨ (0 : Int32) = 1) (bw (wup w4 44 3 0) (fun w5 => bw (wup w5 44 5 0) (fun w6 => bw (wup w6 44 6 (-1)) (fun w7 => bv (F_Tokens_begin_45_43 w7 a2) (fun w8 => some w8)))))))))))
set_option maxRecDepth 10000 in
theorem s_Reader_begin_44_43 {Z : ZT} {l : Launch} {o : Oc} {wo : Wld} {Ok : Cfg → Prop} (hC : Clo Z l 5 3 prog_7_method_3_code none 8 168 o wo Ok) (w : Wld) (a2 : Int32) : SimK Ok (0, [(0, vR 44), (1, vR 43), (2, vI a2)], [], w) (F_Reader_begin_44_43 w a2) (Gv o wo) := by
  unfold F_Reader_begin_44_43
  refine sim_blk0 hC [(.aload_n 0, 0, 0, 0, 0), (.getfield 41, 44, 7, 49, 0)] [(0, vR 44), (1, vR 43), (2, vI a2)] [vR 47] w 4 (by decide +kernel) rfl rfl ?_
  refine sim_vv hC 68 mX3_clear 1 0 47 [] [] (by decide +kernel) ml_5_68 rfl rfl rfl rfl rfl rfl (fun wz hz => c_House_clear_47 w wz hz) (fun w1 => ?_)
  refine sim_blk0 hC [(.aload_n 0, 0, 0, 0, 0), (.getfield 48, 44, 8, 55, 0)] [(0, vR 44), (1, vR 43), (2, vI a2)] [vR 53] w1 11 (by decide +kernel) rfl rfl ?_
  refine sim_vv hC 71 mX7_clear 2 23 53 [] [] (by decide +kernel) ml_5_71 rfl rfl rfl rfl rfl rfl (fun wz hz => c_State_clear_53 w1 wz hz) (fun w2 => ?_)
  refine sim_blk1 hC [(.aload_n 0, 0, 0, 0, 0), (.iconst 0, 0, 0, 0, 0), (.putfield 18, 44, 1, 2, 0)] [(0, vR 44), (1, vR 43), (2, vI a2)] [] (wup w2 44 1 0) 19 (by decide +kernel) rfl rfl ?_
  refine sim_bw (C := fun w3 => (19, [(0, vR 44), (1, vR 43), (2, vI a2)], [], w3)) (fun w3 => ?_)
  refine sim_blk1 hC [(.aload_n 0, 0, 0, 0, 0), (.iconst 0, 0, 0, 0, 0), (.putfield 22, 44, 2, 2, 0)] [(0, vR 44), (1, vR 43), (2, vI a2)] [] (wup w3 44 2 0) 24 (by decide +kernel) rfl rfl ?_
  refine sim_bw (C := fun w4 => (24, [(0, vR 44), (1, vR 43), (2, vI a2)], [], w4)) (fun w4 => ?_)
  refine sim_blk1 hC [(.aload_n 0, 0, 0, 0, 0), (.iconst 0, 0, 0, 0, 0), (.putfield 25, 44, 3, 2, 0)] [(0, vR 44), (1, vR 43), (2, vI a2)] [] (wup w4 44 3 0) 29 (by decide +kernel) rfl rfl ?_
  refine sim_bw (C := fun w5 => (29, [(0, vR 44), (1, vR 43), (2, vI a2)], [], w5)) (fun w5 => ?_)
  refine sim_blk0 hC [(.aload_n 0, 0, 0, 0, 0), (.iconst 0, 0, 0, 0, 0), (.putfield 32, 44, 5, 0, 0)] [(0, vR 44), (1, vR 43), (2, vI a2)] [] (wup w5 44 5 0) 34 (by decide +kernel) rfl rfl ?_
  refine sim_bw (C := fun w6 => (34, [(0, vR 44), (1, vR 43), (2, vI a2)], [], w6)) (fun w6 => ?_)
  refine sim_blk0 hC [(.aload_n 0, 0, 0, 0, 0), (.iconst (-1), 0, 0, 0, (-1)), (.putfield 35, 44, 6, 0, 0)] [(0, vR 44), (1, vR 43), (2, vI a2)] [] (wup w6 44 6 (-1)) 39 (by decide +kernel) rfl rfl ?_
  refine sim_bw (C := fun w7 => (39, [(0, vR 44), (1, vR 43), (2, vI a2)], [], w7)) (fun w7 => ?_)
  refine sim_blk0 hC [(.aload_n 0, 0, 0, 0, 0), (.getfield 12, 44, 0, 47, 0), (.aload_n 1, 0, 0, 0, 0), (.iload_n 2, 0, 0, 0, 0)] [(0, vR 44), (1, vR 43), (2, vI a2)] [vI a2, vR 43, vR 45] w7 45 (by decide +kernel) rfl rfl ?_
  refine sim_vv hC 72 mX8_begin 7 146 45 [vR 43, vI a2] [] (by decide +kernel) ml_5_72 rfl rfl rfl rfl rfl rfl (fun wz hz => c_Tokens_begin_45_43 w7 a2 wz hz) (fun w8 => ?_)
  exact sim_retv hC (by decide +kernel)
theorem c_Reader_begin_44_43 {Z : ZT} {l : Launch} (w : Wld) (a2 : Int32) (w1 : Wld) (h : F_Reader_begin_44_43 w a2 = some w1) : Con Z l mX5_begin 8 168 [vR 44, vR 43, vI a2] w (.inr none) w1 :=
  Con_of (oc := 5) (by decide +kernel) rfl rfl (fun Ok hC => s_Reader_begin_44_43 hC w a2 w1 h ⟨rfl, rfl⟩)
noncomputable def F_Reader_failed_44 (w : Wld) (a1 : Int32) : Option (Int32 × Wld) :=
  bw (wup w 44 5 a1) (fun w1 => bw (wup w1 44 6 (w1 45 3)) (fun w2 => some ((0, w2))))
set_option maxRecDepth 10000 in
theorem s_Reader_failed_44 {Z : ZT} {l : Launch} {o : Oc} {wo : Wld} {Ok : Cfg → Prop} (hC : Clo Z l 5 2 prog_7_method_4_code (some .boolean) 1 0 o wo Ok) (w : Wld) (a1 : Int32) : SimK Ok (0, [(0, vR 44), (1, vI a1)], [], w) (F_Reader_failed_44 w a1) (Gi o wo) := by
  unfold F_Reader_failed_44
  refine sim_blk0 hC [(.aload_n 0, 0, 0, 0, 0), (.iload_n 1, 0, 0, 0, 0), (.putfield 32, 44, 5, 0, 0)] [(0, vR 44), (1, vI a1)] [] (wup w 44 5 a1) 5 (by decide +kernel) rfl rfl ?_
  refine sim_bw (C := fun w1 => (5, [(0, vR 44), (1, vI a1)], [], w1)) (fun w1 => ?_)
  refine sim_blk0 hC [(.aload_n 0, 0, 0, 0, 0), (.aload_n 0, 0, 0, 0, 0), (.getfield 12, 44, 0, 47, 0), (.getfield 73, 45, 3, 0, 0), (.putfield 35, 44, 6, 0, 0)] [(0, vR 44), (1, vI a1)] [] (wup w1 44 6 (w1 45 3)) 16 (by decide +kernel) rfl rfl ?_
  refine sim_bw (C := fun w2 => (16, [(0, vR 44), (1, vI a1)], [], w2)) (fun w2 => ?_)
  refine sim_blk0 hC [(.iconst 0, 0, 0, 0, 0)] [(0, vR 44), (1, vI a1)] [vI 0] w2 17 (by decide +kernel) rfl rfl ?_
  exact sim_reti hC (by decide +kernel) (Or.inl rfl)
theorem c_Reader_failed_44 {Z : ZT} {l : Launch} (w : Wld) (a1 : Int32) (r : Int32) (w1 : Wld) (h : F_Reader_failed_44 w a1 = some (r, w1)) : Con Z l mX5_failed 1 0 [vR 44, vI a1] w (.inr (some r)) w1 :=
  Con_of (oc := 5) (by decide +kernel) rfl rfl (fun Ok hC => s_Reader_failed_44 hC w a1 (r, w1) h ⟨rfl, rfl⟩)
noncomputable def K_Reader_readNumber_44_39 (w : Wld) : Option (Int32 × Wld) :=
  bd (F_Reader_failed_44 w 2) (fun i1 w2 => gd (i1 = 0 ∨ i1 = 1) (some ((i1, w2))))
set_option maxRecDepth 10000 in
theorem s_K_Reader_readNumber_44_39 {Z : ZT} {l : Launch} {o : Oc} {wo : Wld} {Ok : Cfg → Prop} (hC : Clo Z l 5 3 prog_7_method_12_code (some .boolean) 7 146 o wo Ok) (w : Wld) : SimK Ok (39, [(0, vR 44)], [], w) (K_Reader_readNumber_44_39 w) (Gi o wo) := by
  unfold K_Reader_readNumber_44_39
  refine sim_blk0 hC [(.aload_n 0, 0, 0, 0, 0), (.iconst 2, 0, 0, 0, 2)] [(0, vR 44)] [vI 2, vR 44] w 41 (by decide +kernel) rfl rfl ?_
  refine sim_vd hC 111 mX5_failed 1 0 44 [vI 2] [] (by decide +kernel) ml_5_111 rfl rfl rfl rfl rfl rfl (fun rz wz hz => c_Reader_failed_44 w 2 rz wz hz) (fun i1 w2 => ?_)
  exact sim_retiz hC (by decide +kernel) rfl
noncomputable def F_Reader_readNumber_44 (w : Wld) (a1 : Int32) (a2 : Int32) : Option (Int32 × Wld) :=
  br ((w 45 4) = 2) (br ((w 45 6) < a1) (K_Reader_readNumber_44_39 w) (br ((w 45 6) ≤ a2) (bw (wup w 44 4 (w 45 6)) (fun w3 => bv (F_Tokens_step_45 w3) (fun w4 => some ((1, w4))))) (K_Reader_readNumber_44_39 w))) (bd (F_Reader_failed_44 w 1) (fun i5 w6 => gd (i5 = 0 ∨ i5 = 1) (some ((i5, w6)))))
set_option maxRecDepth 10000 in
theorem s_Reader_readNumber_44 {Z : ZT} {l : Launch} {o : Oc} {wo : Wld} {Ok : Cfg → Prop} (hC : Clo Z l 5 3 prog_7_method_12_code (some .boolean) 7 146 o wo Ok) (w : Wld) (a1 : Int32) (a2 : Int32) : SimK Ok (0, [(0, vR 44), (1, vI a1), (2, vI a2)], [], w) (F_Reader_readNumber_44 w a1 a2) (Gi o wo) := by
  unfold F_Reader_readNumber_44
  refine sim_blk0 hC [(.aload_n 0, 0, 0, 0, 0), (.getfield 12, 44, 0, 47, 0), (.getfield 56, 45, 4, 0, 0), (.iconst 2, 0, 0, 0, 2)] [(0, vR 44), (1, vI a1), (2, vI a2)] [vI 2, vI (w 45 4)] w 8 (by decide +kernel) rfl rfl ?_
  refine sim_br hC (.if_icmp .eq 9) 17 (by decide +kernel) rfl (by decide) ?_ ?_
  · refine sim_blk0 hC [(.aload_n 0, 0, 0, 0, 0), (.getfield 12, 44, 0, 47, 0), (.getfield 132, 45, 6, 0, 0), (.iload_n 1, 0, 0, 0, 0)] [(0, vR 44), (1, vI a1), (2, vI a2)] [vI a1, vI (w 45 6)] w 25 (by decide +kernel) rfl rfl ?_
    refine sim_br hC (.if_icmp .lt 14) 39 (by decide +kernel) rfl (by decide) ?_ ?_
    · refine sim_sub hC [0] ?_
      exact s_K_Reader_readNumber_44_39 hC w
    · refine sim_blk0 hC [(.aload_n 0, 0, 0, 0, 0), (.getfield 12, 44, 0, 47, 0), (.getfield 132, 45, 6, 0, 0), (.iload_n 2, 0, 0, 0, 0)] [(0, vR 44), (1, vI a1), (2, vI a2)] [vI a2, vI (w 45 6)] w 36 (by decide +kernel) rfl rfl ?_
      refine sim_br hC (.if_icmp .le 9) 45 (by decide +kernel) rfl (by decide) ?_ ?_
      · refine sim_blk0 hC [(.aload_n 0, 0, 0, 0, 0), (.aload_n 0, 0, 0, 0, 0), (.getfield 12, 44, 0, 47, 0), (.getfield 132, 45, 6, 0, 0), (.putfield 28, 44, 4, 0, 0)] [(0, vR 44), (1, vI a1), (2, vI a2)] [] (wup w 44 4 (w 45 6)) 56 (by decide +kernel) rfl rfl ?_
        refine sim_bw (C := fun w3 => (56, [(0, vR 44), (1, vI a1), (2, vI a2)], [], w3)) (fun w3 => ?_)
        refine sim_blk0 hC [(.aload_n 0, 0, 0, 0, 0), (.getfield 12, 44, 0, 47, 0)] [(0, vR 44), (1, vI a1), (2, vI a2)] [vR 45] w3 60 (by decide +kernel) rfl rfl ?_
        refine sim_vv hC 117 mX8_step 6 126 45 [] [] (by decide +kernel) ml_5_117 rfl rfl rfl rfl rfl rfl (fun wz hz => c_Tokens_step_45 w3 wz hz) (fun w4 => ?_)
        refine sim_blk0 hC [(.iconst 1, 0, 0, 0, 1)] [(0, vR 44), (1, vI a1), (2, vI a2)] [vI 1] w4 64 (by decide +kernel) rfl rfl ?_
        exact sim_reti hC (by decide +kernel) (Or.inr rfl)
      · refine sim_sub hC [0] ?_
        exact s_K_Reader_readNumber_44_39 hC w
  · refine sim_blk0 hC [(.aload_n 0, 0, 0, 0, 0), (.iconst 1, 0, 0, 0, 1)] [(0, vR 44), (1, vI a1), (2, vI a2)] [vI 1, vR 44] w 13 (by decide +kernel) rfl rfl ?_
    refine sim_vd hC 111 mX5_failed 1 0 44 [vI 1] [] (by decide +kernel) ml_5_111 rfl rfl rfl rfl rfl rfl (fun rz wz hz => c_Reader_failed_44 w 1 rz wz hz) (fun i5 w6 => ?_)
    exact sim_retiz hC (by decide +kernel) rfl
theorem c_Reader_readNumber_44 {Z : ZT} {l : Launch} (w : Wld) (a1 : Int32) (a2 : Int32) (r : Int32) (w1 : Wld) (h : F_Reader_readNumber_44 w a1 a2 = some (r, w1)) : Con Z l mX5_readNumber 7 146 [vR 44, vI a1, vI a2] w (.inr (some r)) w1 :=
  Con_of (oc := 5) (by decide +kernel) rfl rfl (fun Ok hC => s_Reader_readNumber_44 hC w a1 a2 (r, w1) h ⟨rfl, rfl⟩)
noncomputable def F_Reader_readMonk_44 (w : Wld) (a1 : Int32) : Option (Int32 × Wld) :=
  bi (w 47 1) (fun i1 => br (i1 < 8) (bv (F_Tokens_step_45 w) (fun w2 => gd (vp_in i1 8) (bw (wup w2 49 (Int32.toNatClampNeg i1) a1) (fun w3 => bd (F_Reader_readNumber_44 w3 0 99) (fun i4 w5 => br (¬ i4 = 0) (gd (vp_in ((0 : Int32) + i1) 53) (bw (wup w5 54 (Int32.toNatClampNeg ((0 : Int32) + i1)) (w5 44 4)) (fun w6 => bd (F_Reader_readNumber_44 w6 0 9) (fun i7 w8 => br (¬ i7 = 0) (gd (vp_in ((8 : Int32) + i1) 53) (bw (wup w8 54 (Int32.toNatClampNeg ((8 : Int32) + i1)) (w8 44 4)) (fun w9 => br ((w9 45 6) < (w9 47 0)) (bd (F_Reader_readNumber_44 w9 0 9999) (fun i10 w11 => br (¬ i10 = 0) (gd (vp_in ((16 : Int32) + i1) 53) (bw (wup w11 54 (Int32.toNatClampNeg ((16 : Int32) + i1)) (w11 44 4)) (fun w12 => bw (wup w12 47 1 ((w12 47 1) + (1 : Int32))) (fun w13 => some ((1, w13)))))) (some ((0, w11))))) (bd (F_Reader_failed_44 w9 3) (fun i14 w15 => gd (i14 = 0 ∨ i14 = 1) (some ((i14, w15)))))))) (some ((0, w8))))))) (some ((0, w5)))))))) (bd (F_Reader_failed_44 w 2) (fun i16 w17 => gd (i16 = 0 ∨ i16 = 1) (some ((i16, w17))))))
set_option maxRecDepth 10000 in
theorem s_Reader_readMonk_44 {Z : ZT} {l : Launch} {o : Oc} {wo : Wld} {Ok : Cfg → Prop} (hC : Clo Z l 5 3 prog_7_method_7_code (some .boolean) 8 168 o wo Ok) (w : Wld) (a1 : Int32) : SimK Ok (0, [(0, vR 44), (1, vI a1)], [], w) (F_Reader_readMonk_44 w a1) (Gi o wo) := by
  unfold F_Reader_readMonk_44
  refine sim_blk0 hC [(.aload_n 0, 0, 0, 0, 0), (.getfield 41, 44, 7, 49, 0), (.getfield 127, 47, 1, 0, 0), (.istore_n 2, 0, 0, 0, 0)] [(0, vR 44), (1, vI a1), (2, vI (w 47 1))] [] w 8 (by decide +kernel) rfl rfl ?_
  refine sim_bi (C := fun i1 => (8, [(0, vR 44), (1, vI a1), (2, vI i1)], [], w)) (fun i1 => ?_)
  refine sim_blk0 hC [(.iload_n 2, 0, 0, 0, 0), (.bipush 8, 0, 0, 0, 8)] [(0, vR 44), (1, vI a1), (2, vI i1)] [vI 8, vI i1] w 11 (by decide +kernel) rfl rfl ?_
  refine sim_br hC (.if_icmp .lt 9) 20 (by decide +kernel) rfl (by decide) ?_ ?_
  · refine sim_blk0 hC [(.aload_n 0, 0, 0, 0, 0), (.getfield 12, 44, 0, 47, 0)] [(0, vR 44), (1, vI a1), (2, vI i1)] [vR 45] w 24 (by decide +kernel) rfl rfl ?_
    refine sim_vv hC 117 mX8_step 6 126 45 [] [] (by decide +kernel) ml_5_117 rfl rfl rfl rfl rfl rfl (fun wz hz => c_Tokens_step_45 w wz hz) (fun w2 => ?_)
    refine sim_blk1 hC [(.aload_n 0, 0, 0, 0, 0), (.getfield 41, 44, 7, 49, 0), (.getfield 130, 47, 5, 51, 0), (.iload_n 2, 0, 0, 0, 0), (.iload_n 1, 0, 0, 0, 0), (.iastore, 49, 8, 0, 0)] [(0, vR 44), (1, vI a1), (2, vI i1)] [] (wup w2 49 (Int32.toNatClampNeg i1) a1) 37 (by decide +kernel) rfl rfl ?_
    refine sim_bw (C := fun w3 => (37, [(0, vR 44), (1, vI a1), (2, vI i1)], [], w3)) (fun w3 => ?_)
    refine sim_blk0 hC [(.aload_n 0, 0, 0, 0, 0), (.iconst 0, 0, 0, 0, 0), (.bipush 99, 0, 0, 0, 99)] [(0, vR 44), (1, vI a1), (2, vI i1)] [vI 99, vI 0, vR 44] w3 41 (by decide +kernel) rfl rfl ?_
    refine sim_vd hC 120 mX5_readNumber 7 146 44 [vI 0, vI 99] [] (by decide +kernel) ml_5_120 rfl rfl rfl rfl rfl rfl (fun rz wz hz => c_Reader_readNumber_44 w3 0 99 rz wz hz) (fun i4 w5 => ?_)
    refine sim_br hC (.ifCond .ne 5) 49 (by decide +kernel) rfl (by decide) ?_ ?_
    · refine sim_blk1 hC [(.aload_n 0, 0, 0, 0, 0), (.getfield 48, 44, 8, 55, 0), (.getfield 64, 53, 0, 56, 0), (.iconst 0, 0, 0, 0, 0), (.iload_n 2, 0, 0, 0, 0), (.iadd, 0, 0, 0, 0), (.aload_n 0, 0, 0, 0, 0), (.getfield 28, 44, 4, 0, 0), (.iastore, 54, 53, 0, 0)] [(0, vR 44), (1, vI a1), (2, vI i1)] [] (wup w5 54 (Int32.toNatClampNeg ((0 : Int32) + i1)) (w5 44 4)) 64 (by decide +kernel) rfl rfl ?_
      refine sim_bw (C := fun w6 => (64, [(0, vR 44), (1, vI a1), (2, vI i1)], [], w6)) (fun w6 => ?_)
      refine sim_blk0 hC [(.aload_n 0, 0, 0, 0, 0), (.iconst 0, 0, 0, 0, 0), (.bipush 9, 0, 0, 0, 9)] [(0, vR 44), (1, vI a1), (2, vI i1)] [vI 9, vI 0, vR 44] w6 68 (by decide +kernel) rfl rfl ?_
      refine sim_vd hC 120 mX5_readNumber 7 146 44 [vI 0, vI 9] [] (by decide +kernel) ml_5_120 rfl rfl rfl rfl rfl rfl (fun rz wz hz => c_Reader_readNumber_44 w6 0 9 rz wz hz) (fun i7 w8 => ?_)
      refine sim_br hC (.ifCond .ne 5) 76 (by decide +kernel) rfl (by decide) ?_ ?_
      · refine sim_blk1 hC [(.aload_n 0, 0, 0, 0, 0), (.getfield 48, 44, 8, 55, 0), (.getfield 64, 53, 0, 56, 0), (.bipush 8, 0, 0, 0, 8), (.iload_n 2, 0, 0, 0, 0), (.iadd, 0, 0, 0, 0), (.aload_n 0, 0, 0, 0, 0), (.getfield 28, 44, 4, 0, 0), (.iastore, 54, 53, 0, 0)] [(0, vR 44), (1, vI a1), (2, vI i1)] [] (wup w8 54 (Int32.toNatClampNeg ((8 : Int32) + i1)) (w8 44 4)) 92 (by decide +kernel) rfl rfl ?_
        refine sim_bw (C := fun w9 => (92, [(0, vR 44), (1, vI a1), (2, vI i1)], [], w9)) (fun w9 => ?_)
        refine sim_blk0 hC [(.aload_n 0, 0, 0, 0, 0), (.getfield 12, 44, 0, 47, 0), (.getfield 132, 45, 6, 0, 0), (.aload_n 0, 0, 0, 0, 0), (.getfield 41, 44, 7, 49, 0), (.getfield 61, 47, 0, 0, 0)] [(0, vR 44), (1, vI a1), (2, vI i1)] [vI (w9 47 0), vI (w9 45 6)] w9 106 (by decide +kernel) rfl rfl ?_
        refine sim_br hC (.if_icmp .lt 9) 115 (by decide +kernel) rfl (by decide) ?_ ?_
        · refine sim_blk0 hC [(.aload_n 0, 0, 0, 0, 0), (.iconst 0, 0, 0, 0, 0), (.sipush 9999, 0, 0, 0, 9999)] [(0, vR 44), (1, vI a1), (2, vI i1)] [vI 9999, vI 0, vR 44] w9 120 (by decide +kernel) rfl rfl ?_
          refine sim_vd hC 120 mX5_readNumber 7 146 44 [vI 0, vI 9999] [] (by decide +kernel) ml_5_120 rfl rfl rfl rfl rfl rfl (fun rz wz hz => c_Reader_readNumber_44 w9 0 9999 rz wz hz) (fun i10 w11 => ?_)
          refine sim_br hC (.ifCond .ne 5) 128 (by decide +kernel) rfl (by decide) ?_ ?_
          · refine sim_blk1 hC [(.aload_n 0, 0, 0, 0, 0), (.getfield 48, 44, 8, 55, 0), (.getfield 64, 53, 0, 56, 0), (.bipush 16, 0, 0, 0, 16), (.iload_n 2, 0, 0, 0, 0), (.iadd, 0, 0, 0, 0), (.aload_n 0, 0, 0, 0, 0), (.getfield 28, 44, 4, 0, 0), (.iastore, 54, 53, 0, 0)] [(0, vR 44), (1, vI a1), (2, vI i1)] [] (wup w11 54 (Int32.toNatClampNeg ((16 : Int32) + i1)) (w11 44 4)) 144 (by decide +kernel) rfl rfl ?_
            refine sim_bw (C := fun w12 => (144, [(0, vR 44), (1, vI a1), (2, vI i1)], [], w12)) (fun w12 => ?_)
            refine sim_blk0 hC [(.aload_n 0, 0, 0, 0, 0), (.getfield 41, 44, 7, 49, 0), (.dup, 0, 0, 0, 0), (.getfield 127, 47, 1, 0, 0), (.iconst 1, 0, 0, 0, 1), (.iadd, 0, 0, 0, 0), (.putfield 127, 47, 1, 0, 0)] [(0, vR 44), (1, vI a1), (2, vI i1)] [] (wup w12 47 1 ((w12 47 1) + (1 : Int32))) 157 (by decide +kernel) rfl rfl ?_
            refine sim_bw (C := fun w13 => (157, [(0, vR 44), (1, vI a1), (2, vI i1)], [], w13)) (fun w13 => ?_)
            refine sim_blk0 hC [(.iconst 1, 0, 0, 0, 1)] [(0, vR 44), (1, vI a1), (2, vI i1)] [vI 1] w13 158 (by decide +kernel) rfl rfl ?_
            exact sim_reti hC (by decide +kernel) (Or.inr rfl)
          · refine sim_blk0 hC [(.iconst 0, 0, 0, 0, 0)] [(0, vR 44), (1, vI a1), (2, vI i1)] [vI 0] w11 127 (by decide +kernel) rfl rfl ?_
            exact sim_reti hC (by decide +kernel) (Or.inl rfl)
        · refine sim_blk0 hC [(.aload_n 0, 0, 0, 0, 0), (.iconst 3, 0, 0, 0, 3)] [(0, vR 44), (1, vI a1), (2, vI i1)] [vI 3, vR 44] w9 111 (by decide +kernel) rfl rfl ?_
          refine sim_vd hC 111 mX5_failed 1 0 44 [vI 3] [] (by decide +kernel) ml_5_111 rfl rfl rfl rfl rfl rfl (fun rz wz hz => c_Reader_failed_44 w9 3 rz wz hz) (fun i14 w15 => ?_)
          exact sim_retiz hC (by decide +kernel) rfl
      · refine sim_blk0 hC [(.iconst 0, 0, 0, 0, 0)] [(0, vR 44), (1, vI a1), (2, vI i1)] [vI 0] w8 75 (by decide +kernel) rfl rfl ?_
        exact sim_reti hC (by decide +kernel) (Or.inl rfl)
    · refine sim_blk0 hC [(.iconst 0, 0, 0, 0, 0)] [(0, vR 44), (1, vI a1), (2, vI i1)] [vI 0] w5 48 (by decide +kernel) rfl rfl ?_
      exact sim_reti hC (by decide +kernel) (Or.inl rfl)
  · refine sim_blk0 hC [(.aload_n 0, 0, 0, 0, 0), (.iconst 2, 0, 0, 0, 2)] [(0, vR 44), (1, vI a1), (2, vI i1)] [vI 2, vR 44] w 16 (by decide +kernel) rfl rfl ?_
    refine sim_vd hC 111 mX5_failed 1 0 44 [vI 2] [] (by decide +kernel) ml_5_111 rfl rfl rfl rfl rfl rfl (fun rz wz hz => c_Reader_failed_44 w 2 rz wz hz) (fun i16 w17 => ?_)
    exact sim_retiz hC (by decide +kernel) rfl
theorem c_Reader_readMonk_44 {Z : ZT} {l : Launch} (w : Wld) (a1 : Int32) (r : Int32) (w1 : Wld) (h : F_Reader_readMonk_44 w a1 = some (r, w1)) : Con Z l mX5_readMonk 8 168 [vR 44, vI a1] w (.inr (some r)) w1 :=
  Con_of (oc := 5) (by decide +kernel) rfl rfl (fun Ok hC => s_Reader_readMonk_44 hC w a1 (r, w1) h ⟨rfl, rfl⟩)
noncomputable def F_Reader_readSign_44 (w : Wld) (a1 : Int32) : Option (Int32 × Wld) :=
  br ((w 45 7) = a1) (bv (F_Tokens_step_45 w) (fun w1 => some ((1, w1)))) (bd (F_Reader_failed_44 w 1) (fun i2 w3 => gd (i2 = 0 ∨ i2 = 1) (some ((i2, w3)))))
set_option maxRecDepth 10000 in
theorem s_Reader_readSign_44 {Z : ZT} {l : Launch} {o : Oc} {wo : Wld} {Ok : Cfg → Prop} (hC : Clo Z l 5 2 prog_7_method_11_code (some .boolean) 7 146 o wo Ok) (w : Wld) (a1 : Int32) : SimK Ok (0, [(0, vR 44), (1, vI a1)], [], w) (F_Reader_readSign_44 w a1) (Gi o wo) := by
  unfold F_Reader_readSign_44
  refine sim_blk0 hC [(.aload_n 0, 0, 0, 0, 0), (.getfield 12, 44, 0, 47, 0), (.getfield 144, 45, 7, 0, 0), (.iload_n 1, 0, 0, 0, 0)] [(0, vR 44), (1, vI a1)] [vI a1, vI (w 45 7)] w 8 (by decide +kernel) rfl rfl ?_
  refine sim_br hC (.if_icmp .eq 9) 17 (by decide +kernel) rfl (by decide) ?_ ?_
  · refine sim_blk0 hC [(.aload_n 0, 0, 0, 0, 0), (.getfield 12, 44, 0, 47, 0)] [(0, vR 44), (1, vI a1)] [vR 45] w 21 (by decide +kernel) rfl rfl ?_
    refine sim_vv hC 117 mX8_step 6 126 45 [] [] (by decide +kernel) ml_5_117 rfl rfl rfl rfl rfl rfl (fun wz hz => c_Tokens_step_45 w wz hz) (fun w1 => ?_)
    refine sim_blk0 hC [(.iconst 1, 0, 0, 0, 1)] [(0, vR 44), (1, vI a1)] [vI 1] w1 25 (by decide +kernel) rfl rfl ?_
    exact sim_reti hC (by decide +kernel) (Or.inr rfl)
  · refine sim_blk0 hC [(.aload_n 0, 0, 0, 0, 0), (.iconst 1, 0, 0, 0, 1)] [(0, vR 44), (1, vI a1)] [vI 1, vR 44] w 13 (by decide +kernel) rfl rfl ?_
    refine sim_vd hC 111 mX5_failed 1 0 44 [vI 1] [] (by decide +kernel) ml_5_111 rfl rfl rfl rfl rfl rfl (fun rz wz hz => c_Reader_failed_44 w 1 rz wz hz) (fun i2 w3 => ?_)
    exact sim_retiz hC (by decide +kernel) rfl
theorem c_Reader_readSign_44 {Z : ZT} {l : Launch} (w : Wld) (a1 : Int32) (r : Int32) (w1 : Wld) (h : F_Reader_readSign_44 w a1 = some (r, w1)) : Con Z l mX5_readSign 7 146 [vR 44, vI a1] w (.inr (some r)) w1 :=
  Con_of (oc := 5) (by decide +kernel) rfl rfl (fun Ok hC => s_Reader_readSign_44 hC w a1 (r, w1) h ⟨rfl, rfl⟩)
noncomputable def F_Reader_readTires_44 (w : Wld) : Option (Int32 × Wld) :=
  br ((w 44 1) = 0) (gd ((1 : Int32) = 0 ∨ (1 : Int32) = 1) (bw (wup w 44 1 1) (fun w1 => bv (F_Tokens_step_45 w1) (fun w2 => bd (F_Reader_readNumber_44 w2 1 50) (fun i3 w4 => br (¬ i3 = 0) (bw (wup w4 47 2 (w4 44 4)) (fun w5 => some ((1, w5)))) (some ((0, w4)))))))) (bd (F_Reader_failed_44 w 5) (fun i6 w7 => gd (i6 = 0 ∨ i6 = 1) (some ((i6, w7)))))
set_option maxRecDepth 10000 in
theorem s_Reader_readTires_44 {Z : ZT} {l : Launch} {o : Oc} {wo : Wld} {Ok : Cfg → Prop} (hC : Clo Z l 5 1 prog_7_method_8_code (some .boolean) 8 168 o wo Ok) (w : Wld) : SimK Ok (0, [(0, vR 44)], [], w) (F_Reader_readTires_44 w) (Gi o wo) := by
  unfold F_Reader_readTires_44
  refine sim_blk0 hC [(.aload_n 0, 0, 0, 0, 0), (.getfield 18, 44, 1, 0, 0)] [(0, vR 44)] [vI (w 44 1)] w 4 (by decide +kernel) rfl rfl ?_
  refine sim_br hC (.ifCond .eq 9) 13 (by decide +kernel) rfl (by decide) ?_ ?_
  · refine sim_blk1 hC [(.aload_n 0, 0, 0, 0, 0), (.iconst 1, 0, 0, 0, 1), (.putfield 18, 44, 1, 2, 0)] [(0, vR 44)] [] (wup w 44 1 1) 18 (by decide +kernel) rfl rfl ?_
    refine sim_bw (C := fun w1 => (18, [(0, vR 44)], [], w1)) (fun w1 => ?_)
    refine sim_blk0 hC [(.aload_n 0, 0, 0, 0, 0), (.getfield 12, 44, 0, 47, 0)] [(0, vR 44)] [vR 45] w1 22 (by decide +kernel) rfl rfl ?_
    refine sim_vv hC 117 mX8_step 6 126 45 [] [] (by decide +kernel) ml_5_117 rfl rfl rfl rfl rfl rfl (fun wz hz => c_Tokens_step_45 w1 wz hz) (fun w2 => ?_)
    refine sim_blk0 hC [(.aload_n 0, 0, 0, 0, 0), (.iconst 1, 0, 0, 0, 1), (.bipush 50, 0, 0, 0, 50)] [(0, vR 44)] [vI 50, vI 1, vR 44] w2 29 (by decide +kernel) rfl rfl ?_
    refine sim_vd hC 120 mX5_readNumber 7 146 44 [vI 1, vI 50] [] (by decide +kernel) ml_5_120 rfl rfl rfl rfl rfl rfl (fun rz wz hz => c_Reader_readNumber_44 w2 1 50 rz wz hz) (fun i3 w4 => ?_)
    refine sim_br hC (.ifCond .ne 5) 37 (by decide +kernel) rfl (by decide) ?_ ?_
    · refine sim_blk0 hC [(.aload_n 0, 0, 0, 0, 0), (.getfield 41, 44, 7, 49, 0), (.aload_n 0, 0, 0, 0, 0), (.getfield 28, 44, 4, 0, 0), (.putfield 135, 47, 2, 0, 0)] [(0, vR 44)] [] (wup w4 47 2 (w4 44 4)) 48 (by decide +kernel) rfl rfl ?_
      refine sim_bw (C := fun w5 => (48, [(0, vR 44)], [], w5)) (fun w5 => ?_)
      refine sim_blk0 hC [(.iconst 1, 0, 0, 0, 1)] [(0, vR 44)] [vI 1] w5 49 (by decide +kernel) rfl rfl ?_
      exact sim_reti hC (by decide +kernel) (Or.inr rfl)
    · refine sim_blk0 hC [(.iconst 0, 0, 0, 0, 0)] [(0, vR 44)] [vI 0] w4 36 (by decide +kernel) rfl rfl ?_
      exact sim_reti hC (by decide +kernel) (Or.inl rfl)
  · refine sim_blk0 hC [(.aload_n 0, 0, 0, 0, 0), (.iconst 5, 0, 0, 0, 5)] [(0, vR 44)] [vI 5, vR 44] w 9 (by decide +kernel) rfl rfl ?_
    refine sim_vd hC 111 mX5_failed 1 0 44 [vI 5] [] (by decide +kernel) ml_5_111 rfl rfl rfl rfl rfl rfl (fun rz wz hz => c_Reader_failed_44 w 5 rz wz hz) (fun i6 w7 => ?_)
    exact sim_retiz hC (by decide +kernel) rfl
theorem c_Reader_readTires_44 {Z : ZT} {l : Launch} (w : Wld) (r : Int32) (w1 : Wld) (h : F_Reader_readTires_44 w = some (r, w1)) : Con Z l mX5_readTires 8 168 [vR 44] w (.inr (some r)) w1 :=
  Con_of (oc := 5) (by decide +kernel) rfl rfl (fun Ok hC => s_Reader_readTires_44 hC w (r, w1) h ⟨rfl, rfl⟩)
noncomputable def K_Rule_put_50_30 (w : Wld) : Option (Wld) :=
  some w
set_option maxRecDepth 10000 in
theorem s_K_Rule_put_50_30 {Z : ZT} {l : Launch} {o : Oc} {wo : Wld} {Ok : Cfg → Prop} (hC : Clo Z l 6 2 prog_8_method_3_code none 1 0 o wo Ok) (w : Wld) : SimK Ok (30, [], [], w) (K_Rule_put_50_30 w) (Gv o wo) := by
  unfold K_Rule_put_50_30
  exact sim_retv hC (by decide +kernel)
noncomputable def F_Rule_put_50 (w : Wld) (a1 : Int32) : Option (Wld) :=
  br ((700 : Int32) ≤ (w 50 2)) (K_Rule_put_50_30 w) (gd (vp_in (w 50 2) 700) (bw (wup w 51 (Int32.toNatClampNeg (w 50 2)) a1) (fun w1 => bw (wup w1 50 2 ((w1 50 2) + (1 : Int32))) (fun w2 => K_Rule_put_50_30 w2))))
set_option maxRecDepth 10000 in
theorem s_Rule_put_50 {Z : ZT} {l : Launch} {o : Oc} {wo : Wld} {Ok : Cfg → Prop} (hC : Clo Z l 6 2 prog_8_method_3_code none 1 0 o wo Ok) (w : Wld) (a1 : Int32) : SimK Ok (0, [(0, vR 50), (1, vI a1)], [], w) (F_Rule_put_50 w a1) (Gv o wo) := by
  unfold F_Rule_put_50
  refine sim_blk0 hC [(.aload_n 0, 0, 0, 0, 0), (.getfield 18, 50, 2, 0, 0), (.sipush 700, 0, 0, 0, 700)] [(0, vR 50), (1, vI a1)] [vI 700, vI (w 50 2)] w 7 (by decide +kernel) rfl rfl ?_
  refine sim_br hC (.if_icmp .ge 23) 30 (by decide +kernel) rfl (by decide) ?_ ?_
  · refine sim_sub hC [] ?_
    exact s_K_Rule_put_50_30 hC w
  · refine sim_blk1 hC [(.aload_n 0, 0, 0, 0, 0), (.getfield 9, 50, 0, 53, 0), (.aload_n 0, 0, 0, 0, 0), (.getfield 18, 50, 2, 0, 0), (.iload_n 1, 0, 0, 0, 0), (.iastore, 51, 700, 0, 0)] [(0, vR 50), (1, vI a1)] [] (wup w 51 (Int32.toNatClampNeg (w 50 2)) a1) 20 (by decide +kernel) rfl rfl ?_
    refine sim_bw (C := fun w1 => (20, [(0, vR 50), (1, vI a1)], [], w1)) (fun w1 => ?_)
    refine sim_blk0 hC [(.aload_n 0, 0, 0, 0, 0), (.dup, 0, 0, 0, 0), (.getfield 18, 50, 2, 0, 0), (.iconst 1, 0, 0, 0, 1), (.iadd, 0, 0, 0, 0), (.putfield 18, 50, 2, 0, 0)] [(0, vR 50), (1, vI a1)] [] (wup w1 50 2 ((w1 50 2) + (1 : Int32))) 30 (by decide +kernel) rfl rfl ?_
    refine sim_bw (C := fun w2 => (30, [(0, vR 50), (1, vI a1)], [], w2)) (fun w2 => ?_)
    refine sim_sub hC [] ?_
    exact s_K_Rule_put_50_30 hC w2
theorem c_Rule_put_50 {Z : ZT} {l : Launch} (w : Wld) (a1 : Int32) (w1 : Wld) (h : F_Rule_put_50 w a1 = some w1) : Con Z l mX6_put 1 0 [vR 50, vI a1] w (.inr none) w1 :=
  Con_of (oc := 6) (by decide +kernel) rfl rfl (fun Ok hC => s_Rule_put_50 hC w a1 w1 h ⟨rfl, rfl⟩)
noncomputable def F_Reader_readValue_44 (w : Wld) : Option (Int32 × Wld) :=
  gd (Int32.toNatClampNeg (w 45 5) < 19) (br (¬ (enV 1 (w 45 5)) = (-1)) (gd (Int32.toNatClampNeg (w 45 5) < 19) (bv (F_Rule_put_50 w (enV 1 (w 45 5))) (fun w1 => bv (F_Tokens_step_45 w1) (fun w2 => some ((1, w2)))))) (bd (F_Reader_failed_44 w 3) (fun i3 w4 => gd (i3 = 0 ∨ i3 = 1) (some ((i3, w4))))))
set_option maxRecDepth 10000 in
theorem s_Reader_readValue_44 {Z : ZT} {l : Launch} {o : Oc} {wo : Wld} {Ok : Cfg → Prop} (hD : Clo3 Z l 5 1 prog_7_method_21_code (some .boolean) 7 146 o wo Ok) (w : Wld) : SimK Ok (0, [(0, vR 44)], [], w) (F_Reader_readValue_44 w) (Gi o wo) := by
  unfold F_Reader_readValue_44
  have hC := hD.1
  have hC2 := hD.2
  refine sim_blk0 hC [(.aload_n 0, 0, 0, 0, 0), (.getfield 12, 44, 0, 47, 0), (.getfield 74, 45, 5, 1, 0)] [(0, vR 44)] [vE (w 45 5)] w 7 (by decide +kernel) rfl rfl ?_
  refine sim_efld hC2 190 1 (by decide +kernel) (by decide) (by decide) ?_
  refine sim_blk0 hC [(.iconst (-1), 0, 0, 0, (-1))] [(0, vR 44)] [vI (-1), vI (enV 1 (w 45 5))] w 11 (by decide +kernel) rfl rfl ?_
  refine sim_br hC (.if_icmp .ne 9) 20 (by decide +kernel) rfl (by decide) ?_ ?_
  · refine sim_blk0 hC [(.aload_n 0, 0, 0, 0, 0), (.getfield 41, 44, 7, 49, 0), (.getfield 156, 47, 6, 52, 0), (.aload_n 0, 0, 0, 0, 0), (.getfield 12, 44, 0, 47, 0), (.getfield 74, 45, 5, 1, 0)] [(0, vR 44)] [vE (w 45 5), vR 50] w 34 (by decide +kernel) rfl rfl ?_
    refine sim_efld hC2 190 1 (by decide +kernel) (by decide) (by decide) ?_
    refine sim_vv hC 162 mX6_put 1 0 50 [vI (enV 1 (w 45 5))] [] (by decide +kernel) ml_5_162 rfl rfl rfl rfl rfl rfl (fun wz hz => c_Rule_put_50 w (enV 1 (w 45 5)) wz hz) (fun w1 => ?_)
    refine sim_blk0 hC [(.aload_n 0, 0, 0, 0, 0), (.getfield 12, 44, 0, 47, 0)] [(0, vR 44)] [vR 45] w1 44 (by decide +kernel) rfl rfl ?_
    refine sim_vv hC 117 mX8_step 6 126 45 [] [] (by decide +kernel) ml_5_117 rfl rfl rfl rfl rfl rfl (fun wz hz => c_Tokens_step_45 w1 wz hz) (fun w2 => ?_)
    refine sim_blk0 hC [(.iconst 1, 0, 0, 0, 1)] [(0, vR 44)] [vI 1] w2 48 (by decide +kernel) rfl rfl ?_
    exact sim_reti hC (by decide +kernel) (Or.inr rfl)
  · refine sim_blk0 hC [(.aload_n 0, 0, 0, 0, 0), (.iconst 3, 0, 0, 0, 3)] [(0, vR 44)] [vI 3, vR 44] w 16 (by decide +kernel) rfl rfl ?_
    refine sim_vd hC 111 mX5_failed 1 0 44 [vI 3] [] (by decide +kernel) ml_5_111 rfl rfl rfl rfl rfl rfl (fun rz wz hz => c_Reader_failed_44 w 3 rz wz hz) (fun i3 w4 => ?_)
    exact sim_retiz hC (by decide +kernel) rfl
theorem c_Reader_readValue_44 {Z : ZT} {l : Launch} (w : Wld) (r : Int32) (w1 : Wld) (h : F_Reader_readValue_44 w = some (r, w1)) : Con Z l mX5_readValue 7 146 [vR 44] w (.inr (some r)) w1 :=
  Con_of3 (oc := 5) (by decide +kernel) rfl rfl (fun Ok hC => s_Reader_readValue_44 hC w (r, w1) h ⟨rfl, rfl⟩)
noncomputable def K_Reader_readPart_44_43 (rx : Wld → Int32 → Option (Int32 × Wld)) (t0 : Int32) (w : Wld) : Option (Int32 × Wld) :=
  gd (t0 = 0 ∨ t0 = 1) (some ((t0, w)))
set_option maxRecDepth 10000 in
theorem s_K_Reader_readPart_44_43 {Z : ZT} {l : Launch} {o : Oc} {wo : Wld} {Ok : Cfg → Prop} {rx : Wld → Int32 → Option (Int32 × Wld)} {d : Nat} (hC : Clo Z l 5 2 prog_7_method_20_code (some .boolean) (40 + 7 * d + 1) (600 + 161 * d + 23) o wo Ok) (hrx : ∀ (w : Wld) (a : Int32) (r : Int32) (w1 : Wld), rx w a = some (r, w1) → Con Z l mX5_readExpr (40 + 7 * d) (600 + 161 * d) [vR 44, vI a] w (.inr (some r)) w1) (t0 : Int32) (w : Wld) : SimK Ok (43, [], [vI t0], w) (K_Reader_readPart_44_43 rx t0 w) (Gi o wo) := by
  unfold K_Reader_readPart_44_43
  exact sim_retiz hC (by decide +kernel) rfl
noncomputable def K_Reader_readPart_44_42 (rx : Wld → Int32 → Option (Int32 × Wld)) (w : Wld) : Option (Int32 × Wld) :=
  K_Reader_readPart_44_43 rx 0 w
set_option maxRecDepth 10000 in
theorem s_K_Reader_readPart_44_42 {Z : ZT} {l : Launch} {o : Oc} {wo : Wld} {Ok : Cfg → Prop} {rx : Wld → Int32 → Option (Int32 × Wld)} {d : Nat} (hC : Clo Z l 5 2 prog_7_method_20_code (some .boolean) (40 + 7 * d + 1) (600 + 161 * d + 23) o wo Ok) (hrx : ∀ (w : Wld) (a : Int32) (r : Int32) (w1 : Wld), rx w a = some (r, w1) → Con Z l mX5_readExpr (40 + 7 * d) (600 + 161 * d) [vR 44, vI a] w (.inr (some r)) w1) (w : Wld) : SimK Ok (42, [], [], w) (K_Reader_readPart_44_42 rx w) (Gi o wo) := by
  unfold K_Reader_readPart_44_42
  refine sim_blk0 hC [(.iconst 0, 0, 0, 0, 0)] [] [vI 0] w 43 (by decide +kernel) rfl rfl ?_
  exact s_K_Reader_readPart_44_43 hC hrx 0 w
noncomputable def F_Reader_readPart_44 (rx : Wld → Int32 → Option (Int32 × Wld)) (w : Wld) (a1 : Int32) : Option (Int32 × Wld) :=
  br (¬ (w 45 7) = 40) (br (¬ (w 45 4) = 1) (bd (F_Reader_readNumber_44 w 0 9999) (fun i1 w2 => br (¬ i1 = 0) (bv (F_Rule_put_50 w2 (w2 44 4)) (fun w3 => some ((1, w3)))) (some ((0, w2))))) (bd (F_Reader_readValue_44 w) (fun i4 w5 => gd (i4 = 0 ∨ i4 = 1) (some ((i4, w5)))))) (bv (F_Tokens_step_45 w) (fun w6 => bd (rx w6 (a1 + (1 : Int32))) (fun i7 w8 => br (i7 = 0) (K_Reader_readPart_44_42 rx w8) (bd (F_Reader_readSign_44 w8 41) (fun i9 w10 => br (i9 = 0) (K_Reader_readPart_44_42 rx w10) (K_Reader_readPart_44_43 rx 1 w10))))))
set_option maxRecDepth 10000 in
theorem s_Reader_readPart_44 {Z : ZT} {l : Launch} {o : Oc} {wo : Wld} {Ok : Cfg → Prop} {rx : Wld → Int32 → Option (Int32 × Wld)} {d : Nat} (hC : Clo Z l 5 2 prog_7_method_20_code (some .boolean) (40 + 7 * d + 1) (600 + 161 * d + 23) o wo Ok) (hrx : ∀ (w : Wld) (a : Int32) (r : Int32) (w1 : Wld), rx w a = some (r, w1) → Con Z l mX5_readExpr (40 + 7 * d) (600 + 161 * d) [vR 44, vI a] w (.inr (some r)) w1) (w : Wld) (a1 : Int32) : SimK Ok (0, [(0, vR 44), (1, vI a1)], [], w) (F_Reader_readPart_44 rx w a1) (Gi o wo) := by
  unfold F_Reader_readPart_44
  refine sim_blk0 hC [(.aload_n 0, 0, 0, 0, 0), (.getfield 12, 44, 0, 47, 0), (.getfield 144, 45, 7, 0, 0), (.bipush 40, 0, 0, 0, 40)] [(0, vR 44), (1, vI a1)] [vI 40, vI (w 45 7)] w 9 (by decide +kernel) rfl rfl ?_
  refine sim_br hC (.if_icmp .ne 35) 44 (by decide +kernel) rfl (by decide) ?_ ?_
  · refine sim_blk0 hC [(.aload_n 0, 0, 0, 0, 0), (.getfield 12, 44, 0, 47, 0), (.getfield 56, 45, 4, 0, 0), (.iconst 1, 0, 0, 0, 1)] [(0, vR 44), (1, vI a1)] [vI 1, vI (w 45 4)] w 52 (by decide +kernel) rfl rfl ?_
    refine sim_br hC (.if_icmp .ne 8) 60 (by decide +kernel) rfl (by decide) ?_ ?_
    · refine sim_blk0 hC [(.aload_n 0, 0, 0, 0, 0), (.iconst 0, 0, 0, 0, 0), (.sipush 9999, 0, 0, 0, 9999)] [(0, vR 44), (1, vI a1)] [vI 9999, vI 0, vR 44] w 65 (by decide +kernel) rfl rfl ?_
      refine sim_vd hC 120 mX5_readNumber 7 146 44 [vI 0, vI 9999] [] (by decide +kernel) ml_5_120 rfl rfl rfl rfl (ble_of (by omega)) (ble_of (by show 8 + (3 + 11) + _ ≤ _; omega)) (fun rz wz hz => c_Reader_readNumber_44 w 0 9999 rz wz hz) (fun i1 w2 => ?_)
      refine sim_br hC (.ifCond .ne 5) 73 (by decide +kernel) rfl (by decide) ?_ ?_
      · refine sim_blk0 hC [(.aload_n 0, 0, 0, 0, 0), (.getfield 41, 44, 7, 49, 0), (.getfield 156, 47, 6, 52, 0), (.aload_n 0, 0, 0, 0, 0), (.getfield 28, 44, 4, 0, 0)] [(0, vR 44), (1, vI a1)] [vI (w2 44 4), vR 50] w2 84 (by decide +kernel) rfl rfl ?_
        refine sim_vv hC 162 mX6_put 1 0 50 [vI (w2 44 4)] [] (by decide +kernel) ml_5_162 rfl rfl rfl rfl (ble_of (by omega)) (ble_of (by show 8 + (2 + 11) + _ ≤ _; omega)) (fun wz hz => c_Rule_put_50 w2 (w2 44 4) wz hz) (fun w3 => ?_)
        refine sim_blk0 hC [(.iconst 1, 0, 0, 0, 1)] [(0, vR 44), (1, vI a1)] [vI 1] w3 88 (by decide +kernel) rfl rfl ?_
        exact sim_reti hC (by decide +kernel) (Or.inr rfl)
      · refine sim_blk0 hC [(.iconst 0, 0, 0, 0, 0)] [(0, vR 44), (1, vI a1)] [vI 0] w2 72 (by decide +kernel) rfl rfl ?_
        exact sim_reti hC (by decide +kernel) (Or.inl rfl)
    · refine sim_blk0 hC [(.aload_n 0, 0, 0, 0, 0)] [(0, vR 44), (1, vI a1)] [vR 44] w 56 (by decide +kernel) rfl rfl ?_
      refine sim_vd hC 187 mX5_readValue 7 146 44 [] [] (by decide +kernel) ml_5_187 rfl rfl rfl rfl (ble_of (by omega)) (ble_of (by show 8 + (1 + 11) + _ ≤ _; omega)) (fun rz wz hz => c_Reader_readValue_44 w rz wz hz) (fun i4 w5 => ?_)
      exact sim_retiz hC (by decide +kernel) rfl
  · refine sim_blk0 hC [(.aload_n 0, 0, 0, 0, 0), (.getfield 12, 44, 0, 47, 0)] [(0, vR 44), (1, vI a1)] [vR 45] w 16 (by decide +kernel) rfl rfl ?_
    refine sim_vv hC 117 mX8_step 6 126 45 [] [] (by decide +kernel) ml_5_117 rfl rfl rfl rfl (ble_of (by omega)) (ble_of (by show 8 + (1 + 11) + _ ≤ _; omega)) (fun wz hz => c_Tokens_step_45 w wz hz) (fun w6 => ?_)
    refine sim_blk0 hC [(.aload_n 0, 0, 0, 0, 0), (.iload_n 1, 0, 0, 0, 0), (.iconst 1, 0, 0, 0, 1), (.iadd, 0, 0, 0, 0)] [(0, vR 44), (1, vI a1)] [vI (a1 + (1 : Int32)), vR 44] w6 23 (by decide +kernel) rfl rfl ?_
    refine sim_vd hC 141 mX5_readExpr (40 + 7 * d) (600 + 161 * d) 44 [vI (a1 + (1 : Int32))] [] (by decide +kernel) ml_5_141 rfl rfl rfl rfl (ble_of (by omega)) (ble_of (by show 8 + (4 + 11) + _ ≤ _; omega)) (fun rz wz hz => hrx w6 (a1 + (1 : Int32)) rz wz hz) (fun i7 w8 => ?_)
    refine sim_br hC (.ifCond .eq 16) 42 (by decide +kernel) rfl (by decide) ?_ ?_
    · refine sim_sub hC [] ?_
      exact s_K_Reader_readPart_44_42 hC hrx w8
    · refine sim_blk0 hC [(.aload_n 0, 0, 0, 0, 0), (.bipush 41, 0, 0, 0, 41)] [(0, vR 44), (1, vI a1)] [vI 41, vR 44] w8 32 (by decide +kernel) rfl rfl ?_
      refine sim_vd hC 114 mX5_readSign 7 146 44 [vI 41] [] (by decide +kernel) ml_5_114 rfl rfl rfl rfl (ble_of (by omega)) (ble_of (by show 8 + (2 + 11) + _ ≤ _; omega)) (fun rz wz hz => c_Reader_readSign_44 w8 41 rz wz hz) (fun i9 w10 => ?_)
      refine sim_br hC (.ifCond .eq 7) 42 (by decide +kernel) rfl (by decide) ?_ ?_
      · refine sim_sub hC [] ?_
        exact s_K_Reader_readPart_44_42 hC hrx w10
      · refine sim_blk0 hC [(.iconst 1, 0, 0, 0, 1)] [(0, vR 44), (1, vI a1)] [vI 1] w10 39 (by decide +kernel) rfl rfl ?_
        refine sim_goto hC 4 43 (by decide +kernel) (by decide) ?_
        refine sim_sub hC [] ?_
        exact s_K_Reader_readPart_44_43 hC hrx 1 w10
theorem c_Reader_readPart_44 {Z : ZT} {l : Launch} {rx : Wld → Int32 → Option (Int32 × Wld)} {d : Nat} (hrx : ∀ (w : Wld) (a : Int32) (r : Int32) (w1 : Wld), rx w a = some (r, w1) → Con Z l mX5_readExpr (40 + 7 * d) (600 + 161 * d) [vR 44, vI a] w (.inr (some r)) w1) (w : Wld) (a1 : Int32) (r : Int32) (w1 : Wld) (h : F_Reader_readPart_44 rx w a1 = some (r, w1)) : Con Z l mX5_readPart (40 + 7 * d + 1) (600 + 161 * d + 23) [vR 44, vI a1] w (.inr (some r)) w1 :=
  Con_of (oc := 5) (by decide +kernel) rfl rfl (fun Ok hC => s_Reader_readPart_44 hC hrx w a1 (r, w1) h ⟨rfl, rfl⟩)
def V_Reader_readProduct_44_8 (a1 : Int32) : (Int32 × Int32 × Wld) → Cfg := fun s => (8, [(0, vR 44), (1, vI a1), (2, vI s.1), (3, vI s.2.1)], [], s.2.2)
def E_Reader_readProduct_44_8 (a1 : Int32) : (Int32 × Wld) → Cfg := fun s => (95, [(2, vI s.1)], [], s.2)
noncomputable def K_Reader_readProduct_44_62 (rx : Wld → Int32 → Option (Int32 × Wld)) (a1 : Int32) (a3 : Int32) (t0 : Int32) (w : Wld) : Option ((Int32 × Int32 × Wld) ⊕ (Int32 × Wld)) :=
  bv (F_Tokens_step_45 w) (fun w3 => bd (F_Reader_readPart_44 rx w3 a1) (fun i4 w5 => bv (F_Rule_put_50 w5 t0) (fun w6 => bi (a3 + 1) (fun i7 => some (.inl ((i4, i7, w6)))))))
set_option maxRecDepth 10000 in
theorem s_K_Reader_readProduct_44_62 {Z : ZT} {l : Launch} {o : Oc} {wo : Wld} {Ok : Cfg → Prop} {rx : Wld → Int32 → Option (Int32 × Wld)} {d : Nat} (hC : Clo Z l 5 5 prog_7_method_19_code (some .boolean) (40 + 7 * d + 2) (600 + 161 * d + 44) o wo Ok) (hrx : ∀ (w : Wld) (a : Int32) (r : Int32) (w1 : Wld), rx w a = some (r, w1) → Con Z l mX5_readExpr (40 + 7 * d) (600 + 161 * d) [vR 44, vI a] w (.inr (some r)) w1) (a1 : Int32) (a3 : Int32) (t0 : Int32) (w : Wld) : SimK Ok (62, [(0, vR 44), (1, vI a1), (3, vI a3)], [vI t0], w) (K_Reader_readProduct_44_62 rx a1 a3 t0 w) (GLp Ok (V_Reader_readProduct_44_8 a1) (GEp Ok (E_Reader_readProduct_44_8 a1))) := by
  unfold K_Reader_readProduct_44_62
  refine sim_blk0 hC [(.istore 4, 0, 0, 0, 0), (.aload_n 0, 0, 0, 0, 0), (.getfield 12, 44, 0, 47, 0)] [(0, vR 44), (1, vI a1), (3, vI a3), (4, vI t0)] [vR 45] w 68 (by decide +kernel) rfl rfl ?_
  refine sim_vv hC 117 mX8_step 6 126 45 [] [] (by decide +kernel) ml_5_117 rfl rfl rfl rfl (ble_of (by omega)) (ble_of (by show 8 + (1 + 11) + _ ≤ _; omega)) (fun wz hz => c_Tokens_step_45 w wz hz) (fun w3 => ?_)
  refine sim_blk0 hC [(.aload_n 0, 0, 0, 0, 0), (.iload_n 1, 0, 0, 0, 0)] [(0, vR 44), (1, vI a1), (3, vI a3), (4, vI t0)] [vI a1, vR 44] w3 73 (by decide +kernel) rfl rfl ?_
  refine sim_vd hC 184 mX5_readPart (40 + 7 * d + 1) (600 + 161 * d + 23) 44 [vI a1] [] (by decide +kernel) ml_5_184 rfl rfl rfl rfl (ble_of (by omega)) (ble_of (by show 8 + (2 + 11) + _ ≤ _; omega)) (fun rz wz hz => c_Reader_readPart_44 hrx w3 a1 rz wz hz) (fun i4 w5 => ?_)
  refine sim_blk0 hC [(.istore_n 2, 0, 0, 0, 0), (.aload_n 0, 0, 0, 0, 0), (.getfield 41, 44, 7, 49, 0), (.getfield 156, 47, 6, 52, 0), (.iload 4, 0, 0, 0, 0)] [(0, vR 44), (1, vI a1), (2, vI i4), (3, vI a3), (4, vI t0)] [vI t0, vR 50] w5 86 (by decide +kernel) rfl rfl ?_
  refine sim_vv hC 162 mX6_put 1 0 50 [vI t0] [] (by decide +kernel) ml_5_162 rfl rfl rfl rfl (ble_of (by omega)) (ble_of (by show 8 + (2 + 11) + _ ≤ _; omega)) (fun wz hz => c_Rule_put_50 w5 t0 wz hz) (fun w6 => ?_)
  refine sim_blk0 hC [(.iinc 3 1, 0, 0, 0, 1)] [(0, vR 44), (1, vI a1), (2, vI i4), (3, vI (a3 + 1)), (4, vI t0)] [] w6 92 (by decide +kernel) rfl rfl ?_
  refine sim_bi (C := fun i7 => (92, [(0, vR 44), (1, vI a1), (2, vI i4), (3, vI i7), (4, vI t0)], [], w6)) (fun i7 => ?_)
  refine sim_goto hC (-84) 8 (by decide +kernel) (by decide) ?_
  refine sim_sub hC [0, 1, 2, 3] ?_
  exact sim_back (V := (V_Reader_readProduct_44_8 a1)) ((i4, i7, w6))
noncomputable def K_Reader_readProduct_44_43 (rx : Wld → Int32 → Option (Int32 × Wld)) (a1 : Int32) (a3 : Int32) (w : Wld) : Option ((Int32 × Int32 × Wld) ⊕ (Int32 × Wld)) :=
  br (¬ (w 45 7) = 42) (K_Reader_readProduct_44_62 rx a1 a3 (-18) w) (K_Reader_readProduct_44_62 rx a1 a3 (-17) w)
set_option maxRecDepth 10000 in
theorem s_K_Reader_readProduct_44_43 {Z : ZT} {l : Launch} {o : Oc} {wo : Wld} {Ok : Cfg → Prop} {rx : Wld → Int32 → Option (Int32 × Wld)} {d : Nat} (hC : Clo Z l 5 5 prog_7_method_19_code (some .boolean) (40 + 7 * d + 2) (600 + 161 * d + 44) o wo Ok) (hrx : ∀ (w : Wld) (a : Int32) (r : Int32) (w1 : Wld), rx w a = some (r, w1) → Con Z l mX5_readExpr (40 + 7 * d) (600 + 161 * d) [vR 44, vI a] w (.inr (some r)) w1) (a1 : Int32) (a3 : Int32) (w : Wld) : SimK Ok (43, [(0, vR 44), (1, vI a1), (3, vI a3)], [], w) (K_Reader_readProduct_44_43 rx a1 a3 w) (GLp Ok (V_Reader_readProduct_44_8 a1) (GEp Ok (E_Reader_readProduct_44_8 a1))) := by
  unfold K_Reader_readProduct_44_43
  refine sim_blk0 hC [(.aload_n 0, 0, 0, 0, 0), (.getfield 12, 44, 0, 47, 0), (.getfield 144, 45, 7, 0, 0), (.bipush 42, 0, 0, 0, 42)] [(0, vR 44), (1, vI a1), (3, vI a3)] [vI 42, vI (w 45 7)] w 52 (by decide +kernel) rfl rfl ?_
  refine sim_br hC (.if_icmp .ne 8) 60 (by decide +kernel) rfl (by decide) ?_ ?_
  · refine sim_blk0 hC [(.bipush (-18), 0, 0, 0, (-18))] [(0, vR 44), (1, vI a1), (3, vI a3)] [vI (-18)] w 62 (by decide +kernel) rfl rfl ?_
    exact s_K_Reader_readProduct_44_62 hC hrx a1 a3 (-18) w
  · refine sim_blk0 hC [(.bipush (-17), 0, 0, 0, (-17))] [(0, vR 44), (1, vI a1), (3, vI a3)] [vI (-17)] w 57 (by decide +kernel) rfl rfl ?_
    refine sim_goto hC 5 62 (by decide +kernel) (by decide) ?_
    exact s_K_Reader_readProduct_44_62 hC hrx a1 a3 (-17) w
noncomputable def B_Reader_readProduct_44_8 (rx : Wld → Int32 → Option (Int32 × Wld)) (a1 : Int32) (s : Int32 × Int32 × Wld) : Option ((Int32 × Int32 × Wld) ⊕ (Int32 × Wld)) :=
  br ((700 : Int32) ≤ s.2.1) (some (.inr ((s.1, s.2.2)))) (br (s.1 = 0) (some (.inr ((s.1, s.2.2)))) (br ((s.2.2 45 7) = 42) (K_Reader_readProduct_44_43 rx a1 s.2.1 s.2.2) (br (¬ (s.2.2 45 7) = 47) (some (.inr ((s.1, s.2.2)))) (K_Reader_readProduct_44_43 rx a1 s.2.1 s.2.2))))
set_option maxRecDepth 10000 in
theorem s_B_Reader_readProduct_44_8 {Z : ZT} {l : Launch} {o : Oc} {wo : Wld} {Ok : Cfg → Prop} {rx : Wld → Int32 → Option (Int32 × Wld)} {d : Nat} (hC : Clo Z l 5 5 prog_7_method_19_code (some .boolean) (40 + 7 * d + 2) (600 + 161 * d + 44) o wo Ok) (hrx : ∀ (w : Wld) (a : Int32) (r : Int32) (w1 : Wld), rx w a = some (r, w1) → Con Z l mX5_readExpr (40 + 7 * d) (600 + 161 * d) [vR 44, vI a] w (.inr (some r)) w1) (a1 : Int32) (s : Int32 × Int32 × Wld) : SimK Ok (V_Reader_readProduct_44_8 a1 s) (B_Reader_readProduct_44_8 rx a1 s) (GLp Ok (V_Reader_readProduct_44_8 a1) (GEp Ok (E_Reader_readProduct_44_8 a1))) := by
  unfold B_Reader_readProduct_44_8
  show SimK Ok (8, [(0, vR 44), (1, vI a1), (2, vI s.1), (3, vI s.2.1)], [], s.2.2) _ _
  refine sim_blk0 hC [(.iload_n 3, 0, 0, 0, 0), (.sipush 700, 0, 0, 0, 700)] [(0, vR 44), (1, vI a1), (2, vI s.1), (3, vI s.2.1)] [vI 700, vI s.2.1] s.2.2 12 (by decide +kernel) rfl rfl ?_
  refine sim_br hC (.if_icmp .ge 83) 95 (by decide +kernel) rfl (by decide) ?_ ?_
  · refine sim_sub hC [2] ?_
    exact sim_exit (E := (E_Reader_readProduct_44_8 a1)) ((s.1, s.2.2))
  · refine sim_blk0 hC [(.iload_n 2, 0, 0, 0, 0)] [(0, vR 44), (1, vI a1), (2, vI s.1), (3, vI s.2.1)] [vI s.1] s.2.2 16 (by decide +kernel) rfl rfl ?_
    refine sim_br hC (.ifCond .eq 79) 95 (by decide +kernel) rfl (by decide) ?_ ?_
    · refine sim_sub hC [2] ?_
      exact sim_exit (E := (E_Reader_readProduct_44_8 a1)) ((s.1, s.2.2))
    · refine sim_blk0 hC [(.aload_n 0, 0, 0, 0, 0), (.getfield 12, 44, 0, 47, 0), (.getfield 144, 45, 7, 0, 0), (.bipush 42, 0, 0, 0, 42)] [(0, vR 44), (1, vI a1), (2, vI s.1), (3, vI s.2.1)] [vI 42, vI (s.2.2 45 7)] s.2.2 28 (by decide +kernel) rfl rfl ?_
      refine sim_br hC (.if_icmp .eq 15) 43 (by decide +kernel) rfl (by decide) ?_ ?_
      · refine sim_sub hC [0, 1, 3] ?_
        exact s_K_Reader_readProduct_44_43 hC hrx a1 s.2.1 s.2.2
      · refine sim_blk0 hC [(.aload_n 0, 0, 0, 0, 0), (.getfield 12, 44, 0, 47, 0), (.getfield 144, 45, 7, 0, 0), (.bipush 47, 0, 0, 0, 47)] [(0, vR 44), (1, vI a1), (2, vI s.1), (3, vI s.2.1)] [vI 47, vI (s.2.2 45 7)] s.2.2 40 (by decide +kernel) rfl rfl ?_
        refine sim_br hC (.if_icmp .ne 55) 95 (by decide +kernel) rfl (by decide) ?_ ?_
        · refine sim_sub hC [2] ?_
          exact sim_exit (E := (E_Reader_readProduct_44_8 a1)) ((s.1, s.2.2))
        · refine sim_sub hC [0, 1, 3] ?_
          exact s_K_Reader_readProduct_44_43 hC hrx a1 s.2.1 s.2.2
noncomputable def F_Reader_readProduct_44 (rx : Wld → Int32 → Option (Int32 × Wld)) (w : Wld) (a1 : Int32) : Option (Int32 × Wld) :=
  bd (F_Reader_readPart_44 rx w a1) (fun i1 w2 => bl (loop (B_Reader_readProduct_44_8 rx a1) ((i1, 0, w2))) (fun r8 => gd (r8.1 = 0 ∨ r8.1 = 1) (some ((r8.1, r8.2)))))
set_option maxRecDepth 10000 in
theorem s_Reader_readProduct_44 {Z : ZT} {l : Launch} {o : Oc} {wo : Wld} {Ok : Cfg → Prop} {rx : Wld → Int32 → Option (Int32 × Wld)} {d : Nat} (hC : Clo Z l 5 5 prog_7_method_19_code (some .boolean) (40 + 7 * d + 2) (600 + 161 * d + 44) o wo Ok) (hrx : ∀ (w : Wld) (a : Int32) (r : Int32) (w1 : Wld), rx w a = some (r, w1) → Con Z l mX5_readExpr (40 + 7 * d) (600 + 161 * d) [vR 44, vI a] w (.inr (some r)) w1) (w : Wld) (a1 : Int32) : SimK Ok (0, [(0, vR 44), (1, vI a1)], [], w) (F_Reader_readProduct_44 rx w a1) (Gi o wo) := by
  unfold F_Reader_readProduct_44
  refine sim_blk0 hC [(.aload_n 0, 0, 0, 0, 0), (.iload_n 1, 0, 0, 0, 0)] [(0, vR 44), (1, vI a1)] [vI a1, vR 44] w 2 (by decide +kernel) rfl rfl ?_
  refine sim_vd hC 184 mX5_readPart (40 + 7 * d + 1) (600 + 161 * d + 23) 44 [vI a1] [] (by decide +kernel) ml_5_184 rfl rfl rfl rfl (ble_of (by omega)) (ble_of (by show 8 + (2 + 11) + _ ≤ _; omega)) (fun rz wz hz => c_Reader_readPart_44 hrx w a1 rz wz hz) (fun i1 w2 => ?_)
  refine sim_blk0 hC [(.istore_n 2, 0, 0, 0, 0), (.iconst 0, 0, 0, 0, 0), (.istore_n 3, 0, 0, 0, 0)] [(0, vR 44), (1, vI a1), (2, vI i1), (3, vI 0)] [] w2 8 (by decide +kernel) rfl rfl ?_
  refine sim_bl (E := (E_Reader_readProduct_44_8 a1)) ?_ (fun r8 => ?_)
  · exact sim_loop (V := (V_Reader_readProduct_44_8 a1)) (fun sz => s_B_Reader_readProduct_44_8 hC hrx a1 sz) ((i1, 0, w2))
  · show SimK Ok (95, [(2, vI r8.1)], [], r8.2) _ _
    refine sim_blk0 hC [(.iload_n 2, 0, 0, 0, 0)] [(2, vI r8.1)] [vI r8.1] r8.2 96 (by decide +kernel) rfl rfl ?_
    exact sim_retiz hC (by decide +kernel) rfl
theorem c_Reader_readProduct_44 {Z : ZT} {l : Launch} {rx : Wld → Int32 → Option (Int32 × Wld)} {d : Nat} (hrx : ∀ (w : Wld) (a : Int32) (r : Int32) (w1 : Wld), rx w a = some (r, w1) → Con Z l mX5_readExpr (40 + 7 * d) (600 + 161 * d) [vR 44, vI a] w (.inr (some r)) w1) (w : Wld) (a1 : Int32) (r : Int32) (w1 : Wld) (h : F_Reader_readProduct_44 rx w a1 = some (r, w1)) : Con Z l mX5_readProduct (40 + 7 * d + 2) (600 + 161 * d + 44) [vR 44, vI a1] w (.inr (some r)) w1 :=
  Con_of (oc := 5) (by decide +kernel) rfl rfl (fun Ok hC => s_Reader_readProduct_44 hC hrx w a1 (r, w1) h ⟨rfl, rfl⟩)
def V_Reader_readSum_44_8 (a1 : Int32) : (Int32 × Int32 × Wld) → Cfg := fun s => (8, [(0, vR 44), (1, vI a1), (2, vI s.1), (3, vI s.2.1)], [], s.2.2)
def E_Reader_readSum_44_8 (a1 : Int32) : (Int32 × Wld) → Cfg := fun s => (95, [(2, vI s.1)], [], s.2)
noncomputable def K_Reader_readSum_44_62 (rx : Wld → Int32 → Option (Int32 × Wld)) (a1 : Int32) (a3 : Int32) (t0 : Int32) (w : Wld) : Option ((Int32 × Int32 × Wld) ⊕ (Int32 × Wld)) :=
  bv (F_Tokens_step_45 w) (fun w3 => bd (F_Reader_readProduct_44 rx w3 a1) (fun i4 w5 => bv (F_Rule_put_50 w5 t0) (fun w6 => bi (a3 + 1) (fun i7 => some (.inl ((i4, i7, w6)))))))
set_option maxRecDepth 10000 in
theorem s_K_Reader_readSum_44_62 {Z : ZT} {l : Launch} {o : Oc} {wo : Wld} {Ok : Cfg → Prop} {rx : Wld → Int32 → Option (Int32 × Wld)} {d : Nat} (hC : Clo Z l 5 5 prog_7_method_18_code (some .boolean) (40 + 7 * d + 3) (600 + 161 * d + 68) o wo Ok) (hrx : ∀ (w : Wld) (a : Int32) (r : Int32) (w1 : Wld), rx w a = some (r, w1) → Con Z l mX5_readExpr (40 + 7 * d) (600 + 161 * d) [vR 44, vI a] w (.inr (some r)) w1) (a1 : Int32) (a3 : Int32) (t0 : Int32) (w : Wld) : SimK Ok (62, [(0, vR 44), (1, vI a1), (3, vI a3)], [vI t0], w) (K_Reader_readSum_44_62 rx a1 a3 t0 w) (GLp Ok (V_Reader_readSum_44_8 a1) (GEp Ok (E_Reader_readSum_44_8 a1))) := by
  unfold K_Reader_readSum_44_62
  refine sim_blk0 hC [(.istore 4, 0, 0, 0, 0), (.aload_n 0, 0, 0, 0, 0), (.getfield 12, 44, 0, 47, 0)] [(0, vR 44), (1, vI a1), (3, vI a3), (4, vI t0)] [vR 45] w 68 (by decide +kernel) rfl rfl ?_
  refine sim_vv hC 117 mX8_step 6 126 45 [] [] (by decide +kernel) ml_5_117 rfl rfl rfl rfl (ble_of (by omega)) (ble_of (by show 8 + (1 + 11) + _ ≤ _; omega)) (fun wz hz => c_Tokens_step_45 w wz hz) (fun w3 => ?_)
  refine sim_blk0 hC [(.aload_n 0, 0, 0, 0, 0), (.iload_n 1, 0, 0, 0, 0)] [(0, vR 44), (1, vI a1), (3, vI a3), (4, vI t0)] [vI a1, vR 44] w3 73 (by decide +kernel) rfl rfl ?_
  refine sim_vd hC 181 mX5_readProduct (40 + 7 * d + 2) (600 + 161 * d + 44) 44 [vI a1] [] (by decide +kernel) ml_5_181 rfl rfl rfl rfl (ble_of (by omega)) (ble_of (by show 8 + (5 + 11) + _ ≤ _; omega)) (fun rz wz hz => c_Reader_readProduct_44 hrx w3 a1 rz wz hz) (fun i4 w5 => ?_)
  refine sim_blk0 hC [(.istore_n 2, 0, 0, 0, 0), (.aload_n 0, 0, 0, 0, 0), (.getfield 41, 44, 7, 49, 0), (.getfield 156, 47, 6, 52, 0), (.iload 4, 0, 0, 0, 0)] [(0, vR 44), (1, vI a1), (2, vI i4), (3, vI a3), (4, vI t0)] [vI t0, vR 50] w5 86 (by decide +kernel) rfl rfl ?_
  refine sim_vv hC 162 mX6_put 1 0 50 [vI t0] [] (by decide +kernel) ml_5_162 rfl rfl rfl rfl (ble_of (by omega)) (ble_of (by show 8 + (2 + 11) + _ ≤ _; omega)) (fun wz hz => c_Rule_put_50 w5 t0 wz hz) (fun w6 => ?_)
  refine sim_blk0 hC [(.iinc 3 1, 0, 0, 0, 1)] [(0, vR 44), (1, vI a1), (2, vI i4), (3, vI (a3 + 1)), (4, vI t0)] [] w6 92 (by decide +kernel) rfl rfl ?_
  refine sim_bi (C := fun i7 => (92, [(0, vR 44), (1, vI a1), (2, vI i4), (3, vI i7), (4, vI t0)], [], w6)) (fun i7 => ?_)
  refine sim_goto hC (-84) 8 (by decide +kernel) (by decide) ?_
  refine sim_sub hC [0, 1, 2, 3] ?_
  exact sim_back (V := (V_Reader_readSum_44_8 a1)) ((i4, i7, w6))
noncomputable def K_Reader_readSum_44_43 (rx : Wld → Int32 → Option (Int32 × Wld)) (a1 : Int32) (a3 : Int32) (w : Wld) : Option ((Int32 × Int32 × Wld) ⊕ (Int32 × Wld)) :=
  br (¬ (w 45 7) = 43) (K_Reader_readSum_44_62 rx a1 a3 (-16) w) (K_Reader_readSum_44_62 rx a1 a3 (-15) w)
set_option maxRecDepth 10000 in
theorem s_K_Reader_readSum_44_43 {Z : ZT} {l : Launch} {o : Oc} {wo : Wld} {Ok : Cfg → Prop} {rx : Wld → Int32 → Option (Int32 × Wld)} {d : Nat} (hC : Clo Z l 5 5 prog_7_method_18_code (some .boolean) (40 + 7 * d + 3) (600 + 161 * d + 68) o wo Ok) (hrx : ∀ (w : Wld) (a : Int32) (r : Int32) (w1 : Wld), rx w a = some (r, w1) → Con Z l mX5_readExpr (40 + 7 * d) (600 + 161 * d) [vR 44, vI a] w (.inr (some r)) w1) (a1 : Int32) (a3 : Int32) (w : Wld) : SimK Ok (43, [(0, vR 44), (1, vI a1), (3, vI a3)], [], w) (K_Reader_readSum_44_43 rx a1 a3 w) (GLp Ok (V_Reader_readSum_44_8 a1) (GEp Ok (E_Reader_readSum_44_8 a1))) := by
  unfold K_Reader_readSum_44_43
  refine sim_blk0 hC [(.aload_n 0, 0, 0, 0, 0), (.getfield 12, 44, 0, 47, 0), (.getfield 144, 45, 7, 0, 0), (.bipush 43, 0, 0, 0, 43)] [(0, vR 44), (1, vI a1), (3, vI a3)] [vI 43, vI (w 45 7)] w 52 (by decide +kernel) rfl rfl ?_
  refine sim_br hC (.if_icmp .ne 8) 60 (by decide +kernel) rfl (by decide) ?_ ?_
  · refine sim_blk0 hC [(.bipush (-16), 0, 0, 0, (-16))] [(0, vR 44), (1, vI a1), (3, vI a3)] [vI (-16)] w 62 (by decide +kernel) rfl rfl ?_
    exact s_K_Reader_readSum_44_62 hC hrx a1 a3 (-16) w
  · refine sim_blk0 hC [(.bipush (-15), 0, 0, 0, (-15))] [(0, vR 44), (1, vI a1), (3, vI a3)] [vI (-15)] w 57 (by decide +kernel) rfl rfl ?_
    refine sim_goto hC 5 62 (by decide +kernel) (by decide) ?_
    exact s_K_Reader_readSum_44_62 hC hrx a1 a3 (-15) w
noncomputable def B_Reader_readSum_44_8 (rx : Wld → Int32 → Option (Int32 × Wld)) (a1 : Int32) (s : Int32 × Int32 × Wld) : Option ((Int32 × Int32 × Wld) ⊕ (Int32 × Wld)) :=
  br ((700 : Int32) ≤ s.2.1) (some (.inr ((s.1, s.2.2)))) (br (s.1 = 0) (some (.inr ((s.1, s.2.2)))) (br ((s.2.2 45 7) = 43) (K_Reader_readSum_44_43 rx a1 s.2.1 s.2.2) (br (¬ (s.2.2 45 7) = 45) (some (.inr ((s.1, s.2.2)))) (K_Reader_readSum_44_43 rx a1 s.2.1 s.2.2))))
set_option maxRecDepth 10000 in
theorem s_B_Reader_readSum_44_8 {Z : ZT} {l : Launch} {o : Oc} {wo : Wld} {Ok : Cfg → Prop} {rx : Wld → Int32 → Option (Int32 × Wld)} {d : Nat} (hC : Clo Z l 5 5 prog_7_method_18_code (some .boolean) (40 + 7 * d + 3) (600 + 161 * d + 68) o wo Ok) (hrx : ∀ (w : Wld) (a : Int32) (r : Int32) (w1 : Wld), rx w a = some (r, w1) → Con Z l mX5_readExpr (40 + 7 * d) (600 + 161 * d) [vR 44, vI a] w (.inr (some r)) w1) (a1 : Int32) (s : Int32 × Int32 × Wld) : SimK Ok (V_Reader_readSum_44_8 a1 s) (B_Reader_readSum_44_8 rx a1 s) (GLp Ok (V_Reader_readSum_44_8 a1) (GEp Ok (E_Reader_readSum_44_8 a1))) := by
  unfold B_Reader_readSum_44_8
  show SimK Ok (8, [(0, vR 44), (1, vI a1), (2, vI s.1), (3, vI s.2.1)], [], s.2.2) _ _
  refine sim_blk0 hC [(.iload_n 3, 0, 0, 0, 0), (.sipush 700, 0, 0, 0, 700)] [(0, vR 44), (1, vI a1), (2, vI s.1), (3, vI s.2.1)] [vI 700, vI s.2.1] s.2.2 12 (by decide +kernel) rfl rfl ?_
  refine sim_br hC (.if_icmp .ge 83) 95 (by decide +kernel) rfl (by decide) ?_ ?_
  · refine sim_sub hC [2] ?_
    exact sim_exit (E := (E_Reader_readSum_44_8 a1)) ((s.1, s.2.2))
  · refine sim_blk0 hC [(.iload_n 2, 0, 0, 0, 0)] [(0, vR 44), (1, vI a1), (2, vI s.1), (3, vI s.2.1)] [vI s.1] s.2.2 16 (by decide +kernel) rfl rfl ?_
    refine sim_br hC (.ifCond .eq 79) 95 (by decide +kernel) rfl (by decide) ?_ ?_
    · refine sim_sub hC [2] ?_
      exact sim_exit (E := (E_Reader_readSum_44_8 a1)) ((s.1, s.2.2))
    · refine sim_blk0 hC [(.aload_n 0, 0, 0, 0, 0), (.getfield 12, 44, 0, 47, 0), (.getfield 144, 45, 7, 0, 0), (.bipush 43, 0, 0, 0, 43)] [(0, vR 44), (1, vI a1), (2, vI s.1), (3, vI s.2.1)] [vI 43, vI (s.2.2 45 7)] s.2.2 28 (by decide +kernel) rfl rfl ?_
      refine sim_br hC (.if_icmp .eq 15) 43 (by decide +kernel) rfl (by decide) ?_ ?_
      · refine sim_sub hC [0, 1, 3] ?_
        exact s_K_Reader_readSum_44_43 hC hrx a1 s.2.1 s.2.2
      · refine sim_blk0 hC [(.aload_n 0, 0, 0, 0, 0), (.getfield 12, 44, 0, 47, 0), (.getfield 144, 45, 7, 0, 0), (.bipush 45, 0, 0, 0, 45)] [(0, vR 44), (1, vI a1), (2, vI s.1), (3, vI s.2.1)] [vI 45, vI (s.2.2 45 7)] s.2.2 40 (by decide +kernel) rfl rfl ?_
        refine sim_br hC (.if_icmp .ne 55) 95 (by decide +kernel) rfl (by decide) ?_ ?_
        · refine sim_sub hC [2] ?_
          exact sim_exit (E := (E_Reader_readSum_44_8 a1)) ((s.1, s.2.2))
        · refine sim_sub hC [0, 1, 3] ?_
          exact s_K_Reader_readSum_44_43 hC hrx a1 s.2.1 s.2.2
noncomputable def F_Reader_readSum_44 (rx : Wld → Int32 → Option (Int32 × Wld)) (w : Wld) (a1 : Int32) : Option (Int32 × Wld) :=
  bd (F_Reader_readProduct_44 rx w a1) (fun i1 w2 => bl (loop (B_Reader_readSum_44_8 rx a1) ((i1, 0, w2))) (fun r8 => gd (r8.1 = 0 ∨ r8.1 = 1) (some ((r8.1, r8.2)))))
set_option maxRecDepth 10000 in
theorem s_Reader_readSum_44 {Z : ZT} {l : Launch} {o : Oc} {wo : Wld} {Ok : Cfg → Prop} {rx : Wld → Int32 → Option (Int32 × Wld)} {d : Nat} (hC : Clo Z l 5 5 prog_7_method_18_code (some .boolean) (40 + 7 * d + 3) (600 + 161 * d + 68) o wo Ok) (hrx : ∀ (w : Wld) (a : Int32) (r : Int32) (w1 : Wld), rx w a = some (r, w1) → Con Z l mX5_readExpr (40 + 7 * d) (600 + 161 * d) [vR 44, vI a] w (.inr (some r)) w1) (w : Wld) (a1 : Int32) : SimK Ok (0, [(0, vR 44), (1, vI a1)], [], w) (F_Reader_readSum_44 rx w a1) (Gi o wo) := by
  unfold F_Reader_readSum_44
  refine sim_blk0 hC [(.aload_n 0, 0, 0, 0, 0), (.iload_n 1, 0, 0, 0, 0)] [(0, vR 44), (1, vI a1)] [vI a1, vR 44] w 2 (by decide +kernel) rfl rfl ?_
  refine sim_vd hC 181 mX5_readProduct (40 + 7 * d + 2) (600 + 161 * d + 44) 44 [vI a1] [] (by decide +kernel) ml_5_181 rfl rfl rfl rfl (ble_of (by omega)) (ble_of (by show 8 + (5 + 11) + _ ≤ _; omega)) (fun rz wz hz => c_Reader_readProduct_44 hrx w a1 rz wz hz) (fun i1 w2 => ?_)
  refine sim_blk0 hC [(.istore_n 2, 0, 0, 0, 0), (.iconst 0, 0, 0, 0, 0), (.istore_n 3, 0, 0, 0, 0)] [(0, vR 44), (1, vI a1), (2, vI i1), (3, vI 0)] [] w2 8 (by decide +kernel) rfl rfl ?_
  refine sim_bl (E := (E_Reader_readSum_44_8 a1)) ?_ (fun r8 => ?_)
  · exact sim_loop (V := (V_Reader_readSum_44_8 a1)) (fun sz => s_B_Reader_readSum_44_8 hC hrx a1 sz) ((i1, 0, w2))
  · show SimK Ok (95, [(2, vI r8.1)], [], r8.2) _ _
    refine sim_blk0 hC [(.iload_n 2, 0, 0, 0, 0)] [(2, vI r8.1)] [vI r8.1] r8.2 96 (by decide +kernel) rfl rfl ?_
    exact sim_retiz hC (by decide +kernel) rfl
theorem c_Reader_readSum_44 {Z : ZT} {l : Launch} {rx : Wld → Int32 → Option (Int32 × Wld)} {d : Nat} (hrx : ∀ (w : Wld) (a : Int32) (r : Int32) (w1 : Wld), rx w a = some (r, w1) → Con Z l mX5_readExpr (40 + 7 * d) (600 + 161 * d) [vR 44, vI a] w (.inr (some r)) w1) (w : Wld) (a1 : Int32) (r : Int32) (w1 : Wld) (h : F_Reader_readSum_44 rx w a1 = some (r, w1)) : Con Z l mX5_readSum (40 + 7 * d + 3) (600 + 161 * d + 68) [vR 44, vI a1] w (.inr (some r)) w1 :=
  Con_of (oc := 5) (by decide +kernel) rfl rfl (fun Ok hC => s_Reader_readSum_44 hC hrx w a1 (r, w1) h ⟨rfl, rfl⟩)
noncomputable def K_Reader_readTest_44_65 (rx : Wld → Int32 → Option (Int32 × Wld)) (a3 : Int32) (t1 : Int32) (w : Wld) : Option (Int32 × Wld) :=
  bv (F_Rule_put_50 w t1) (fun w7 => gd (a3 = 0 ∨ a3 = 1) (some ((a3, w7))))
set_option maxRecDepth 10000 in
theorem s_K_Reader_readTest_44_65 {Z : ZT} {l : Launch} {o : Oc} {wo : Wld} {Ok : Cfg → Prop} {rx : Wld → Int32 → Option (Int32 × Wld)} {d : Nat} (hC : Clo Z l 5 4 prog_7_method_17_code (some .boolean) (40 + 7 * d + 4) (600 + 161 * d + 92) o wo Ok) (hrx : ∀ (w : Wld) (a : Int32) (r : Int32) (w1 : Wld), rx w a = some (r, w1) → Con Z l mX5_readExpr (40 + 7 * d) (600 + 161 * d) [vR 44, vI a] w (.inr (some r)) w1) (a3 : Int32) (t1 : Int32) (w : Wld) : SimK Ok (65, [(3, vI a3)], [vI t1, vR 50], w) (K_Reader_readTest_44_65 rx a3 t1 w) (Gi o wo) := by
  unfold K_Reader_readTest_44_65
  refine sim_vv hC 162 mX6_put 1 0 50 [vI t1] [] (by decide +kernel) ml_5_162 rfl rfl rfl rfl (ble_of (by omega)) (ble_of (by show 8 + (2 + 11) + _ ≤ _; omega)) (fun wz hz => c_Rule_put_50 w t1 wz hz) (fun w7 => ?_)
  refine sim_blk0 hC [(.iload_n 3, 0, 0, 0, 0)] [(3, vI a3)] [vI a3] w7 69 (by decide +kernel) rfl rfl ?_
  exact sim_retiz hC (by decide +kernel) rfl
noncomputable def K_Reader_readTest_44_32 (rx : Wld → Int32 → Option (Int32 × Wld)) (a1 : Int32) (a2 : Int32) (w : Wld) : Option (Int32 × Wld) :=
  bv (F_Tokens_step_45 w) (fun w4 => bd (F_Reader_readSum_44 rx w4 a1) (fun i5 w6 => br (¬ a2 = 60) (K_Reader_readTest_44_65 rx i5 (-14) w6) (K_Reader_readTest_44_65 rx i5 (-13) w6)))
set_option maxRecDepth 10000 in
theorem s_K_Reader_readTest_44_32 {Z : ZT} {l : Launch} {o : Oc} {wo : Wld} {Ok : Cfg → Prop} {rx : Wld → Int32 → Option (Int32 × Wld)} {d : Nat} (hC : Clo Z l 5 4 prog_7_method_17_code (some .boolean) (40 + 7 * d + 4) (600 + 161 * d + 92) o wo Ok) (hrx : ∀ (w : Wld) (a : Int32) (r : Int32) (w1 : Wld), rx w a = some (r, w1) → Con Z l mX5_readExpr (40 + 7 * d) (600 + 161 * d) [vR 44, vI a] w (.inr (some r)) w1) (a1 : Int32) (a2 : Int32) (w : Wld) : SimK Ok (32, [(0, vR 44), (1, vI a1), (2, vI a2)], [], w) (K_Reader_readTest_44_32 rx a1 a2 w) (Gi o wo) := by
  unfold K_Reader_readTest_44_32
  refine sim_blk0 hC [(.aload_n 0, 0, 0, 0, 0), (.getfield 12, 44, 0, 47, 0)] [(0, vR 44), (1, vI a1), (2, vI a2)] [vR 45] w 36 (by decide +kernel) rfl rfl ?_
  refine sim_vv hC 117 mX8_step 6 126 45 [] [] (by decide +kernel) ml_5_117 rfl rfl rfl rfl (ble_of (by omega)) (ble_of (by show 8 + (1 + 11) + _ ≤ _; omega)) (fun wz hz => c_Tokens_step_45 w wz hz) (fun w4 => ?_)
  refine sim_blk0 hC [(.aload_n 0, 0, 0, 0, 0), (.iload_n 1, 0, 0, 0, 0)] [(0, vR 44), (1, vI a1), (2, vI a2)] [vI a1, vR 44] w4 41 (by decide +kernel) rfl rfl ?_
  refine sim_vd hC 178 mX5_readSum (40 + 7 * d + 3) (600 + 161 * d + 68) 44 [vI a1] [] (by decide +kernel) ml_5_178 rfl rfl rfl rfl (ble_of (by omega)) (ble_of (by show 8 + (5 + 11) + _ ≤ _; omega)) (fun rz wz hz => c_Reader_readSum_44 hrx w4 a1 rz wz hz) (fun i5 w6 => ?_)
  refine sim_blk0 hC [(.istore_n 3, 0, 0, 0, 0), (.aload_n 0, 0, 0, 0, 0), (.getfield 41, 44, 7, 49, 0), (.getfield 156, 47, 6, 52, 0), (.iload_n 2, 0, 0, 0, 0), (.bipush 60, 0, 0, 0, 60)] [(0, vR 44), (1, vI a1), (2, vI a2), (3, vI i5)] [vI 60, vI a2, vR 50] w6 55 (by decide +kernel) rfl rfl ?_
  refine sim_br hC (.if_icmp .ne 8) 63 (by decide +kernel) rfl (by decide) ?_ ?_
  · refine sim_blk0 hC [(.bipush (-14), 0, 0, 0, (-14))] [(0, vR 44), (1, vI a1), (2, vI a2), (3, vI i5)] [vI (-14), vR 50] w6 65 (by decide +kernel) rfl rfl ?_
    refine sim_sub hC [3] ?_
    exact s_K_Reader_readTest_44_65 hC hrx i5 (-14) w6
  · refine sim_blk0 hC [(.bipush (-13), 0, 0, 0, (-13))] [(0, vR 44), (1, vI a1), (2, vI a2), (3, vI i5)] [vI (-13), vR 50] w6 60 (by decide +kernel) rfl rfl ?_
    refine sim_goto hC 5 65 (by decide +kernel) (by decide) ?_
    refine sim_sub hC [3] ?_
    exact s_K_Reader_readTest_44_65 hC hrx i5 (-13) w6
noncomputable def F_Reader_readTest_44 (rx : Wld → Int32 → Option (Int32 × Wld)) (w : Wld) (a1 : Int32) : Option (Int32 × Wld) :=
  bd (F_Reader_readSum_44 rx w a1) (fun i1 w2 => br (¬ i1 = 0) (bi (w2 45 7) (fun i3 => br (i3 = 60) (K_Reader_readTest_44_32 rx a1 i3 w2) (br (i3 = 61) (K_Reader_readTest_44_32 rx a1 i3 w2) (some ((1, w2)))))) (some ((0, w2))))
set_option maxRecDepth 10000 in
theorem s_Reader_readTest_44 {Z : ZT} {l : Launch} {o : Oc} {wo : Wld} {Ok : Cfg → Prop} {rx : Wld → Int32 → Option (Int32 × Wld)} {d : Nat} (hC : Clo Z l 5 4 prog_7_method_17_code (some .boolean) (40 + 7 * d + 4) (600 + 161 * d + 92) o wo Ok) (hrx : ∀ (w : Wld) (a : Int32) (r : Int32) (w1 : Wld), rx w a = some (r, w1) → Con Z l mX5_readExpr (40 + 7 * d) (600 + 161 * d) [vR 44, vI a] w (.inr (some r)) w1) (w : Wld) (a1 : Int32) : SimK Ok (0, [(0, vR 44), (1, vI a1)], [], w) (F_Reader_readTest_44 rx w a1) (Gi o wo) := by
  unfold F_Reader_readTest_44
  refine sim_blk0 hC [(.aload_n 0, 0, 0, 0, 0), (.iload_n 1, 0, 0, 0, 0)] [(0, vR 44), (1, vI a1)] [vI a1, vR 44] w 2 (by decide +kernel) rfl rfl ?_
  refine sim_vd hC 178 mX5_readSum (40 + 7 * d + 3) (600 + 161 * d + 68) 44 [vI a1] [] (by decide +kernel) ml_5_178 rfl rfl rfl rfl (ble_of (by omega)) (ble_of (by show 8 + (5 + 11) + _ ≤ _; omega)) (fun rz wz hz => c_Reader_readSum_44 hrx w a1 rz wz hz) (fun i1 w2 => ?_)
  refine sim_br hC (.ifCond .ne 5) 10 (by decide +kernel) rfl (by decide) ?_ ?_
  · refine sim_blk0 hC [(.aload_n 0, 0, 0, 0, 0), (.getfield 12, 44, 0, 47, 0), (.getfield 144, 45, 7, 0, 0), (.istore_n 2, 0, 0, 0, 0)] [(0, vR 44), (1, vI a1), (2, vI (w2 45 7))] [] w2 18 (by decide +kernel) rfl rfl ?_
    refine sim_bi (C := fun i3 => (18, [(0, vR 44), (1, vI a1), (2, vI i3)], [], w2)) (fun i3 => ?_)
    refine sim_blk0 hC [(.iload_n 2, 0, 0, 0, 0), (.bipush 60, 0, 0, 0, 60)] [(0, vR 44), (1, vI a1), (2, vI i3)] [vI 60, vI i3] w2 21 (by decide +kernel) rfl rfl ?_
    refine sim_br hC (.if_icmp .eq 11) 32 (by decide +kernel) rfl (by decide) ?_ ?_
    · exact s_K_Reader_readTest_44_32 hC hrx a1 i3 w2
    · refine sim_blk0 hC [(.iload_n 2, 0, 0, 0, 0), (.bipush 61, 0, 0, 0, 61)] [(0, vR 44), (1, vI a1), (2, vI i3)] [vI 61, vI i3] w2 27 (by decide +kernel) rfl rfl ?_
      refine sim_br hC (.if_icmp .eq 5) 32 (by decide +kernel) rfl (by decide) ?_ ?_
      · exact s_K_Reader_readTest_44_32 hC hrx a1 i3 w2
      · refine sim_blk0 hC [(.iconst 1, 0, 0, 0, 1)] [(0, vR 44), (1, vI a1), (2, vI i3)] [vI 1] w2 31 (by decide +kernel) rfl rfl ?_
        exact sim_reti hC (by decide +kernel) (Or.inr rfl)
  · refine sim_blk0 hC [(.iconst 0, 0, 0, 0, 0)] [(0, vR 44), (1, vI a1)] [vI 0] w2 9 (by decide +kernel) rfl rfl ?_
    exact sim_reti hC (by decide +kernel) (Or.inl rfl)
theorem c_Reader_readTest_44 {Z : ZT} {l : Launch} {rx : Wld → Int32 → Option (Int32 × Wld)} {d : Nat} (hrx : ∀ (w : Wld) (a : Int32) (r : Int32) (w1 : Wld), rx w a = some (r, w1) → Con Z l mX5_readExpr (40 + 7 * d) (600 + 161 * d) [vR 44, vI a] w (.inr (some r)) w1) (w : Wld) (a1 : Int32) (r : Int32) (w1 : Wld) (h : F_Reader_readTest_44 rx w a1 = some (r, w1)) : Con Z l mX5_readTest (40 + 7 * d + 4) (600 + 161 * d + 92) [vR 44, vI a1] w (.inr (some r)) w1 :=
  Con_of (oc := 5) (by decide +kernel) rfl rfl (fun Ok hC => s_Reader_readTest_44 hC hrx w a1 (r, w1) h ⟨rfl, rfl⟩)
def V_Reader_readNot_44_2 (a1 : Int32) : (Int32 × Wld) → Cfg := fun s => (2, [(0, vR 44), (1, vI a1), (2, vI s.1)], [], s.2)
def E_Reader_readNot_44_2 (a1 : Int32) : (Int32 × Wld) → Cfg := fun s => (34, [(0, vR 44), (1, vI a1), (2, vI s.1)], [], s.2)
noncomputable def B_Reader_readNot_44_2 (rx : Wld → Int32 → Option (Int32 × Wld)) (a1 : Int32) (s : Int32 × Wld) : Option ((Int32 × Wld) ⊕ (Int32 × Wld)) :=
  br ((6 : Int32) ≤ s.1) (some (.inr ((s.1, s.2)))) (gd (Int32.toNatClampNeg (s.2 45 5) < 19) (gd (Int32.toNatClampNeg (11 : Int32) < 19) (br (¬ Int32.toNatClampNeg (s.2 45 5) = Int32.toNatClampNeg (11 : Int32)) (some (.inr ((s.1, s.2)))) (bi (s.1 + 1) (fun i1 => bv (F_Tokens_step_45 s.2) (fun w2 => some (.inl ((i1, w2)))))))))
set_option maxRecDepth 10000 in
theorem s_B_Reader_readNot_44_2 {Z : ZT} {l : Launch} {o : Oc} {wo : Wld} {Ok : Cfg → Prop} {rx : Wld → Int32 → Option (Int32 × Wld)} {d : Nat} (hD : Clo3 Z l 5 4 prog_7_method_16_code (some .boolean) (40 + 7 * d + 5) (600 + 161 * d + 115) o wo Ok) (hrx : ∀ (w : Wld) (a : Int32) (r : Int32) (w1 : Wld), rx w a = some (r, w1) → Con Z l mX5_readExpr (40 + 7 * d) (600 + 161 * d) [vR 44, vI a] w (.inr (some r)) w1) (a1 : Int32) (s : Int32 × Wld) : SimK Ok (V_Reader_readNot_44_2 a1 s) (B_Reader_readNot_44_2 rx a1 s) (GLp Ok (V_Reader_readNot_44_2 a1) (GEp Ok (E_Reader_readNot_44_2 a1))) := by
  unfold B_Reader_readNot_44_2
  have hC := hD.1
  have hC2 := hD.2
  show SimK Ok (2, [(0, vR 44), (1, vI a1), (2, vI s.1)], [], s.2) _ _
  refine sim_blk0 hC [(.iload_n 2, 0, 0, 0, 0), (.bipush 6, 0, 0, 0, 6)] [(0, vR 44), (1, vI a1), (2, vI s.1)] [vI 6, vI s.1] s.2 5 (by decide +kernel) rfl rfl ?_
  refine sim_br hC (.if_icmp .ge 29) 34 (by decide +kernel) rfl (by decide) ?_ ?_
  · exact sim_exit (E := (E_Reader_readNot_44_2 a1)) ((s.1, s.2))
  · refine sim_blk0 hC [(.aload_n 0, 0, 0, 0, 0), (.getfield 12, 44, 0, 47, 0), (.getfield 74, 45, 5, 1, 0)] [(0, vR 44), (1, vI a1), (2, vI s.1)] [vE (s.2 45 5)] s.2 15 (by decide +kernel) rfl rfl ?_
    refine sim_gse hC2 172 11 (by decide +kernel) (by decide) ?_
    refine sim_acmp hC2 16 34 (by decide +kernel) (by decide) ?_ ?_
    · exact sim_exit (E := (E_Reader_readNot_44_2 a1)) ((s.1, s.2))
    · refine sim_blk0 hC [(.iinc 2 1, 0, 0, 0, 1)] [(0, vR 44), (1, vI a1), (2, vI (s.1 + 1))] [] s.2 24 (by decide +kernel) rfl rfl ?_
      refine sim_bi (C := fun i1 => (24, [(0, vR 44), (1, vI a1), (2, vI i1)], [], s.2)) (fun i1 => ?_)
      refine sim_blk0 hC [(.aload_n 0, 0, 0, 0, 0), (.getfield 12, 44, 0, 47, 0)] [(0, vR 44), (1, vI a1), (2, vI i1)] [vR 45] s.2 28 (by decide +kernel) rfl rfl ?_
      refine sim_vv hC 117 mX8_step 6 126 45 [] [] (by decide +kernel) ml_5_117 rfl rfl rfl rfl (ble_of (by omega)) (ble_of (by show 8 + (1 + 11) + _ ≤ _; omega)) (fun wz hz => c_Tokens_step_45 s.2 wz hz) (fun w2 => ?_)
      refine sim_goto hC (-29) 2 (by decide +kernel) (by decide) ?_
      exact sim_back (V := (V_Reader_readNot_44_2 a1)) ((i1, w2))
def V_Reader_readNot_44_71 (a2 : Int32) : (Int32 × Wld) → Cfg := fun s => (71, [(0, vR 44), (2, vI a2), (3, vI s.1)], [], s.2)
def E_Reader_readNot_44_71 (a2 : Int32) : (Wld) → Cfg := fun s => (94, [], [], s)
noncomputable def B_Reader_readNot_44_71 (rx : Wld → Int32 → Option (Int32 × Wld)) (a2 : Int32) (s : Int32 × Wld) : Option ((Int32 × Wld) ⊕ (Wld)) :=
  br (a2 ≤ s.1) (some (.inr s.2)) (bv (F_Rule_put_50 s.2 (-10)) (fun w6 => bi (s.1 + 1) (fun i7 => some (.inl ((i7, w6))))))
set_option maxRecDepth 10000 in
theorem s_B_Reader_readNot_44_71 {Z : ZT} {l : Launch} {o : Oc} {wo : Wld} {Ok : Cfg → Prop} {rx : Wld → Int32 → Option (Int32 × Wld)} {d : Nat} (hD : Clo3 Z l 5 4 prog_7_method_16_code (some .boolean) (40 + 7 * d + 5) (600 + 161 * d + 115) o wo Ok) (hrx : ∀ (w : Wld) (a : Int32) (r : Int32) (w1 : Wld), rx w a = some (r, w1) → Con Z l mX5_readExpr (40 + 7 * d) (600 + 161 * d) [vR 44, vI a] w (.inr (some r)) w1) (a2 : Int32) (s : Int32 × Wld) : SimK Ok (V_Reader_readNot_44_71 a2 s) (B_Reader_readNot_44_71 rx a2 s) (GLp Ok (V_Reader_readNot_44_71 a2) (GEp Ok (E_Reader_readNot_44_71 a2))) := by
  unfold B_Reader_readNot_44_71
  have hC := hD.1
  have hC2 := hD.2
  show SimK Ok (71, [(0, vR 44), (2, vI a2), (3, vI s.1)], [], s.2) _ _
  refine sim_blk0 hC [(.iload_n 3, 0, 0, 0, 0), (.iload_n 2, 0, 0, 0, 0)] [(0, vR 44), (2, vI a2), (3, vI s.1)] [vI a2, vI s.1] s.2 73 (by decide +kernel) rfl rfl ?_
  refine sim_br hC (.if_icmp .ge 21) 94 (by decide +kernel) rfl (by decide) ?_ ?_
  · refine sim_sub hC [] ?_
    exact sim_exit (E := (E_Reader_readNot_44_71 a2)) s.2
  · refine sim_blk0 hC [(.aload_n 0, 0, 0, 0, 0), (.getfield 41, 44, 7, 49, 0), (.getfield 156, 47, 6, 52, 0), (.bipush (-10), 0, 0, 0, (-10))] [(0, vR 44), (2, vI a2), (3, vI s.1)] [vI (-10), vR 50] s.2 85 (by decide +kernel) rfl rfl ?_
    refine sim_vv hC 162 mX6_put 1 0 50 [vI (-10)] [] (by decide +kernel) ml_5_162 rfl rfl rfl rfl (ble_of (by omega)) (ble_of (by show 8 + (2 + 11) + _ ≤ _; omega)) (fun wz hz => c_Rule_put_50 s.2 (-10) wz hz) (fun w6 => ?_)
    refine sim_blk0 hC [(.iinc 3 1, 0, 0, 0, 1)] [(0, vR 44), (2, vI a2), (3, vI (s.1 + 1))] [] w6 91 (by decide +kernel) rfl rfl ?_
    refine sim_bi (C := fun i7 => (91, [(0, vR 44), (2, vI a2), (3, vI i7)], [], w6)) (fun i7 => ?_)
    refine sim_goto hC (-20) 71 (by decide +kernel) (by decide) ?_
    exact sim_back (V := (V_Reader_readNot_44_71 a2)) ((i7, w6))
noncomputable def K_Reader_readNot_44_59 (rx : Wld → Int32 → Option (Int32 × Wld)) (a1 : Int32) (a2 : Int32) (w : Wld) : Option (Int32 × Wld) :=
  bd (F_Reader_readTest_44 rx w a1) (fun i4 w5 => br (¬ i4 = 0) (bl (loop (B_Reader_readNot_44_71 rx a2) ((0, w5))) (fun r8 => some ((1, r8)))) (some ((0, w5))))
set_option maxRecDepth 10000 in
theorem s_K_Reader_readNot_44_59 {Z : ZT} {l : Launch} {o : Oc} {wo : Wld} {Ok : Cfg → Prop} {rx : Wld → Int32 → Option (Int32 × Wld)} {d : Nat} (hD : Clo3 Z l 5 4 prog_7_method_16_code (some .boolean) (40 + 7 * d + 5) (600 + 161 * d + 115) o wo Ok) (hrx : ∀ (w : Wld) (a : Int32) (r : Int32) (w1 : Wld), rx w a = some (r, w1) → Con Z l mX5_readExpr (40 + 7 * d) (600 + 161 * d) [vR 44, vI a] w (.inr (some r)) w1) (a1 : Int32) (a2 : Int32) (w : Wld) : SimK Ok (59, [(0, vR 44), (1, vI a1), (2, vI a2)], [], w) (K_Reader_readNot_44_59 rx a1 a2 w) (Gi o wo) := by
  unfold K_Reader_readNot_44_59
  have hC := hD.1
  have hC2 := hD.2
  refine sim_blk0 hC [(.aload_n 0, 0, 0, 0, 0), (.iload_n 1, 0, 0, 0, 0)] [(0, vR 44), (1, vI a1), (2, vI a2)] [vI a1, vR 44] w 61 (by decide +kernel) rfl rfl ?_
  refine sim_vd hC 175 mX5_readTest (40 + 7 * d + 4) (600 + 161 * d + 92) 44 [vI a1] [] (by decide +kernel) ml_5_175 rfl rfl rfl rfl (ble_of (by omega)) (ble_of (by show 8 + (4 + 11) + _ ≤ _; omega)) (fun rz wz hz => c_Reader_readTest_44 hrx w a1 rz wz hz) (fun i4 w5 => ?_)
  refine sim_br hC (.ifCond .ne 5) 69 (by decide +kernel) rfl (by decide) ?_ ?_
  · refine sim_blk0 hC [(.iconst 0, 0, 0, 0, 0), (.istore_n 3, 0, 0, 0, 0)] [(0, vR 44), (1, vI a1), (2, vI a2), (3, vI 0)] [] w5 71 (by decide +kernel) rfl rfl ?_
    refine sim_bl (E := (E_Reader_readNot_44_71 a2)) ?_ (fun r8 => ?_)
    · refine sim_sub hC [0, 2, 3] ?_
      exact sim_loop (V := (V_Reader_readNot_44_71 a2)) (fun sz => s_B_Reader_readNot_44_71 hD hrx a2 sz) ((0, w5))
    · show SimK Ok (94, [], [], r8) _ _
      refine sim_blk0 hC [(.iconst 1, 0, 0, 0, 1)] [] [vI 1] r8 95 (by decide +kernel) rfl rfl ?_
      exact sim_reti hC (by decide +kernel) (Or.inr rfl)
  · refine sim_blk0 hC [(.iconst 0, 0, 0, 0, 0)] [(0, vR 44), (1, vI a1), (2, vI a2)] [vI 0] w5 68 (by decide +kernel) rfl rfl ?_
    exact sim_reti hC (by decide +kernel) (Or.inl rfl)
noncomputable def F_Reader_readNot_44 (rx : Wld → Int32 → Option (Int32 × Wld)) (w : Wld) (a1 : Int32) : Option (Int32 × Wld) :=
  bl (loop (B_Reader_readNot_44_2 rx a1) ((0, w))) (fun r3 => br (¬ r3.1 = 6) (K_Reader_readNot_44_59 rx a1 r3.1 r3.2) (gd (Int32.toNatClampNeg (r3.2 45 5) < 19) (gd (Int32.toNatClampNeg (11 : Int32) < 19) (br (¬ Int32.toNatClampNeg (r3.2 45 5) = Int32.toNatClampNeg (11 : Int32)) (K_Reader_readNot_44_59 rx a1 r3.1 r3.2) (bd (F_Reader_failed_44 r3.2 2) (fun i9 w10 => gd (i9 = 0 ∨ i9 = 1) (some ((i9, w10)))))))))
set_option maxRecDepth 10000 in
theorem s_Reader_readNot_44 {Z : ZT} {l : Launch} {o : Oc} {wo : Wld} {Ok : Cfg → Prop} {rx : Wld → Int32 → Option (Int32 × Wld)} {d : Nat} (hD : Clo3 Z l 5 4 prog_7_method_16_code (some .boolean) (40 + 7 * d + 5) (600 + 161 * d + 115) o wo Ok) (hrx : ∀ (w : Wld) (a : Int32) (r : Int32) (w1 : Wld), rx w a = some (r, w1) → Con Z l mX5_readExpr (40 + 7 * d) (600 + 161 * d) [vR 44, vI a] w (.inr (some r)) w1) (w : Wld) (a1 : Int32) : SimK Ok (0, [(0, vR 44), (1, vI a1)], [], w) (F_Reader_readNot_44 rx w a1) (Gi o wo) := by
  unfold F_Reader_readNot_44
  have hC := hD.1
  have hC2 := hD.2
  refine sim_blk0 hC [(.iconst 0, 0, 0, 0, 0), (.istore_n 2, 0, 0, 0, 0)] [(0, vR 44), (1, vI a1), (2, vI 0)] [] w 2 (by decide +kernel) rfl rfl ?_
  refine sim_bl (E := (E_Reader_readNot_44_2 a1)) ?_ (fun r3 => ?_)
  · exact sim_loop (V := (V_Reader_readNot_44_2 a1)) (fun sz => s_B_Reader_readNot_44_2 hD hrx a1 sz) ((0, w))
  · show SimK Ok (34, [(0, vR 44), (1, vI a1), (2, vI r3.1)], [], r3.2) _ _
    refine sim_blk0 hC [(.iload_n 2, 0, 0, 0, 0), (.bipush 6, 0, 0, 0, 6)] [(0, vR 44), (1, vI a1), (2, vI r3.1)] [vI 6, vI r3.1] r3.2 37 (by decide +kernel) rfl rfl ?_
    refine sim_br hC (.if_icmp .ne 22) 59 (by decide +kernel) rfl (by decide) ?_ ?_
    · exact s_K_Reader_readNot_44_59 hD hrx a1 r3.1 r3.2
    · refine sim_blk0 hC [(.aload_n 0, 0, 0, 0, 0), (.getfield 12, 44, 0, 47, 0), (.getfield 74, 45, 5, 1, 0)] [(0, vR 44), (1, vI a1), (2, vI r3.1)] [vE (r3.2 45 5)] r3.2 47 (by decide +kernel) rfl rfl ?_
      refine sim_gse hC2 172 11 (by decide +kernel) (by decide) ?_
      refine sim_acmp hC2 9 59 (by decide +kernel) (by decide) ?_ ?_
      · exact s_K_Reader_readNot_44_59 hD hrx a1 r3.1 r3.2
      · refine sim_blk0 hC [(.aload_n 0, 0, 0, 0, 0), (.iconst 2, 0, 0, 0, 2)] [(0, vR 44), (1, vI a1), (2, vI r3.1)] [vI 2, vR 44] r3.2 55 (by decide +kernel) rfl rfl ?_
        refine sim_vd hC 111 mX5_failed 1 0 44 [vI 2] [] (by decide +kernel) ml_5_111 rfl rfl rfl rfl (ble_of (by omega)) (ble_of (by show 8 + (2 + 11) + _ ≤ _; omega)) (fun rz wz hz => c_Reader_failed_44 r3.2 2 rz wz hz) (fun i9 w10 => ?_)
        exact sim_retiz hC (by decide +kernel) rfl
theorem c_Reader_readNot_44 {Z : ZT} {l : Launch} {rx : Wld → Int32 → Option (Int32 × Wld)} {d : Nat} (hrx : ∀ (w : Wld) (a : Int32) (r : Int32) (w1 : Wld), rx w a = some (r, w1) → Con Z l mX5_readExpr (40 + 7 * d) (600 + 161 * d) [vR 44, vI a] w (.inr (some r)) w1) (w : Wld) (a1 : Int32) (r : Int32) (w1 : Wld) (h : F_Reader_readNot_44 rx w a1 = some (r, w1)) : Con Z l mX5_readNot (40 + 7 * d + 5) (600 + 161 * d + 115) [vR 44, vI a1] w (.inr (some r)) w1 :=
  Con_of3 (oc := 5) (by decide +kernel) rfl rfl (fun Ok hC => s_Reader_readNot_44 hC hrx w a1 (r, w1) h ⟨rfl, rfl⟩)
def V_Reader_readAnd_44_8 (a1 : Int32) : (Int32 × Int32 × Wld) → Cfg := fun s => (8, [(0, vR 44), (1, vI a1), (2, vI s.1), (3, vI s.2.1)], [], s.2.2)
def E_Reader_readAnd_44_8 (a1 : Int32) : (Int32 × Wld) → Cfg := fun s => (63, [(2, vI s.1)], [], s.2)
noncomputable def B_Reader_readAnd_44_8 (rx : Wld → Int32 → Option (Int32 × Wld)) (a1 : Int32) (s : Int32 × Int32 × Wld) : Option ((Int32 × Int32 × Wld) ⊕ (Int32 × Wld)) :=
  br ((700 : Int32) ≤ s.2.1) (some (.inr ((s.1, s.2.2)))) (br (s.1 = 0) (some (.inr ((s.1, s.2.2)))) (gd (Int32.toNatClampNeg (s.2.2 45 5) < 19) (gd (Int32.toNatClampNeg (10 : Int32) < 19) (br (¬ Int32.toNatClampNeg (s.2.2 45 5) = Int32.toNatClampNeg (10 : Int32)) (some (.inr ((s.1, s.2.2)))) (bv (F_Tokens_step_45 s.2.2) (fun w3 => bd (F_Reader_readNot_44 rx w3 a1) (fun i4 w5 => bv (F_Rule_put_50 w5 (-12)) (fun w6 => bi (s.2.1 + 1) (fun i7 => some (.inl ((i4, i7, w6))))))))))))
set_option maxRecDepth 10000 in
theorem s_B_Reader_readAnd_44_8 {Z : ZT} {l : Launch} {o : Oc} {wo : Wld} {Ok : Cfg → Prop} {rx : Wld → Int32 → Option (Int32 × Wld)} {d : Nat} (hD : Clo3 Z l 5 4 prog_7_method_15_code (some .boolean) (40 + 7 * d + 6) (600 + 161 * d + 138) o wo Ok) (hrx : ∀ (w : Wld) (a : Int32) (r : Int32) (w1 : Wld), rx w a = some (r, w1) → Con Z l mX5_readExpr (40 + 7 * d) (600 + 161 * d) [vR 44, vI a] w (.inr (some r)) w1) (a1 : Int32) (s : Int32 × Int32 × Wld) : SimK Ok (V_Reader_readAnd_44_8 a1 s) (B_Reader_readAnd_44_8 rx a1 s) (GLp Ok (V_Reader_readAnd_44_8 a1) (GEp Ok (E_Reader_readAnd_44_8 a1))) := by
  unfold B_Reader_readAnd_44_8
  have hC := hD.1
  have hC2 := hD.2
  show SimK Ok (8, [(0, vR 44), (1, vI a1), (2, vI s.1), (3, vI s.2.1)], [], s.2.2) _ _
  refine sim_blk0 hC [(.iload_n 3, 0, 0, 0, 0), (.sipush 700, 0, 0, 0, 700)] [(0, vR 44), (1, vI a1), (2, vI s.1), (3, vI s.2.1)] [vI 700, vI s.2.1] s.2.2 12 (by decide +kernel) rfl rfl ?_
  refine sim_br hC (.if_icmp .ge 51) 63 (by decide +kernel) rfl (by decide) ?_ ?_
  · refine sim_sub hC [2] ?_
    exact sim_exit (E := (E_Reader_readAnd_44_8 a1)) ((s.1, s.2.2))
  · refine sim_blk0 hC [(.iload_n 2, 0, 0, 0, 0)] [(0, vR 44), (1, vI a1), (2, vI s.1), (3, vI s.2.1)] [vI s.1] s.2.2 16 (by decide +kernel) rfl rfl ?_
    refine sim_br hC (.ifCond .eq 47) 63 (by decide +kernel) rfl (by decide) ?_ ?_
    · refine sim_sub hC [2] ?_
      exact sim_exit (E := (E_Reader_readAnd_44_8 a1)) ((s.1, s.2.2))
    · refine sim_blk0 hC [(.aload_n 0, 0, 0, 0, 0), (.getfield 12, 44, 0, 47, 0), (.getfield 74, 45, 5, 1, 0)] [(0, vR 44), (1, vI a1), (2, vI s.1), (3, vI s.2.1)] [vE (s.2.2 45 5)] s.2.2 26 (by decide +kernel) rfl rfl ?_
      refine sim_gse hC2 169 10 (by decide +kernel) (by decide) ?_
      refine sim_acmp hC2 34 63 (by decide +kernel) (by decide) ?_ ?_
      · refine sim_sub hC [2] ?_
        exact sim_exit (E := (E_Reader_readAnd_44_8 a1)) ((s.1, s.2.2))
      · refine sim_blk0 hC [(.aload_n 0, 0, 0, 0, 0), (.getfield 12, 44, 0, 47, 0)] [(0, vR 44), (1, vI a1), (2, vI s.1), (3, vI s.2.1)] [vR 45] s.2.2 36 (by decide +kernel) rfl rfl ?_
        refine sim_vv hC 117 mX8_step 6 126 45 [] [] (by decide +kernel) ml_5_117 rfl rfl rfl rfl (ble_of (by omega)) (ble_of (by show 8 + (1 + 11) + _ ≤ _; omega)) (fun wz hz => c_Tokens_step_45 s.2.2 wz hz) (fun w3 => ?_)
        refine sim_blk0 hC [(.aload_n 0, 0, 0, 0, 0), (.iload_n 1, 0, 0, 0, 0)] [(0, vR 44), (1, vI a1), (2, vI s.1), (3, vI s.2.1)] [vI a1, vR 44] w3 41 (by decide +kernel) rfl rfl ?_
        refine sim_vd hC 166 mX5_readNot (40 + 7 * d + 5) (600 + 161 * d + 115) 44 [vI a1] [] (by decide +kernel) ml_5_166 rfl rfl rfl rfl (ble_of (by omega)) (ble_of (by show 8 + (4 + 11) + _ ≤ _; omega)) (fun rz wz hz => c_Reader_readNot_44 hrx w3 a1 rz wz hz) (fun i4 w5 => ?_)
        refine sim_blk0 hC [(.istore_n 2, 0, 0, 0, 0), (.aload_n 0, 0, 0, 0, 0), (.getfield 41, 44, 7, 49, 0), (.getfield 156, 47, 6, 52, 0), (.bipush (-12), 0, 0, 0, (-12))] [(0, vR 44), (1, vI a1), (2, vI i4), (3, vI s.2.1)] [vI (-12), vR 50] w5 54 (by decide +kernel) rfl rfl ?_
        refine sim_vv hC 162 mX6_put 1 0 50 [vI (-12)] [] (by decide +kernel) ml_5_162 rfl rfl rfl rfl (ble_of (by omega)) (ble_of (by show 8 + (2 + 11) + _ ≤ _; omega)) (fun wz hz => c_Rule_put_50 w5 (-12) wz hz) (fun w6 => ?_)
        refine sim_blk0 hC [(.iinc 3 1, 0, 0, 0, 1)] [(0, vR 44), (1, vI a1), (2, vI i4), (3, vI (s.2.1 + 1))] [] w6 60 (by decide +kernel) rfl rfl ?_
        refine sim_bi (C := fun i7 => (60, [(0, vR 44), (1, vI a1), (2, vI i4), (3, vI i7)], [], w6)) (fun i7 => ?_)
        refine sim_goto hC (-52) 8 (by decide +kernel) (by decide) ?_
        exact sim_back (V := (V_Reader_readAnd_44_8 a1)) ((i4, i7, w6))
noncomputable def F_Reader_readAnd_44 (rx : Wld → Int32 → Option (Int32 × Wld)) (w : Wld) (a1 : Int32) : Option (Int32 × Wld) :=
  bd (F_Reader_readNot_44 rx w a1) (fun i1 w2 => bl (loop (B_Reader_readAnd_44_8 rx a1) ((i1, 0, w2))) (fun r8 => gd (r8.1 = 0 ∨ r8.1 = 1) (some ((r8.1, r8.2)))))
set_option maxRecDepth 10000 in
theorem s_Reader_readAnd_44 {Z : ZT} {l : Launch} {o : Oc} {wo : Wld} {Ok : Cfg → Prop} {rx : Wld → Int32 → Option (Int32 × Wld)} {d : Nat} (hD : Clo3 Z l 5 4 prog_7_method_15_code (some .boolean) (40 + 7 * d + 6) (600 + 161 * d + 138) o wo Ok) (hrx : ∀ (w : Wld) (a : Int32) (r : Int32) (w1 : Wld), rx w a = some (r, w1) → Con Z l mX5_readExpr (40 + 7 * d) (600 + 161 * d) [vR 44, vI a] w (.inr (some r)) w1) (w : Wld) (a1 : Int32) : SimK Ok (0, [(0, vR 44), (1, vI a1)], [], w) (F_Reader_readAnd_44 rx w a1) (Gi o wo) := by
  unfold F_Reader_readAnd_44
  have hC := hD.1
  have hC2 := hD.2
  refine sim_blk0 hC [(.aload_n 0, 0, 0, 0, 0), (.iload_n 1, 0, 0, 0, 0)] [(0, vR 44), (1, vI a1)] [vI a1, vR 44] w 2 (by decide +kernel) rfl rfl ?_
  refine sim_vd hC 166 mX5_readNot (40 + 7 * d + 5) (600 + 161 * d + 115) 44 [vI a1] [] (by decide +kernel) ml_5_166 rfl rfl rfl rfl (ble_of (by omega)) (ble_of (by show 8 + (4 + 11) + _ ≤ _; omega)) (fun rz wz hz => c_Reader_readNot_44 hrx w a1 rz wz hz) (fun i1 w2 => ?_)
  refine sim_blk0 hC [(.istore_n 2, 0, 0, 0, 0), (.iconst 0, 0, 0, 0, 0), (.istore_n 3, 0, 0, 0, 0)] [(0, vR 44), (1, vI a1), (2, vI i1), (3, vI 0)] [] w2 8 (by decide +kernel) rfl rfl ?_
  refine sim_bl (E := (E_Reader_readAnd_44_8 a1)) ?_ (fun r8 => ?_)
  · exact sim_loop (V := (V_Reader_readAnd_44_8 a1)) (fun sz => s_B_Reader_readAnd_44_8 hD hrx a1 sz) ((i1, 0, w2))
  · show SimK Ok (63, [(2, vI r8.1)], [], r8.2) _ _
    refine sim_blk0 hC [(.iload_n 2, 0, 0, 0, 0)] [(2, vI r8.1)] [vI r8.1] r8.2 64 (by decide +kernel) rfl rfl ?_
    exact sim_retiz hC (by decide +kernel) rfl
theorem c_Reader_readAnd_44 {Z : ZT} {l : Launch} {rx : Wld → Int32 → Option (Int32 × Wld)} {d : Nat} (hrx : ∀ (w : Wld) (a : Int32) (r : Int32) (w1 : Wld), rx w a = some (r, w1) → Con Z l mX5_readExpr (40 + 7 * d) (600 + 161 * d) [vR 44, vI a] w (.inr (some r)) w1) (w : Wld) (a1 : Int32) (r : Int32) (w1 : Wld) (h : F_Reader_readAnd_44 rx w a1 = some (r, w1)) : Con Z l mX5_readAnd (40 + 7 * d + 6) (600 + 161 * d + 138) [vR 44, vI a1] w (.inr (some r)) w1 :=
  Con_of3 (oc := 5) (by decide +kernel) rfl rfl (fun Ok hC => s_Reader_readAnd_44 hC hrx w a1 (r, w1) h ⟨rfl, rfl⟩)
noncomputable def K_Reader_beginsPart_44_39 (t0 : Int32) (w : Wld) : Option (Int32) :=
  gd (t0 = 0 ∨ t0 = 1) (some t0)
set_option maxRecDepth 10000 in
theorem s_K_Reader_beginsPart_44_39 {Z : ZT} {l : Launch} {o : Oc} {wo : Wld} {Ok : Cfg → Prop} (hC : Clo Z l 5 1 prog_7_method_14_code (some .boolean) 1 0 o wo Ok) (t0 : Int32) (w : Wld) : SimK Ok (39, [], [vI t0], w) (K_Reader_beginsPart_44_39 t0 w) (Gp o wo w) := by
  unfold K_Reader_beginsPart_44_39
  exact sim_retpz hC (by decide +kernel) rfl
noncomputable def K_Reader_beginsPart_44_34 (w : Wld) : Option (Int32) :=
  K_Reader_beginsPart_44_39 1 w
set_option maxRecDepth 10000 in
theorem s_K_Reader_beginsPart_44_34 {Z : ZT} {l : Launch} {o : Oc} {wo : Wld} {Ok : Cfg → Prop} (hC : Clo Z l 5 1 prog_7_method_14_code (some .boolean) 1 0 o wo Ok) (w : Wld) : SimK Ok (34, [], [], w) (K_Reader_beginsPart_44_34 w) (Gp o wo w) := by
  unfold K_Reader_beginsPart_44_34
  refine sim_blk0 hC [(.iconst 1, 0, 0, 0, 1)] [] [vI 1] w 35 (by decide +kernel) rfl rfl ?_
  refine sim_goto hC 4 39 (by decide +kernel) (by decide) ?_
  exact s_K_Reader_beginsPart_44_39 hC 1 w
noncomputable def F_Reader_beginsPart_44 (w : Wld) : Option (Int32) :=
  br ((w 45 4) = 2) (K_Reader_beginsPart_44_34 w) (br ((w 45 4) = 1) (K_Reader_beginsPart_44_34 w) (br (¬ (w 45 7) = 40) (K_Reader_beginsPart_44_39 0 w) (K_Reader_beginsPart_44_34 w)))
set_option maxRecDepth 10000 in
theorem s_Reader_beginsPart_44 {Z : ZT} {l : Launch} {o : Oc} {wo : Wld} {Ok : Cfg → Prop} (hC : Clo Z l 5 1 prog_7_method_14_code (some .boolean) 1 0 o wo Ok) (w : Wld) : SimK Ok (0, [(0, vR 44)], [], w) (F_Reader_beginsPart_44 w) (Gp o wo w) := by
  unfold F_Reader_beginsPart_44
  refine sim_blk0 hC [(.aload_n 0, 0, 0, 0, 0), (.getfield 12, 44, 0, 47, 0), (.getfield 56, 45, 4, 0, 0), (.iconst 2, 0, 0, 0, 2)] [(0, vR 44)] [vI 2, vI (w 45 4)] w 8 (by decide +kernel) rfl rfl ?_
  refine sim_br hC (.if_icmp .eq 26) 34 (by decide +kernel) rfl (by decide) ?_ ?_
  · refine sim_sub hC [] ?_
    exact s_K_Reader_beginsPart_44_34 hC w
  · refine sim_blk0 hC [(.aload_n 0, 0, 0, 0, 0), (.getfield 12, 44, 0, 47, 0), (.getfield 56, 45, 4, 0, 0), (.iconst 1, 0, 0, 0, 1)] [(0, vR 44)] [vI 1, vI (w 45 4)] w 19 (by decide +kernel) rfl rfl ?_
    refine sim_br hC (.if_icmp .eq 15) 34 (by decide +kernel) rfl (by decide) ?_ ?_
    · refine sim_sub hC [] ?_
      exact s_K_Reader_beginsPart_44_34 hC w
    · refine sim_blk0 hC [(.aload_n 0, 0, 0, 0, 0), (.getfield 12, 44, 0, 47, 0), (.getfield 144, 45, 7, 0, 0), (.bipush 40, 0, 0, 0, 40)] [(0, vR 44)] [vI 40, vI (w 45 7)] w 31 (by decide +kernel) rfl rfl ?_
      refine sim_br hC (.if_icmp .ne 7) 38 (by decide +kernel) rfl (by decide) ?_ ?_
      · refine sim_blk0 hC [(.iconst 0, 0, 0, 0, 0)] [(0, vR 44)] [vI 0] w 39 (by decide +kernel) rfl rfl ?_
        refine sim_sub hC [] ?_
        exact s_K_Reader_beginsPart_44_39 hC 0 w
      · refine sim_sub hC [] ?_
        exact s_K_Reader_beginsPart_44_34 hC w
theorem c_Reader_beginsPart_44 {Z : ZT} {l : Launch} (w : Wld) (r : Int32) (h : F_Reader_beginsPart_44 w = some r) : Con Z l mX5_beginsPart 1 0 [vR 44] w (.inr (some r)) w :=
  Con_of (oc := 5) (by decide +kernel) rfl rfl (fun Ok hC => s_Reader_beginsPart_44 hC w r h ⟨rfl, rfl⟩)
def V_Reader_readExpr_44_30 (a1 : Int32) : (Int32 × Int32 × Wld) → Cfg := fun s => (30, [(0, vR 44), (1, vI a1), (2, vI s.1), (3, vI s.2.1)], [], s.2.2)
def E_Reader_readExpr_44_30 (a1 : Int32) : (Int32 × Wld) → Cfg := fun s => (85, [(2, vI s.1)], [], s.2)
noncomputable def B_Reader_readExpr_44_30 (rx : Wld → Int32 → Option (Int32 × Wld)) (a1 : Int32) (s : Int32 × Int32 × Wld) : Option ((Int32 × Int32 × Wld) ⊕ (Int32 × Wld)) :=
  br ((700 : Int32) ≤ s.2.1) (some (.inr ((s.1, s.2.2)))) (br (s.1 = 0) (some (.inr ((s.1, s.2.2)))) (gd (Int32.toNatClampNeg (s.2.2 45 5) < 19) (gd (Int32.toNatClampNeg (9 : Int32) < 19) (br (¬ Int32.toNatClampNeg (s.2.2 45 5) = Int32.toNatClampNeg (9 : Int32)) (some (.inr ((s.1, s.2.2)))) (bv (F_Tokens_step_45 s.2.2) (fun w3 => bd (F_Reader_readAnd_44 rx w3 a1) (fun i4 w5 => bv (F_Rule_put_50 w5 (-11)) (fun w6 => bi (s.2.1 + 1) (fun i7 => some (.inl ((i4, i7, w6))))))))))))
set_option maxRecDepth 10000 in
theorem s_B_Reader_readExpr_44_30 {Z : ZT} {l : Launch} {o : Oc} {wo : Wld} {Ok : Cfg → Prop} {rx : Wld → Int32 → Option (Int32 × Wld)} {d : Nat} (hD : Clo3 Z l 5 4 prog_7_method_13_code (some .boolean) (40 + 7 * d + 7) (600 + 161 * d + 161) o wo Ok) (hrx : ∀ (w : Wld) (a : Int32) (r : Int32) (w1 : Wld), rx w a = some (r, w1) → Con Z l mX5_readExpr (40 + 7 * d) (600 + 161 * d) [vR 44, vI a] w (.inr (some r)) w1) (a1 : Int32) (s : Int32 × Int32 × Wld) : SimK Ok (V_Reader_readExpr_44_30 a1 s) (B_Reader_readExpr_44_30 rx a1 s) (GLp Ok (V_Reader_readExpr_44_30 a1) (GEp Ok (E_Reader_readExpr_44_30 a1))) := by
  unfold B_Reader_readExpr_44_30
  have hC := hD.1
  have hC2 := hD.2
  show SimK Ok (30, [(0, vR 44), (1, vI a1), (2, vI s.1), (3, vI s.2.1)], [], s.2.2) _ _
  refine sim_blk0 hC [(.iload_n 3, 0, 0, 0, 0), (.sipush 700, 0, 0, 0, 700)] [(0, vR 44), (1, vI a1), (2, vI s.1), (3, vI s.2.1)] [vI 700, vI s.2.1] s.2.2 34 (by decide +kernel) rfl rfl ?_
  refine sim_br hC (.if_icmp .ge 51) 85 (by decide +kernel) rfl (by decide) ?_ ?_
  · refine sim_sub hC [2] ?_
    exact sim_exit (E := (E_Reader_readExpr_44_30 a1)) ((s.1, s.2.2))
  · refine sim_blk0 hC [(.iload_n 2, 0, 0, 0, 0)] [(0, vR 44), (1, vI a1), (2, vI s.1), (3, vI s.2.1)] [vI s.1] s.2.2 38 (by decide +kernel) rfl rfl ?_
    refine sim_br hC (.ifCond .eq 47) 85 (by decide +kernel) rfl (by decide) ?_ ?_
    · refine sim_sub hC [2] ?_
      exact sim_exit (E := (E_Reader_readExpr_44_30 a1)) ((s.1, s.2.2))
    · refine sim_blk0 hC [(.aload_n 0, 0, 0, 0, 0), (.getfield 12, 44, 0, 47, 0), (.getfield 74, 45, 5, 1, 0)] [(0, vR 44), (1, vI a1), (2, vI s.1), (3, vI s.2.1)] [vE (s.2.2 45 5)] s.2.2 48 (by decide +kernel) rfl rfl ?_
      refine sim_gse hC2 153 9 (by decide +kernel) (by decide) ?_
      refine sim_acmp hC2 34 85 (by decide +kernel) (by decide) ?_ ?_
      · refine sim_sub hC [2] ?_
        exact sim_exit (E := (E_Reader_readExpr_44_30 a1)) ((s.1, s.2.2))
      · refine sim_blk0 hC [(.aload_n 0, 0, 0, 0, 0), (.getfield 12, 44, 0, 47, 0)] [(0, vR 44), (1, vI a1), (2, vI s.1), (3, vI s.2.1)] [vR 45] s.2.2 58 (by decide +kernel) rfl rfl ?_
        refine sim_vv hC 117 mX8_step 6 126 45 [] [] (by decide +kernel) ml_5_117 rfl rfl rfl rfl (ble_of (by omega)) (ble_of (by show 8 + (1 + 11) + _ ≤ _; omega)) (fun wz hz => c_Tokens_step_45 s.2.2 wz hz) (fun w3 => ?_)
        refine sim_blk0 hC [(.aload_n 0, 0, 0, 0, 0), (.iload_n 1, 0, 0, 0, 0)] [(0, vR 44), (1, vI a1), (2, vI s.1), (3, vI s.2.1)] [vI a1, vR 44] w3 63 (by decide +kernel) rfl rfl ?_
        refine sim_vd hC 150 mX5_readAnd (40 + 7 * d + 6) (600 + 161 * d + 138) 44 [vI a1] [] (by decide +kernel) ml_5_150 rfl rfl rfl rfl (ble_of (by omega)) (ble_of (by show 8 + (4 + 11) + _ ≤ _; omega)) (fun rz wz hz => c_Reader_readAnd_44 hrx w3 a1 rz wz hz) (fun i4 w5 => ?_)
        refine sim_blk0 hC [(.istore_n 2, 0, 0, 0, 0), (.aload_n 0, 0, 0, 0, 0), (.getfield 41, 44, 7, 49, 0), (.getfield 156, 47, 6, 52, 0), (.bipush (-11), 0, 0, 0, (-11))] [(0, vR 44), (1, vI a1), (2, vI i4), (3, vI s.2.1)] [vI (-11), vR 50] w5 76 (by decide +kernel) rfl rfl ?_
        refine sim_vv hC 162 mX6_put 1 0 50 [vI (-11)] [] (by decide +kernel) ml_5_162 rfl rfl rfl rfl (ble_of (by omega)) (ble_of (by show 8 + (2 + 11) + _ ≤ _; omega)) (fun wz hz => c_Rule_put_50 w5 (-11) wz hz) (fun w6 => ?_)
        refine sim_blk0 hC [(.iinc 3 1, 0, 0, 0, 1)] [(0, vR 44), (1, vI a1), (2, vI i4), (3, vI (s.2.1 + 1))] [] w6 82 (by decide +kernel) rfl rfl ?_
        refine sim_bi (C := fun i7 => (82, [(0, vR 44), (1, vI a1), (2, vI i4), (3, vI i7)], [], w6)) (fun i7 => ?_)
        refine sim_goto hC (-52) 30 (by decide +kernel) (by decide) ?_
        exact sim_back (V := (V_Reader_readExpr_44_30 a1)) ((i4, i7, w6))
noncomputable def K_Reader_readExpr_44_18 (rx : Wld → Int32 → Option (Int32 × Wld)) (t1 : Int32) (w : Wld) : Option (Int32 × Wld) :=
  bd (F_Reader_failed_44 w t1) (fun i10 w11 => gd (i10 = 0 ∨ i10 = 1) (some ((i10, w11))))
set_option maxRecDepth 10000 in
theorem s_K_Reader_readExpr_44_18 {Z : ZT} {l : Launch} {o : Oc} {wo : Wld} {Ok : Cfg → Prop} {rx : Wld → Int32 → Option (Int32 × Wld)} {d : Nat} (hD : Clo3 Z l 5 4 prog_7_method_13_code (some .boolean) (40 + 7 * d + 7) (600 + 161 * d + 161) o wo Ok) (hrx : ∀ (w : Wld) (a : Int32) (r : Int32) (w1 : Wld), rx w a = some (r, w1) → Con Z l mX5_readExpr (40 + 7 * d) (600 + 161 * d) [vR 44, vI a] w (.inr (some r)) w1) (t1 : Int32) (w : Wld) : SimK Ok (18, [], [vI t1, vR 44], w) (K_Reader_readExpr_44_18 rx t1 w) (Gi o wo) := by
  unfold K_Reader_readExpr_44_18
  have hC := hD.1
  have hC2 := hD.2
  refine sim_vd hC 111 mX5_failed 1 0 44 [vI t1] [] (by decide +kernel) ml_5_111 rfl rfl rfl rfl (ble_of (by omega)) (ble_of (by show 8 + (2 + 11) + _ ≤ _; omega)) (fun rz wz hz => c_Reader_failed_44 w t1 rz wz hz) (fun i10 w11 => ?_)
  exact sim_retiz hC (by decide +kernel) rfl
noncomputable def F_Reader_readExpr_44 (rx : Wld → Int32 → Option (Int32 × Wld)) (w : Wld) (a1 : Int32) : Option (Int32 × Wld) :=
  br (a1 ≤ 5) (bd (F_Reader_readAnd_44 rx w a1) (fun i1 w2 => bl (loop (B_Reader_readExpr_44_30 rx a1) ((i1, 0, w2))) (fun r8 => gd (r8.1 = 0 ∨ r8.1 = 1) (some ((r8.1, r8.2)))))) (bp (F_Reader_beginsPart_44 w) (fun i9 => br (i9 = 0) (K_Reader_readExpr_44_18 rx 1 w) (K_Reader_readExpr_44_18 rx 2 w)))
set_option maxRecDepth 10000 in
theorem s_Reader_readExpr_44 {Z : ZT} {l : Launch} {o : Oc} {wo : Wld} {Ok : Cfg → Prop} {rx : Wld → Int32 → Option (Int32 × Wld)} {d : Nat} (hD : Clo3 Z l 5 4 prog_7_method_13_code (some .boolean) (40 + 7 * d + 7) (600 + 161 * d + 161) o wo Ok) (hrx : ∀ (w : Wld) (a : Int32) (r : Int32) (w1 : Wld), rx w a = some (r, w1) → Con Z l mX5_readExpr (40 + 7 * d) (600 + 161 * d) [vR 44, vI a] w (.inr (some r)) w1) (w : Wld) (a1 : Int32) : SimK Ok (0, [(0, vR 44), (1, vI a1)], [], w) (F_Reader_readExpr_44 rx w a1) (Gi o wo) := by
  unfold F_Reader_readExpr_44
  have hC := hD.1
  have hC2 := hD.2
  refine sim_blk0 hC [(.iload_n 1, 0, 0, 0, 0), (.iconst 5, 0, 0, 0, 5)] [(0, vR 44), (1, vI a1)] [vI 5, vI a1] w 2 (by decide +kernel) rfl rfl ?_
  refine sim_br hC (.if_icmp .le 20) 22 (by decide +kernel) rfl (by decide) ?_ ?_
  · refine sim_blk0 hC [(.aload_n 0, 0, 0, 0, 0), (.iload_n 1, 0, 0, 0, 0)] [(0, vR 44), (1, vI a1)] [vI a1, vR 44] w 24 (by decide +kernel) rfl rfl ?_
    refine sim_vd hC 150 mX5_readAnd (40 + 7 * d + 6) (600 + 161 * d + 138) 44 [vI a1] [] (by decide +kernel) ml_5_150 rfl rfl rfl rfl (ble_of (by omega)) (ble_of (by show 8 + (4 + 11) + _ ≤ _; omega)) (fun rz wz hz => c_Reader_readAnd_44 hrx w a1 rz wz hz) (fun i1 w2 => ?_)
    refine sim_blk0 hC [(.istore_n 2, 0, 0, 0, 0), (.iconst 0, 0, 0, 0, 0), (.istore_n 3, 0, 0, 0, 0)] [(0, vR 44), (1, vI a1), (2, vI i1), (3, vI 0)] [] w2 30 (by decide +kernel) rfl rfl ?_
    refine sim_bl (E := (E_Reader_readExpr_44_30 a1)) ?_ (fun r8 => ?_)
    · exact sim_loop (V := (V_Reader_readExpr_44_30 a1)) (fun sz => s_B_Reader_readExpr_44_30 hD hrx a1 sz) ((i1, 0, w2))
    · show SimK Ok (85, [(2, vI r8.1)], [], r8.2) _ _
      refine sim_blk0 hC [(.iload_n 2, 0, 0, 0, 0)] [(2, vI r8.1)] [vI r8.1] r8.2 86 (by decide +kernel) rfl rfl ?_
      exact sim_retiz hC (by decide +kernel) rfl
  · refine sim_blk0 hC [(.aload_n 0, 0, 0, 0, 0), (.aload_n 0, 0, 0, 0, 0)] [(0, vR 44), (1, vI a1)] [vR 44, vR 44] w 7 (by decide +kernel) rfl rfl ?_
    refine sim_vp hC 147 mX5_beginsPart 1 0 44 [] [vR 44] (by decide +kernel) ml_5_147 rfl rfl rfl rfl (ble_of (by omega)) (ble_of (by show 8 + (1 + 11) + _ ≤ _; omega)) (fun rz hz => c_Reader_beginsPart_44 w rz hz) (fun i9 => ?_)
    refine sim_br hC (.ifCond .eq 7) 17 (by decide +kernel) rfl (by decide) ?_ ?_
    · refine sim_blk0 hC [(.iconst 1, 0, 0, 0, 1)] [(0, vR 44), (1, vI a1)] [vI 1, vR 44] w 18 (by decide +kernel) rfl rfl ?_
      refine sim_sub hC [] ?_
      exact s_K_Reader_readExpr_44_18 hD hrx 1 w
    · refine sim_blk0 hC [(.iconst 2, 0, 0, 0, 2)] [(0, vR 44), (1, vI a1)] [vI 2, vR 44] w 14 (by decide +kernel) rfl rfl ?_
      refine sim_goto hC 4 18 (by decide +kernel) (by decide) ?_
      refine sim_sub hC [] ?_
      exact s_K_Reader_readExpr_44_18 hD hrx 2 w
theorem c_Reader_readExpr_44 {Z : ZT} {l : Launch} {rx : Wld → Int32 → Option (Int32 × Wld)} {d : Nat} (hrx : ∀ (w : Wld) (a : Int32) (r : Int32) (w1 : Wld), rx w a = some (r, w1) → Con Z l mX5_readExpr (40 + 7 * d) (600 + 161 * d) [vR 44, vI a] w (.inr (some r)) w1) (w : Wld) (a1 : Int32) (r : Int32) (w1 : Wld) (h : F_Reader_readExpr_44 rx w a1 = some (r, w1)) : Con Z l mX5_readExpr (40 + 7 * d + 7) (600 + 161 * d + 161) [vR 44, vI a1] w (.inr (some r)) w1 :=
  Con_of3 (oc := 5) (by decide +kernel) rfl rfl (fun Ok hC => s_Reader_readExpr_44 hC hrx w a1 (r, w1) h ⟨rfl, rfl⟩)
noncomputable def X_Reader_readExpr_44 : Nat → Wld → Int32 → Option (Int32 × Wld)
  | 0 => fun _ _ => none
  | d + 1 => fun w a => F_Reader_readExpr_44 (X_Reader_readExpr_44 d) w a
theorem cX_Reader_readExpr_44 {Z : ZT} {l : Launch} : ∀ (d : Nat) (w : Wld) (a : Int32) (r : Int32) (w1 : Wld), X_Reader_readExpr_44 d w a = some (r, w1) → Con Z l mX5_readExpr (40 + 7 * d) (600 + 161 * d) [vR 44, vI a] w (.inr (some r)) w1 := by
  intro d
  induction d with
  | zero => intro w a r w1 h; exact nomatch h
  | succ d ih =>
    intro w a r w1 h
    have h9 := c_Reader_readExpr_44 (Z := Z) (l := l) (rx := X_Reader_readExpr_44 d) (d := d) ih w a r w1 h
    rw [Nat.mul_succ, Nat.mul_succ, ← Nat.add_assoc, ← Nat.add_assoc]
    exact h9

noncomputable def F_Reader_readDreams_44 (w : Wld) : Option (Int32 × Wld) :=
  br ((w 44 3) = 0) (gd ((1 : Int32) = 0 ∨ (1 : Int32) = 1) (bw (wup w 44 3 1) (fun w1 => bv (F_Tokens_step_45 w1) (fun w2 => bd (X_Reader_readExpr_44 10 w2 0) (fun i3 w4 => gd (i3 = 0 ∨ i3 = 1) (some ((i3, w4)))))))) (bd (F_Reader_failed_44 w 5) (fun i5 w6 => gd (i5 = 0 ∨ i5 = 1) (some ((i5, w6)))))
set_option maxRecDepth 10000 in
theorem s_Reader_readDreams_44 {Z : ZT} {l : Launch} {o : Oc} {wo : Wld} {Ok : Cfg → Prop} (hC : Clo Z l 5 1 prog_7_method_10_code (some .boolean) 111 2233 o wo Ok) (w : Wld) : SimK Ok (0, [(0, vR 44)], [], w) (F_Reader_readDreams_44 w) (Gi o wo) := by
  unfold F_Reader_readDreams_44
  refine sim_blk0 hC [(.aload_n 0, 0, 0, 0, 0), (.getfield 25, 44, 3, 0, 0)] [(0, vR 44)] [vI (w 44 3)] w 4 (by decide +kernel) rfl rfl ?_
  refine sim_br hC (.ifCond .eq 9) 13 (by decide +kernel) rfl (by decide) ?_ ?_
  · refine sim_blk1 hC [(.aload_n 0, 0, 0, 0, 0), (.iconst 1, 0, 0, 0, 1), (.putfield 25, 44, 3, 2, 0)] [(0, vR 44)] [] (wup w 44 3 1) 18 (by decide +kernel) rfl rfl ?_
    refine sim_bw (C := fun w1 => (18, [(0, vR 44)], [], w1)) (fun w1 => ?_)
    refine sim_blk0 hC [(.aload_n 0, 0, 0, 0, 0), (.getfield 12, 44, 0, 47, 0)] [(0, vR 44)] [vR 45] w1 22 (by decide +kernel) rfl rfl ?_
    refine sim_vv hC 117 mX8_step 6 126 45 [] [] (by decide +kernel) ml_5_117 rfl rfl rfl rfl rfl rfl (fun wz hz => c_Tokens_step_45 w1 wz hz) (fun w2 => ?_)
    refine sim_blk0 hC [(.aload_n 0, 0, 0, 0, 0), (.iconst 0, 0, 0, 0, 0)] [(0, vR 44)] [vI 0, vR 44] w2 27 (by decide +kernel) rfl rfl ?_
    refine sim_vd hC 141 mX5_readExpr (40 + 7 * 10) (600 + 161 * 10) 44 [vI 0] [] (by decide +kernel) ml_5_141 rfl rfl rfl rfl rfl rfl (fun rz wz hz => cX_Reader_readExpr_44 10 w2 0 rz wz hz) (fun i3 w4 => ?_)
    exact sim_retiz hC (by decide +kernel) rfl
  · refine sim_blk0 hC [(.aload_n 0, 0, 0, 0, 0), (.iconst 5, 0, 0, 0, 5)] [(0, vR 44)] [vI 5, vR 44] w 9 (by decide +kernel) rfl rfl ?_
    refine sim_vd hC 111 mX5_failed 1 0 44 [vI 5] [] (by decide +kernel) ml_5_111 rfl rfl rfl rfl rfl rfl (fun rz wz hz => c_Reader_failed_44 w 5 rz wz hz) (fun i5 w6 => ?_)
    exact sim_retiz hC (by decide +kernel) rfl
theorem c_Reader_readDreams_44 {Z : ZT} {l : Launch} (w : Wld) (r : Int32) (w1 : Wld) (h : F_Reader_readDreams_44 w = some (r, w1)) : Con Z l mX5_readDreams 111 2233 [vR 44] w (.inr (some r)) w1 :=
  Con_of (oc := 5) (by decide +kernel) rfl rfl (fun Ok hC => s_Reader_readDreams_44 hC w (r, w1) h ⟨rfl, rfl⟩)
noncomputable def F_Reader_readRests_44 (w : Wld) : Option (Int32 × Wld) :=
  br ((w 44 2) = 0) (gd ((1 : Int32) = 0 ∨ (1 : Int32) = 1) (bw (wup w 44 2 1) (fun w1 => bv (F_Tokens_step_45 w1) (fun w2 => bd (F_Reader_readNumber_44 w2 0 50) (fun i3 w4 => br (¬ i3 = 0) (bw (wup w4 47 3 (w4 44 4)) (fun w5 => some ((1, w5)))) (some ((0, w4)))))))) (bd (F_Reader_failed_44 w 5) (fun i6 w7 => gd (i6 = 0 ∨ i6 = 1) (some ((i6, w7)))))
set_option maxRecDepth 10000 in
theorem s_Reader_readRests_44 {Z : ZT} {l : Launch} {o : Oc} {wo : Wld} {Ok : Cfg → Prop} (hC : Clo Z l 5 1 prog_7_method_9_code (some .boolean) 8 168 o wo Ok) (w : Wld) : SimK Ok (0, [(0, vR 44)], [], w) (F_Reader_readRests_44 w) (Gi o wo) := by
  unfold F_Reader_readRests_44
  refine sim_blk0 hC [(.aload_n 0, 0, 0, 0, 0), (.getfield 22, 44, 2, 0, 0)] [(0, vR 44)] [vI (w 44 2)] w 4 (by decide +kernel) rfl rfl ?_
  refine sim_br hC (.ifCond .eq 9) 13 (by decide +kernel) rfl (by decide) ?_ ?_
  · refine sim_blk1 hC [(.aload_n 0, 0, 0, 0, 0), (.iconst 1, 0, 0, 0, 1), (.putfield 22, 44, 2, 2, 0)] [(0, vR 44)] [] (wup w 44 2 1) 18 (by decide +kernel) rfl rfl ?_
    refine sim_bw (C := fun w1 => (18, [(0, vR 44)], [], w1)) (fun w1 => ?_)
    refine sim_blk0 hC [(.aload_n 0, 0, 0, 0, 0), (.getfield 12, 44, 0, 47, 0)] [(0, vR 44)] [vR 45] w1 22 (by decide +kernel) rfl rfl ?_
    refine sim_vv hC 117 mX8_step 6 126 45 [] [] (by decide +kernel) ml_5_117 rfl rfl rfl rfl rfl rfl (fun wz hz => c_Tokens_step_45 w1 wz hz) (fun w2 => ?_)
    refine sim_blk0 hC [(.aload_n 0, 0, 0, 0, 0), (.iconst 0, 0, 0, 0, 0), (.bipush 50, 0, 0, 0, 50)] [(0, vR 44)] [vI 50, vI 0, vR 44] w2 29 (by decide +kernel) rfl rfl ?_
    refine sim_vd hC 120 mX5_readNumber 7 146 44 [vI 0, vI 50] [] (by decide +kernel) ml_5_120 rfl rfl rfl rfl rfl rfl (fun rz wz hz => c_Reader_readNumber_44 w2 0 50 rz wz hz) (fun i3 w4 => ?_)
    refine sim_br hC (.ifCond .ne 5) 37 (by decide +kernel) rfl (by decide) ?_ ?_
    · refine sim_blk0 hC [(.aload_n 0, 0, 0, 0, 0), (.getfield 41, 44, 7, 49, 0), (.aload_n 0, 0, 0, 0, 0), (.getfield 28, 44, 4, 0, 0), (.putfield 138, 47, 3, 0, 0)] [(0, vR 44)] [] (wup w4 47 3 (w4 44 4)) 48 (by decide +kernel) rfl rfl ?_
      refine sim_bw (C := fun w5 => (48, [(0, vR 44)], [], w5)) (fun w5 => ?_)
      refine sim_blk0 hC [(.iconst 1, 0, 0, 0, 1)] [(0, vR 44)] [vI 1] w5 49 (by decide +kernel) rfl rfl ?_
      exact sim_reti hC (by decide +kernel) (Or.inr rfl)
    · refine sim_blk0 hC [(.iconst 0, 0, 0, 0, 0)] [(0, vR 44)] [vI 0] w4 36 (by decide +kernel) rfl rfl ?_
      exact sim_reti hC (by decide +kernel) (Or.inl rfl)
  · refine sim_blk0 hC [(.aload_n 0, 0, 0, 0, 0), (.iconst 5, 0, 0, 0, 5)] [(0, vR 44)] [vI 5, vR 44] w 9 (by decide +kernel) rfl rfl ?_
    refine sim_vd hC 111 mX5_failed 1 0 44 [vI 5] [] (by decide +kernel) ml_5_111 rfl rfl rfl rfl rfl rfl (fun rz wz hz => c_Reader_failed_44 w 5 rz wz hz) (fun i6 w7 => ?_)
    exact sim_retiz hC (by decide +kernel) rfl
theorem c_Reader_readRests_44 {Z : ZT} {l : Launch} (w : Wld) (r : Int32) (w1 : Wld) (h : F_Reader_readRests_44 w = some (r, w1)) : Con Z l mX5_readRests 8 168 [vR 44] w (.inr (some r)) w1 :=
  Con_of (oc := 5) (by decide +kernel) rfl rfl (fun Ok hC => s_Reader_readRests_44 hC w (r, w1) h ⟨rfl, rfl⟩)
noncomputable def F_Reader_readRoom_44 (w : Wld) : Option (Int32 × Wld) :=
  bi (w 47 0) (fun i1 => br (i1 < 9) (bv (F_Tokens_step_45 w) (fun w2 => bd (F_Reader_readNumber_44 w2 0 99) (fun i3 w4 => br (¬ i3 = 0) (gd (vp_in i1 9) (bw (wup w4 48 (Int32.toNatClampNeg i1) (w4 44 4)) (fun w5 => bd (F_Reader_readNumber_44 w5 0 8) (fun i6 w7 => br (¬ i6 = 0) (gd (vp_in ((32 : Int32) + i1) 53) (bw (wup w7 54 (Int32.toNatClampNeg ((32 : Int32) + i1)) (w7 44 4)) (fun w8 => bd (F_Reader_readNumber_44 w8 0 8) (fun i9 w10 => br (¬ i9 = 0) (gd (vp_in ((41 : Int32) + i1) 53) (bw (wup w10 54 (Int32.toNatClampNeg ((41 : Int32) + i1)) (w10 44 4)) (fun w11 => bw (wup w11 47 0 ((w11 47 0) + (1 : Int32))) (fun w12 => some ((1, w12)))))) (some ((0, w10))))))) (some ((0, w7))))))) (some ((0, w4)))))) (bd (F_Reader_failed_44 w 2) (fun i13 w14 => gd (i13 = 0 ∨ i13 = 1) (some ((i13, w14))))))
set_option maxRecDepth 10000 in
theorem s_Reader_readRoom_44 {Z : ZT} {l : Launch} {o : Oc} {wo : Wld} {Ok : Cfg → Prop} (hC : Clo Z l 5 2 prog_7_method_6_code (some .boolean) 8 168 o wo Ok) (w : Wld) : SimK Ok (0, [(0, vR 44)], [], w) (F_Reader_readRoom_44 w) (Gi o wo) := by
  unfold F_Reader_readRoom_44
  refine sim_blk0 hC [(.aload_n 0, 0, 0, 0, 0), (.getfield 41, 44, 7, 49, 0), (.getfield 61, 47, 0, 0, 0), (.istore_n 1, 0, 0, 0, 0)] [(0, vR 44), (1, vI (w 47 0))] [] w 8 (by decide +kernel) rfl rfl ?_
  refine sim_bi (C := fun i1 => (8, [(0, vR 44), (1, vI i1)], [], w)) (fun i1 => ?_)
  refine sim_blk0 hC [(.iload_n 1, 0, 0, 0, 0), (.bipush 9, 0, 0, 0, 9)] [(0, vR 44), (1, vI i1)] [vI 9, vI i1] w 11 (by decide +kernel) rfl rfl ?_
  refine sim_br hC (.if_icmp .lt 9) 20 (by decide +kernel) rfl (by decide) ?_ ?_
  · refine sim_blk0 hC [(.aload_n 0, 0, 0, 0, 0), (.getfield 12, 44, 0, 47, 0)] [(0, vR 44), (1, vI i1)] [vR 45] w 24 (by decide +kernel) rfl rfl ?_
    refine sim_vv hC 117 mX8_step 6 126 45 [] [] (by decide +kernel) ml_5_117 rfl rfl rfl rfl rfl rfl (fun wz hz => c_Tokens_step_45 w wz hz) (fun w2 => ?_)
    refine sim_blk0 hC [(.aload_n 0, 0, 0, 0, 0), (.iconst 0, 0, 0, 0, 0), (.bipush 99, 0, 0, 0, 99)] [(0, vR 44), (1, vI i1)] [vI 99, vI 0, vR 44] w2 31 (by decide +kernel) rfl rfl ?_
    refine sim_vd hC 120 mX5_readNumber 7 146 44 [vI 0, vI 99] [] (by decide +kernel) ml_5_120 rfl rfl rfl rfl rfl rfl (fun rz wz hz => c_Reader_readNumber_44 w2 0 99 rz wz hz) (fun i3 w4 => ?_)
    refine sim_br hC (.ifCond .ne 5) 39 (by decide +kernel) rfl (by decide) ?_ ?_
    · refine sim_blk1 hC [(.aload_n 0, 0, 0, 0, 0), (.getfield 41, 44, 7, 49, 0), (.getfield 124, 47, 4, 50, 0), (.iload_n 1, 0, 0, 0, 0), (.aload_n 0, 0, 0, 0, 0), (.getfield 28, 44, 4, 0, 0), (.iastore, 48, 9, 0, 0)] [(0, vR 44), (1, vI i1)] [] (wup w4 48 (Int32.toNatClampNeg i1) (w4 44 4)) 52 (by decide +kernel) rfl rfl ?_
      refine sim_bw (C := fun w5 => (52, [(0, vR 44), (1, vI i1)], [], w5)) (fun w5 => ?_)
      refine sim_blk0 hC [(.aload_n 0, 0, 0, 0, 0), (.iconst 0, 0, 0, 0, 0), (.bipush 8, 0, 0, 0, 8)] [(0, vR 44), (1, vI i1)] [vI 8, vI 0, vR 44] w5 56 (by decide +kernel) rfl rfl ?_
      refine sim_vd hC 120 mX5_readNumber 7 146 44 [vI 0, vI 8] [] (by decide +kernel) ml_5_120 rfl rfl rfl rfl rfl rfl (fun rz wz hz => c_Reader_readNumber_44 w5 0 8 rz wz hz) (fun i6 w7 => ?_)
      refine sim_br hC (.ifCond .ne 5) 64 (by decide +kernel) rfl (by decide) ?_ ?_
      · refine sim_blk1 hC [(.aload_n 0, 0, 0, 0, 0), (.getfield 48, 44, 8, 55, 0), (.getfield 64, 53, 0, 56, 0), (.bipush 32, 0, 0, 0, 32), (.iload_n 1, 0, 0, 0, 0), (.iadd, 0, 0, 0, 0), (.aload_n 0, 0, 0, 0, 0), (.getfield 28, 44, 4, 0, 0), (.iastore, 54, 53, 0, 0)] [(0, vR 44), (1, vI i1)] [] (wup w7 54 (Int32.toNatClampNeg ((32 : Int32) + i1)) (w7 44 4)) 80 (by decide +kernel) rfl rfl ?_
        refine sim_bw (C := fun w8 => (80, [(0, vR 44), (1, vI i1)], [], w8)) (fun w8 => ?_)
        refine sim_blk0 hC [(.aload_n 0, 0, 0, 0, 0), (.iconst 0, 0, 0, 0, 0), (.bipush 8, 0, 0, 0, 8)] [(0, vR 44), (1, vI i1)] [vI 8, vI 0, vR 44] w8 84 (by decide +kernel) rfl rfl ?_
        refine sim_vd hC 120 mX5_readNumber 7 146 44 [vI 0, vI 8] [] (by decide +kernel) ml_5_120 rfl rfl rfl rfl rfl rfl (fun rz wz hz => c_Reader_readNumber_44 w8 0 8 rz wz hz) (fun i9 w10 => ?_)
        refine sim_br hC (.ifCond .ne 5) 92 (by decide +kernel) rfl (by decide) ?_ ?_
        · refine sim_blk1 hC [(.aload_n 0, 0, 0, 0, 0), (.getfield 48, 44, 8, 55, 0), (.getfield 64, 53, 0, 56, 0), (.bipush 41, 0, 0, 0, 41), (.iload_n 1, 0, 0, 0, 0), (.iadd, 0, 0, 0, 0), (.aload_n 0, 0, 0, 0, 0), (.getfield 28, 44, 4, 0, 0), (.iastore, 54, 53, 0, 0)] [(0, vR 44), (1, vI i1)] [] (wup w10 54 (Int32.toNatClampNeg ((41 : Int32) + i1)) (w10 44 4)) 108 (by decide +kernel) rfl rfl ?_
          refine sim_bw (C := fun w11 => (108, [(0, vR 44), (1, vI i1)], [], w11)) (fun w11 => ?_)
          refine sim_blk0 hC [(.aload_n 0, 0, 0, 0, 0), (.getfield 41, 44, 7, 49, 0), (.dup, 0, 0, 0, 0), (.getfield 61, 47, 0, 0, 0), (.iconst 1, 0, 0, 0, 1), (.iadd, 0, 0, 0, 0), (.putfield 61, 47, 0, 0, 0)] [(0, vR 44), (1, vI i1)] [] (wup w11 47 0 ((w11 47 0) + (1 : Int32))) 121 (by decide +kernel) rfl rfl ?_
          refine sim_bw (C := fun w12 => (121, [(0, vR 44), (1, vI i1)], [], w12)) (fun w12 => ?_)
          refine sim_blk0 hC [(.iconst 1, 0, 0, 0, 1)] [(0, vR 44), (1, vI i1)] [vI 1] w12 122 (by decide +kernel) rfl rfl ?_
          exact sim_reti hC (by decide +kernel) (Or.inr rfl)
        · refine sim_blk0 hC [(.iconst 0, 0, 0, 0, 0)] [(0, vR 44), (1, vI i1)] [vI 0] w10 91 (by decide +kernel) rfl rfl ?_
          exact sim_reti hC (by decide +kernel) (Or.inl rfl)
      · refine sim_blk0 hC [(.iconst 0, 0, 0, 0, 0)] [(0, vR 44), (1, vI i1)] [vI 0] w7 63 (by decide +kernel) rfl rfl ?_
        exact sim_reti hC (by decide +kernel) (Or.inl rfl)
    · refine sim_blk0 hC [(.iconst 0, 0, 0, 0, 0)] [(0, vR 44), (1, vI i1)] [vI 0] w4 38 (by decide +kernel) rfl rfl ?_
      exact sim_reti hC (by decide +kernel) (Or.inl rfl)
  · refine sim_blk0 hC [(.aload_n 0, 0, 0, 0, 0), (.iconst 2, 0, 0, 0, 2)] [(0, vR 44), (1, vI i1)] [vI 2, vR 44] w 16 (by decide +kernel) rfl rfl ?_
    refine sim_vd hC 111 mX5_failed 1 0 44 [vI 2] [] (by decide +kernel) ml_5_111 rfl rfl rfl rfl rfl rfl (fun rz wz hz => c_Reader_failed_44 w 2 rz wz hz) (fun i13 w14 => ?_)
    exact sim_retiz hC (by decide +kernel) rfl
theorem c_Reader_readRoom_44 {Z : ZT} {l : Launch} (w : Wld) (r : Int32) (w1 : Wld) (h : F_Reader_readRoom_44 w = some (r, w1)) : Con Z l mX5_readRoom 8 168 [vR 44] w (.inr (some r)) w1 :=
  Con_of (oc := 5) (by decide +kernel) rfl rfl (fun Ok hC => s_Reader_readRoom_44 hC w (r, w1) h ⟨rfl, rfl⟩)
noncomputable def K_Reader_readLine_44_112 (t0 : Int32) (w : Wld) : Option (Int32 × Wld) :=
  gd (t0 = 0 ∨ t0 = 1) (some ((t0, w)))
set_option maxRecDepth 10000 in
theorem s_K_Reader_readLine_44_112 {Z : ZT} {l : Launch} {o : Oc} {wo : Wld} {Ok : Cfg → Prop} (hD : Clo3 Z l 5 3 prog_7_method_5_code (some .boolean) 112 2253 o wo Ok) (t0 : Int32) (w : Wld) : SimK Ok (112, [], [vI t0], w) (K_Reader_readLine_44_112 t0 w) (Gi o wo) := by
  unfold K_Reader_readLine_44_112
  have hC := hD.1
  have hC2 := hD.2
  exact sim_retiz hC (by decide +kernel) rfl
noncomputable def K_Reader_readLine_44_111 (w : Wld) : Option (Int32 × Wld) :=
  K_Reader_readLine_44_112 0 w
set_option maxRecDepth 10000 in
theorem s_K_Reader_readLine_44_111 {Z : ZT} {l : Launch} {o : Oc} {wo : Wld} {Ok : Cfg → Prop} (hD : Clo3 Z l 5 3 prog_7_method_5_code (some .boolean) 112 2253 o wo Ok) (w : Wld) : SimK Ok (111, [], [], w) (K_Reader_readLine_44_111 w) (Gi o wo) := by
  unfold K_Reader_readLine_44_111
  have hC := hD.1
  have hC2 := hD.2
  refine sim_blk0 hC [(.iconst 0, 0, 0, 0, 0)] [] [vI 0] w 112 (by decide +kernel) rfl rfl ?_
  exact s_K_Reader_readLine_44_112 hD 0 w
noncomputable def K_Reader_readLine_44_94 (a2 : Int32) (w : Wld) : Option (Int32 × Wld) :=
  br (a2 = 0) (K_Reader_readLine_44_111 w) (bd (F_Reader_readSign_44 w 59) (fun i4 w5 => br (i4 = 0) (K_Reader_readLine_44_111 w5) (K_Reader_readLine_44_112 1 w5)))
set_option maxRecDepth 10000 in
theorem s_K_Reader_readLine_44_94 {Z : ZT} {l : Launch} {o : Oc} {wo : Wld} {Ok : Cfg → Prop} (hD : Clo3 Z l 5 3 prog_7_method_5_code (some .boolean) 112 2253 o wo Ok) (a2 : Int32) (w : Wld) : SimK Ok (94, [(0, vR 44), (2, vI a2)], [], w) (K_Reader_readLine_44_94 a2 w) (Gi o wo) := by
  unfold K_Reader_readLine_44_94
  have hC := hD.1
  have hC2 := hD.2
  refine sim_blk0 hC [(.iload_n 2, 0, 0, 0, 0)] [(0, vR 44), (2, vI a2)] [vI a2] w 95 (by decide +kernel) rfl rfl ?_
  refine sim_br hC (.ifCond .eq 16) 111 (by decide +kernel) rfl (by decide) ?_ ?_
  · refine sim_sub hC [] ?_
    exact s_K_Reader_readLine_44_111 hD w
  · refine sim_blk0 hC [(.aload_n 0, 0, 0, 0, 0), (.bipush 59, 0, 0, 0, 59)] [(0, vR 44), (2, vI a2)] [vI 59, vR 44] w 101 (by decide +kernel) rfl rfl ?_
    refine sim_vd hC 114 mX5_readSign 7 146 44 [vI 59] [] (by decide +kernel) ml_5_114 rfl rfl rfl rfl rfl rfl (fun rz wz hz => c_Reader_readSign_44 w 59 rz wz hz) (fun i4 w5 => ?_)
    refine sim_br hC (.ifCond .eq 7) 111 (by decide +kernel) rfl (by decide) ?_ ?_
    · refine sim_sub hC [] ?_
      exact s_K_Reader_readLine_44_111 hD w5
    · refine sim_blk0 hC [(.iconst 1, 0, 0, 0, 1)] [(0, vR 44), (2, vI a2)] [vI 1] w5 108 (by decide +kernel) rfl rfl ?_
      refine sim_goto hC 4 112 (by decide +kernel) (by decide) ?_
      refine sim_sub hC [] ?_
      exact s_K_Reader_readLine_44_112 hD 1 w5
noncomputable def F_Reader_readLine_44 (w : Wld) : Option (Int32 × Wld) :=
  bi (w 45 5) (fun i1 => gd (Int32.toNatClampNeg i1 < 19) (gd (Int32.toNatClampNeg (1 : Int32) < 19) (br (¬ Int32.toNatClampNeg i1 = Int32.toNatClampNeg (1 : Int32)) (gd (Int32.toNatClampNeg i1 < 19) (br ((enV 0 i1) = (-1)) (gd (Int32.toNatClampNeg i1 < 19) (gd (Int32.toNatClampNeg (6 : Int32) < 19) (br (¬ Int32.toNatClampNeg i1 = Int32.toNatClampNeg (6 : Int32)) (gd (Int32.toNatClampNeg i1 < 19) (gd (Int32.toNatClampNeg (7 : Int32) < 19) (br (¬ Int32.toNatClampNeg i1 = Int32.toNatClampNeg (7 : Int32)) (gd (Int32.toNatClampNeg i1 < 19) (gd (Int32.toNatClampNeg (8 : Int32) < 19) (br (¬ Int32.toNatClampNeg i1 = Int32.toNatClampNeg (8 : Int32)) (bd (F_Reader_failed_44 w 1) (fun i2 w3 => K_Reader_readLine_44_94 i2 w3)) (bd (F_Reader_readDreams_44 w) (fun i6 w7 => K_Reader_readLine_44_94 i6 w7))))) (bd (F_Reader_readRests_44 w) (fun i8 w9 => K_Reader_readLine_44_94 i8 w9))))) (bd (F_Reader_readTires_44 w) (fun i10 w11 => K_Reader_readLine_44_94 i10 w11))))) (gd (Int32.toNatClampNeg i1 < 19) (bd (F_Reader_readMonk_44 w (enV 0 i1)) (fun i12 w13 => K_Reader_readLine_44_94 i12 w13))))) (bd (F_Reader_readRoom_44 w) (fun i14 w15 => K_Reader_readLine_44_94 i14 w15)))))
set_option maxRecDepth 10000 in
theorem s_Reader_readLine_44 {Z : ZT} {l : Launch} {o : Oc} {wo : Wld} {Ok : Cfg → Prop} (hD : Clo3 Z l 5 3 prog_7_method_5_code (some .boolean) 112 2253 o wo Ok) (w : Wld) : SimK Ok (0, [(0, vR 44)], [], w) (F_Reader_readLine_44 w) (Gi o wo) := by
  unfold F_Reader_readLine_44
  have hC := hD.1
  have hC2 := hD.2
  refine sim_blk0 hC [(.aload_n 0, 0, 0, 0, 0), (.getfield 12, 44, 0, 47, 0), (.getfield 74, 45, 5, 1, 0), (.astore_n 1, 0, 0, 0, 0)] [(0, vR 44), (1, vE (w 45 5))] [] w 8 (by decide +kernel) rfl rfl ?_
  refine sim_bi (C := fun i1 => (8, [(0, vR 44), (1, vE i1)], [], w)) (fun i1 => ?_)
  refine sim_blk0 hC [(.aload_n 1, 0, 0, 0, 0)] [(0, vR 44), (1, vE i1)] [vE i1] w 9 (by decide +kernel) rfl rfl ?_
  refine sim_gse hC2 78 1 (by decide +kernel) (by decide) ?_
  refine sim_acmp hC2 11 23 (by decide +kernel) (by decide) ?_ ?_
  · refine sim_blk0 hC [(.aload_n 1, 0, 0, 0, 0)] [(0, vR 44), (1, vE i1)] [vE i1] w 24 (by decide +kernel) rfl rfl ?_
    refine sim_efld hC2 86 0 (by decide +kernel) (by decide) (by decide) ?_
    refine sim_blk0 hC [(.iconst (-1), 0, 0, 0, (-1))] [(0, vR 44), (1, vE i1)] [vI (-1), vI (enV 0 i1)] w 28 (by decide +kernel) rfl rfl ?_
    refine sim_br hC (.if_icmp .eq 15) 43 (by decide +kernel) rfl (by decide) ?_ ?_
    · refine sim_blk0 hC [(.aload_n 1, 0, 0, 0, 0)] [(0, vR 44), (1, vE i1)] [vE i1] w 44 (by decide +kernel) rfl rfl ?_
      refine sim_gse hC2 93 6 (by decide +kernel) (by decide) ?_
      refine sim_acmp hC2 11 58 (by decide +kernel) (by decide) ?_ ?_
      · refine sim_blk0 hC [(.aload_n 1, 0, 0, 0, 0)] [(0, vR 44), (1, vE i1)] [vE i1] w 59 (by decide +kernel) rfl rfl ?_
        refine sim_gse hC2 99 7 (by decide +kernel) (by decide) ?_
        refine sim_acmp hC2 11 73 (by decide +kernel) (by decide) ?_ ?_
        · refine sim_blk0 hC [(.aload_n 1, 0, 0, 0, 0)] [(0, vR 44), (1, vE i1)] [vE i1] w 74 (by decide +kernel) rfl rfl ?_
          refine sim_gse hC2 105 8 (by decide +kernel) (by decide) ?_
          refine sim_acmp hC2 11 88 (by decide +kernel) (by decide) ?_ ?_
          · refine sim_blk0 hC [(.aload_n 0, 0, 0, 0, 0), (.iconst 1, 0, 0, 0, 1)] [(0, vR 44), (1, vE i1)] [vI 1, vR 44] w 90 (by decide +kernel) rfl rfl ?_
            refine sim_vd hC 111 mX5_failed 1 0 44 [vI 1] [] (by decide +kernel) ml_5_111 rfl rfl rfl rfl rfl rfl (fun rz wz hz => c_Reader_failed_44 w 1 rz wz hz) (fun i2 w3 => ?_)
            refine sim_blk0 hC [(.istore_n 2, 0, 0, 0, 0)] [(0, vR 44), (1, vE i1), (2, vI i2)] [] w3 94 (by decide +kernel) rfl rfl ?_
            refine sim_sub hC [0, 2] ?_
            exact s_K_Reader_readLine_44_94 hD i2 w3
          · refine sim_blk0 hC [(.aload_n 0, 0, 0, 0, 0)] [(0, vR 44), (1, vE i1)] [vR 44] w 81 (by decide +kernel) rfl rfl ?_
            refine sim_vd hC 108 mX5_readDreams 111 2233 44 [] [] (by decide +kernel) ml_5_108 rfl rfl rfl rfl rfl rfl (fun rz wz hz => c_Reader_readDreams_44 w rz wz hz) (fun i6 w7 => ?_)
            refine sim_blk0 hC [(.istore_n 2, 0, 0, 0, 0)] [(0, vR 44), (1, vE i1), (2, vI i6)] [] w7 85 (by decide +kernel) rfl rfl ?_
            refine sim_goto hC 9 94 (by decide +kernel) (by decide) ?_
            refine sim_sub hC [0, 2] ?_
            exact s_K_Reader_readLine_44_94 hD i6 w7
        · refine sim_blk0 hC [(.aload_n 0, 0, 0, 0, 0)] [(0, vR 44), (1, vE i1)] [vR 44] w 66 (by decide +kernel) rfl rfl ?_
          refine sim_vd hC 102 mX5_readRests 8 168 44 [] [] (by decide +kernel) ml_5_102 rfl rfl rfl rfl rfl rfl (fun rz wz hz => c_Reader_readRests_44 w rz wz hz) (fun i8 w9 => ?_)
          refine sim_blk0 hC [(.istore_n 2, 0, 0, 0, 0)] [(0, vR 44), (1, vE i1), (2, vI i8)] [] w9 70 (by decide +kernel) rfl rfl ?_
          refine sim_goto hC 24 94 (by decide +kernel) (by decide) ?_
          refine sim_sub hC [0, 2] ?_
          exact s_K_Reader_readLine_44_94 hD i8 w9
      · refine sim_blk0 hC [(.aload_n 0, 0, 0, 0, 0)] [(0, vR 44), (1, vE i1)] [vR 44] w 51 (by decide +kernel) rfl rfl ?_
        refine sim_vd hC 96 mX5_readTires 8 168 44 [] [] (by decide +kernel) ml_5_96 rfl rfl rfl rfl rfl rfl (fun rz wz hz => c_Reader_readTires_44 w rz wz hz) (fun i10 w11 => ?_)
        refine sim_blk0 hC [(.istore_n 2, 0, 0, 0, 0)] [(0, vR 44), (1, vE i1), (2, vI i10)] [] w11 55 (by decide +kernel) rfl rfl ?_
        refine sim_goto hC 39 94 (by decide +kernel) (by decide) ?_
        refine sim_sub hC [0, 2] ?_
        exact s_K_Reader_readLine_44_94 hD i10 w11
    · refine sim_blk0 hC [(.aload_n 0, 0, 0, 0, 0), (.aload_n 1, 0, 0, 0, 0)] [(0, vR 44), (1, vE i1)] [vE i1, vR 44] w 33 (by decide +kernel) rfl rfl ?_
      refine sim_efld hC2 86 0 (by decide +kernel) (by decide) (by decide) ?_
      refine sim_vd hC 89 mX5_readMonk 8 168 44 [vI (enV 0 i1)] [] (by decide +kernel) ml_5_89 rfl rfl rfl rfl rfl rfl (fun rz wz hz => c_Reader_readMonk_44 w (enV 0 i1) rz wz hz) (fun i12 w13 => ?_)
      refine sim_blk0 hC [(.istore_n 2, 0, 0, 0, 0)] [(0, vR 44), (1, vE i1), (2, vI i12)] [] w13 40 (by decide +kernel) rfl rfl ?_
      refine sim_goto hC 54 94 (by decide +kernel) (by decide) ?_
      refine sim_sub hC [0, 2] ?_
      exact s_K_Reader_readLine_44_94 hD i12 w13
  · refine sim_blk0 hC [(.aload_n 0, 0, 0, 0, 0)] [(0, vR 44), (1, vE i1)] [vR 44] w 16 (by decide +kernel) rfl rfl ?_
    refine sim_vd hC 83 mX5_readRoom 8 168 44 [] [] (by decide +kernel) ml_5_83 rfl rfl rfl rfl rfl rfl (fun rz wz hz => c_Reader_readRoom_44 w rz wz hz) (fun i14 w15 => ?_)
    refine sim_blk0 hC [(.istore_n 2, 0, 0, 0, 0)] [(0, vR 44), (1, vE i1), (2, vI i14)] [] w15 20 (by decide +kernel) rfl rfl ?_
    refine sim_goto hC 74 94 (by decide +kernel) (by decide) ?_
    refine sim_sub hC [0, 2] ?_
    exact s_K_Reader_readLine_44_94 hD i14 w15
theorem c_Reader_readLine_44 {Z : ZT} {l : Launch} (w : Wld) (r : Int32) (w1 : Wld) (h : F_Reader_readLine_44 w = some (r, w1)) : Con Z l mX5_readLine 112 2253 [vR 44] w (.inr (some r)) w1 :=
  Con_of3 (oc := 5) (by decide +kernel) rfl rfl (fun Ok hC => s_Reader_readLine_44 hC w (r, w1) h ⟨rfl, rfl⟩)
def V_Reader_readText_44_43_8 : (Int32 × Wld) → Cfg := fun s => (8, [(0, vR 44), (3, vI s.1)], [], s.2)
def E_Reader_readText_44_43_8 : (Wld) → Cfg := fun s => (43, [(0, vR 44)], [], s)
noncomputable def B_Reader_readText_44_43_8 (s : Int32 × Wld) : Option ((Int32 × Wld) ⊕ ((Wld) ⊕ (Int32 × Wld))) :=
  br ((700 : Int32) < s.1) (some (.inr (.inl s.2))) (br ((s.2 45 4) = 0) (some (.inr (.inl s.2))) (bd (F_Reader_readLine_44 s.2) (fun i2 w3 => br (¬ i2 = 0) (bi (s.1 + 1) (fun i4 => some (.inl ((i4, w3))))) (some (.inr (.inr ((w3 44 5, w3))))))))
set_option maxRecDepth 10000 in
theorem s_B_Reader_readText_44_43_8 {Z : ZT} {l : Launch} {o : Oc} {wo : Wld} {Ok : Cfg → Prop} (hC : Clo Z l 5 4 prog_7_method_2_code (some .int) 113 2275 o wo Ok) (s : Int32 × Wld) : SimK Ok (V_Reader_readText_44_43_8 s) (B_Reader_readText_44_43_8 s) (GLp Ok (V_Reader_readText_44_43_8) (GLp Ok (E_Reader_readText_44_43_8) (Gi o wo))) := by
  unfold B_Reader_readText_44_43_8
  show SimK Ok (8, [(0, vR 44), (3, vI s.1)], [], s.2) _ _
  refine sim_blk0 hC [(.iload_n 3, 0, 0, 0, 0), (.sipush 700, 0, 0, 0, 700)] [(0, vR 44), (3, vI s.1)] [vI 700, vI s.1] s.2 12 (by decide +kernel) rfl rfl ?_
  refine sim_br hC (.if_icmp .gt 31) 43 (by decide +kernel) rfl (by decide) ?_ ?_
  · refine sim_sub hC [0] ?_
    exact sim_exitx (E := (E_Reader_readText_44_43_8)) s.2
  · refine sim_blk0 hC [(.aload_n 0, 0, 0, 0, 0), (.getfield 12, 44, 0, 47, 0), (.getfield 56, 45, 4, 0, 0)] [(0, vR 44), (3, vI s.1)] [vI (s.2 45 4)] s.2 22 (by decide +kernel) rfl rfl ?_
    refine sim_br hC (.ifCond .eq 21) 43 (by decide +kernel) rfl (by decide) ?_ ?_
    · refine sim_sub hC [0] ?_
      exact sim_exitx (E := (E_Reader_readText_44_43_8)) s.2
    · refine sim_blk0 hC [(.aload_n 0, 0, 0, 0, 0)] [(0, vR 44), (3, vI s.1)] [vR 44] s.2 26 (by decide +kernel) rfl rfl ?_
      refine sim_vd hC 57 mX5_readLine 112 2253 44 [] [] (by decide +kernel) ml_5_57 rfl rfl rfl rfl rfl rfl (fun rz wz hz => c_Reader_readLine_44 s.2 rz wz hz) (fun i2 w3 => ?_)
      refine sim_br hC (.ifCond .ne 8) 37 (by decide +kernel) rfl (by decide) ?_ ?_
      · refine sim_blk0 hC [(.iinc 3 1, 0, 0, 0, 1)] [(0, vR 44), (3, vI (s.1 + 1))] [] w3 40 (by decide +kernel) rfl rfl ?_
        refine sim_bi (C := fun i4 => (40, [(0, vR 44), (3, vI i4)], [], w3)) (fun i4 => ?_)
        refine sim_goto hC (-32) 8 (by decide +kernel) (by decide) ?_
        exact sim_back (V := (V_Reader_readText_44_43_8)) ((i4, w3))
      · refine sim_blk0 hC [(.aload_n 0, 0, 0, 0, 0), (.getfield 32, 44, 5, 0, 0)] [(0, vR 44), (3, vI s.1)] [vI (w3 44 5)] w3 36 (by decide +kernel) rfl rfl ?_
        refine sim_outx ?_
        exact sim_reti hC (by decide +kernel) trivial
def V_Reader_readText_44_43_45 : (Int32 × Wld) → Cfg := fun s => (45, [(0, vR 44), (3, vI s.1)], [], s.2)
def E_Reader_readText_44_43_45 : (Wld) → Cfg := fun s => (106, [], [], s)
noncomputable def B_Reader_readText_44_43_45 (s : Int32 × Wld) : Option ((Int32 × Wld) ⊕ (Wld)) :=
  br ((s.2 47 0) ≤ s.1) (some (.inr s.2)) (gd (vp_in ((32 : Int32) + s.1) 53) (gd (¬ (s.2 47 0) = 0) (gd (vp_in ((32 : Int32) + s.1) 53) (bw (wup s.2 54 (Int32.toNatClampNeg ((32 : Int32) + s.1)) ((s.2 54 (Int32.toNatClampNeg ((32 : Int32) + s.1))) - (s.2 54 (Int32.toNatClampNeg ((32 : Int32) + s.1))) / (s.2 47 0) * (s.2 47 0))) (fun w6 => gd (vp_in ((41 : Int32) + s.1) 53) (gd (¬ (w6 47 0) = 0) (gd (vp_in ((41 : Int32) + s.1) 53) (bw (wup w6 54 (Int32.toNatClampNeg ((41 : Int32) + s.1)) ((w6 54 (Int32.toNatClampNeg ((41 : Int32) + s.1))) - (w6 54 (Int32.toNatClampNeg ((41 : Int32) + s.1))) / (w6 47 0) * (w6 47 0))) (fun w7 => bi (s.1 + 1) (fun i8 => some (.inl ((i8, w7)))))))))))))
set_option maxRecDepth 10000 in
theorem s_B_Reader_readText_44_43_45 {Z : ZT} {l : Launch} {o : Oc} {wo : Wld} {Ok : Cfg → Prop} (hC : Clo Z l 5 4 prog_7_method_2_code (some .int) 113 2275 o wo Ok) (s : Int32 × Wld) : SimK Ok (V_Reader_readText_44_43_45 s) (B_Reader_readText_44_43_45 s) (GLp Ok (V_Reader_readText_44_43_45) (GEp Ok (E_Reader_readText_44_43_45))) := by
  unfold B_Reader_readText_44_43_45
  show SimK Ok (45, [(0, vR 44), (3, vI s.1)], [], s.2) _ _
  refine sim_blk0 hC [(.iload_n 3, 0, 0, 0, 0), (.aload_n 0, 0, 0, 0, 0), (.getfield 41, 44, 7, 49, 0), (.getfield 61, 47, 0, 0, 0)] [(0, vR 44), (3, vI s.1)] [vI (s.2 47 0), vI s.1] s.2 53 (by decide +kernel) rfl rfl ?_
  refine sim_br hC (.if_icmp .ge 53) 106 (by decide +kernel) rfl (by decide) ?_ ?_
  · refine sim_sub hC [] ?_
    exact sim_exit (E := (E_Reader_readText_44_43_45)) s.2
  · refine sim_blk3 hC [(.aload_n 0, 0, 0, 0, 0), (.getfield 48, 44, 8, 55, 0), (.getfield 64, 53, 0, 56, 0), (.bipush 32, 0, 0, 0, 32), (.iload_n 3, 0, 0, 0, 0), (.iadd, 0, 0, 0, 0), (.dup2, 0, 0, 0, 0), (.iaload, 54, 53, 0, 0), (.aload_n 0, 0, 0, 0, 0), (.getfield 41, 44, 7, 49, 0), (.getfield 61, 47, 0, 0, 0), (.irem, 0, 0, 0, 0), (.iastore, 54, 53, 0, 0)] [(0, vR 44), (3, vI s.1)] [] (wup s.2 54 (Int32.toNatClampNeg ((32 : Int32) + s.1)) ((s.2 54 (Int32.toNatClampNeg ((32 : Int32) + s.1))) - (s.2 54 (Int32.toNatClampNeg ((32 : Int32) + s.1))) / (s.2 47 0) * (s.2 47 0))) 78 (by decide +kernel) rfl rfl ?_
    refine sim_bw (C := fun w6 => (78, [(0, vR 44), (3, vI s.1)], [], w6)) (fun w6 => ?_)
    refine sim_blk3 hC [(.aload_n 0, 0, 0, 0, 0), (.getfield 48, 44, 8, 55, 0), (.getfield 64, 53, 0, 56, 0), (.bipush 41, 0, 0, 0, 41), (.iload_n 3, 0, 0, 0, 0), (.iadd, 0, 0, 0, 0), (.dup2, 0, 0, 0, 0), (.iaload, 54, 53, 0, 0), (.aload_n 0, 0, 0, 0, 0), (.getfield 41, 44, 7, 49, 0), (.getfield 61, 47, 0, 0, 0), (.irem, 0, 0, 0, 0), (.iastore, 54, 53, 0, 0)] [(0, vR 44), (3, vI s.1)] [] (wup w6 54 (Int32.toNatClampNeg ((41 : Int32) + s.1)) ((w6 54 (Int32.toNatClampNeg ((41 : Int32) + s.1))) - (w6 54 (Int32.toNatClampNeg ((41 : Int32) + s.1))) / (w6 47 0) * (w6 47 0))) 100 (by decide +kernel) rfl rfl ?_
    refine sim_bw (C := fun w7 => (100, [(0, vR 44), (3, vI s.1)], [], w7)) (fun w7 => ?_)
    refine sim_blk0 hC [(.iinc 3 1, 0, 0, 0, 1)] [(0, vR 44), (3, vI (s.1 + 1))] [] w7 103 (by decide +kernel) rfl rfl ?_
    refine sim_bi (C := fun i8 => (103, [(0, vR 44), (3, vI i8)], [], w7)) (fun i8 => ?_)
    refine sim_goto hC (-58) 45 (by decide +kernel) (by decide) ?_
    exact sim_back (V := (V_Reader_readText_44_43_45)) ((i8, w7))
noncomputable def F_Reader_readText_44_43 (w : Wld) (a2 : Int32) : Option (Int32 × Wld) :=
  bv (F_Reader_begin_44_43 w a2) (fun w1 => bx (loop (B_Reader_readText_44_43_8) ((0, w1))) (fun r5 => bl (loop (B_Reader_readText_44_43_45) ((0, r5))) (fun r9 => some ((0, r9)))))
set_option maxRecDepth 10000 in
theorem s_Reader_readText_44_43 {Z : ZT} {l : Launch} {o : Oc} {wo : Wld} {Ok : Cfg → Prop} (hC : Clo Z l 5 4 prog_7_method_2_code (some .int) 113 2275 o wo Ok) (w : Wld) (a2 : Int32) : SimK Ok (0, [(0, vR 44), (1, vR 43), (2, vI a2)], [], w) (F_Reader_readText_44_43 w a2) (Gi o wo) := by
  unfold F_Reader_readText_44_43
  refine sim_blk0 hC [(.aload_n 0, 0, 0, 0, 0), (.aload_n 1, 0, 0, 0, 0), (.iload_n 2, 0, 0, 0, 0)] [(0, vR 44), (1, vR 43), (2, vI a2)] [vI a2, vR 43, vR 44] w 3 (by decide +kernel) rfl rfl ?_
  refine sim_vv hC 52 mX5_begin 8 168 44 [vR 43, vI a2] [] (by decide +kernel) ml_5_52 rfl rfl rfl rfl rfl rfl (fun wz hz => c_Reader_begin_44_43 w a2 wz hz) (fun w1 => ?_)
  refine sim_blk0 hC [(.iconst 0, 0, 0, 0, 0), (.istore_n 3, 0, 0, 0, 0)] [(0, vR 44), (1, vR 43), (2, vI a2), (3, vI 0)] [] w1 8 (by decide +kernel) rfl rfl ?_
  refine sim_bx (E := (E_Reader_readText_44_43_8)) ?_ (fun r5 => ?_)
  · refine sim_sub hC [0, 3] ?_
    exact sim_loop (V := (V_Reader_readText_44_43_8)) (fun sz => s_B_Reader_readText_44_43_8 hC sz) ((0, w1))
  · show SimK Ok (43, [(0, vR 44)], [], r5) _ _
    refine sim_blk0 hC [(.iconst 0, 0, 0, 0, 0), (.istore_n 3, 0, 0, 0, 0)] [(0, vR 44), (3, vI 0)] [] r5 45 (by decide +kernel) rfl rfl ?_
    refine sim_bl (E := (E_Reader_readText_44_43_45)) ?_ (fun r9 => ?_)
    · exact sim_loop (V := (V_Reader_readText_44_43_45)) (fun sz => s_B_Reader_readText_44_43_45 hC sz) ((0, r5))
    · show SimK Ok (106, [], [], r9) _ _
      refine sim_blk0 hC [(.iconst 0, 0, 0, 0, 0)] [] [vI 0] r9 107 (by decide +kernel) rfl rfl ?_
      exact sim_reti hC (by decide +kernel) trivial
theorem c_Reader_readText_44_43 {Z : ZT} {l : Launch} (w : Wld) (a2 : Int32) (r : Int32) (w1 : Wld) (h : F_Reader_readText_44_43 w a2 = some (r, w1)) : Con Z l mX5_readText 113 2275 [vR 44, vR 43, vI a2] w (.inr (some r)) w1 :=
  Con_of (oc := 5) (by decide +kernel) rfl rfl (fun Ok hC => s_Reader_readText_44_43 hC w a2 (r, w1) h ⟨rfl, rfl⟩)
noncomputable def F_Rule_takeOver_59_50 (w : Wld) : Option (Wld) :=
  gd (cpO w 51 700 700 0 0 0 700) (bw (wcp w 51 60 (Int32.toNatClampNeg 0) (Int32.toNatClampNeg 0) (Int32.toNatClampNeg 700)) (fun w1 => bw (wup w1 59 2 (w1 50 2)) (fun w2 => some w2)))
set_option maxRecDepth 10000 in
theorem s_Rule_takeOver_59_50 {Z : ZT} {l : Launch} {o : Oc} {wo : Wld} {Ok : Cfg → Prop} (hC : Clo Z l 6 2 prog_8_method_2_code none 1 60 o wo Ok) (w : Wld) : SimK Ok (0, [(0, vR 59), (1, vR 50)], [], w) (F_Rule_takeOver_59_50 w) (Gv o wo) := by
  unfold F_Rule_takeOver_59_50
  refine sim_blk0 hC [(.aload_n 1, 0, 0, 0, 0), (.getfield 9, 50, 0, 53, 0), (.iconst 0, 0, 0, 0, 0), (.aload_n 0, 0, 0, 0, 0), (.getfield 9, 59, 0, 62, 0), (.iconst 0, 0, 0, 0, 0), (.sipush 700, 0, 0, 0, 700)] [(0, vR 59), (1, vR 50)] [vI 700, vI 0, vR 60, vI 0, vR 51] w 13 (by decide +kernel) rfl rfl ?_
  refine sim_copy hC 22 51 60 700 700 0 (by decide +kernel) (by decide) (by decide) (by decide +kernel) (by decide +kernel) rfl rfl rfl (fun w1 => ?_)
  refine sim_blk0 hC [(.aload_n 0, 0, 0, 0, 0), (.aload_n 1, 0, 0, 0, 0), (.getfield 18, 50, 2, 0, 0), (.putfield 18, 59, 2, 0, 0)] [(0, vR 59), (1, vR 50)] [] (wup w1 59 2 (w1 50 2)) 24 (by decide +kernel) rfl rfl ?_
  refine sim_bw (C := fun w2 => (24, [(0, vR 59), (1, vR 50)], [], w2)) (fun w2 => ?_)
  exact sim_retv hC (by decide +kernel)
theorem c_Rule_takeOver_59_50 {Z : ZT} {l : Launch} (w : Wld) (w1 : Wld) (h : F_Rule_takeOver_59_50 w = some w1) : Con Z l mX6_takeOver 1 60 [vR 59, vR 50] w (.inr none) w1 :=
  Con_of (oc := 6) (by decide +kernel) rfl rfl (fun Ok hC => s_Rule_takeOver_59_50 hC w w1 h ⟨rfl, rfl⟩)
