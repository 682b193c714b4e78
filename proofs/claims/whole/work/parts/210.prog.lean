def V_M_isAsHeard_13 : (Int32 × Int32 × Wld) → Cfg := fun s => (13, [(0, vR 0), (1, vI s.1), (2, vI s.2.1)], [], s.2.2)
def E_M_isAsHeard_13 : (Int32 × Wld) → Cfg := fun s => (97, [(0, vR 0), (1, vI s.1)], [], s.2)
def V_M_isAsHeard_29 (a2 : Int32) (w : Wld) : (Int32 × Int32) → Cfg := fun s => (29, [(0, vR 0), (1, vI s.1), (2, vI a2), (3, vI s.2)], [], w)
def E_M_isAsHeard_29 (a2 : Int32) (w : Wld) : (Int32) → Cfg := fun s => (91, [(0, vR 0), (1, vI s), (2, vI a2)], [], w)
noncomputable def K_M_isAsHeard_84 (a2 : Int32) (a3 : Int32) (t0 : Int32) (w : Wld) : Option ((Int32 × Int32) ⊕ (Int32)) :=
  bi (a3 + 1) (fun i3 => some (.inl ((t0, i3))))
set_option maxRecDepth 10000 in
theorem s_K_M_isAsHeard_84 {Z : ZT} {l : Launch} {o : Oc} {wo : Wld} {Ok : Cfg → Prop} (hC : Clo Z l 10 4 prog_13_method_88_code (some .boolean) 6 111 o wo Ok) (a2 : Int32) (a3 : Int32) (t0 : Int32) (w : Wld) : SimK Ok (84, [(0, vR 0), (2, vI a2), (3, vI a3)], [vI t0], w) (K_M_isAsHeard_84 a2 a3 t0 w) (GLp Ok (V_M_isAsHeard_29 a2 w) (GEp Ok (E_M_isAsHeard_29 a2 w))) := by
  unfold K_M_isAsHeard_84
  refine sim_blk0 hC [(.istore_n 1, 0, 0, 0, 0), (.iinc 3 1, 0, 0, 0, 1)] [(0, vR 0), (1, vI t0), (2, vI a2), (3, vI (a3 + 1))] [] w 88 (by decide +kernel) rfl rfl ?_
  refine sim_bi (C := fun i3 => (88, [(0, vR 0), (1, vI t0), (2, vI a2), (3, vI i3)], [], w)) (fun i3 => ?_)
  refine sim_goto hC (-59) 29 (by decide +kernel) (by decide) ?_
  exact sim_back (V := (V_M_isAsHeard_29 a2 w)) ((t0, i3))
noncomputable def K_M_isAsHeard_83 (a2 : Int32) (a3 : Int32) (w : Wld) : Option ((Int32 × Int32) ⊕ (Int32)) :=
  K_M_isAsHeard_84 a2 a3 0 w
set_option maxRecDepth 10000 in
theorem s_K_M_isAsHeard_83 {Z : ZT} {l : Launch} {o : Oc} {wo : Wld} {Ok : Cfg → Prop} (hC : Clo Z l 10 4 prog_13_method_88_code (some .boolean) 6 111 o wo Ok) (a2 : Int32) (a3 : Int32) (w : Wld) : SimK Ok (83, [(0, vR 0), (2, vI a2), (3, vI a3)], [], w) (K_M_isAsHeard_83 a2 a3 w) (GLp Ok (V_M_isAsHeard_29 a2 w) (GEp Ok (E_M_isAsHeard_29 a2 w))) := by
  unfold K_M_isAsHeard_83
  refine sim_blk0 hC [(.iconst 0, 0, 0, 0, 0)] [(0, vR 0), (2, vI a2), (3, vI a3)] [vI 0] w 84 (by decide +kernel) rfl rfl ?_
  exact s_K_M_isAsHeard_84 hC a2 a3 0 w
noncomputable def K_M_isAsHeard_79 (a2 : Int32) (a3 : Int32) (w : Wld) : Option ((Int32 × Int32) ⊕ (Int32)) :=
  K_M_isAsHeard_84 a2 a3 1 w
set_option maxRecDepth 10000 in
theorem s_K_M_isAsHeard_79 {Z : ZT} {l : Launch} {o : Oc} {wo : Wld} {Ok : Cfg → Prop} (hC : Clo Z l 10 4 prog_13_method_88_code (some .boolean) 6 111 o wo Ok) (a2 : Int32) (a3 : Int32) (w : Wld) : SimK Ok (79, [(0, vR 0), (2, vI a2), (3, vI a3)], [], w) (K_M_isAsHeard_79 a2 a3 w) (GLp Ok (V_M_isAsHeard_29 a2 w) (GEp Ok (E_M_isAsHeard_29 a2 w))) := by
  unfold K_M_isAsHeard_79
  refine sim_blk0 hC [(.iconst 1, 0, 0, 0, 1)] [(0, vR 0), (2, vI a2), (3, vI a3)] [vI 1] w 80 (by decide +kernel) rfl rfl ?_
  refine sim_goto hC 4 84 (by decide +kernel) (by decide) ?_
  exact s_K_M_isAsHeard_84 hC a2 a3 1 w
noncomputable def K_M_isAsHeard_70 (a2 : Int32) (a3 : Int32) (t0 : Int32) (w : Wld) : Option ((Int32 × Int32) ⊕ (Int32)) :=
  gd (vp_in a3 8) (br (¬ t0 = (w 31 (Int32.toNatClampNeg a3))) (K_M_isAsHeard_83 a2 a3 w) (K_M_isAsHeard_79 a2 a3 w))
set_option maxRecDepth 10000 in
theorem s_K_M_isAsHeard_70 {Z : ZT} {l : Launch} {o : Oc} {wo : Wld} {Ok : Cfg → Prop} (hC : Clo Z l 10 4 prog_13_method_88_code (some .boolean) 6 111 o wo Ok) (a2 : Int32) (a3 : Int32) (t0 : Int32) (w : Wld) : SimK Ok (70, [(0, vR 0), (2, vI a2), (3, vI a3)], [vI t0], w) (K_M_isAsHeard_70 a2 a3 t0 w) (GLp Ok (V_M_isAsHeard_29 a2 w) (GEp Ok (E_M_isAsHeard_29 a2 w))) := by
  unfold K_M_isAsHeard_70
  refine sim_blk1 hC [(.aload_n 0, 0, 0, 0, 0), (.getfield 128, 0, 49, 33, 0), (.iload_n 3, 0, 0, 0, 0), (.baload, 31, 8, 2, 0)] [(0, vR 0), (2, vI a2), (3, vI a3)] [vI (w 31 (Int32.toNatClampNeg a3)), vI t0] w 76 (by decide +kernel) rfl rfl ?_
  refine sim_br hC (.if_icmp .ne 7) 83 (by decide +kernel) rfl (by decide) ?_ ?_
  · exact s_K_M_isAsHeard_83 hC a2 a3 w
  · exact s_K_M_isAsHeard_79 hC a2 a3 w
noncomputable def B_M_isAsHeard_29 (a2 : Int32) (w : Wld) (s : Int32 × Int32) : Option ((Int32 × Int32) ⊕ (Int32)) :=
  br ((w 0 35) ≤ s.2) (some (.inr s.1)) (br (s.1 = 0) (K_M_isAsHeard_83 a2 s.2 w) (gd (vp_in s.2 8) (br (¬ (w 28 (Int32.toNatClampNeg s.2)) = a2) (K_M_isAsHeard_79 a2 s.2 w) (gd (vp_in s.2 8) (gd (vp_in (w 29 (Int32.toNatClampNeg s.2)) 100) (br ((w 23 (Int32.toNatClampNeg (w 29 (Int32.toNatClampNeg s.2)))) ≤ 0) (K_M_isAsHeard_70 a2 s.2 0 w) (K_M_isAsHeard_70 a2 s.2 1 w)))))))
set_option maxRecDepth 10000 in
theorem s_B_M_isAsHeard_29 {Z : ZT} {l : Launch} {o : Oc} {wo : Wld} {Ok : Cfg → Prop} (hC : Clo Z l 10 4 prog_13_method_88_code (some .boolean) 6 111 o wo Ok) (a2 : Int32) (w : Wld) (s : Int32 × Int32) : SimK Ok (V_M_isAsHeard_29 a2 w s) (B_M_isAsHeard_29 a2 w s) (GLp Ok (V_M_isAsHeard_29 a2 w) (GEp Ok (E_M_isAsHeard_29 a2 w))) := by
  unfold B_M_isAsHeard_29
  show SimK Ok (29, [(0, vR 0), (1, vI s.1), (2, vI a2), (3, vI s.2)], [], w) _ _
  refine sim_blk0 hC [(.iload_n 3, 0, 0, 0, 0), (.aload_n 0, 0, 0, 0, 0), (.getfield 315, 0, 35, 0, 0)] [(0, vR 0), (1, vI s.1), (2, vI a2), (3, vI s.2)] [vI (w 0 35), vI s.2] w 34 (by decide +kernel) rfl rfl ?_
  refine sim_br hC (.if_icmp .ge 57) 91 (by decide +kernel) rfl (by decide) ?_ ?_
  · refine sim_sub hC [0, 1, 2] ?_
    exact sim_exit (E := (E_M_isAsHeard_29 a2 w)) s.1
  · refine sim_blk0 hC [(.iload_n 1, 0, 0, 0, 0)] [(0, vR 0), (1, vI s.1), (2, vI a2), (3, vI s.2)] [vI s.1] w 38 (by decide +kernel) rfl rfl ?_
    refine sim_br hC (.ifCond .eq 45) 83 (by decide +kernel) rfl (by decide) ?_ ?_
    · refine sim_sub hC [0, 2, 3] ?_
      exact s_K_M_isAsHeard_83 hC a2 s.2 w
    · refine sim_blk1 hC [(.aload_n 0, 0, 0, 0, 0), (.getfield 119, 0, 46, 30, 0), (.iload_n 3, 0, 0, 0, 0), (.iaload, 28, 8, 0, 0), (.iload_n 2, 0, 0, 0, 0)] [(0, vR 0), (1, vI s.1), (2, vI a2), (3, vI s.2)] [vI a2, vI (w 28 (Int32.toNatClampNeg s.2))] w 48 (by decide +kernel) rfl rfl ?_
      refine sim_br hC (.if_icmp .ne 31) 79 (by decide +kernel) rfl (by decide) ?_ ?_
      · refine sim_sub hC [0, 2, 3] ?_
        exact s_K_M_isAsHeard_79 hC a2 s.2 w
      · refine sim_blk2 hC [(.aload_n 0, 0, 0, 0, 0), (.getfield 104, 0, 41, 25, 0), (.aload_n 0, 0, 0, 0, 0), (.getfield 122, 0, 47, 31, 0), (.iload_n 3, 0, 0, 0, 0), (.iaload, 29, 8, 0, 0), (.iaload, 23, 100, 0, 0)] [(0, vR 0), (1, vI s.1), (2, vI a2), (3, vI s.2)] [vI (w 23 (Int32.toNatClampNeg (w 29 (Int32.toNatClampNeg s.2))))] w 62 (by decide +kernel) rfl rfl ?_
        refine sim_br hC (.ifCond .le 7) 69 (by decide +kernel) rfl (by decide) ?_ ?_
        · refine sim_blk0 hC [(.iconst 0, 0, 0, 0, 0)] [(0, vR 0), (1, vI s.1), (2, vI a2), (3, vI s.2)] [vI 0] w 70 (by decide +kernel) rfl rfl ?_
          refine sim_sub hC [0, 2, 3] ?_
          exact s_K_M_isAsHeard_70 hC a2 s.2 0 w
        · refine sim_blk0 hC [(.iconst 1, 0, 0, 0, 1)] [(0, vR 0), (1, vI s.1), (2, vI a2), (3, vI s.2)] [vI 1] w 66 (by decide +kernel) rfl rfl ?_
          refine sim_goto hC 4 70 (by decide +kernel) (by decide) ?_
          refine sim_sub hC [0, 2, 3] ?_
          exact s_K_M_isAsHeard_70 hC a2 s.2 1 w
noncomputable def B_M_isAsHeard_13 (s : Int32 × Int32 × Wld) : Option ((Int32 × Int32 × Wld) ⊕ (Int32 × Wld)) :=
  br ((20 : Int32) < s.2.1) (some (.inr ((s.1, s.2.2)))) (br (s.1 = 0) (some (.inr ((s.1, s.2.2)))) (bv (F_M_aNight s.2.2) (fun w2 => bl (loop (B_M_isAsHeard_29 s.2.1 w2) ((s.1, 0))) (fun r4 => bi (s.2.1 + 1) (fun i5 => some (.inl ((r4, i5, w2))))))))
set_option maxRecDepth 10000 in
theorem s_B_M_isAsHeard_13 {Z : ZT} {l : Launch} {o : Oc} {wo : Wld} {Ok : Cfg → Prop} (hC : Clo Z l 10 4 prog_13_method_88_code (some .boolean) 6 111 o wo Ok) (s : Int32 × Int32 × Wld) : SimK Ok (V_M_isAsHeard_13 s) (B_M_isAsHeard_13 s) (GLp Ok (V_M_isAsHeard_13) (GEp Ok (E_M_isAsHeard_13))) := by
  unfold B_M_isAsHeard_13
  show SimK Ok (13, [(0, vR 0), (1, vI s.1), (2, vI s.2.1)], [], s.2.2) _ _
  refine sim_blk0 hC [(.iload_n 2, 0, 0, 0, 0), (.bipush 20, 0, 0, 0, 20)] [(0, vR 0), (1, vI s.1), (2, vI s.2.1)] [vI 20, vI s.2.1] s.2.2 16 (by decide +kernel) rfl rfl ?_
  refine sim_br hC (.if_icmp .gt 81) 97 (by decide +kernel) rfl (by decide) ?_ ?_
  · refine sim_sub hC [0, 1] ?_
    exact sim_exit (E := (E_M_isAsHeard_13)) ((s.1, s.2.2))
  · refine sim_blk0 hC [(.iload_n 1, 0, 0, 0, 0)] [(0, vR 0), (1, vI s.1), (2, vI s.2.1)] [vI s.1] s.2.2 20 (by decide +kernel) rfl rfl ?_
    refine sim_br hC (.ifCond .eq 77) 97 (by decide +kernel) rfl (by decide) ?_ ?_
    · refine sim_sub hC [0, 1] ?_
      exact sim_exit (E := (E_M_isAsHeard_13)) ((s.1, s.2.2))
    · refine sim_blk0 hC [(.aload_n 0, 0, 0, 0, 0)] [(0, vR 0), (1, vI s.1), (2, vI s.2.1)] [vR 0] s.2.2 24 (by decide +kernel) rfl rfl ?_
      refine sim_vv hC 362 mX11_aNight 5 88 0 [] [] (by decide +kernel) ml_10_362 rfl rfl rfl rfl rfl rfl (fun wz hz => c_M_aNight s.2.2 wz hz) (fun w2 => ?_)
      refine sim_blk0 hC [(.iconst 0, 0, 0, 0, 0), (.istore_n 3, 0, 0, 0, 0)] [(0, vR 0), (1, vI s.1), (2, vI s.2.1), (3, vI 0)] [] w2 29 (by decide +kernel) rfl rfl ?_
      refine sim_bl (E := (E_M_isAsHeard_29 s.2.1 w2)) ?_ (fun r4 => ?_)
      · exact sim_loop (V := (V_M_isAsHeard_29 s.2.1 w2)) (fun sz => s_B_M_isAsHeard_29 hC s.2.1 w2 sz) ((s.1, 0))
      · show SimK Ok (91, [(0, vR 0), (1, vI r4), (2, vI s.2.1)], [], w2) _ _
        refine sim_blk0 hC [(.iinc 2 1, 0, 0, 0, 1)] [(0, vR 0), (1, vI r4), (2, vI (s.2.1 + 1))] [] w2 94 (by decide +kernel) rfl rfl ?_
        refine sim_bi (C := fun i5 => (94, [(0, vR 0), (1, vI r4), (2, vI i5)], [], w2)) (fun i5 => ?_)
        refine sim_goto hC (-81) 13 (by decide +kernel) (by decide) ?_
        exact sim_back (V := (V_M_isAsHeard_13)) ((r4, i5, w2))
noncomputable def F_M_isAsHeard (w : Wld) : Option (Int32 × Wld) :=
  bv (F_M_pack_30 w 0) (fun w1 => bl (loop (B_M_isAsHeard_13) ((1, 1, w1))) (fun r6 => bv (F_M_unpack_30 r6.2 0) (fun w7 => gd (r6.1 = 0 ∨ r6.1 = 1) (some ((r6.1, w7))))))
set_option maxRecDepth 10000 in
theorem s_M_isAsHeard {Z : ZT} {l : Launch} {o : Oc} {wo : Wld} {Ok : Cfg → Prop} (hC : Clo Z l 10 4 prog_13_method_88_code (some .boolean) 6 111 o wo Ok) (w : Wld) : SimK Ok (0, [(0, vR 0)], [], w) (F_M_isAsHeard w) (Gi o wo) := by
  unfold F_M_isAsHeard
  refine sim_blk0 hC [(.aload_n 0, 0, 0, 0, 0), (.aload_n 0, 0, 0, 0, 0), (.getfield 125, 0, 48, 32, 0), (.iconst 0, 0, 0, 0, 0)] [(0, vR 0)] [vI 0, vR 30, vR 0] w 6 (by decide +kernel) rfl rfl ?_
  refine sim_vv hC 379 mX11_pack 1 0 0 [vR 30, vI 0] [] (by decide +kernel) ml_10_379 rfl rfl rfl rfl rfl rfl (fun wz hz => c_M_pack_30 w 0 wz hz) (fun w1 => ?_)
  refine sim_blk0 hC [(.iconst 1, 0, 0, 0, 1), (.istore_n 1, 0, 0, 0, 0), (.iconst 1, 0, 0, 0, 1), (.istore_n 2, 0, 0, 0, 0)] [(0, vR 0), (1, vI 1), (2, vI 1)] [] w1 13 (by decide +kernel) rfl rfl ?_
  refine sim_bl (E := (E_M_isAsHeard_13)) ?_ (fun r6 => ?_)
  · exact sim_loop (V := (V_M_isAsHeard_13)) (fun sz => s_B_M_isAsHeard_13 hC sz) ((1, 1, w1))
  · show SimK Ok (97, [(0, vR 0), (1, vI r6.1)], [], r6.2) _ _
    refine sim_blk0 hC [(.aload_n 0, 0, 0, 0, 0), (.aload_n 0, 0, 0, 0, 0), (.getfield 125, 0, 48, 32, 0), (.iconst 0, 0, 0, 0, 0)] [(0, vR 0), (1, vI r6.1)] [vI 0, vR 30, vR 0] r6.2 103 (by decide +kernel) rfl rfl ?_
    refine sim_vv hC 401 mX11_unpack 1 0 0 [vR 30, vI 0] [] (by decide +kernel) ml_10_401 rfl rfl rfl rfl rfl rfl (fun wz hz => c_M_unpack_30 r6.2 0 wz hz) (fun w7 => ?_)
    refine sim_blk0 hC [(.iload_n 1, 0, 0, 0, 0)] [(0, vR 0), (1, vI r6.1)] [vI r6.1] w7 107 (by decide +kernel) rfl rfl ?_
    exact sim_retiz hC (by decide +kernel) rfl
theorem c_M_isAsHeard {Z : ZT} {l : Launch} (w : Wld) (r : Int32) (w1 : Wld) (h : F_M_isAsHeard w = some (r, w1)) : Con Z l mX11_isAsHeard 6 111 [vR 0] w (.inr (some r)) w1 :=
  Con_of (oc := 10) (by decide +kernel) rfl rfl (fun Ok hC => s_M_isAsHeard hC w (r, w1) h ⟨rfl, rfl⟩)
def V_M_tellFits_7 : (Int32 × Wld) → Cfg := fun s => (7, [(0, vR 0), (1, vI s.1)], [], s.2)
def E_M_tellFits_7 : (Wld) → Cfg := fun s => (98, [], [], s)
def V_M_tellFits_26 (a1 : Int32) (a2 : Int32) : (Int32 × Wld) → Cfg := fun s => (26, [(0, vR 0), (1, vI a1), (2, vI a2), (3, vI s.1)], [], s.2)
def E_M_tellFits_26 (a1 : Int32) (a2 : Int32) : (Wld) → Cfg := fun s => (85, [(0, vR 0), (1, vI a1), (2, vI a2)], [], s)
noncomputable def K_M_tellFits_79 (a1 : Int32) (a2 : Int32) (a3 : Int32) (w : Wld) : Option ((Int32 × Wld) ⊕ (Wld)) :=
  bi (a3 + 1) (fun i4 => some (.inl ((i4, w))))
set_option maxRecDepth 10000 in
theorem s_K_M_tellFits_79 {Z : ZT} {l : Launch} {o : Oc} {wo : Wld} {Ok : Cfg → Prop} (hC : Clo Z l 10 4 prog_13_method_89_code none 7 134 o wo Ok) (a1 : Int32) (a2 : Int32) (a3 : Int32) (w : Wld) : SimK Ok (79, [(0, vR 0), (1, vI a1), (2, vI a2), (3, vI a3)], [], w) (K_M_tellFits_79 a1 a2 a3 w) (GLp Ok (V_M_tellFits_26 a1 a2) (GEp Ok (E_M_tellFits_26 a1 a2))) := by
  unfold K_M_tellFits_79
  refine sim_blk0 hC [(.iinc 3 1, 0, 0, 0, 1)] [(0, vR 0), (1, vI a1), (2, vI a2), (3, vI (a3 + 1))] [] w 82 (by decide +kernel) rfl rfl ?_
  refine sim_bi (C := fun i4 => (82, [(0, vR 0), (1, vI a1), (2, vI a2), (3, vI i4)], [], w)) (fun i4 => ?_)
  refine sim_goto hC (-56) 26 (by decide +kernel) (by decide) ?_
  exact sim_back (V := (V_M_tellFits_26 a1 a2)) ((i4, w))
noncomputable def B_M_tellFits_26 (a1 : Int32) (a2 : Int32) (s : Int32 × Wld) : Option ((Int32 × Wld) ⊕ (Wld)) :=
  br ((10 : Int32) ≤ s.1) (some (.inr s.2)) (gd (vp_in a1 8) (bw (wup s.2 15 (Int32.toNatClampNeg a1) s.1) (fun w3 => br (s.1 = a2) (K_M_tellFits_79 a1 a2 s.1 w3) (bd (F_M_isAsHeard w3) (fun i5 w6 => br (¬ i5 = 0) (gd (vp_in (w6 0 52) 80) (bw (wup w6 32 (Int32.toNatClampNeg (w6 0 52)) (((10 : Int32) * a1) + s.1)) (fun w7 => bw (wup w7 0 52 ((w7 0 52) + (1 : Int32))) (fun w8 => K_M_tellFits_79 a1 a2 s.1 w8)))) (K_M_tellFits_79 a1 a2 s.1 w6))))))
set_option maxRecDepth 10000 in
theorem s_B_M_tellFits_26 {Z : ZT} {l : Launch} {o : Oc} {wo : Wld} {Ok : Cfg → Prop} (hC : Clo Z l 10 4 prog_13_method_89_code none 7 134 o wo Ok) (a1 : Int32) (a2 : Int32) (s : Int32 × Wld) : SimK Ok (V_M_tellFits_26 a1 a2 s) (B_M_tellFits_26 a1 a2 s) (GLp Ok (V_M_tellFits_26 a1 a2) (GEp Ok (E_M_tellFits_26 a1 a2))) := by
  unfold B_M_tellFits_26
  show SimK Ok (26, [(0, vR 0), (1, vI a1), (2, vI a2), (3, vI s.1)], [], s.2) _ _
  refine sim_blk0 hC [(.iload_n 3, 0, 0, 0, 0), (.bipush 10, 0, 0, 0, 10)] [(0, vR 0), (1, vI a1), (2, vI a2), (3, vI s.1)] [vI 10, vI s.1] s.2 29 (by decide +kernel) rfl rfl ?_
  refine sim_br hC (.if_icmp .ge 56) 85 (by decide +kernel) rfl (by decide) ?_ ?_
  · refine sim_sub hC [0, 1, 2] ?_
    exact sim_exit (E := (E_M_tellFits_26 a1 a2)) s.2
  · refine sim_blk1 hC [(.aload_n 0, 0, 0, 0, 0), (.getfield 81, 0, 25, 17, 0), (.iload_n 1, 0, 0, 0, 0), (.iload_n 3, 0, 0, 0, 0), (.iastore, 15, 8, 0, 0)] [(0, vR 0), (1, vI a1), (2, vI a2), (3, vI s.1)] [] (wup s.2 15 (Int32.toNatClampNeg a1) s.1) 39 (by decide +kernel) rfl rfl ?_
    refine sim_bw (C := fun w3 => (39, [(0, vR 0), (1, vI a1), (2, vI a2), (3, vI s.1)], [], w3)) (fun w3 => ?_)
    refine sim_blk0 hC [(.iload_n 3, 0, 0, 0, 0), (.iload_n 2, 0, 0, 0, 0)] [(0, vR 0), (1, vI a1), (2, vI a2), (3, vI s.1)] [vI a2, vI s.1] w3 41 (by decide +kernel) rfl rfl ?_
    refine sim_br hC (.if_icmp .eq 38) 79 (by decide +kernel) rfl (by decide) ?_ ?_
    · exact s_K_M_tellFits_79 hC a1 a2 s.1 w3
    · refine sim_blk0 hC [(.aload_n 0, 0, 0, 0, 0)] [(0, vR 0), (1, vI a1), (2, vI a2), (3, vI s.1)] [vR 0] w3 45 (by decide +kernel) rfl rfl ?_
      refine sim_vd hC 433 mX11_isAsHeard 6 111 0 [] [] (by decide +kernel) ml_10_433 rfl rfl rfl rfl rfl rfl (fun rz wz hz => c_M_isAsHeard w3 rz wz hz) (fun i5 w6 => ?_)
      refine sim_br hC (.ifCond .ne 6) 54 (by decide +kernel) rfl (by decide) ?_ ?_
      · refine sim_blk1 hC [(.aload_n 0, 0, 0, 0, 0), (.getfield 132, 0, 50, 34, 0), (.aload_n 0, 0, 0, 0, 0), (.getfield 430, 0, 52, 0, 0), (.bipush 10, 0, 0, 0, 10), (.iload_n 1, 0, 0, 0, 0), (.imul, 0, 0, 0, 0), (.iload_n 3, 0, 0, 0, 0), (.iadd, 0, 0, 0, 0), (.iastore, 32, 80, 0, 0)] [(0, vR 0), (1, vI a1), (2, vI a2), (3, vI s.1)] [] (wup w6 32 (Int32.toNatClampNeg (w6 0 52)) (((10 : Int32) * a1) + s.1)) 69 (by decide +kernel) rfl rfl ?_
        refine sim_bw (C := fun w7 => (69, [(0, vR 0), (1, vI a1), (2, vI a2), (3, vI s.1)], [], w7)) (fun w7 => ?_)
        refine sim_blk0 hC [(.aload_n 0, 0, 0, 0, 0), (.dup, 0, 0, 0, 0), (.getfield 430, 0, 52, 0, 0), (.iconst 1, 0, 0, 0, 1), (.iadd, 0, 0, 0, 0), (.putfield 430, 0, 52, 0, 0)] [(0, vR 0), (1, vI a1), (2, vI a2), (3, vI s.1)] [] (wup w7 0 52 ((w7 0 52) + (1 : Int32))) 79 (by decide +kernel) rfl rfl ?_
        refine sim_bw (C := fun w8 => (79, [(0, vR 0), (1, vI a1), (2, vI a2), (3, vI s.1)], [], w8)) (fun w8 => ?_)
        exact s_K_M_tellFits_79 hC a1 a2 s.1 w8
      · refine sim_goto hC 28 79 (by decide +kernel) (by decide) ?_
        exact s_K_M_tellFits_79 hC a1 a2 s.1 w6
noncomputable def B_M_tellFits_7 (s : Int32 × Wld) : Option ((Int32 × Wld) ⊕ (Wld)) :=
  gd (vp_in 1 10) (br ((s.2 3 (Int32.toNatClampNeg 1)) ≤ s.1) (some (.inr s.2)) (gd (vp_in s.1 8) (bi (s.2 15 (Int32.toNatClampNeg s.1)) (fun i2 => bl (loop (B_M_tellFits_26 s.1 i2) ((0, s.2))) (fun r9 => gd (vp_in s.1 8) (bw (wup r9 15 (Int32.toNatClampNeg s.1) i2) (fun w10 => bi (s.1 + 1) (fun i11 => some (.inl ((i11, w10)))))))))))
set_option maxRecDepth 10000 in
theorem s_B_M_tellFits_7 {Z : ZT} {l : Launch} {o : Oc} {wo : Wld} {Ok : Cfg → Prop} (hC : Clo Z l 10 4 prog_13_method_89_code none 7 134 o wo Ok) (s : Int32 × Wld) : SimK Ok (V_M_tellFits_7 s) (B_M_tellFits_7 s) (GLp Ok (V_M_tellFits_7) (GEp Ok (E_M_tellFits_7))) := by
  unfold B_M_tellFits_7
  show SimK Ok (7, [(0, vR 0), (1, vI s.1)], [], s.2) _ _
  refine sim_blk1 hC [(.iload_n 1, 0, 0, 0, 0), (.aload_n 0, 0, 0, 0, 0), (.getfield 42, 0, 3, 5, 0), (.iconst 1, 0, 0, 0, 1), (.iaload, 3, 10, 0, 0)] [(0, vR 0), (1, vI s.1)] [vI (s.2 3 (Int32.toNatClampNeg 1)), vI s.1] s.2 14 (by decide +kernel) rfl rfl ?_
  refine sim_br hC (.if_icmp .ge 84) 98 (by decide +kernel) rfl (by decide) ?_ ?_
  · refine sim_sub hC [] ?_
    exact sim_exit (E := (E_M_tellFits_7)) s.2
  · refine sim_blk1 hC [(.aload_n 0, 0, 0, 0, 0), (.getfield 81, 0, 25, 17, 0), (.iload_n 1, 0, 0, 0, 0), (.iaload, 15, 8, 0, 0), (.istore_n 2, 0, 0, 0, 0)] [(0, vR 0), (1, vI s.1), (2, vI (s.2 15 (Int32.toNatClampNeg s.1)))] [] s.2 24 (by decide +kernel) rfl rfl ?_
    refine sim_bi (C := fun i2 => (24, [(0, vR 0), (1, vI s.1), (2, vI i2)], [], s.2)) (fun i2 => ?_)
    refine sim_blk0 hC [(.iconst 0, 0, 0, 0, 0), (.istore_n 3, 0, 0, 0, 0)] [(0, vR 0), (1, vI s.1), (2, vI i2), (3, vI 0)] [] s.2 26 (by decide +kernel) rfl rfl ?_
    refine sim_bl (E := (E_M_tellFits_26 s.1 i2)) ?_ (fun r9 => ?_)
    · exact sim_loop (V := (V_M_tellFits_26 s.1 i2)) (fun sz => s_B_M_tellFits_26 hC s.1 i2 sz) ((0, s.2))
    · show SimK Ok (85, [(0, vR 0), (1, vI s.1), (2, vI i2)], [], r9) _ _
      refine sim_blk1 hC [(.aload_n 0, 0, 0, 0, 0), (.getfield 81, 0, 25, 17, 0), (.iload_n 1, 0, 0, 0, 0), (.iload_n 2, 0, 0, 0, 0), (.iastore, 15, 8, 0, 0)] [(0, vR 0), (1, vI s.1), (2, vI i2)] [] (wup r9 15 (Int32.toNatClampNeg s.1) i2) 92 (by decide +kernel) rfl rfl ?_
      refine sim_bw (C := fun w10 => (92, [(0, vR 0), (1, vI s.1), (2, vI i2)], [], w10)) (fun w10 => ?_)
      refine sim_blk0 hC [(.iinc 1 1, 0, 0, 0, 1)] [(0, vR 0), (1, vI (s.1 + 1)), (2, vI i2)] [] w10 95 (by decide +kernel) rfl rfl ?_
      refine sim_bi (C := fun i11 => (95, [(0, vR 0), (1, vI i11), (2, vI i2)], [], w10)) (fun i11 => ?_)
      refine sim_goto hC (-88) 7 (by decide +kernel) (by decide) ?_
      refine sim_sub hC [0, 1] ?_
      exact sim_back (V := (V_M_tellFits_7)) ((i11, w10))
noncomputable def F_M_tellFits (w : Wld) : Option (Wld) :=
  bw (wup w 0 52 0) (fun w1 => bl (loop (B_M_tellFits_7) ((0, w1))) (fun r12 => some r12))
set_option maxRecDepth 10000 in
theorem s_M_tellFits {Z : ZT} {l : Launch} {o : Oc} {wo : Wld} {Ok : Cfg → Prop} (hC : Clo Z l 10 4 prog_13_method_89_code none 7 134 o wo Ok) (w : Wld) : SimK Ok (0, [(0, vR 0)], [], w) (F_M_tellFits w) (Gv o wo) := by
  unfold F_M_tellFits
  refine sim_blk0 hC [(.aload_n 0, 0, 0, 0, 0), (.iconst 0, 0, 0, 0, 0), (.putfield 430, 0, 52, 0, 0)] [(0, vR 0)] [] (wup w 0 52 0) 5 (by decide +kernel) rfl rfl ?_
  refine sim_bw (C := fun w1 => (5, [(0, vR 0)], [], w1)) (fun w1 => ?_)
  refine sim_blk0 hC [(.iconst 0, 0, 0, 0, 0), (.istore_n 1, 0, 0, 0, 0)] [(0, vR 0), (1, vI 0)] [] w1 7 (by decide +kernel) rfl rfl ?_
  refine sim_bl (E := (E_M_tellFits_7)) ?_ (fun r12 => ?_)
  · exact sim_loop (V := (V_M_tellFits_7)) (fun sz => s_B_M_tellFits_7 hC sz) ((0, w1))
  · show SimK Ok (98, [], [], r12) _ _
    exact sim_retv hC (by decide +kernel)
theorem c_M_tellFits {Z : ZT} {l : Launch} (w : Wld) (w1 : Wld) (h : F_M_tellFits w = some w1) : Con Z l mX11_tellFits 7 134 [vR 0] w (.inr none) w1 :=
  Con_of (oc := 10) (by decide +kernel) rfl rfl (fun Ok hC => s_M_tellFits hC w w1 h ⟨rfl, rfl⟩)
noncomputable def K_M_eaten_73 (t0 : Int32) (w : Wld) : Option (Int32 × Wld) :=
  some ((t0, w))
set_option maxRecDepth 10000 in
theorem s_K_M_eaten_73 {Z : ZT} {l : Launch} {o : Oc} {wo : Wld} {Ok : Cfg → Prop} (hC : Clo Z l 10 2 prog_13_method_90_code (some .int) 8 157 o wo Ok) (t0 : Int32) (w : Wld) : SimK Ok (73, [], [vI t0], w) (K_M_eaten_73 t0 w) (Gi o wo) := by
  unfold K_M_eaten_73
  exact sim_reti hC (by decide +kernel) trivial
noncomputable def K_M_eaten_40 (t0 : Int32) (w : Wld) : Option (Int32 × Wld) :=
  some ((t0, w))
set_option maxRecDepth 10000 in
theorem s_K_M_eaten_40 {Z : ZT} {l : Launch} {o : Oc} {wo : Wld} {Ok : Cfg → Prop} (hC : Clo Z l 10 2 prog_13_method_90_code (some .int) 8 157 o wo Ok) (t0 : Int32) (w : Wld) : SimK Ok (40, [], [vI t0], w) (K_M_eaten_40 t0 w) (Gi o wo) := by
  unfold K_M_eaten_40
  exact sim_reti hC (by decide +kernel) trivial
noncomputable def F_M_eaten (w : Wld) (a1 : Int32) : Option (Int32 × Wld) :=
  bw (wup w 0 2 0) (fun w1 => bp (F_M_isIn w1 (Int32.toInt64 a1) (Int32.toInt64 0) (Int32.toInt64 2)) (fun i2 => br (¬ i2 = 0) (br (¬ a1 = 2) (bv (F_M_tellFits w1) (fun w3 => br (¬ a1 = 0) (br (¬ (w3 0 52) = 0) (gd (vp_in 0 80) (K_M_eaten_73 (w3 32 (Int32.toNatClampNeg 0)) w3)) (K_M_eaten_73 (-1) w3)) (K_M_eaten_73 (w3 0 52) w3))) (bd (F_M_isAsHeard w1) (fun i4 w5 => br (i4 = 0) (K_M_eaten_40 0 w5) (K_M_eaten_40 1 w5)))) (bd (F_M_fail w1 1) (fun i6 w7 => some ((i6, w7))))))
set_option maxRecDepth 10000 in
theorem s_M_eaten {Z : ZT} {l : Launch} {o : Oc} {wo : Wld} {Ok : Cfg → Prop} (hC : Clo Z l 10 2 prog_13_method_90_code (some .int) 8 157 o wo Ok) (w : Wld) (a1 : Int32) : SimK Ok (0, [(0, vR 0), (1, vI a1)], [], w) (F_M_eaten w a1) (Gi o wo) := by
  unfold F_M_eaten
  refine sim_blk0 hC [(.aload_n 0, 0, 0, 0, 0), (.iconst 0, 0, 0, 0, 0), (.putfield 159, 0, 2, 0, 0)] [(0, vR 0), (1, vI a1)] [] (wup w 0 2 0) 5 (by decide +kernel) rfl rfl ?_
  refine sim_bw (C := fun w1 => (5, [(0, vR 0), (1, vI a1)], [], w1)) (fun w1 => ?_)
  refine sim_blk0 hC [(.iload_n 1, 0, 0, 0, 0), (.i2l, 0, 0, 0, 0), (.lconst 0, 0, 0, 0, 0), (.ldc2_w 404, 0, 0, 0, 2)] [(0, vR 0), (1, vI a1)] [vL (Int32.toInt64 2), vL (Int32.toInt64 0), vL (Int32.toInt64 a1)] w1 11 (by decide +kernel) rfl rfl ?_
  refine sim_sp hC 162 mX11_isIn 1 0 [vL (Int32.toInt64 a1), vL (Int32.toInt64 0), vL (Int32.toInt64 2)] [] (by decide +kernel) ml_10_162 rfl rfl rfl rfl rfl (fun rz hz => c_M_isIn w1 (Int32.toInt64 a1) (Int32.toInt64 0) (Int32.toInt64 2) rz hz) (fun i2 => ?_)
  refine sim_br hC (.ifCond .ne 9) 23 (by decide +kernel) rfl (by decide) ?_ ?_
  · refine sim_blk0 hC [(.iload_n 1, 0, 0, 0, 0), (.iconst 2, 0, 0, 0, 2)] [(0, vR 0), (1, vI a1)] [vI 2, vI a1] w1 25 (by decide +kernel) rfl rfl ?_
    refine sim_br hC (.if_icmp .ne 16) 41 (by decide +kernel) rfl (by decide) ?_ ?_
    · refine sim_blk0 hC [(.aload_n 0, 0, 0, 0, 0)] [(0, vR 0), (1, vI a1)] [vR 0] w1 42 (by decide +kernel) rfl rfl ?_
      refine sim_vv hC 436 mX11_tellFits 7 134 0 [] [] (by decide +kernel) ml_10_436 rfl rfl rfl rfl rfl rfl (fun wz hz => c_M_tellFits w1 wz hz) (fun w3 => ?_)
      refine sim_blk0 hC [(.iload_n 1, 0, 0, 0, 0)] [(0, vR 0), (1, vI a1)] [vI a1] w3 46 (by decide +kernel) rfl rfl ?_
      refine sim_br hC (.ifCond .ne 10) 56 (by decide +kernel) rfl (by decide) ?_ ?_
      · refine sim_blk0 hC [(.aload_n 0, 0, 0, 0, 0), (.getfield 430, 0, 52, 0, 0)] [(0, vR 0), (1, vI a1)] [vI (w3 0 52)] w3 60 (by decide +kernel) rfl rfl ?_
        refine sim_br hC (.ifCond .ne 7) 67 (by decide +kernel) rfl (by decide) ?_ ?_
        · refine sim_blk1 hC [(.aload_n 0, 0, 0, 0, 0), (.getfield 132, 0, 50, 34, 0), (.iconst 0, 0, 0, 0, 0), (.iaload, 32, 80, 0, 0)] [(0, vR 0), (1, vI a1)] [vI (w3 32 (Int32.toNatClampNeg 0))] w3 73 (by decide +kernel) rfl rfl ?_
          refine sim_sub hC [] ?_
          exact s_K_M_eaten_73 hC (w3 32 (Int32.toNatClampNeg 0)) w3
        · refine sim_blk0 hC [(.iconst (-1), 0, 0, 0, (-1))] [(0, vR 0), (1, vI a1)] [vI (-1)] w3 64 (by decide +kernel) rfl rfl ?_
          refine sim_goto hC 9 73 (by decide +kernel) (by decide) ?_
          refine sim_sub hC [] ?_
          exact s_K_M_eaten_73 hC (-1) w3
      · refine sim_blk0 hC [(.aload_n 0, 0, 0, 0, 0), (.getfield 430, 0, 52, 0, 0)] [(0, vR 0), (1, vI a1)] [vI (w3 0 52)] w3 53 (by decide +kernel) rfl rfl ?_
        refine sim_goto hC 20 73 (by decide +kernel) (by decide) ?_
        refine sim_sub hC [] ?_
        exact s_K_M_eaten_73 hC (w3 0 52) w3
    · refine sim_blk0 hC [(.aload_n 0, 0, 0, 0, 0)] [(0, vR 0), (1, vI a1)] [vR 0] w1 29 (by decide +kernel) rfl rfl ?_
      refine sim_vd hC 433 mX11_isAsHeard 6 111 0 [] [] (by decide +kernel) ml_10_433 rfl rfl rfl rfl rfl rfl (fun rz wz hz => c_M_isAsHeard w1 rz wz hz) (fun i4 w5 => ?_)
      refine sim_br hC (.ifCond .eq 7) 39 (by decide +kernel) rfl (by decide) ?_ ?_
      · refine sim_blk0 hC [(.iconst 0, 0, 0, 0, 0)] [(0, vR 0), (1, vI a1)] [vI 0] w5 40 (by decide +kernel) rfl rfl ?_
        refine sim_sub hC [] ?_
        exact s_K_M_eaten_40 hC 0 w5
      · refine sim_blk0 hC [(.iconst 1, 0, 0, 0, 1)] [(0, vR 0), (1, vI a1)] [vI 1] w5 36 (by decide +kernel) rfl rfl ?_
        refine sim_goto hC 4 40 (by decide +kernel) (by decide) ?_
        refine sim_sub hC [] ?_
        exact s_K_M_eaten_40 hC 1 w5
  · refine sim_blk0 hC [(.aload_n 0, 0, 0, 0, 0), (.iconst 1, 0, 0, 0, 1)] [(0, vR 0), (1, vI a1)] [vI 1, vR 0] w1 19 (by decide +kernel) rfl rfl ?_
    refine sim_vd hC 292 mX11_fail 1 0 0 [vI 1] [] (by decide +kernel) ml_10_292 rfl rfl rfl rfl rfl rfl (fun rz wz hz => c_M_fail w1 1 rz wz hz) (fun i6 w7 => ?_)
    exact sim_reti hC (by decide +kernel) trivial
theorem c_M_eaten {Z : ZT} {l : Launch} (w : Wld) (a1 : Int32) (r : Int32) (w1 : Wld) (h : F_M_eaten w a1 = some (r, w1)) : Con Z l mX11_eaten 8 157 [vR 0, vI a1] w (.inr (some r)) w1 :=
  Con_of (oc := 10) (by decide +kernel) rfl rfl (fun Ok hC => s_M_eaten hC w a1 (r, w1) h ⟨rfl, rfl⟩)
def V_M_unlike_4 (a1 : Int32) (w : Wld) : (Int32 × Int32) → Cfg := fun s => (4, [(0, vR 0), (1, vI a1), (2, vI s.1), (3, vI s.2)], [], w)
def E_M_unlike_4 (a1 : Int32) (w : Wld) : (Int32) → Cfg := fun s => (87, [(2, vI s)], [], w)
def V_M_unlike_18 (a1 : Int32) (a2 : Int32) (a3 : Int32) (w : Wld) : (Int32 × Int32) → Cfg := fun s => (18, [(0, vR 0), (1, vI a1), (2, vI a2), (3, vI a3), (4, vI s.1), (5, vI s.2)], [], w)
def E_M_unlike_18 (a1 : Int32) (a2 : Int32) (a3 : Int32) (w : Wld) : (Int32) → Cfg := fun s => (68, [(0, vR 0), (1, vI a1), (2, vI a2), (3, vI a3), (4, vI s)], [], w)
noncomputable def K_M_unlike_60 (a1 : Int32) (a2 : Int32) (a3 : Int32) (a5 : Int32) (t0 : Int32) (w : Wld) : Option ((Int32 × Int32) ⊕ (Int32)) :=
  bi (a5 + 1) (fun i1 => some (.inl ((t0, i1))))
set_option maxRecDepth 10000 in
theorem s_K_M_unlike_60 {Z : ZT} {l : Launch} {o : Oc} {wo : Wld} {Ok : Cfg → Prop} (hC : Clo Z l 10 6 prog_13_method_91_code (some .int) 1 0 o wo Ok) (a1 : Int32) (a2 : Int32) (a3 : Int32) (a5 : Int32) (t0 : Int32) (w : Wld) : SimK Ok (60, [(0, vR 0), (1, vI a1), (2, vI a2), (3, vI a3), (5, vI a5)], [vI t0], w) (K_M_unlike_60 a1 a2 a3 a5 t0 w) (GLp Ok (V_M_unlike_18 a1 a2 a3 w) (GEp Ok (E_M_unlike_18 a1 a2 a3 w))) := by
  unfold K_M_unlike_60
  refine sim_blk0 hC [(.istore 4, 0, 0, 0, 0), (.iinc 5 1, 0, 0, 0, 1)] [(0, vR 0), (1, vI a1), (2, vI a2), (3, vI a3), (4, vI t0), (5, vI (a5 + 1))] [] w 65 (by decide +kernel) rfl rfl ?_
  refine sim_bi (C := fun i1 => (65, [(0, vR 0), (1, vI a1), (2, vI a2), (3, vI a3), (4, vI t0), (5, vI i1)], [], w)) (fun i1 => ?_)
  refine sim_goto hC (-47) 18 (by decide +kernel) (by decide) ?_
  exact sim_back (V := (V_M_unlike_18 a1 a2 a3 w)) ((t0, i1))
noncomputable def B_M_unlike_18 (a1 : Int32) (a2 : Int32) (a3 : Int32) (w : Wld) (s : Int32 × Int32) : Option ((Int32 × Int32) ⊕ (Int32)) :=
  br (a3 ≤ s.2) (some (.inr s.1)) (br (s.1 = 0) (some (.inr s.1)) (gd (vp_in (((20 : Int32) * s.2) + a1) 1600) (gd (vp_in (((20 : Int32) * a3) + a1) 1600) (br ((w 33 (Int32.toNatClampNeg (((20 : Int32) * s.2) + a1))) = (w 33 (Int32.toNatClampNeg (((20 : Int32) * a3) + a1)))) (K_M_unlike_60 a1 a2 a3 s.2 0 w) (K_M_unlike_60 a1 a2 a3 s.2 1 w)))))
set_option maxRecDepth 10000 in
theorem s_B_M_unlike_18 {Z : ZT} {l : Launch} {o : Oc} {wo : Wld} {Ok : Cfg → Prop} (hC : Clo Z l 10 6 prog_13_method_91_code (some .int) 1 0 o wo Ok) (a1 : Int32) (a2 : Int32) (a3 : Int32) (w : Wld) (s : Int32 × Int32) : SimK Ok (V_M_unlike_18 a1 a2 a3 w s) (B_M_unlike_18 a1 a2 a3 w s) (GLp Ok (V_M_unlike_18 a1 a2 a3 w) (GEp Ok (E_M_unlike_18 a1 a2 a3 w))) := by
  unfold B_M_unlike_18
  show SimK Ok (18, [(0, vR 0), (1, vI a1), (2, vI a2), (3, vI a3), (4, vI s.1), (5, vI s.2)], [], w) _ _
  refine sim_blk0 hC [(.iload 5, 0, 0, 0, 0), (.iload_n 3, 0, 0, 0, 0)] [(0, vR 0), (1, vI a1), (2, vI a2), (3, vI a3), (4, vI s.1), (5, vI s.2)] [vI a3, vI s.2] w 21 (by decide +kernel) rfl rfl ?_
  refine sim_br hC (.if_icmp .ge 47) 68 (by decide +kernel) rfl (by decide) ?_ ?_
  · refine sim_sub hC [0, 1, 2, 3, 4] ?_
    exact sim_exit (E := (E_M_unlike_18 a1 a2 a3 w)) s.1
  · refine sim_blk0 hC [(.iload 4, 0, 0, 0, 0)] [(0, vR 0), (1, vI a1), (2, vI a2), (3, vI a3), (4, vI s.1), (5, vI s.2)] [vI s.1] w 26 (by decide +kernel) rfl rfl ?_
    refine sim_br hC (.ifCond .eq 42) 68 (by decide +kernel) rfl (by decide) ?_ ?_
    · refine sim_sub hC [0, 1, 2, 3, 4] ?_
      exact sim_exit (E := (E_M_unlike_18 a1 a2 a3 w)) s.1
    · refine sim_blk2 hC [(.aload_n 0, 0, 0, 0, 0), (.getfield 135, 0, 51, 35, 0), (.bipush 20, 0, 0, 0, 20), (.iload 5, 0, 0, 0, 0), (.imul, 0, 0, 0, 0), (.iload_n 1, 0, 0, 0, 0), (.iadd, 0, 0, 0, 0), (.iaload, 33, 1600, 0, 0), (.aload_n 0, 0, 0, 0, 0), (.getfield 135, 0, 51, 35, 0), (.bipush 20, 0, 0, 0, 20), (.iload_n 3, 0, 0, 0, 0), (.imul, 0, 0, 0, 0), (.iload_n 1, 0, 0, 0, 0), (.iadd, 0, 0, 0, 0), (.iaload, 33, 1600, 0, 0)] [(0, vR 0), (1, vI a1), (2, vI a2), (3, vI a3), (4, vI s.1), (5, vI s.2)] [vI (w 33 (Int32.toNatClampNeg (((20 : Int32) * a3) + a1))), vI (w 33 (Int32.toNatClampNeg (((20 : Int32) * s.2) + a1)))] w 52 (by decide +kernel) rfl rfl ?_
      refine sim_br hC (.if_icmp .eq 7) 59 (by decide +kernel) rfl (by decide) ?_ ?_
      · refine sim_blk0 hC [(.iconst 0, 0, 0, 0, 0)] [(0, vR 0), (1, vI a1), (2, vI a2), (3, vI a3), (4, vI s.1), (5, vI s.2)] [vI 0] w 60 (by decide +kernel) rfl rfl ?_
        refine sim_sub hC [0, 1, 2, 3, 5] ?_
        exact s_K_M_unlike_60 hC a1 a2 a3 s.2 0 w
      · refine sim_blk0 hC [(.iconst 1, 0, 0, 0, 1)] [(0, vR 0), (1, vI a1), (2, vI a2), (3, vI a3), (4, vI s.1), (5, vI s.2)] [vI 1] w 56 (by decide +kernel) rfl rfl ?_
        refine sim_goto hC 4 60 (by decide +kernel) (by decide) ?_
        refine sim_sub hC [0, 1, 2, 3, 5] ?_
        exact s_K_M_unlike_60 hC a1 a2 a3 s.2 1 w
noncomputable def K_M_unlike_79 (a1 : Int32) (a3 : Int32) (t0 : Int32) (t1 : Int32) (w : Wld) : Option ((Int32 × Int32) ⊕ (Int32)) :=
  bi (t0 + t1) (fun i3 => bi (a3 + 1) (fun i4 => some (.inl ((i3, i4)))))
set_option maxRecDepth 10000 in
theorem s_K_M_unlike_79 {Z : ZT} {l : Launch} {o : Oc} {wo : Wld} {Ok : Cfg → Prop} (hC : Clo Z l 10 6 prog_13_method_91_code (some .int) 1 0 o wo Ok) (a1 : Int32) (a3 : Int32) (t0 : Int32) (t1 : Int32) (w : Wld) : SimK Ok (79, [(0, vR 0), (1, vI a1), (3, vI a3)], [vI t1, vI t0], w) (K_M_unlike_79 a1 a3 t0 t1 w) (GLp Ok (V_M_unlike_4 a1 w) (GEp Ok (E_M_unlike_4 a1 w))) := by
  unfold K_M_unlike_79
  refine sim_blk0 hC [(.iadd, 0, 0, 0, 0), (.istore_n 2, 0, 0, 0, 0)] [(0, vR 0), (1, vI a1), (2, vI (t0 + t1)), (3, vI a3)] [] w 81 (by decide +kernel) rfl rfl ?_
  refine sim_bi (C := fun i3 => (81, [(0, vR 0), (1, vI a1), (2, vI i3), (3, vI a3)], [], w)) (fun i3 => ?_)
  refine sim_blk0 hC [(.iinc 3 1, 0, 0, 0, 1)] [(0, vR 0), (1, vI a1), (2, vI i3), (3, vI (a3 + 1))] [] w 84 (by decide +kernel) rfl rfl ?_
  refine sim_bi (C := fun i4 => (84, [(0, vR 0), (1, vI a1), (2, vI i3), (3, vI i4)], [], w)) (fun i4 => ?_)
  refine sim_goto hC (-80) 4 (by decide +kernel) (by decide) ?_
  exact sim_back (V := (V_M_unlike_4 a1 w)) ((i3, i4))
noncomputable def B_M_unlike_4 (a1 : Int32) (w : Wld) (s : Int32 × Int32) : Option ((Int32 × Int32) ⊕ (Int32)) :=
  br ((w 0 52) ≤ s.2) (some (.inr s.1)) (bl (loop (B_M_unlike_18 a1 s.1 s.2 w) ((1, 0))) (fun r2 => br (r2 = 0) (K_M_unlike_79 a1 s.2 s.1 0 w) (K_M_unlike_79 a1 s.2 s.1 1 w)))
set_option maxRecDepth 10000 in
theorem s_B_M_unlike_4 {Z : ZT} {l : Launch} {o : Oc} {wo : Wld} {Ok : Cfg → Prop} (hC : Clo Z l 10 6 prog_13_method_91_code (some .int) 1 0 o wo Ok) (a1 : Int32) (w : Wld) (s : Int32 × Int32) : SimK Ok (V_M_unlike_4 a1 w s) (B_M_unlike_4 a1 w s) (GLp Ok (V_M_unlike_4 a1 w) (GEp Ok (E_M_unlike_4 a1 w))) := by
  unfold B_M_unlike_4
  show SimK Ok (4, [(0, vR 0), (1, vI a1), (2, vI s.1), (3, vI s.2)], [], w) _ _
  refine sim_blk0 hC [(.iload_n 3, 0, 0, 0, 0), (.aload_n 0, 0, 0, 0, 0), (.getfield 430, 0, 52, 0, 0)] [(0, vR 0), (1, vI a1), (2, vI s.1), (3, vI s.2)] [vI (w 0 52), vI s.2] w 9 (by decide +kernel) rfl rfl ?_
  refine sim_br hC (.if_icmp .ge 78) 87 (by decide +kernel) rfl (by decide) ?_ ?_
  · refine sim_sub hC [2] ?_
    exact sim_exit (E := (E_M_unlike_4 a1 w)) s.1
  · refine sim_blk0 hC [(.iconst 1, 0, 0, 0, 1), (.istore 4, 0, 0, 0, 0), (.iconst 0, 0, 0, 0, 0), (.istore 5, 0, 0, 0, 0)] [(0, vR 0), (1, vI a1), (2, vI s.1), (3, vI s.2), (4, vI 1), (5, vI 0)] [] w 18 (by decide +kernel) rfl rfl ?_
    refine sim_bl (E := (E_M_unlike_18 a1 s.1 s.2 w)) ?_ (fun r2 => ?_)
    · exact sim_loop (V := (V_M_unlike_18 a1 s.1 s.2 w)) (fun sz => s_B_M_unlike_18 hC a1 s.1 s.2 w sz) ((1, 0))
    · show SimK Ok (68, [(0, vR 0), (1, vI a1), (2, vI s.1), (3, vI s.2), (4, vI r2)], [], w) _ _
      refine sim_blk0 hC [(.iload_n 2, 0, 0, 0, 0), (.iload 4, 0, 0, 0, 0)] [(0, vR 0), (1, vI a1), (2, vI s.1), (3, vI s.2), (4, vI r2)] [vI r2, vI s.1] w 71 (by decide +kernel) rfl rfl ?_
      refine sim_br hC (.ifCond .eq 7) 78 (by decide +kernel) rfl (by decide) ?_ ?_
      · refine sim_blk0 hC [(.iconst 0, 0, 0, 0, 0)] [(0, vR 0), (1, vI a1), (2, vI s.1), (3, vI s.2), (4, vI r2)] [vI 0, vI s.1] w 79 (by decide +kernel) rfl rfl ?_
        refine sim_sub hC [0, 1, 3] ?_
        exact s_K_M_unlike_79 hC a1 s.2 s.1 0 w
      · refine sim_blk0 hC [(.iconst 1, 0, 0, 0, 1)] [(0, vR 0), (1, vI a1), (2, vI s.1), (3, vI s.2), (4, vI r2)] [vI 1, vI s.1] w 75 (by decide +kernel) rfl rfl ?_
        refine sim_goto hC 4 79 (by decide +kernel) (by decide) ?_
        refine sim_sub hC [0, 1, 3] ?_
        exact s_K_M_unlike_79 hC a1 s.2 s.1 1 w
noncomputable def F_M_unlike (w : Wld) (a1 : Int32) : Option (Int32) :=
  bl (loop (B_M_unlike_4 a1 w) ((0, 0))) (fun r5 => some r5)
set_option maxRecDepth 10000 in
theorem s_M_unlike {Z : ZT} {l : Launch} {o : Oc} {wo : Wld} {Ok : Cfg → Prop} (hC : Clo Z l 10 6 prog_13_method_91_code (some .int) 1 0 o wo Ok) (w : Wld) (a1 : Int32) : SimK Ok (0, [(0, vR 0), (1, vI a1)], [], w) (F_M_unlike w a1) (Gp o wo w) := by
  unfold F_M_unlike
  refine sim_blk0 hC [(.iconst 0, 0, 0, 0, 0), (.istore_n 2, 0, 0, 0, 0), (.iconst 0, 0, 0, 0, 0), (.istore_n 3, 0, 0, 0, 0)] [(0, vR 0), (1, vI a1), (2, vI 0), (3, vI 0)] [] w 4 (by decide +kernel) rfl rfl ?_
  refine sim_bl (E := (E_M_unlike_4 a1 w)) ?_ (fun r5 => ?_)
  · exact sim_loop (V := (V_M_unlike_4 a1 w)) (fun sz => s_B_M_unlike_4 hC a1 w sz) ((0, 0))
  · show SimK Ok (87, [(2, vI r5)], [], w) _ _
    refine sim_blk0 hC [(.iload_n 2, 0, 0, 0, 0)] [(2, vI r5)] [vI r5] w 88 (by decide +kernel) rfl rfl ?_
    exact sim_retp hC (by decide +kernel) trivial
theorem c_M_unlike {Z : ZT} {l : Launch} (w : Wld) (a1 : Int32) (r : Int32) (h : F_M_unlike w a1 = some r) : Con Z l mX11_unlike 1 0 [vR 0, vI a1] w (.inr (some r)) w :=
  Con_of (oc := 10) (by decide +kernel) rfl rfl (fun Ok hC => s_M_unlike hC w a1 r h ⟨rfl, rfl⟩)
noncomputable def K_M_listen_14 (w : Wld) : Option (Int32 × Wld) :=
  bd (F_M_fail w 1) (fun i2 w3 => some ((i2, w3)))
set_option maxRecDepth 10000 in
theorem s_K_M_listen_14 {Z : ZT} {l : Launch} {o : Oc} {wo : Wld} {Ok : Cfg → Prop} (hC : Clo Z l 10 6 prog_13_method_92_code (some .int) 8 157 o wo Ok) (w : Wld) : SimK Ok (14, [(0, vR 0)], [], w) (K_M_listen_14 w) (Gi o wo) := by
  unfold K_M_listen_14
  refine sim_blk0 hC [(.aload_n 0, 0, 0, 0, 0), (.iconst 1, 0, 0, 0, 1)] [(0, vR 0)] [vI 1, vR 0] w 16 (by decide +kernel) rfl rfl ?_
  refine sim_vd hC 292 mX11_fail 1 0 0 [vI 1] [] (by decide +kernel) ml_10_292 rfl rfl rfl rfl rfl rfl (fun rz wz hz => c_M_fail w 1 rz wz hz) (fun i2 w3 => ?_)
  exact sim_reti hC (by decide +kernel) trivial
def V_M_listen_26 (a1 : Int32) : (Int32 × Wld) → Cfg := fun s => (26, [(0, vR 0), (1, vI a1), (2, vI s.1)], [], s.2)
def E_M_listen_26 (a1 : Int32) : (Wld) → Cfg := fun s => (114, [(0, vR 0), (1, vI a1)], [], s)
def V_M_listen_68 (a1 : Int32) (a2 : Int32) : (Int32 × Wld) → Cfg := fun s => (68, [(0, vR 0), (1, vI a1), (2, vI a2), (3, vI s.1)], [], s.2)
def E_M_listen_68 (a1 : Int32) (a2 : Int32) : (Wld) → Cfg := fun s => (99, [(0, vR 0), (1, vI a1), (2, vI a2)], [], s)
noncomputable def B_M_listen_68 (a1 : Int32) (a2 : Int32) (s : Int32 × Wld) : Option ((Int32 × Wld) ⊕ (Wld)) :=
  br ((20 : Int32) ≤ s.1) (some (.inr s.2)) (bv (F_M_aNight s.2) (fun w7 => gd (vp_in (((20 : Int32) * a2) + s.1) 1600) (bw (wup w7 33 (Int32.toNatClampNeg (((20 : Int32) * a2) + s.1)) (w7 0 38)) (fun w8 => bi (s.1 + 1) (fun i9 => some (.inl ((i9, w8))))))))
set_option maxRecDepth 10000 in
theorem s_B_M_listen_68 {Z : ZT} {l : Launch} {o : Oc} {wo : Wld} {Ok : Cfg → Prop} (hC : Clo Z l 10 6 prog_13_method_92_code (some .int) 8 157 o wo Ok) (a1 : Int32) (a2 : Int32) (s : Int32 × Wld) : SimK Ok (V_M_listen_68 a1 a2 s) (B_M_listen_68 a1 a2 s) (GLp Ok (V_M_listen_68 a1 a2) (GEp Ok (E_M_listen_68 a1 a2))) := by
  unfold B_M_listen_68
  show SimK Ok (68, [(0, vR 0), (1, vI a1), (2, vI a2), (3, vI s.1)], [], s.2) _ _
  refine sim_blk0 hC [(.iload_n 3, 0, 0, 0, 0), (.bipush 20, 0, 0, 0, 20)] [(0, vR 0), (1, vI a1), (2, vI a2), (3, vI s.1)] [vI 20, vI s.1] s.2 71 (by decide +kernel) rfl rfl ?_
  refine sim_br hC (.if_icmp .ge 28) 99 (by decide +kernel) rfl (by decide) ?_ ?_
  · refine sim_sub hC [0, 1, 2] ?_
    exact sim_exit (E := (E_M_listen_68 a1 a2)) s.2
  · refine sim_blk0 hC [(.aload_n 0, 0, 0, 0, 0)] [(0, vR 0), (1, vI a1), (2, vI a2), (3, vI s.1)] [vR 0] s.2 75 (by decide +kernel) rfl rfl ?_
    refine sim_vv hC 362 mX11_aNight 5 88 0 [] [] (by decide +kernel) ml_10_362 rfl rfl rfl rfl rfl rfl (fun wz hz => c_M_aNight s.2 wz hz) (fun w7 => ?_)
    refine sim_blk1 hC [(.aload_n 0, 0, 0, 0, 0), (.getfield 135, 0, 51, 35, 0), (.bipush 20, 0, 0, 0, 20), (.iload_n 2, 0, 0, 0, 0), (.imul, 0, 0, 0, 0), (.iload_n 3, 0, 0, 0, 0), (.iadd, 0, 0, 0, 0), (.aload_n 0, 0, 0, 0, 0), (.getfield 344, 0, 38, 0, 0), (.iastore, 33, 1600, 0, 0)] [(0, vR 0), (1, vI a1), (2, vI a2), (3, vI s.1)] [] (wup w7 33 (Int32.toNatClampNeg (((20 : Int32) * a2) + s.1)) (w7 0 38)) 93 (by decide +kernel) rfl rfl ?_
    refine sim_bw (C := fun w8 => (93, [(0, vR 0), (1, vI a1), (2, vI a2), (3, vI s.1)], [], w8)) (fun w8 => ?_)
    refine sim_blk0 hC [(.iinc 3 1, 0, 0, 0, 1)] [(0, vR 0), (1, vI a1), (2, vI a2), (3, vI (s.1 + 1))] [] w8 96 (by decide +kernel) rfl rfl ?_
    refine sim_bi (C := fun i9 => (96, [(0, vR 0), (1, vI a1), (2, vI a2), (3, vI i9)], [], w8)) (fun i9 => ?_)
    refine sim_goto hC (-28) 68 (by decide +kernel) (by decide) ?_
    exact sim_back (V := (V_M_listen_68 a1 a2)) ((i9, w8))
noncomputable def B_M_listen_26 (a1 : Int32) (s : Int32 × Wld) : Option ((Int32 × Wld) ⊕ (Wld)) :=
  br ((s.2 0 52) ≤ s.1) (some (.inr s.2)) (bv (F_M_pack_24 s.2 0) (fun w5 => gd (vp_in s.1 80) (gd (¬ (10 : Int32) = 0) (gd (vp_in s.1 80) (gd (¬ (10 : Int32) = 0) (gd (vp_in ((w5 32 (Int32.toNatClampNeg s.1)) / (10 : Int32)) 8) (bw (wup w5 15 (Int32.toNatClampNeg ((w5 32 (Int32.toNatClampNeg s.1)) / (10 : Int32))) ((w5 32 (Int32.toNatClampNeg s.1)) - (w5 32 (Int32.toNatClampNeg s.1)) / (10 : Int32) * (10 : Int32))) (fun w6 => bl (loop (B_M_listen_68 a1 s.1) ((0, w6))) (fun r10 => bv (F_M_unpack_24 r10 0) (fun w11 => bi (s.1 + 1) (fun i12 => some (.inl ((i12, w11))))))))))))))
set_option maxRecDepth 10000 in
theorem s_B_M_listen_26 {Z : ZT} {l : Launch} {o : Oc} {wo : Wld} {Ok : Cfg → Prop} (hC : Clo Z l 10 6 prog_13_method_92_code (some .int) 8 157 o wo Ok) (a1 : Int32) (s : Int32 × Wld) : SimK Ok (V_M_listen_26 a1 s) (B_M_listen_26 a1 s) (GLp Ok (V_M_listen_26 a1) (GEp Ok (E_M_listen_26 a1))) := by
  unfold B_M_listen_26
  show SimK Ok (26, [(0, vR 0), (1, vI a1), (2, vI s.1)], [], s.2) _ _
  refine sim_blk0 hC [(.iload_n 2, 0, 0, 0, 0), (.aload_n 0, 0, 0, 0, 0), (.getfield 430, 0, 52, 0, 0)] [(0, vR 0), (1, vI a1), (2, vI s.1)] [vI (s.2 0 52), vI s.1] s.2 31 (by decide +kernel) rfl rfl ?_
  refine sim_br hC (.if_icmp .ge 83) 114 (by decide +kernel) rfl (by decide) ?_ ?_
  · refine sim_sub hC [0, 1] ?_
    exact sim_exit (E := (E_M_listen_26 a1)) s.2
  · refine sim_blk0 hC [(.aload_n 0, 0, 0, 0, 0), (.aload_n 0, 0, 0, 0, 0), (.getfield 107, 0, 42, 26, 0), (.iconst 0, 0, 0, 0, 0)] [(0, vR 0), (1, vI a1), (2, vI s.1)] [vI 0, vR 24, vR 0] s.2 40 (by decide +kernel) rfl rfl ?_
    refine sim_vv hC 379 mX11_pack 1 0 0 [vR 24, vI 0] [] (by decide +kernel) ml_10_379 rfl rfl rfl rfl rfl rfl (fun wz hz => c_M_pack_24 s.2 0 wz hz) (fun w5 => ?_)
    refine sim_blk3 hC [(.aload_n 0, 0, 0, 0, 0), (.getfield 81, 0, 25, 17, 0), (.aload_n 0, 0, 0, 0, 0), (.getfield 132, 0, 50, 34, 0), (.iload_n 2, 0, 0, 0, 0), (.iaload, 32, 80, 0, 0), (.bipush 10, 0, 0, 0, 10), (.idiv, 0, 0, 0, 0), (.aload_n 0, 0, 0, 0, 0), (.getfield 132, 0, 50, 34, 0), (.iload_n 2, 0, 0, 0, 0), (.iaload, 32, 80, 0, 0)] [(0, vR 0), (1, vI a1), (2, vI s.1)] [vI (w5 32 (Int32.toNatClampNeg s.1)), vI ((w5 32 (Int32.toNatClampNeg s.1)) / (10 : Int32)), vR 15] w5 62 (by decide +kernel) rfl rfl ?_
    refine sim_blk2 hC [(.bipush 10, 0, 0, 0, 10), (.irem, 0, 0, 0, 0), (.iastore, 15, 8, 0, 0)] [(0, vR 0), (1, vI a1), (2, vI s.1)] [] (wup w5 15 (Int32.toNatClampNeg ((w5 32 (Int32.toNatClampNeg s.1)) / (10 : Int32))) ((w5 32 (Int32.toNatClampNeg s.1)) - (w5 32 (Int32.toNatClampNeg s.1)) / (10 : Int32) * (10 : Int32))) 66 (by decide +kernel) rfl rfl ?_
    refine sim_bw (C := fun w6 => (66, [(0, vR 0), (1, vI a1), (2, vI s.1)], [], w6)) (fun w6 => ?_)
    refine sim_blk0 hC [(.iconst 0, 0, 0, 0, 0), (.istore_n 3, 0, 0, 0, 0)] [(0, vR 0), (1, vI a1), (2, vI s.1), (3, vI 0)] [] w6 68 (by decide +kernel) rfl rfl ?_
    refine sim_bl (E := (E_M_listen_68 a1 s.1)) ?_ (fun r10 => ?_)
    · exact sim_loop (V := (V_M_listen_68 a1 s.1)) (fun sz => s_B_M_listen_68 hC a1 s.1 sz) ((0, w6))
    · show SimK Ok (99, [(0, vR 0), (1, vI a1), (2, vI s.1)], [], r10) _ _
      refine sim_blk0 hC [(.aload_n 0, 0, 0, 0, 0), (.aload_n 0, 0, 0, 0, 0), (.getfield 107, 0, 42, 26, 0), (.iconst 0, 0, 0, 0, 0)] [(0, vR 0), (1, vI a1), (2, vI s.1)] [vI 0, vR 24, vR 0] r10 105 (by decide +kernel) rfl rfl ?_
      refine sim_vv hC 401 mX11_unpack 1 0 0 [vR 24, vI 0] [] (by decide +kernel) ml_10_401 rfl rfl rfl rfl rfl rfl (fun wz hz => c_M_unpack_24 r10 0 wz hz) (fun w11 => ?_)
      refine sim_blk0 hC [(.iinc 2 1, 0, 0, 0, 1)] [(0, vR 0), (1, vI a1), (2, vI (s.1 + 1))] [] w11 111 (by decide +kernel) rfl rfl ?_
      refine sim_bi (C := fun i12 => (111, [(0, vR 0), (1, vI a1), (2, vI i12)], [], w11)) (fun i12 => ?_)
      refine sim_goto hC (-85) 26 (by decide +kernel) (by decide) ?_
      exact sim_back (V := (V_M_listen_26 a1)) ((i12, w11))
def V_M_listen_121 (a1 : Int32) (w : Wld) : (Int32 × Int32 × Int32) → Cfg := fun s => (121, [(0, vR 0), (1, vI a1), (2, vI s.1), (3, vI s.2.1), (4, vI s.2.2)], [], w)
def E_M_listen_121 (a1 : Int32) (w : Wld) : (Int32 × Int32) → Cfg := fun s => (159, [(1, vI a1), (2, vI s.1), (3, vI s.2)], [], w)
noncomputable def K_M_listen_153 (a1 : Int32) (a2 : Int32) (a3 : Int32) (a4 : Int32) (w : Wld) : Option ((Int32 × Int32 × Int32) ⊕ (Int32 × Int32)) :=
  bi (a4 + 1) (fun i16 => some (.inl ((a2, a3, i16))))
set_option maxRecDepth 10000 in
theorem s_K_M_listen_153 {Z : ZT} {l : Launch} {o : Oc} {wo : Wld} {Ok : Cfg → Prop} (hC : Clo Z l 10 6 prog_13_method_92_code (some .int) 8 157 o wo Ok) (a1 : Int32) (a2 : Int32) (a3 : Int32) (a4 : Int32) (w : Wld) : SimK Ok (153, [(0, vR 0), (1, vI a1), (2, vI a2), (3, vI a3), (4, vI a4)], [], w) (K_M_listen_153 a1 a2 a3 a4 w) (GLp Ok (V_M_listen_121 a1 w) (GEp Ok (E_M_listen_121 a1 w))) := by
  unfold K_M_listen_153
  refine sim_blk0 hC [(.iinc 4 1, 0, 0, 0, 1)] [(0, vR 0), (1, vI a1), (2, vI a2), (3, vI a3), (4, vI (a4 + 1))] [] w 156 (by decide +kernel) rfl rfl ?_
  refine sim_bi (C := fun i16 => (156, [(0, vR 0), (1, vI a1), (2, vI a2), (3, vI a3), (4, vI i16)], [], w)) (fun i16 => ?_)
  refine sim_goto hC (-35) 121 (by decide +kernel) (by decide) ?_
  exact sim_back (V := (V_M_listen_121 a1 w)) ((a2, a3, i16))
noncomputable def B_M_listen_121 (a1 : Int32) (w : Wld) (s : Int32 × Int32 × Int32) : Option ((Int32 × Int32 × Int32) ⊕ (Int32 × Int32)) :=
  br ((20 : Int32) ≤ s.2.2) (some (.inr ((s.1, s.2.1)))) (bp (F_M_unlike w s.2.2) (fun i14 => br (s.2.1 < i14) (bi (s.2.2 + (1 : Int32)) (fun i15 => K_M_listen_153 a1 i15 i14 s.2.2 w)) (K_M_listen_153 a1 s.1 s.2.1 s.2.2 w)))
set_option maxRecDepth 10000 in
theorem s_B_M_listen_121 {Z : ZT} {l : Launch} {o : Oc} {wo : Wld} {Ok : Cfg → Prop} (hC : Clo Z l 10 6 prog_13_method_92_code (some .int) 8 157 o wo Ok) (a1 : Int32) (w : Wld) (s : Int32 × Int32 × Int32) : SimK Ok (V_M_listen_121 a1 w s) (B_M_listen_121 a1 w s) (GLp Ok (V_M_listen_121 a1 w) (GEp Ok (E_M_listen_121 a1 w))) := by
  unfold B_M_listen_121
  show SimK Ok (121, [(0, vR 0), (1, vI a1), (2, vI s.1), (3, vI s.2.1), (4, vI s.2.2)], [], w) _ _
  refine sim_blk0 hC [(.iload 4, 0, 0, 0, 0), (.bipush 20, 0, 0, 0, 20)] [(0, vR 0), (1, vI a1), (2, vI s.1), (3, vI s.2.1), (4, vI s.2.2)] [vI 20, vI s.2.2] w 125 (by decide +kernel) rfl rfl ?_
  refine sim_br hC (.if_icmp .ge 34) 159 (by decide +kernel) rfl (by decide) ?_ ?_
  · refine sim_sub hC [1, 2, 3] ?_
    exact sim_exit (E := (E_M_listen_121 a1 w)) ((s.1, s.2.1))
  · refine sim_blk0 hC [(.aload_n 0, 0, 0, 0, 0), (.iload 4, 0, 0, 0, 0)] [(0, vR 0), (1, vI a1), (2, vI s.1), (3, vI s.2.1), (4, vI s.2.2)] [vI s.2.2, vR 0] w 131 (by decide +kernel) rfl rfl ?_
    refine sim_vp hC 439 mX11_unlike 1 0 0 [vI s.2.2] [] (by decide +kernel) ml_10_439 rfl rfl rfl rfl rfl rfl (fun rz hz => c_M_unlike w s.2.2 rz hz) (fun i14 => ?_)
    refine sim_blk0 hC [(.istore 5, 0, 0, 0, 0), (.iload 5, 0, 0, 0, 0), (.iload_n 3, 0, 0, 0, 0)] [(0, vR 0), (1, vI a1), (2, vI s.1), (3, vI s.2.1), (4, vI s.2.2), (5, vI i14)] [vI s.2.1, vI i14] w 139 (by decide +kernel) rfl rfl ?_
    refine sim_br hC (.if_icmp .gt 6) 145 (by decide +kernel) rfl (by decide) ?_ ?_
    · refine sim_blk0 hC [(.iload 4, 0, 0, 0, 0), (.iconst 1, 0, 0, 0, 1), (.iadd, 0, 0, 0, 0), (.istore_n 2, 0, 0, 0, 0)] [(0, vR 0), (1, vI a1), (2, vI (s.2.2 + (1 : Int32))), (3, vI s.2.1), (4, vI s.2.2), (5, vI i14)] [] w 150 (by decide +kernel) rfl rfl ?_
      refine sim_bi (C := fun i15 => (150, [(0, vR 0), (1, vI a1), (2, vI i15), (3, vI s.2.1), (4, vI s.2.2), (5, vI i14)], [], w)) (fun i15 => ?_)
      refine sim_blk0 hC [(.iload 5, 0, 0, 0, 0), (.istore_n 3, 0, 0, 0, 0)] [(0, vR 0), (1, vI a1), (2, vI i15), (3, vI i14), (4, vI s.2.2), (5, vI i14)] [] w 153 (by decide +kernel) rfl rfl ?_
      refine sim_sub hC [0, 1, 2, 3, 4] ?_
      exact s_K_M_listen_153 hC a1 i15 i14 s.2.2 w
    · refine sim_goto hC 11 153 (by decide +kernel) (by decide) ?_
      refine sim_sub hC [0, 1, 2, 3, 4] ?_
      exact s_K_M_listen_153 hC a1 s.1 s.2.1 s.2.2 w
noncomputable def K_M_listen_168 (t0 : Int32) (w : Wld) : Option (Int32 × Wld) :=
  some ((t0, w))
set_option maxRecDepth 10000 in
theorem s_K_M_listen_168 {Z : ZT} {l : Launch} {o : Oc} {wo : Wld} {Ok : Cfg → Prop} (hC : Clo Z l 10 6 prog_13_method_92_code (some .int) 8 157 o wo Ok) (t0 : Int32) (w : Wld) : SimK Ok (168, [], [vI t0], w) (K_M_listen_168 t0 w) (Gi o wo) := by
  unfold K_M_listen_168
  exact sim_reti hC (by decide +kernel) trivial
noncomputable def F_M_listen (w : Wld) (a1 : Int32) : Option (Int32 × Wld) :=
  bw (wup w 0 2 0) (fun w1 => br (a1 < 0) (K_M_listen_14 w1) (br (a1 ≤ 1) (bv (F_M_tellFits w1) (fun w4 => bl (loop (B_M_listen_26 a1) ((0, w4))) (fun r13 => bl (loop (B_M_listen_121 a1 r13) (((-1), 0, 0))) (fun r17 => br (¬ a1 = 0) (K_M_listen_168 r17.2 r13) (K_M_listen_168 r17.1 r13))))) (K_M_listen_14 w1)))
set_option maxRecDepth 10000 in
theorem s_M_listen {Z : ZT} {l : Launch} {o : Oc} {wo : Wld} {Ok : Cfg → Prop} (hC : Clo Z l 10 6 prog_13_method_92_code (some .int) 8 157 o wo Ok) (w : Wld) (a1 : Int32) : SimK Ok (0, [(0, vR 0), (1, vI a1)], [], w) (F_M_listen w a1) (Gi o wo) := by
  unfold F_M_listen
  refine sim_blk0 hC [(.aload_n 0, 0, 0, 0, 0), (.iconst 0, 0, 0, 0, 0), (.putfield 159, 0, 2, 0, 0)] [(0, vR 0), (1, vI a1)] [] (wup w 0 2 0) 5 (by decide +kernel) rfl rfl ?_
  refine sim_bw (C := fun w1 => (5, [(0, vR 0), (1, vI a1)], [], w1)) (fun w1 => ?_)
  refine sim_blk0 hC [(.iload_n 1, 0, 0, 0, 0)] [(0, vR 0), (1, vI a1)] [vI a1] w1 6 (by decide +kernel) rfl rfl ?_
  refine sim_br hC (.ifCond .lt 8) 14 (by decide +kernel) rfl (by decide) ?_ ?_
  · refine sim_sub hC [0] ?_
    exact s_K_M_listen_14 hC w1
  · refine sim_blk0 hC [(.iload_n 1, 0, 0, 0, 0), (.iconst 1, 0, 0, 0, 1)] [(0, vR 0), (1, vI a1)] [vI 1, vI a1] w1 11 (by decide +kernel) rfl rfl ?_
    refine sim_br hC (.if_icmp .le 9) 20 (by decide +kernel) rfl (by decide) ?_ ?_
    · refine sim_blk0 hC [(.aload_n 0, 0, 0, 0, 0)] [(0, vR 0), (1, vI a1)] [vR 0] w1 21 (by decide +kernel) rfl rfl ?_
      refine sim_vv hC 436 mX11_tellFits 7 134 0 [] [] (by decide +kernel) ml_10_436 rfl rfl rfl rfl rfl rfl (fun wz hz => c_M_tellFits w1 wz hz) (fun w4 => ?_)
      refine sim_blk0 hC [(.iconst 0, 0, 0, 0, 0), (.istore_n 2, 0, 0, 0, 0)] [(0, vR 0), (1, vI a1), (2, vI 0)] [] w4 26 (by decide +kernel) rfl rfl ?_
      refine sim_bl (E := (E_M_listen_26 a1)) ?_ (fun r13 => ?_)
      · exact sim_loop (V := (V_M_listen_26 a1)) (fun sz => s_B_M_listen_26 hC a1 sz) ((0, w4))
      · show SimK Ok (114, [(0, vR 0), (1, vI a1)], [], r13) _ _
        refine sim_blk0 hC [(.iconst (-1), 0, 0, 0, (-1)), (.istore_n 2, 0, 0, 0, 0), (.iconst 0, 0, 0, 0, 0), (.istore_n 3, 0, 0, 0, 0), (.iconst 0, 0, 0, 0, 0), (.istore 4, 0, 0, 0, 0)] [(0, vR 0), (1, vI a1), (2, vI (-1)), (3, vI 0), (4, vI 0)] [] r13 121 (by decide +kernel) rfl rfl ?_
        refine sim_bl (E := (E_M_listen_121 a1 r13)) ?_ (fun r17 => ?_)
        · exact sim_loop (V := (V_M_listen_121 a1 r13)) (fun sz => s_B_M_listen_121 hC a1 r13 sz) (((-1), 0, 0))
        · show SimK Ok (159, [(1, vI a1), (2, vI r17.1), (3, vI r17.2)], [], r13) _ _
          refine sim_blk0 hC [(.iload_n 1, 0, 0, 0, 0)] [(1, vI a1), (2, vI r17.1), (3, vI r17.2)] [vI a1] r13 160 (by decide +kernel) rfl rfl ?_
          refine sim_br hC (.ifCond .ne 7) 167 (by decide +kernel) rfl (by decide) ?_ ?_
          · refine sim_blk0 hC [(.iload_n 3, 0, 0, 0, 0)] [(1, vI a1), (2, vI r17.1), (3, vI r17.2)] [vI r17.2] r13 168 (by decide +kernel) rfl rfl ?_
            refine sim_sub hC [] ?_
            exact s_K_M_listen_168 hC r17.2 r13
          · refine sim_blk0 hC [(.iload_n 2, 0, 0, 0, 0)] [(1, vI a1), (2, vI r17.1), (3, vI r17.2)] [vI r17.1] r13 164 (by decide +kernel) rfl rfl ?_
            refine sim_goto hC 4 168 (by decide +kernel) (by decide) ?_
            refine sim_sub hC [] ?_
            exact s_K_M_listen_168 hC r17.1 r13
    · refine sim_sub hC [0] ?_
      exact s_K_M_listen_14 hC w1
theorem c_M_listen {Z : ZT} {l : Launch} (w : Wld) (a1 : Int32) (r : Int32) (w1 : Wld) (h : F_M_listen w a1 = some (r, w1)) : Con Z l mX11_listen 8 157 [vR 0, vI a1] w (.inr (some r)) w1 :=
  Con_of (oc := 10) (by decide +kernel) rfl rfl (fun Ok hC => s_M_listen hC w a1 (r, w1) h ⟨rfl, rfl⟩)
noncomputable def F_M_forget (w : Wld) : Option (Wld) :=
  bw (wup w 0 2 0) (fun w1 => bw (wup w1 0 35 0) (fun w2 => some w2))
set_option maxRecDepth 10000 in
theorem s_M_forget {Z : ZT} {l : Launch} {o : Oc} {wo : Wld} {Ok : Cfg → Prop} (hC : Clo Z l 10 1 prog_13_method_93_code none 1 0 o wo Ok) (w : Wld) : SimK Ok (0, [(0, vR 0)], [], w) (F_M_forget w) (Gv o wo) := by
  unfold F_M_forget
  refine sim_blk0 hC [(.aload_n 0, 0, 0, 0, 0), (.iconst 0, 0, 0, 0, 0), (.putfield 159, 0, 2, 0, 0)] [(0, vR 0)] [] (wup w 0 2 0) 5 (by decide +kernel) rfl rfl ?_
  refine sim_bw (C := fun w1 => (5, [(0, vR 0)], [], w1)) (fun w1 => ?_)
  refine sim_blk0 hC [(.aload_n 0, 0, 0, 0, 0), (.iconst 0, 0, 0, 0, 0), (.putfield 315, 0, 35, 0, 0)] [(0, vR 0)] [] (wup w1 0 35 0) 10 (by decide +kernel) rfl rfl ?_
  refine sim_bw (C := fun w2 => (10, [(0, vR 0)], [], w2)) (fun w2 => ?_)
  exact sim_retv hC (by decide +kernel)
theorem c_M_forget {Z : ZT} {l : Launch} (w : Wld) (w1 : Wld) (h : F_M_forget w = some w1) : Con Z l mX11_forget 1 0 [vR 0] w (.inr none) w1 :=
  Con_of (oc := 10) (by decide +kernel) rfl rfl (fun Ok hC => s_M_forget hC w w1 h ⟨rfl, rfl⟩)
noncomputable def F_M_choose (w : Wld) (a1 : Int32) (a2 : Int32) : Option (Int32 × Wld) :=
  br (¬ a2 = 1) (gd (vp_in a1 8) (gd (vp_in a1 8) (bw (wup w 15 (Int32.toNatClampNeg a1) (imin 9 ((w 15 (Int32.toNatClampNeg a1)) + (3 : Int32)))) (fun w1 => some (((-1), w1)))))) (gd (vp_in a1 8) (bw (wup w 14 (Int32.toNatClampNeg a1) 99) (fun w2 => some ((0, w2)))))
set_option maxRecDepth 10000 in
theorem s_M_choose {Z : ZT} {l : Launch} {o : Oc} {wo : Wld} {Ok : Cfg → Prop} (hC : Clo Z l 10 3 prog_13_method_94_code (some .int) 1 21 o wo Ok) (w : Wld) (a1 : Int32) (a2 : Int32) : SimK Ok (0, [(0, vR 0), (1, vI a1), (2, vI a2)], [], w) (F_M_choose w a1 a2) (Gi o wo) := by
  unfold F_M_choose
  refine sim_blk0 hC [(.iload_n 2, 0, 0, 0, 0), (.iconst 1, 0, 0, 0, 1)] [(0, vR 0), (1, vI a1), (2, vI a2)] [vI 1, vI a2] w 2 (by decide +kernel) rfl rfl ?_
  refine sim_br hC (.if_icmp .ne 13) 15 (by decide +kernel) rfl (by decide) ?_ ?_
  · refine sim_blk1 hC [(.aload_n 0, 0, 0, 0, 0), (.getfield 81, 0, 25, 17, 0), (.iload_n 1, 0, 0, 0, 0), (.bipush 9, 0, 0, 0, 9), (.aload_n 0, 0, 0, 0, 0), (.getfield 81, 0, 25, 17, 0), (.iload_n 1, 0, 0, 0, 0), (.iaload, 15, 8, 0, 0), (.iconst 3, 0, 0, 0, 3), (.iadd, 0, 0, 0, 0)] [(0, vR 0), (1, vI a1), (2, vI a2)] [vI ((w 15 (Int32.toNatClampNeg a1)) + (3 : Int32)), vI 9, vI a1, vR 15] w 30 (by decide +kernel) rfl rfl ?_
    refine sim_min hC 196 (by decide +kernel) ml_10_196 rfl rfl rfl ?_
    refine sim_blk1 hC [(.iastore, 15, 8, 0, 0)] [(0, vR 0), (1, vI a1), (2, vI a2)] [] (wup w 15 (Int32.toNatClampNeg a1) (imin 9 ((w 15 (Int32.toNatClampNeg a1)) + (3 : Int32)))) 34 (by decide +kernel) rfl rfl ?_
    refine sim_bw (C := fun w1 => (34, [(0, vR 0), (1, vI a1), (2, vI a2)], [], w1)) (fun w1 => ?_)
    refine sim_blk0 hC [(.iconst (-1), 0, 0, 0, (-1))] [(0, vR 0), (1, vI a1), (2, vI a2)] [vI (-1)] w1 35 (by decide +kernel) rfl rfl ?_
    exact sim_reti hC (by decide +kernel) trivial
  · refine sim_blk1 hC [(.aload_n 0, 0, 0, 0, 0), (.getfield 78, 0, 24, 16, 0), (.iload_n 1, 0, 0, 0, 0), (.bipush 99, 0, 0, 0, 99), (.iastore, 14, 8, 0, 0)] [(0, vR 0), (1, vI a1), (2, vI a2)] [] (wup w 14 (Int32.toNatClampNeg a1) 99) 13 (by decide +kernel) rfl rfl ?_
    refine sim_bw (C := fun w2 => (13, [(0, vR 0), (1, vI a1), (2, vI a2)], [], w2)) (fun w2 => ?_)
    refine sim_blk0 hC [(.iconst 0, 0, 0, 0, 0)] [(0, vR 0), (1, vI a1), (2, vI a2)] [vI 0] w2 14 (by decide +kernel) rfl rfl ?_
    exact sim_reti hC (by decide +kernel) trivial
theorem c_M_choose {Z : ZT} {l : Launch} (w : Wld) (a1 : Int32) (a2 : Int32) (r : Int32) (w1 : Wld) (h : F_M_choose w a1 a2 = some (r, w1)) : Con Z l mX11_choose 1 21 [vR 0, vI a1, vI a2] w (.inr (some r)) w1 :=
  Con_of (oc := 10) (by decide +kernel) rfl rfl (fun Ok hC => s_M_choose hC w a1 a2 (r, w1) h ⟨rfl, rfl⟩)
def V_M_tellGains_11 (a1 : Int32) (a2 : Int32) : (Int32 × Wld) → Cfg := fun s => (11, [(0, vR 0), (1, vI a1), (2, vI a2), (3, vI s.1)], [], s.2)
def E_M_tellGains_11 (a1 : Int32) (a2 : Int32) : (Wld) → Cfg := fun s => (203, [], [], s)
def V_M_tellGains_53 (a1 : Int32) (a2 : Int32) (a3 : Int32) : (Int32 × Wld) → Cfg := fun s => (53, [(0, vR 0), (1, vI a1), (2, vI a2), (3, vI a3), (4, vI s.1)], [], s.2)
def E_M_tellGains_53 (a1 : Int32) (a2 : Int32) (a3 : Int32) : (Wld) → Cfg := fun s => (188, [(0, vR 0), (1, vI a1), (2, vI a2), (3, vI a3)], [], s)
noncomputable def K_M_tellGains_179 (a1 : Int32) (a2 : Int32) (a3 : Int32) (a4 : Int32) (t1 : Int32) (t2 : Int32) (t3 : Int32) (t4 : Int32) (w : Wld) : Option ((Int32 × Wld) ⊕ (Wld)) :=
  gd (vp_in t1 8) (bw (wup w 34 (Int32.toNatClampNeg t1) (t2 + (t3 + t4))) (fun w10 => bi (a4 + 1) (fun i11 => some (.inl ((i11, w10))))))
set_option maxRecDepth 10000 in
theorem s_K_M_tellGains_179 {Z : ZT} {l : Launch} {o : Oc} {wo : Wld} {Ok : Cfg → Prop} (hC : Clo Z l 10 7 prog_13_method_95_code none 6 111 o wo Ok) (a1 : Int32) (a2 : Int32) (a3 : Int32) (a4 : Int32) (t1 : Int32) (t2 : Int32) (t3 : Int32) (t4 : Int32) (w : Wld) : SimK Ok (179, [(0, vR 0), (1, vI a1), (2, vI a2), (3, vI a3), (4, vI a4)], [vI t4, vI t3, vI t2, vI t1, vR 34], w) (K_M_tellGains_179 a1 a2 a3 a4 t1 t2 t3 t4 w) (GLp Ok (V_M_tellGains_53 a1 a2 a3) (GEp Ok (E_M_tellGains_53 a1 a2 a3))) := by
  unfold K_M_tellGains_179
  refine sim_blk1 hC [(.iadd, 0, 0, 0, 0), (.iadd, 0, 0, 0, 0), (.iastore, 34, 8, 0, 0)] [(0, vR 0), (1, vI a1), (2, vI a2), (3, vI a3), (4, vI a4)] [] (wup w 34 (Int32.toNatClampNeg t1) (t2 + (t3 + t4))) 182 (by decide +kernel) rfl rfl ?_
  refine sim_bw (C := fun w10 => (182, [(0, vR 0), (1, vI a1), (2, vI a2), (3, vI a3), (4, vI a4)], [], w10)) (fun w10 => ?_)
  refine sim_blk0 hC [(.iinc 4 1, 0, 0, 0, 1)] [(0, vR 0), (1, vI a1), (2, vI a2), (3, vI a3), (4, vI (a4 + 1))] [] w10 185 (by decide +kernel) rfl rfl ?_
  refine sim_bi (C := fun i11 => (185, [(0, vR 0), (1, vI a1), (2, vI a2), (3, vI a3), (4, vI i11)], [], w10)) (fun i11 => ?_)
  refine sim_goto hC (-132) 53 (by decide +kernel) (by decide) ?_
  exact sim_back (V := (V_M_tellGains_53 a1 a2 a3)) ((i11, w10))
noncomputable def K_M_tellGains_147 (a1 : Int32) (a2 : Int32) (a3 : Int32) (a4 : Int32) (a6 : Int32) (t1 : Int32) (t2 : Int32) (t3 : Int32) (t4 : Int32) (w : Wld) : Option ((Int32 × Wld) ⊕ (Wld)) :=
  gd (vp_in t1 8) (bw (wup w 34 (Int32.toNatClampNeg t1) (t2 + (t3 + t4))) (fun w9 => gd (vp_in (((2 : Int32) * a3) + (1 : Int32)) 8) (br (a6 = 0) (K_M_tellGains_179 a1 a2 a3 a4 (((2 : Int32) * a3) + (1 : Int32)) (w9 34 (Int32.toNatClampNeg (((2 : Int32) * a3) + (1 : Int32)))) (((w9 0 32) >>> (a2 &&& 31)) &&& (1 : Int32)) 0 w9) (K_M_tellGains_179 a1 a2 a3 a4 (((2 : Int32) * a3) + (1 : Int32)) (w9 34 (Int32.toNatClampNeg (((2 : Int32) * a3) + (1 : Int32)))) (((w9 0 32) >>> (a2 &&& 31)) &&& (1 : Int32)) 3 w9))))
set_option maxRecDepth 10000 in
theorem s_K_M_tellGains_147 {Z : ZT} {l : Launch} {o : Oc} {wo : Wld} {Ok : Cfg → Prop} (hC : Clo Z l 10 7 prog_13_method_95_code none 6 111 o wo Ok) (a1 : Int32) (a2 : Int32) (a3 : Int32) (a4 : Int32) (a6 : Int32) (t1 : Int32) (t2 : Int32) (t3 : Int32) (t4 : Int32) (w : Wld) : SimK Ok (147, [(0, vR 0), (1, vI a1), (2, vI a2), (3, vI a3), (4, vI a4), (6, vI a6)], [vI t4, vI t3, vI t2, vI t1, vR 34], w) (K_M_tellGains_147 a1 a2 a3 a4 a6 t1 t2 t3 t4 w) (GLp Ok (V_M_tellGains_53 a1 a2 a3) (GEp Ok (E_M_tellGains_53 a1 a2 a3))) := by
  unfold K_M_tellGains_147
  refine sim_blk1 hC [(.iadd, 0, 0, 0, 0), (.iadd, 0, 0, 0, 0), (.iastore, 34, 8, 0, 0)] [(0, vR 0), (1, vI a1), (2, vI a2), (3, vI a3), (4, vI a4), (6, vI a6)] [] (wup w 34 (Int32.toNatClampNeg t1) (t2 + (t3 + t4))) 150 (by decide +kernel) rfl rfl ?_
  refine sim_bw (C := fun w9 => (150, [(0, vR 0), (1, vI a1), (2, vI a2), (3, vI a3), (4, vI a4), (6, vI a6)], [], w9)) (fun w9 => ?_)
  refine sim_blk1 hC [(.aload_n 0, 0, 0, 0, 0), (.getfield 138, 0, 53, 36, 0), (.iconst 2, 0, 0, 0, 2), (.iload_n 3, 0, 0, 0, 0), (.imul, 0, 0, 0, 0), (.iconst 1, 0, 0, 0, 1), (.iadd, 0, 0, 0, 0), (.dup2, 0, 0, 0, 0), (.iaload, 34, 8, 0, 0), (.aload_n 0, 0, 0, 0, 0), (.getfield 307, 0, 32, 0, 0), (.iload_n 2, 0, 0, 0, 0), (.ishr, 0, 0, 0, 0), (.iconst 1, 0, 0, 0, 1), (.iand, 0, 0, 0, 0), (.iload 6, 0, 0, 0, 0)] [(0, vR 0), (1, vI a1), (2, vI a2), (3, vI a3), (4, vI a4), (6, vI a6)] [vI a6, vI (((w9 0 32) >>> (a2 &&& 31)) &&& (1 : Int32)), vI (w9 34 (Int32.toNatClampNeg (((2 : Int32) * a3) + (1 : Int32)))), vI (((2 : Int32) * a3) + (1 : Int32)), vR 34] w9 171 (by decide +kernel) rfl rfl ?_
  refine sim_br hC (.ifCond .eq 7) 178 (by decide +kernel) rfl (by decide) ?_ ?_
  · refine sim_blk0 hC [(.iconst 0, 0, 0, 0, 0)] [(0, vR 0), (1, vI a1), (2, vI a2), (3, vI a3), (4, vI a4), (6, vI a6)] [vI 0, vI (((w9 0 32) >>> (a2 &&& 31)) &&& (1 : Int32)), vI (w9 34 (Int32.toNatClampNeg (((2 : Int32) * a3) + (1 : Int32)))), vI (((2 : Int32) * a3) + (1 : Int32)), vR 34] w9 179 (by decide +kernel) rfl rfl ?_
    refine sim_sub hC [0, 1, 2, 3, 4] ?_
    exact s_K_M_tellGains_179 hC a1 a2 a3 a4 (((2 : Int32) * a3) + (1 : Int32)) (w9 34 (Int32.toNatClampNeg (((2 : Int32) * a3) + (1 : Int32)))) (((w9 0 32) >>> (a2 &&& 31)) &&& (1 : Int32)) 0 w9
  · refine sim_blk0 hC [(.iconst 3, 0, 0, 0, 3)] [(0, vR 0), (1, vI a1), (2, vI a2), (3, vI a3), (4, vI a4), (6, vI a6)] [vI 3, vI (((w9 0 32) >>> (a2 &&& 31)) &&& (1 : Int32)), vI (w9 34 (Int32.toNatClampNeg (((2 : Int32) * a3) + (1 : Int32)))), vI (((2 : Int32) * a3) + (1 : Int32)), vR 34] w9 175 (by decide +kernel) rfl rfl ?_
    refine sim_goto hC 4 179 (by decide +kernel) (by decide) ?_
    refine sim_sub hC [0, 1, 2, 3, 4] ?_
    exact s_K_M_tellGains_179 hC a1 a2 a3 a4 (((2 : Int32) * a3) + (1 : Int32)) (w9 34 (Int32.toNatClampNeg (((2 : Int32) * a3) + (1 : Int32)))) (((w9 0 32) >>> (a2 &&& 31)) &&& (1 : Int32)) 3 w9
noncomputable def K_M_tellGains_118 (a1 : Int32) (a2 : Int32) (a3 : Int32) (a4 : Int32) (t0 : Int32) (w : Wld) : Option ((Int32 × Wld) ⊕ (Wld)) :=
  gd (vp_in ((2 : Int32) * a3) 8) (br (t0 = 0) (K_M_tellGains_147 a1 a2 a3 a4 t0 ((2 : Int32) * a3) (w 34 (Int32.toNatClampNeg ((2 : Int32) * a3))) (((w 0 32) >>> (a1 &&& 31)) &&& (1 : Int32)) 0 w) (K_M_tellGains_147 a1 a2 a3 a4 t0 ((2 : Int32) * a3) (w 34 (Int32.toNatClampNeg ((2 : Int32) * a3))) (((w 0 32) >>> (a1 &&& 31)) &&& (1 : Int32)) 3 w))
set_option maxRecDepth 10000 in
theorem s_K_M_tellGains_118 {Z : ZT} {l : Launch} {o : Oc} {wo : Wld} {Ok : Cfg → Prop} (hC : Clo Z l 10 7 prog_13_method_95_code none 6 111 o wo Ok) (a1 : Int32) (a2 : Int32) (a3 : Int32) (a4 : Int32) (t0 : Int32) (w : Wld) : SimK Ok (118, [(0, vR 0), (1, vI a1), (2, vI a2), (3, vI a3), (4, vI a4)], [vI t0], w) (K_M_tellGains_118 a1 a2 a3 a4 t0 w) (GLp Ok (V_M_tellGains_53 a1 a2 a3) (GEp Ok (E_M_tellGains_53 a1 a2 a3))) := by
  unfold K_M_tellGains_118
  refine sim_blk1 hC [(.istore 6, 0, 0, 0, 0), (.aload_n 0, 0, 0, 0, 0), (.getfield 138, 0, 53, 36, 0), (.iconst 2, 0, 0, 0, 2), (.iload_n 3, 0, 0, 0, 0), (.imul, 0, 0, 0, 0), (.dup2, 0, 0, 0, 0), (.iaload, 34, 8, 0, 0), (.aload_n 0, 0, 0, 0, 0), (.getfield 307, 0, 32, 0, 0), (.iload_n 1, 0, 0, 0, 0), (.ishr, 0, 0, 0, 0), (.iconst 1, 0, 0, 0, 1), (.iand, 0, 0, 0, 0), (.iload 6, 0, 0, 0, 0)] [(0, vR 0), (1, vI a1), (2, vI a2), (3, vI a3), (4, vI a4), (6, vI t0)] [vI t0, vI (((w 0 32) >>> (a1 &&& 31)) &&& (1 : Int32)), vI (w 34 (Int32.toNatClampNeg ((2 : Int32) * a3))), vI ((2 : Int32) * a3), vR 34] w 139 (by decide +kernel) rfl rfl ?_
  refine sim_br hC (.ifCond .eq 7) 146 (by decide +kernel) rfl (by decide) ?_ ?_
  · refine sim_blk0 hC [(.iconst 0, 0, 0, 0, 0)] [(0, vR 0), (1, vI a1), (2, vI a2), (3, vI a3), (4, vI a4), (6, vI t0)] [vI 0, vI (((w 0 32) >>> (a1 &&& 31)) &&& (1 : Int32)), vI (w 34 (Int32.toNatClampNeg ((2 : Int32) * a3))), vI ((2 : Int32) * a3), vR 34] w 147 (by decide +kernel) rfl rfl ?_
    exact s_K_M_tellGains_147 hC a1 a2 a3 a4 t0 ((2 : Int32) * a3) (w 34 (Int32.toNatClampNeg ((2 : Int32) * a3))) (((w 0 32) >>> (a1 &&& 31)) &&& (1 : Int32)) 0 w
  · refine sim_blk0 hC [(.iconst 3, 0, 0, 0, 3)] [(0, vR 0), (1, vI a1), (2, vI a2), (3, vI a3), (4, vI a4), (6, vI t0)] [vI 3, vI (((w 0 32) >>> (a1 &&& 31)) &&& (1 : Int32)), vI (w 34 (Int32.toNatClampNeg ((2 : Int32) * a3))), vI ((2 : Int32) * a3), vR 34] w 143 (by decide +kernel) rfl rfl ?_
    refine sim_goto hC 4 147 (by decide +kernel) (by decide) ?_
    exact s_K_M_tellGains_147 hC a1 a2 a3 a4 t0 ((2 : Int32) * a3) (w 34 (Int32.toNatClampNeg ((2 : Int32) * a3))) (((w 0 32) >>> (a1 &&& 31)) &&& (1 : Int32)) 3 w
noncomputable def K_M_tellGains_117 (a1 : Int32) (a2 : Int32) (a3 : Int32) (a4 : Int32) (w : Wld) : Option ((Int32 × Wld) ⊕ (Wld)) :=
  K_M_tellGains_118 a1 a2 a3 a4 0 w
set_option maxRecDepth 10000 in
theorem s_K_M_tellGains_117 {Z : ZT} {l : Launch} {o : Oc} {wo : Wld} {Ok : Cfg → Prop} (hC : Clo Z l 10 7 prog_13_method_95_code none 6 111 o wo Ok) (a1 : Int32) (a2 : Int32) (a3 : Int32) (a4 : Int32) (w : Wld) : SimK Ok (117, [(0, vR 0), (1, vI a1), (2, vI a2), (3, vI a3), (4, vI a4)], [], w) (K_M_tellGains_117 a1 a2 a3 a4 w) (GLp Ok (V_M_tellGains_53 a1 a2 a3) (GEp Ok (E_M_tellGains_53 a1 a2 a3))) := by
  unfold K_M_tellGains_117
  refine sim_blk0 hC [(.iconst 0, 0, 0, 0, 0)] [(0, vR 0), (1, vI a1), (2, vI a2), (3, vI a3), (4, vI a4)] [vI 0] w 118 (by decide +kernel) rfl rfl ?_
  exact s_K_M_tellGains_118 hC a1 a2 a3 a4 0 w
noncomputable def K_M_tellGains_80 (a1 : Int32) (a2 : Int32) (a3 : Int32) (a4 : Int32) (t0 : Int32) (w : Wld) : Option ((Int32 × Wld) ⊕ (Wld)) :=
  bv (F_M_aNight w) (fun w8 => br (t0 = 0) (K_M_tellGains_117 a1 a2 a3 a4 w8) (bp (F_M_isOf w8 (w8 0 32) a1) (fun i12 => br (i12 = 0) (K_M_tellGains_117 a1 a2 a3 a4 w8) (bp (F_M_isOf w8 (w8 0 32) a2) (fun i13 => br (i13 = 0) (K_M_tellGains_117 a1 a2 a3 a4 w8) (K_M_tellGains_118 a1 a2 a3 a4 1 w8))))))
set_option maxRecDepth 10000 in
theorem s_K_M_tellGains_80 {Z : ZT} {l : Launch} {o : Oc} {wo : Wld} {Ok : Cfg → Prop} (hC : Clo Z l 10 7 prog_13_method_95_code none 6 111 o wo Ok) (a1 : Int32) (a2 : Int32) (a3 : Int32) (a4 : Int32) (t0 : Int32) (w : Wld) : SimK Ok (80, [(0, vR 0), (1, vI a1), (2, vI a2), (3, vI a3), (4, vI a4)], [vI t0], w) (K_M_tellGains_80 a1 a2 a3 a4 t0 w) (GLp Ok (V_M_tellGains_53 a1 a2 a3) (GEp Ok (E_M_tellGains_53 a1 a2 a3))) := by
  unfold K_M_tellGains_80
  refine sim_blk0 hC [(.istore 5, 0, 0, 0, 0), (.aload_n 0, 0, 0, 0, 0)] [(0, vR 0), (1, vI a1), (2, vI a2), (3, vI a3), (4, vI a4), (5, vI t0)] [vR 0] w 83 (by decide +kernel) rfl rfl ?_
  refine sim_vv hC 362 mX11_aNight 5 88 0 [] [] (by decide +kernel) ml_10_362 rfl rfl rfl rfl rfl rfl (fun wz hz => c_M_aNight w wz hz) (fun w8 => ?_)
  refine sim_blk0 hC [(.iload 5, 0, 0, 0, 0)] [(0, vR 0), (1, vI a1), (2, vI a2), (3, vI a3), (4, vI a4), (5, vI t0)] [vI t0] w8 88 (by decide +kernel) rfl rfl ?_
  refine sim_br hC (.ifCond .eq 29) 117 (by decide +kernel) rfl (by decide) ?_ ?_
  · refine sim_sub hC [0, 1, 2, 3, 4] ?_
    exact s_K_M_tellGains_117 hC a1 a2 a3 a4 w8
  · refine sim_blk0 hC [(.aload_n 0, 0, 0, 0, 0), (.getfield 307, 0, 32, 0, 0), (.iload_n 1, 0, 0, 0, 0)] [(0, vR 0), (1, vI a1), (2, vI a2), (3, vI a3), (4, vI a4), (5, vI t0)] [vI a1, vI (w8 0 32)] w8 96 (by decide +kernel) rfl rfl ?_
    refine sim_sp hC 326 mX11_isOf 1 0 [vI (w8 0 32), vI a1] [] (by decide +kernel) ml_10_326 rfl rfl rfl rfl rfl (fun rz hz => c_M_isOf w8 (w8 0 32) a1 rz hz) (fun i12 => ?_)
    refine sim_br hC (.ifCond .eq 18) 117 (by decide +kernel) rfl (by decide) ?_ ?_
    · refine sim_sub hC [0, 1, 2, 3, 4] ?_
      exact s_K_M_tellGains_117 hC a1 a2 a3 a4 w8
    · refine sim_blk0 hC [(.aload_n 0, 0, 0, 0, 0), (.getfield 307, 0, 32, 0, 0), (.iload_n 2, 0, 0, 0, 0)] [(0, vR 0), (1, vI a1), (2, vI a2), (3, vI a3), (4, vI a4), (5, vI t0)] [vI a2, vI (w8 0 32)] w8 107 (by decide +kernel) rfl rfl ?_
      refine sim_sp hC 326 mX11_isOf 1 0 [vI (w8 0 32), vI a2] [] (by decide +kernel) ml_10_326 rfl rfl rfl rfl rfl (fun rz hz => c_M_isOf w8 (w8 0 32) a2 rz hz) (fun i13 => ?_)
      refine sim_br hC (.ifCond .eq 7) 117 (by decide +kernel) rfl (by decide) ?_ ?_
      · refine sim_sub hC [0, 1, 2, 3, 4] ?_
        exact s_K_M_tellGains_117 hC a1 a2 a3 a4 w8
      · refine sim_blk0 hC [(.iconst 1, 0, 0, 0, 1)] [(0, vR 0), (1, vI a1), (2, vI a2), (3, vI a3), (4, vI a4), (5, vI t0)] [vI 1] w8 114 (by decide +kernel) rfl rfl ?_
        refine sim_goto hC 4 118 (by decide +kernel) (by decide) ?_
        refine sim_sub hC [0, 1, 2, 3, 4] ?_
        exact s_K_M_tellGains_118 hC a1 a2 a3 a4 1 w8
noncomputable def B_M_tellGains_53 (a1 : Int32) (a2 : Int32) (a3 : Int32) (s : Int32 × Wld) : Option ((Int32 × Wld) ⊕ (Wld)) :=
  br ((10 : Int32) ≤ s.1) (some (.inr s.2)) (gd (vp_in a1 8) (gd (vp_in a2 8) (br (¬ (s.2 16 (Int32.toNatClampNeg a1)) = (s.2 16 (Int32.toNatClampNeg a2))) (K_M_tellGains_80 a1 a2 a3 s.1 0 s.2) (K_M_tellGains_80 a1 a2 a3 s.1 1 s.2))))
set_option maxRecDepth 10000 in
theorem s_B_M_tellGains_53 {Z : ZT} {l : Launch} {o : Oc} {wo : Wld} {Ok : Cfg → Prop} (hC : Clo Z l 10 7 prog_13_method_95_code none 6 111 o wo Ok) (a1 : Int32) (a2 : Int32) (a3 : Int32) (s : Int32 × Wld) : SimK Ok (V_M_tellGains_53 a1 a2 a3 s) (B_M_tellGains_53 a1 a2 a3 s) (GLp Ok (V_M_tellGains_53 a1 a2 a3) (GEp Ok (E_M_tellGains_53 a1 a2 a3))) := by
  unfold B_M_tellGains_53
  show SimK Ok (53, [(0, vR 0), (1, vI a1), (2, vI a2), (3, vI a3), (4, vI s.1)], [], s.2) _ _
  refine sim_blk0 hC [(.iload 4, 0, 0, 0, 0), (.bipush 10, 0, 0, 0, 10)] [(0, vR 0), (1, vI a1), (2, vI a2), (3, vI a3), (4, vI s.1)] [vI 10, vI s.1] s.2 57 (by decide +kernel) rfl rfl ?_
  refine sim_br hC (.if_icmp .ge 131) 188 (by decide +kernel) rfl (by decide) ?_ ?_
  · refine sim_sub hC [0, 1, 2, 3] ?_
    exact sim_exit (E := (E_M_tellGains_53 a1 a2 a3)) s.2
  · refine sim_blk2 hC [(.aload_n 0, 0, 0, 0, 0), (.getfield 84, 0, 26, 18, 0), (.iload_n 1, 0, 0, 0, 0), (.iaload, 16, 8, 0, 0), (.aload_n 0, 0, 0, 0, 0), (.getfield 84, 0, 26, 18, 0), (.iload_n 2, 0, 0, 0, 0), (.iaload, 16, 8, 0, 0)] [(0, vR 0), (1, vI a1), (2, vI a2), (3, vI a3), (4, vI s.1)] [vI (s.2 16 (Int32.toNatClampNeg a2)), vI (s.2 16 (Int32.toNatClampNeg a1))] s.2 72 (by decide +kernel) rfl rfl ?_
    refine sim_br hC (.if_icmp .ne 7) 79 (by decide +kernel) rfl (by decide) ?_ ?_
    · refine sim_blk0 hC [(.iconst 0, 0, 0, 0, 0)] [(0, vR 0), (1, vI a1), (2, vI a2), (3, vI a3), (4, vI s.1)] [vI 0] s.2 80 (by decide +kernel) rfl rfl ?_
      exact s_K_M_tellGains_80 hC a1 a2 a3 s.1 0 s.2
    · refine sim_blk0 hC [(.iconst 1, 0, 0, 0, 1)] [(0, vR 0), (1, vI a1), (2, vI a2), (3, vI a3), (4, vI s.1)] [vI 1] s.2 76 (by decide +kernel) rfl rfl ?_
      refine sim_goto hC 4 80 (by decide +kernel) (by decide) ?_
      exact s_K_M_tellGains_80 hC a1 a2 a3 s.1 1 s.2
noncomputable def B_M_tellGains_11 (a1 : Int32) (a2 : Int32) (s : Int32 × Wld) : Option ((Int32 × Wld) ⊕ (Wld)) :=
  br ((4 : Int32) ≤ s.1) (some (.inr s.2)) (gd (¬ (2 : Int32) = 0) (bd (F_M_choose s.2 a1 (s.1 / (2 : Int32))) (fun i2 w3 => gd (vp_in ((2 : Int32) * s.1) 8) (bw (wup w3 34 (Int32.toNatClampNeg ((2 : Int32) * s.1)) i2) (fun w4 => gd (¬ (2 : Int32) = 0) (bd (F_M_choose w4 a2 (s.1 - s.1 / (2 : Int32) * (2 : Int32))) (fun i5 w6 => gd (vp_in (((2 : Int32) * s.1) + (1 : Int32)) 8) (bw (wup w6 34 (Int32.toNatClampNeg (((2 : Int32) * s.1) + (1 : Int32))) i5) (fun w7 => bl (loop (B_M_tellGains_53 a1 a2 s.1) ((0, w7))) (fun r14 => bv (F_M_unpack_24 r14 0) (fun w15 => bi (s.1 + 1) (fun i16 => some (.inl ((i16, w15)))))))))))))))
set_option maxRecDepth 10000 in
theorem s_B_M_tellGains_11 {Z : ZT} {l : Launch} {o : Oc} {wo : Wld} {Ok : Cfg → Prop} (hC : Clo Z l 10 7 prog_13_method_95_code none 6 111 o wo Ok) (a1 : Int32) (a2 : Int32) (s : Int32 × Wld) : SimK Ok (V_M_tellGains_11 a1 a2 s) (B_M_tellGains_11 a1 a2 s) (GLp Ok (V_M_tellGains_11 a1 a2) (GEp Ok (E_M_tellGains_11 a1 a2))) := by
  unfold B_M_tellGains_11
  show SimK Ok (11, [(0, vR 0), (1, vI a1), (2, vI a2), (3, vI s.1)], [], s.2) _ _
  refine sim_blk0 hC [(.iload_n 3, 0, 0, 0, 0), (.iconst 4, 0, 0, 0, 4)] [(0, vR 0), (1, vI a1), (2, vI a2), (3, vI s.1)] [vI 4, vI s.1] s.2 13 (by decide +kernel) rfl rfl ?_
  refine sim_br hC (.if_icmp .ge 190) 203 (by decide +kernel) rfl (by decide) ?_ ?_
  · refine sim_sub hC [] ?_
    exact sim_exit (E := (E_M_tellGains_11 a1 a2)) s.2
  · refine sim_blk1 hC [(.aload_n 0, 0, 0, 0, 0), (.getfield 138, 0, 53, 36, 0), (.iconst 2, 0, 0, 0, 2), (.iload_n 3, 0, 0, 0, 0), (.imul, 0, 0, 0, 0), (.aload_n 0, 0, 0, 0, 0), (.iload_n 1, 0, 0, 0, 0), (.iload_n 3, 0, 0, 0, 0), (.iconst 2, 0, 0, 0, 2), (.idiv, 0, 0, 0, 0)] [(0, vR 0), (1, vI a1), (2, vI a2), (3, vI s.1)] [vI (s.1 / (2 : Int32)), vI a1, vR 0, vI ((2 : Int32) * s.1), vR 34] s.2 28 (by decide +kernel) rfl rfl ?_
    refine sim_vd hC 442 mX11_choose 1 21 0 [vI a1, vI (s.1 / (2 : Int32))] [vI ((2 : Int32) * s.1), vR 34] (by decide +kernel) ml_10_442 rfl rfl rfl rfl rfl rfl (fun rz wz hz => c_M_choose s.2 a1 (s.1 / (2 : Int32)) rz wz hz) (fun i2 w3 => ?_)
    refine sim_blk1 hC [(.iastore, 34, 8, 0, 0)] [(0, vR 0), (1, vI a1), (2, vI a2), (3, vI s.1)] [] (wup w3 34 (Int32.toNatClampNeg ((2 : Int32) * s.1)) i2) 32 (by decide +kernel) rfl rfl ?_
    refine sim_bw (C := fun w4 => (32, [(0, vR 0), (1, vI a1), (2, vI a2), (3, vI s.1)], [], w4)) (fun w4 => ?_)
    refine sim_blk1 hC [(.aload_n 0, 0, 0, 0, 0), (.getfield 138, 0, 53, 36, 0), (.iconst 2, 0, 0, 0, 2), (.iload_n 3, 0, 0, 0, 0), (.imul, 0, 0, 0, 0), (.iconst 1, 0, 0, 0, 1), (.iadd, 0, 0, 0, 0), (.aload_n 0, 0, 0, 0, 0), (.iload_n 2, 0, 0, 0, 0), (.iload_n 3, 0, 0, 0, 0), (.iconst 2, 0, 0, 0, 2), (.irem, 0, 0, 0, 0)] [(0, vR 0), (1, vI a1), (2, vI a2), (3, vI s.1)] [vI (s.1 - s.1 / (2 : Int32) * (2 : Int32)), vI a2, vR 0, vI (((2 : Int32) * s.1) + (1 : Int32)), vR 34] w4 46 (by decide +kernel) rfl rfl ?_
    refine sim_vd hC 442 mX11_choose 1 21 0 [vI a2, vI (s.1 - s.1 / (2 : Int32) * (2 : Int32))] [vI (((2 : Int32) * s.1) + (1 : Int32)), vR 34] (by decide +kernel) ml_10_442 rfl rfl rfl rfl rfl rfl (fun rz wz hz => c_M_choose w4 a2 (s.1 - s.1 / (2 : Int32) * (2 : Int32)) rz wz hz) (fun i5 w6 => ?_)
    refine sim_blk1 hC [(.iastore, 34, 8, 0, 0)] [(0, vR 0), (1, vI a1), (2, vI a2), (3, vI s.1)] [] (wup w6 34 (Int32.toNatClampNeg (((2 : Int32) * s.1) + (1 : Int32))) i5) 50 (by decide +kernel) rfl rfl ?_
    refine sim_bw (C := fun w7 => (50, [(0, vR 0), (1, vI a1), (2, vI a2), (3, vI s.1)], [], w7)) (fun w7 => ?_)
    refine sim_blk0 hC [(.iconst 0, 0, 0, 0, 0), (.istore 4, 0, 0, 0, 0)] [(0, vR 0), (1, vI a1), (2, vI a2), (3, vI s.1), (4, vI 0)] [] w7 53 (by decide +kernel) rfl rfl ?_
    refine sim_bl (E := (E_M_tellGains_53 a1 a2 s.1)) ?_ (fun r14 => ?_)
    · exact sim_loop (V := (V_M_tellGains_53 a1 a2 s.1)) (fun sz => s_B_M_tellGains_53 hC a1 a2 s.1 sz) ((0, w7))
    · show SimK Ok (188, [(0, vR 0), (1, vI a1), (2, vI a2), (3, vI s.1)], [], r14) _ _
      refine sim_blk0 hC [(.aload_n 0, 0, 0, 0, 0), (.aload_n 0, 0, 0, 0, 0), (.getfield 107, 0, 42, 26, 0), (.iconst 0, 0, 0, 0, 0)] [(0, vR 0), (1, vI a1), (2, vI a2), (3, vI s.1)] [vI 0, vR 24, vR 0] r14 194 (by decide +kernel) rfl rfl ?_
      refine sim_vv hC 401 mX11_unpack 1 0 0 [vR 24, vI 0] [] (by decide +kernel) ml_10_401 rfl rfl rfl rfl rfl rfl (fun wz hz => c_M_unpack_24 r14 0 wz hz) (fun w15 => ?_)
      refine sim_blk0 hC [(.iinc 3 1, 0, 0, 0, 1)] [(0, vR 0), (1, vI a1), (2, vI a2), (3, vI (s.1 + 1))] [] w15 200 (by decide +kernel) rfl rfl ?_
      refine sim_bi (C := fun i16 => (200, [(0, vR 0), (1, vI a1), (2, vI a2), (3, vI i16)], [], w15)) (fun i16 => ?_)
      refine sim_goto hC (-189) 11 (by decide +kernel) (by decide) ?_
      exact sim_back (V := (V_M_tellGains_11 a1 a2)) ((i16, w15))
noncomputable def F_M_tellGains (w : Wld) (a1 : Int32) (a2 : Int32) : Option (Wld) :=
  bv (F_M_pack_24 w 0) (fun w1 => bl (loop (B_M_tellGains_11 a1 a2) ((0, w1))) (fun r17 => some r17))
set_option maxRecDepth 10000 in
theorem s_M_tellGains {Z : ZT} {l : Launch} {o : Oc} {wo : Wld} {Ok : Cfg → Prop} (hC : Clo Z l 10 7 prog_13_method_95_code none 6 111 o wo Ok) (w : Wld) (a1 : Int32) (a2 : Int32) : SimK Ok (0, [(0, vR 0), (1, vI a1), (2, vI a2)], [], w) (F_M_tellGains w a1 a2) (Gv o wo) := by
  unfold F_M_tellGains
  refine sim_blk0 hC [(.aload_n 0, 0, 0, 0, 0), (.aload_n 0, 0, 0, 0, 0), (.getfield 107, 0, 42, 26, 0), (.iconst 0, 0, 0, 0, 0)] [(0, vR 0), (1, vI a1), (2, vI a2)] [vI 0, vR 24, vR 0] w 6 (by decide +kernel) rfl rfl ?_
  refine sim_vv hC 379 mX11_pack 1 0 0 [vR 24, vI 0] [] (by decide +kernel) ml_10_379 rfl rfl rfl rfl rfl rfl (fun wz hz => c_M_pack_24 w 0 wz hz) (fun w1 => ?_)
  refine sim_blk0 hC [(.iconst 0, 0, 0, 0, 0), (.istore_n 3, 0, 0, 0, 0)] [(0, vR 0), (1, vI a1), (2, vI a2), (3, vI 0)] [] w1 11 (by decide +kernel) rfl rfl ?_
  refine sim_bl (E := (E_M_tellGains_11 a1 a2)) ?_ (fun r17 => ?_)
  · exact sim_loop (V := (V_M_tellGains_11 a1 a2)) (fun sz => s_B_M_tellGains_11 hC a1 a2 sz) ((0, w1))
  · show SimK Ok (203, [], [], r17) _ _
    exact sim_retv hC (by decide +kernel)
theorem c_M_tellGains {Z : ZT} {l : Launch} (w : Wld) (a1 : Int32) (a2 : Int32) (w1 : Wld) (h : F_M_tellGains w a1 a2 = some w1) : Con Z l mX11_tellGains 6 111 [vR 0, vI a1, vI a2] w (.inr none) w1 :=
  Con_of (oc := 10) (by decide +kernel) rfl rfl (fun Ok hC => s_M_tellGains hC w a1 a2 w1 h ⟨rfl, rfl⟩)
noncomputable def K_M_game_30 (w : Wld) : Option (Int32 × Wld) :=
  bd (F_M_fail w 1) (fun i3 w4 => some ((i3, w4)))
set_option maxRecDepth 10000 in
theorem s_K_M_game_30 {Z : ZT} {l : Launch} {o : Oc} {wo : Wld} {Ok : Cfg → Prop} (hC : Clo Z l 10 7 prog_13_method_96_code (some .int) 7 137 o wo Ok) (w : Wld) : SimK Ok (30, [(0, vR 0)], [], w) (K_M_game_30 w) (Gi o wo) := by
  unfold K_M_game_30
  refine sim_blk0 hC [(.aload_n 0, 0, 0, 0, 0), (.iconst 1, 0, 0, 0, 1)] [(0, vR 0)] [vI 1, vR 0] w 32 (by decide +kernel) rfl rfl ?_
  refine sim_vd hC 292 mX11_fail 1 0 0 [vI 1] [] (by decide +kernel) ml_10_292 rfl rfl rfl rfl rfl rfl (fun rz wz hz => c_M_fail w 1 rz wz hz) (fun i3 w4 => ?_)
  exact sim_reti hC (by decide +kernel) trivial
def V_M_game_62 (a3 : Int32) (w : Wld) : (Int32 × Int32 × Int32) → Cfg := fun s => (62, [(0, vR 0), (3, vI a3), (4, vI s.1), (5, vI s.2.1), (6, vI s.2.2)], [], w)
def E_M_game_62 (a3 : Int32) (w : Wld) : (Int32 × Int32) → Cfg := fun s => (155, [(3, vI a3), (4, vI s.1), (5, vI s.2)], [], w)
noncomputable def K_M_game_149 (a3 : Int32) (a4 : Int32) (a5 : Int32) (a6 : Int32) (w : Wld) : Option ((Int32 × Int32 × Int32) ⊕ (Int32 × Int32)) :=
  bi (a6 + 1) (fun i7 => some (.inl ((a4, a5, i7))))
set_option maxRecDepth 10000 in
theorem s_K_M_game_149 {Z : ZT} {l : Launch} {o : Oc} {wo : Wld} {Ok : Cfg → Prop} (hC : Clo Z l 10 7 prog_13_method_96_code (some .int) 7 137 o wo Ok) (a3 : Int32) (a4 : Int32) (a5 : Int32) (a6 : Int32) (w : Wld) : SimK Ok (149, [(0, vR 0), (3, vI a3), (4, vI a4), (5, vI a5), (6, vI a6)], [], w) (K_M_game_149 a3 a4 a5 a6 w) (GLp Ok (V_M_game_62 a3 w) (GEp Ok (E_M_game_62 a3 w))) := by
  unfold K_M_game_149
  refine sim_blk0 hC [(.iinc 6 1, 0, 0, 0, 1)] [(0, vR 0), (3, vI a3), (4, vI a4), (5, vI a5), (6, vI (a6 + 1))] [] w 152 (by decide +kernel) rfl rfl ?_
  refine sim_bi (C := fun i7 => (152, [(0, vR 0), (3, vI a3), (4, vI a4), (5, vI a5), (6, vI i7)], [], w)) (fun i7 => ?_)
  refine sim_goto hC (-90) 62 (by decide +kernel) (by decide) ?_
  exact sim_back (V := (V_M_game_62 a3 w)) ((a4, a5, i7))
noncomputable def K_M_game_147 (a3 : Int32) (a4 : Int32) (a6 : Int32) (t0 : Int32) (w : Wld) : Option ((Int32 × Int32 × Int32) ⊕ (Int32 × Int32)) :=
  K_M_game_149 a3 a4 t0 a6 w
set_option maxRecDepth 10000 in
theorem s_K_M_game_147 {Z : ZT} {l : Launch} {o : Oc} {wo : Wld} {Ok : Cfg → Prop} (hC : Clo Z l 10 7 prog_13_method_96_code (some .int) 7 137 o wo Ok) (a3 : Int32) (a4 : Int32) (a6 : Int32) (t0 : Int32) (w : Wld) : SimK Ok (147, [(0, vR 0), (3, vI a3), (4, vI a4), (6, vI a6)], [vI t0], w) (K_M_game_147 a3 a4 a6 t0 w) (GLp Ok (V_M_game_62 a3 w) (GEp Ok (E_M_game_62 a3 w))) := by
  unfold K_M_game_147
  refine sim_blk0 hC [(.istore 5, 0, 0, 0, 0)] [(0, vR 0), (3, vI a3), (4, vI a4), (5, vI t0), (6, vI a6)] [] w 149 (by decide +kernel) rfl rfl ?_
  exact s_K_M_game_149 hC a3 a4 t0 a6 w
noncomputable def B_M_game_62 (a3 : Int32) (w : Wld) (s : Int32 × Int32 × Int32) : Option ((Int32 × Int32 × Int32) ⊕ (Int32 × Int32)) :=
  br ((4 : Int32) ≤ s.2.2) (some (.inr ((s.1, s.2.1)))) (gd (vp_in ((2 : Int32) * (s.2.2 ^^^ (2 : Int32))) 8) (gd (vp_in ((2 : Int32) * s.2.2) 8) (br ((w 34 (Int32.toNatClampNeg ((2 : Int32) * s.2.2))) < (w 34 (Int32.toNatClampNeg ((2 : Int32) * (s.2.2 ^^^ (2 : Int32)))))) (K_M_game_149 a3 s.1 s.2.1 s.2.2 w) (gd (vp_in (((2 : Int32) * (s.2.2 ^^^ (1 : Int32))) + (1 : Int32)) 8) (gd (vp_in (((2 : Int32) * s.2.2) + (1 : Int32)) 8) (br ((w 34 (Int32.toNatClampNeg (((2 : Int32) * (s.2.2 ^^^ (1 : Int32))) + (1 : Int32)))) ≤ (w 34 (Int32.toNatClampNeg (((2 : Int32) * s.2.2) + (1 : Int32))))) (bi (s.1 + 1) (fun i8 => br (¬ s.2.1 = (-1)) (K_M_game_147 a3 i8 s.2.2 s.2.1 w) (gd (¬ (2 : Int32) = 0) (gd (¬ (2 : Int32) = 0) (K_M_game_147 a3 i8 s.2.2 (((10 : Int32) * (s.2.2 / (2 : Int32))) + (s.2.2 - s.2.2 / (2 : Int32) * (2 : Int32))) w))))) (K_M_game_149 a3 s.1 s.2.1 s.2.2 w)))))))
set_option maxRecDepth 10000 in
theorem s_B_M_game_62 {Z : ZT} {l : Launch} {o : Oc} {wo : Wld} {Ok : Cfg → Prop} (hC : Clo Z l 10 7 prog_13_method_96_code (some .int) 7 137 o wo Ok) (a3 : Int32) (w : Wld) (s : Int32 × Int32 × Int32) : SimK Ok (V_M_game_62 a3 w s) (B_M_game_62 a3 w s) (GLp Ok (V_M_game_62 a3 w) (GEp Ok (E_M_game_62 a3 w))) := by
  unfold B_M_game_62
  show SimK Ok (62, [(0, vR 0), (3, vI a3), (4, vI s.1), (5, vI s.2.1), (6, vI s.2.2)], [], w) _ _
  refine sim_blk0 hC [(.iload 6, 0, 0, 0, 0), (.iconst 4, 0, 0, 0, 4)] [(0, vR 0), (3, vI a3), (4, vI s.1), (5, vI s.2.1), (6, vI s.2.2)] [vI 4, vI s.2.2] w 65 (by decide +kernel) rfl rfl ?_
  refine sim_br hC (.if_icmp .ge 90) 155 (by decide +kernel) rfl (by decide) ?_ ?_
  · refine sim_sub hC [1, 2, 3] ?_
    exact sim_exit (E := (E_M_game_62 a3 w)) ((s.1, s.2.1))
  · refine sim_blk2 hC [(.aload_n 0, 0, 0, 0, 0), (.getfield 138, 0, 53, 36, 0), (.iconst 2, 0, 0, 0, 2), (.iload 6, 0, 0, 0, 0), (.iconst 2, 0, 0, 0, 2), (.ixor, 0, 0, 0, 0), (.imul, 0, 0, 0, 0), (.iaload, 34, 8, 0, 0), (.aload_n 0, 0, 0, 0, 0), (.getfield 138, 0, 53, 36, 0), (.iconst 2, 0, 0, 0, 2), (.iload 6, 0, 0, 0, 0), (.imul, 0, 0, 0, 0), (.iaload, 34, 8, 0, 0)] [(0, vR 0), (3, vI a3), (4, vI s.1), (5, vI s.2.1), (6, vI s.2.2)] [vI (w 34 (Int32.toNatClampNeg ((2 : Int32) * s.2.2))), vI (w 34 (Int32.toNatClampNeg ((2 : Int32) * (s.2.2 ^^^ (2 : Int32)))))] w 88 (by decide +kernel) rfl rfl ?_
    refine sim_br hC (.if_icmp .gt 61) 149 (by decide +kernel) rfl (by decide) ?_ ?_
    · exact s_K_M_game_149 hC a3 s.1 s.2.1 s.2.2 w
    · refine sim_blk2 hC [(.aload_n 0, 0, 0, 0, 0), (.getfield 138, 0, 53, 36, 0), (.iconst 2, 0, 0, 0, 2), (.iload 6, 0, 0, 0, 0), (.iconst 1, 0, 0, 0, 1), (.ixor, 0, 0, 0, 0), (.imul, 0, 0, 0, 0), (.iconst 1, 0, 0, 0, 1), (.iadd, 0, 0, 0, 0), (.iaload, 34, 8, 0, 0), (.aload_n 0, 0, 0, 0, 0), (.getfield 138, 0, 53, 36, 0), (.iconst 2, 0, 0, 0, 2), (.iload 6, 0, 0, 0, 0), (.imul, 0, 0, 0, 0), (.iconst 1, 0, 0, 0, 1), (.iadd, 0, 0, 0, 0), (.iaload, 34, 8, 0, 0)] [(0, vR 0), (3, vI a3), (4, vI s.1), (5, vI s.2.1), (6, vI s.2.2)] [vI (w 34 (Int32.toNatClampNeg (((2 : Int32) * s.2.2) + (1 : Int32)))), vI (w 34 (Int32.toNatClampNeg (((2 : Int32) * (s.2.2 ^^^ (1 : Int32))) + (1 : Int32))))] w 115 (by decide +kernel) rfl rfl ?_
      refine sim_br hC (.if_icmp .le 6) 121 (by decide +kernel) rfl (by decide) ?_ ?_
      · refine sim_blk0 hC [(.iinc 4 1, 0, 0, 0, 1)] [(0, vR 0), (3, vI a3), (4, vI (s.1 + 1)), (5, vI s.2.1), (6, vI s.2.2)] [] w 124 (by decide +kernel) rfl rfl ?_
        refine sim_bi (C := fun i8 => (124, [(0, vR 0), (3, vI a3), (4, vI i8), (5, vI s.2.1), (6, vI s.2.2)], [], w)) (fun i8 => ?_)
        refine sim_blk0 hC [(.iload 5, 0, 0, 0, 0), (.iconst (-1), 0, 0, 0, (-1))] [(0, vR 0), (3, vI a3), (4, vI i8), (5, vI s.2.1), (6, vI s.2.2)] [vI (-1), vI s.2.1] w 127 (by decide +kernel) rfl rfl ?_
        refine sim_br hC (.if_icmp .ne 18) 145 (by decide +kernel) rfl (by decide) ?_ ?_
        · refine sim_blk0 hC [(.iload 5, 0, 0, 0, 0)] [(0, vR 0), (3, vI a3), (4, vI i8), (5, vI s.2.1), (6, vI s.2.2)] [vI s.2.1] w 147 (by decide +kernel) rfl rfl ?_
          refine sim_sub hC [0, 1, 2, 4] ?_
          exact s_K_M_game_147 hC a3 i8 s.2.2 s.2.1 w
        · refine sim_blk2 hC [(.bipush 10, 0, 0, 0, 10), (.iload 6, 0, 0, 0, 0), (.iconst 2, 0, 0, 0, 2), (.idiv, 0, 0, 0, 0), (.imul, 0, 0, 0, 0), (.iload 6, 0, 0, 0, 0), (.iconst 2, 0, 0, 0, 2), (.irem, 0, 0, 0, 0), (.iadd, 0, 0, 0, 0)] [(0, vR 0), (3, vI a3), (4, vI i8), (5, vI s.2.1), (6, vI s.2.2)] [vI (((10 : Int32) * (s.2.2 / (2 : Int32))) + (s.2.2 - s.2.2 / (2 : Int32) * (2 : Int32)))] w 142 (by decide +kernel) rfl rfl ?_
          refine sim_goto hC 5 147 (by decide +kernel) (by decide) ?_
          refine sim_sub hC [0, 1, 2, 4] ?_
          exact s_K_M_game_147 hC a3 i8 s.2.2 (((10 : Int32) * (s.2.2 / (2 : Int32))) + (s.2.2 - s.2.2 / (2 : Int32) * (2 : Int32))) w
      · refine sim_goto hC 31 149 (by decide +kernel) (by decide) ?_
        exact s_K_M_game_149 hC a3 s.1 s.2.1 s.2.2 w
noncomputable def K_M_game_166 (t0 : Int32) (w : Wld) : Option (Int32 × Wld) :=
  some ((t0, w))
set_option maxRecDepth 10000 in
theorem s_K_M_game_166 {Z : ZT} {l : Launch} {o : Oc} {wo : Wld} {Ok : Cfg → Prop} (hC : Clo Z l 10 7 prog_13_method_96_code (some .int) 7 137 o wo Ok) (t0 : Int32) (w : Wld) : SimK Ok (166, [], [vI t0], w) (K_M_game_166 t0 w) (Gi o wo) := by
  unfold K_M_game_166
  exact sim_reti hC (by decide +kernel) trivial
noncomputable def F_M_game (w : Wld) (a1 : Int32) (a2 : Int32) (a3 : Int32) : Option (Int32 × Wld) :=
  bw (wup w 0 2 0) (fun w1 => bp (F_M_isMonk w1 a1) (fun i2 => br (i2 = 0) (K_M_game_30 w1) (bp (F_M_isMonk w1 a2) (fun i5 => br (i5 = 0) (K_M_game_30 w1) (br (a3 < 0) (K_M_game_30 w1) (br (a3 ≤ 1) (br (¬ a1 = a2) (bv (F_M_tellGains w1 a1 a2) (fun w6 => bl (loop (B_M_game_62 a3 w6) ((0, (-1), 0))) (fun r9 => br (¬ a3 = 0) (K_M_game_166 r9.2 w6) (K_M_game_166 r9.1 w6)))) (bd (F_M_fail w1 2) (fun i10 w11 => some ((i10, w11))))) (K_M_game_30 w1)))))))
set_option maxRecDepth 10000 in
theorem s_M_game {Z : ZT} {l : Launch} {o : Oc} {wo : Wld} {Ok : Cfg → Prop} (hC : Clo Z l 10 7 prog_13_method_96_code (some .int) 7 137 o wo Ok) (w : Wld) (a1 : Int32) (a2 : Int32) (a3 : Int32) : SimK Ok (0, [(0, vR 0), (1, vI a1), (2, vI a2), (3, vI a3)], [], w) (F_M_game w a1 a2 a3) (Gi o wo) := by
  unfold F_M_game
  refine sim_blk0 hC [(.aload_n 0, 0, 0, 0, 0), (.iconst 0, 0, 0, 0, 0), (.putfield 159, 0, 2, 0, 0)] [(0, vR 0), (1, vI a1), (2, vI a2), (3, vI a3)] [] (wup w 0 2 0) 5 (by decide +kernel) rfl rfl ?_
  refine sim_bw (C := fun w1 => (5, [(0, vR 0), (1, vI a1), (2, vI a2), (3, vI a3)], [], w1)) (fun w1 => ?_)
  refine sim_blk0 hC [(.aload_n 0, 0, 0, 0, 0), (.iload_n 1, 0, 0, 0, 0)] [(0, vR 0), (1, vI a1), (2, vI a2), (3, vI a3)] [vI a1, vR 0] w1 7 (by decide +kernel) rfl rfl ?_
  refine sim_vp hC 376 mX11_isMonk 2 25 0 [vI a1] [] (by decide +kernel) ml_10_376 rfl rfl rfl rfl rfl rfl (fun rz hz => c_M_isMonk w1 a1 rz hz) (fun i2 => ?_)
  refine sim_br hC (.ifCond .eq 20) 30 (by decide +kernel) rfl (by decide) ?_ ?_
  · refine sim_sub hC [0] ?_
    exact s_K_M_game_30 hC w1
  · refine sim_blk0 hC [(.aload_n 0, 0, 0, 0, 0), (.iload_n 2, 0, 0, 0, 0)] [(0, vR 0), (1, vI a1), (2, vI a2), (3, vI a3)] [vI a2, vR 0] w1 15 (by decide +kernel) rfl rfl ?_
    refine sim_vp hC 376 mX11_isMonk 2 25 0 [vI a2] [] (by decide +kernel) ml_10_376 rfl rfl rfl rfl rfl rfl (fun rz hz => c_M_isMonk w1 a2 rz hz) (fun i5 => ?_)
    refine sim_br hC (.ifCond .eq 12) 30 (by decide +kernel) rfl (by decide) ?_ ?_
    · refine sim_sub hC [0] ?_
      exact s_K_M_game_30 hC w1
    · refine sim_blk0 hC [(.iload_n 3, 0, 0, 0, 0)] [(0, vR 0), (1, vI a1), (2, vI a2), (3, vI a3)] [vI a3] w1 22 (by decide +kernel) rfl rfl ?_
      refine sim_br hC (.ifCond .lt 8) 30 (by decide +kernel) rfl (by decide) ?_ ?_
      · refine sim_sub hC [0] ?_
        exact s_K_M_game_30 hC w1
      · refine sim_blk0 hC [(.iload_n 3, 0, 0, 0, 0), (.iconst 1, 0, 0, 0, 1)] [(0, vR 0), (1, vI a1), (2, vI a2), (3, vI a3)] [vI 1, vI a3] w1 27 (by decide +kernel) rfl rfl ?_
        refine sim_br hC (.if_icmp .le 9) 36 (by decide +kernel) rfl (by decide) ?_ ?_
        · refine sim_blk0 hC [(.iload_n 1, 0, 0, 0, 0), (.iload_n 2, 0, 0, 0, 0)] [(0, vR 0), (1, vI a1), (2, vI a2), (3, vI a3)] [vI a2, vI a1] w1 38 (by decide +kernel) rfl rfl ?_
          refine sim_br hC (.if_icmp .ne 9) 47 (by decide +kernel) rfl (by decide) ?_ ?_
          · refine sim_blk0 hC [(.aload_n 0, 0, 0, 0, 0), (.iload_n 1, 0, 0, 0, 0), (.iload_n 2, 0, 0, 0, 0)] [(0, vR 0), (1, vI a1), (2, vI a2), (3, vI a3)] [vI a2, vI a1, vR 0] w1 50 (by decide +kernel) rfl rfl ?_
            refine sim_vv hC 445 mX11_tellGains 6 111 0 [vI a1, vI a2] [] (by decide +kernel) ml_10_445 rfl rfl rfl rfl rfl rfl (fun wz hz => c_M_tellGains w1 a1 a2 wz hz) (fun w6 => ?_)
            refine sim_blk0 hC [(.iconst 0, 0, 0, 0, 0), (.istore 4, 0, 0, 0, 0), (.iconst (-1), 0, 0, 0, (-1)), (.istore 5, 0, 0, 0, 0), (.iconst 0, 0, 0, 0, 0), (.istore 6, 0, 0, 0, 0)] [(0, vR 0), (1, vI a1), (2, vI a2), (3, vI a3), (4, vI 0), (5, vI (-1)), (6, vI 0)] [] w6 62 (by decide +kernel) rfl rfl ?_
            refine sim_bl (E := (E_M_game_62 a3 w6)) ?_ (fun r9 => ?_)
            · refine sim_sub hC [0, 3, 4, 5, 6] ?_
              exact sim_loop (V := (V_M_game_62 a3 w6)) (fun sz => s_B_M_game_62 hC a3 w6 sz) ((0, (-1), 0))
            · show SimK Ok (155, [(3, vI a3), (4, vI r9.1), (5, vI r9.2)], [], w6) _ _
              refine sim_blk0 hC [(.iload_n 3, 0, 0, 0, 0)] [(3, vI a3), (4, vI r9.1), (5, vI r9.2)] [vI a3] w6 156 (by decide +kernel) rfl rfl ?_
              refine sim_br hC (.ifCond .ne 8) 164 (by decide +kernel) rfl (by decide) ?_ ?_
              · refine sim_blk0 hC [(.iload 5, 0, 0, 0, 0)] [(3, vI a3), (4, vI r9.1), (5, vI r9.2)] [vI r9.2] w6 166 (by decide +kernel) rfl rfl ?_
                refine sim_sub hC [] ?_
                exact s_K_M_game_166 hC r9.2 w6
              · refine sim_blk0 hC [(.iload 4, 0, 0, 0, 0)] [(3, vI a3), (4, vI r9.1), (5, vI r9.2)] [vI r9.1] w6 161 (by decide +kernel) rfl rfl ?_
                refine sim_goto hC 5 166 (by decide +kernel) (by decide) ?_
                refine sim_sub hC [] ?_
                exact s_K_M_game_166 hC r9.1 w6
          · refine sim_blk0 hC [(.aload_n 0, 0, 0, 0, 0), (.iconst 2, 0, 0, 0, 2)] [(0, vR 0), (1, vI a1), (2, vI a2), (3, vI a3)] [vI 2, vR 0] w1 43 (by decide +kernel) rfl rfl ?_
            refine sim_vd hC 292 mX11_fail 1 0 0 [vI 2] [] (by decide +kernel) ml_10_292 rfl rfl rfl rfl rfl rfl (fun rz wz hz => c_M_fail w1 2 rz wz hz) (fun i10 w11 => ?_)
            exact sim_reti hC (by decide +kernel) trivial
        · refine sim_sub hC [0] ?_
          exact s_K_M_game_30 hC w1
theorem c_M_game {Z : ZT} {l : Launch} (w : Wld) (a1 : Int32) (a2 : Int32) (a3 : Int32) (r : Int32) (w1 : Wld) (h : F_M_game w a1 a2 a3 = some (r, w1)) : Con Z l mX11_game 7 137 [vR 0, vI a1, vI a2, vI a3] w (.inr (some r)) w1 :=
  Con_of (oc := 10) (by decide +kernel) rfl rfl (fun Ok hC => s_M_game hC w a1 a2 a3 (r, w1) h ⟨rfl, rfl⟩)
noncomputable def F_M_drawOf (w : Wld) (a1 : Int32) : Option (Int32 × Wld) :=
  bw (wup w 0 54 (((w 0 54) * (1103515245 : Int32)) + (12345 : Int32))) (fun w1 => gd (¬ a1 = 0) (some (((((w1 0 54) >>> ((16 : Int32) &&& 31)) &&& (32767 : Int32)) - (((w1 0 54) >>> ((16 : Int32) &&& 31)) &&& (32767 : Int32)) / a1 * a1, w1))))
set_option maxRecDepth 10000 in
theorem s_M_drawOf {Z : ZT} {l : Launch} {o : Oc} {wo : Wld} {Ok : Cfg → Prop} (hC : Clo Z l 10 2 prog_13_method_97_code (some .int) 1 0 o wo Ok) (w : Wld) (a1 : Int32) : SimK Ok (0, [(0, vR 0), (1, vI a1)], [], w) (F_M_drawOf w a1) (Gi o wo) := by
  unfold F_M_drawOf
  refine sim_blk0 hC [(.aload_n 0, 0, 0, 0, 0), (.aload_n 0, 0, 0, 0, 0), (.getfield 449, 0, 54, 0, 0), (.ldc_w 452, 0, 0, 0, 1103515245), (.imul, 0, 0, 0, 0), (.sipush 12345, 0, 0, 0, 12345), (.iadd, 0, 0, 0, 0), (.putfield 449, 0, 54, 0, 0)] [(0, vR 0), (1, vI a1)] [] (wup w 0 54 (((w 0 54) * (1103515245 : Int32)) + (12345 : Int32))) 16 (by decide +kernel) rfl rfl ?_
  refine sim_bw (C := fun w1 => (16, [(0, vR 0), (1, vI a1)], [], w1)) (fun w1 => ?_)
  refine sim_blk1 hC [(.aload_n 0, 0, 0, 0, 0), (.getfield 449, 0, 54, 0, 0), (.bipush 16, 0, 0, 0, 16), (.ishr, 0, 0, 0, 0), (.sipush 32767, 0, 0, 0, 32767), (.iand, 0, 0, 0, 0), (.iload_n 1, 0, 0, 0, 0), (.irem, 0, 0, 0, 0)] [(0, vR 0), (1, vI a1)] [vI ((((w1 0 54) >>> ((16 : Int32) &&& 31)) &&& (32767 : Int32)) - (((w1 0 54) >>> ((16 : Int32) &&& 31)) &&& (32767 : Int32)) / a1 * a1)] w1 29 (by decide +kernel) rfl rfl ?_
  exact sim_reti hC (by decide +kernel) trivial
theorem c_M_drawOf {Z : ZT} {l : Launch} (w : Wld) (a1 : Int32) (r : Int32) (w1 : Wld) (h : F_M_drawOf w a1 = some (r, w1)) : Con Z l mX11_drawOf 1 0 [vR 0, vI a1] w (.inr (some r)) w1 :=
  Con_of (oc := 10) (by decide +kernel) rfl rfl (fun Ok hC => s_M_drawOf hC w a1 (r, w1) h ⟨rfl, rfl⟩)
noncomputable def K_M_something_20 (w : Wld) : Option (Wld) :=
  some w
set_option maxRecDepth 10000 in
theorem s_K_M_something_20 {Z : ZT} {l : Launch} {o : Oc} {wo : Wld} {Ok : Cfg → Prop} (hC : Clo Z l 10 3 prog_13_method_98_code none 2 21 o wo Ok) (w : Wld) : SimK Ok (20, [], [], w) (K_M_something_20 w) (Gv o wo) := by
  unfold K_M_something_20
  exact sim_retv hC (by decide +kernel)
noncomputable def K_M_something_66 (w : Wld) : Option (Wld) :=
  some w
set_option maxRecDepth 10000 in
theorem s_K_M_something_66 {Z : ZT} {l : Launch} {o : Oc} {wo : Wld} {Ok : Cfg → Prop} (hC : Clo Z l 10 3 prog_13_method_98_code none 2 21 o wo Ok) (w : Wld) : SimK Ok (66, [], [], w) (K_M_something_66 w) (Gv o wo) := by
  unfold K_M_something_66
  exact sim_retv hC (by decide +kernel)
noncomputable def F_M_something (w : Wld) : Option (Wld) :=
  bd (F_M_drawOf w 5) (fun i1 w2 => br ((1 : Int32) < i1) (K_M_something_20 w2) (gd (vp_in 1 10) (br (¬ (w2 3 (Int32.toNatClampNeg 1)) = 0) (gd (vp_in 1 10) (bd (F_M_drawOf w2 (w2 3 (Int32.toNatClampNeg 1))) (fun i3 w4 => br (¬ i1 = 0) (gd (vp_in i3 8) (bw (wup w4 14 (Int32.toNatClampNeg i3) 99) (fun w5 => K_M_something_66 w5))) (gd (vp_in i3 8) (gd (vp_in i3 8) (bw (wup w4 15 (Int32.toNatClampNeg i3) (imin 9 ((w4 15 (Int32.toNatClampNeg i3)) + (2 : Int32)))) (fun w6 => K_M_something_66 w6))))))) (K_M_something_20 w2))))
set_option maxRecDepth 10000 in
theorem s_M_something {Z : ZT} {l : Launch} {o : Oc} {wo : Wld} {Ok : Cfg → Prop} (hC : Clo Z l 10 3 prog_13_method_98_code none 2 21 o wo Ok) (w : Wld) : SimK Ok (0, [(0, vR 0)], [], w) (F_M_something w) (Gv o wo) := by
  unfold F_M_something
  refine sim_blk0 hC [(.aload_n 0, 0, 0, 0, 0), (.iconst 5, 0, 0, 0, 5)] [(0, vR 0)] [vI 5, vR 0] w 2 (by decide +kernel) rfl rfl ?_
  refine sim_vd hC 453 mX11_drawOf 1 0 0 [vI 5] [] (by decide +kernel) ml_10_453 rfl rfl rfl rfl rfl rfl (fun rz wz hz => c_M_drawOf w 5 rz wz hz) (fun i1 w2 => ?_)
  refine sim_blk0 hC [(.istore_n 1, 0, 0, 0, 0), (.iload_n 1, 0, 0, 0, 0), (.iconst 1, 0, 0, 0, 1)] [(0, vR 0), (1, vI i1)] [vI 1, vI i1] w2 8 (by decide +kernel) rfl rfl ?_
  refine sim_br hC (.if_icmp .gt 12) 20 (by decide +kernel) rfl (by decide) ?_ ?_
  · refine sim_sub hC [] ?_
    exact s_K_M_something_20 hC w2
  · refine sim_blk1 hC [(.aload_n 0, 0, 0, 0, 0), (.getfield 42, 0, 3, 5, 0), (.iconst 1, 0, 0, 0, 1), (.iaload, 3, 10, 0, 0)] [(0, vR 0), (1, vI i1)] [vI (w2 3 (Int32.toNatClampNeg 1))] w2 17 (by decide +kernel) rfl rfl ?_
    refine sim_br hC (.ifCond .ne 4) 21 (by decide +kernel) rfl (by decide) ?_ ?_
    · refine sim_blk1 hC [(.aload_n 0, 0, 0, 0, 0), (.aload_n 0, 0, 0, 0, 0), (.getfield 42, 0, 3, 5, 0), (.iconst 1, 0, 0, 0, 1), (.iaload, 3, 10, 0, 0)] [(0, vR 0), (1, vI i1)] [vI (w2 3 (Int32.toNatClampNeg 1)), vR 0] w2 28 (by decide +kernel) rfl rfl ?_
      refine sim_vd hC 453 mX11_drawOf 1 0 0 [vI (w2 3 (Int32.toNatClampNeg 1))] [] (by decide +kernel) ml_10_453 rfl rfl rfl rfl rfl rfl (fun rz wz hz => c_M_drawOf w2 (w2 3 (Int32.toNatClampNeg 1)) rz wz hz) (fun i3 w4 => ?_)
      refine sim_blk0 hC [(.istore_n 2, 0, 0, 0, 0), (.iload_n 1, 0, 0, 0, 0)] [(0, vR 0), (1, vI i1), (2, vI i3)] [vI i1] w4 33 (by decide +kernel) rfl rfl ?_
      refine sim_br hC (.ifCond .ne 25) 58 (by decide +kernel) rfl (by decide) ?_ ?_
      · refine sim_blk1 hC [(.aload_n 0, 0, 0, 0, 0), (.getfield 78, 0, 24, 16, 0), (.iload_n 2, 0, 0, 0, 0), (.bipush 99, 0, 0, 0, 99), (.iastore, 14, 8, 0, 0)] [(0, vR 0), (1, vI i1), (2, vI i3)] [] (wup w4 14 (Int32.toNatClampNeg i3) 99) 66 (by decide +kernel) rfl rfl ?_
        refine sim_bw (C := fun w5 => (66, [(0, vR 0), (1, vI i1), (2, vI i3)], [], w5)) (fun w5 => ?_)
        refine sim_sub hC [] ?_
        exact s_K_M_something_66 hC w5
      · refine sim_blk1 hC [(.aload_n 0, 0, 0, 0, 0), (.getfield 81, 0, 25, 17, 0), (.iload_n 2, 0, 0, 0, 0), (.bipush 9, 0, 0, 0, 9), (.aload_n 0, 0, 0, 0, 0), (.getfield 81, 0, 25, 17, 0), (.iload_n 2, 0, 0, 0, 0), (.iaload, 15, 8, 0, 0), (.iconst 2, 0, 0, 0, 2), (.iadd, 0, 0, 0, 0)] [(0, vR 0), (1, vI i1), (2, vI i3)] [vI ((w4 15 (Int32.toNatClampNeg i3)) + (2 : Int32)), vI 9, vI i3, vR 15] w4 51 (by decide +kernel) rfl rfl ?_
        refine sim_min hC 196 (by decide +kernel) ml_10_196 rfl rfl rfl ?_
        refine sim_blk1 hC [(.iastore, 15, 8, 0, 0)] [(0, vR 0), (1, vI i1), (2, vI i3)] [] (wup w4 15 (Int32.toNatClampNeg i3) (imin 9 ((w4 15 (Int32.toNatClampNeg i3)) + (2 : Int32)))) 55 (by decide +kernel) rfl rfl ?_
        refine sim_bw (C := fun w6 => (55, [(0, vR 0), (1, vI i1), (2, vI i3)], [], w6)) (fun w6 => ?_)
        refine sim_goto hC 11 66 (by decide +kernel) (by decide) ?_
        refine sim_sub hC [] ?_
        exact s_K_M_something_66 hC w6
    · refine sim_sub hC [] ?_
      exact s_K_M_something_20 hC w2
theorem c_M_something {Z : ZT} {l : Launch} (w : Wld) (w1 : Wld) (h : F_M_something w = some w1) : Con Z l mX11_something 2 21 [vR 0] w (.inr none) w1 :=
  Con_of (oc := 10) (by decide +kernel) rfl rfl (fun Ok hC => s_M_something hC w w1 h ⟨rfl, rfl⟩)
def V_M_years_64 (a2 : Int32) (a3 : Int32) : (Int32 × Int32 × Int32 × Wld) → Cfg := fun s => (64, [(0, vR 0), (2, vI a2), (3, vI a3), (4, vI s.1), (5, vI s.2.1), (6, vI s.2.2.1)], [], s.2.2.2)
def E_M_years_64 (a2 : Int32) (a3 : Int32) : (Int32 × Int32 × Wld) → Cfg := fun s => (110, [(0, vR 0), (3, vI a3), (4, vI s.1), (5, vI s.2.1)], [], s.2.2)
noncomputable def K_M_years_92 (a2 : Int32) (a3 : Int32) (a5 : Int32) (a6 : Int32) (t0 : Int32) (t1 : Int32) (w : Wld) : Option ((Int32 × Int32 × Int32 × Wld) ⊕ (Int32 × Int32 × Wld)) :=
  bi (t0 + t1) (fun i8 => bi (a5 + (w 0 38)) (fun i9 => bi (a6 + 1) (fun i10 => some (.inl ((i8, i9, i10, w))))))
set_option maxRecDepth 10000 in
theorem s_K_M_years_92 {Z : ZT} {l : Launch} {o : Oc} {wo : Wld} {Ok : Cfg → Prop} (hC : Clo Z l 10 7 prog_13_method_99_code (some .int) 6 111 o wo Ok) (a2 : Int32) (a3 : Int32) (a5 : Int32) (a6 : Int32) (t0 : Int32) (t1 : Int32) (w : Wld) : SimK Ok (92, [(0, vR 0), (2, vI a2), (3, vI a3), (5, vI a5), (6, vI a6)], [vI t1, vI t0], w) (K_M_years_92 a2 a3 a5 a6 t0 t1 w) (GLp Ok (V_M_years_64 a2 a3) (GEp Ok (E_M_years_64 a2 a3))) := by
  unfold K_M_years_92
  refine sim_blk0 hC [(.iadd, 0, 0, 0, 0), (.istore 4, 0, 0, 0, 0)] [(0, vR 0), (2, vI a2), (3, vI a3), (4, vI (t0 + t1)), (5, vI a5), (6, vI a6)] [] w 95 (by decide +kernel) rfl rfl ?_
  refine sim_bi (C := fun i8 => (95, [(0, vR 0), (2, vI a2), (3, vI a3), (4, vI i8), (5, vI a5), (6, vI a6)], [], w)) (fun i8 => ?_)
  refine sim_blk0 hC [(.iload 5, 0, 0, 0, 0), (.aload_n 0, 0, 0, 0, 0), (.getfield 344, 0, 38, 0, 0), (.iadd, 0, 0, 0, 0), (.istore 5, 0, 0, 0, 0)] [(0, vR 0), (2, vI a2), (3, vI a3), (4, vI i8), (5, vI (a5 + (w 0 38))), (6, vI a6)] [] w 104 (by decide +kernel) rfl rfl ?_
  refine sim_bi (C := fun i9 => (104, [(0, vR 0), (2, vI a2), (3, vI a3), (4, vI i8), (5, vI i9), (6, vI a6)], [], w)) (fun i9 => ?_)
  refine sim_blk0 hC [(.iinc 6 1, 0, 0, 0, 1)] [(0, vR 0), (2, vI a2), (3, vI a3), (4, vI i8), (5, vI i9), (6, vI (a6 + 1))] [] w 107 (by decide +kernel) rfl rfl ?_
  refine sim_bi (C := fun i10 => (107, [(0, vR 0), (2, vI a2), (3, vI a3), (4, vI i8), (5, vI i9), (6, vI i10)], [], w)) (fun i10 => ?_)
  refine sim_goto hC (-43) 64 (by decide +kernel) (by decide) ?_
  exact sim_back (V := (V_M_years_64 a2 a3)) ((i8, i9, i10, w))
noncomputable def B_M_years_64 (a2 : Int32) (a3 : Int32) (s : Int32 × Int32 × Int32 × Wld) : Option ((Int32 × Int32 × Int32 × Wld) ⊕ (Int32 × Int32 × Wld)) :=
  br (a2 ≤ s.2.2.1) (some (.inr ((s.1, s.2.1, s.2.2.2)))) (bv (F_M_something s.2.2.2) (fun w6 => bv (F_M_aNight w6) (fun w7 => br (¬ (w7 0 39) = 0) (K_M_years_92 a2 a3 s.2.1 s.2.2.1 s.1 0 w7) (K_M_years_92 a2 a3 s.2.1 s.2.2.1 s.1 1 w7))))
set_option maxRecDepth 10000 in
theorem s_B_M_years_64 {Z : ZT} {l : Launch} {o : Oc} {wo : Wld} {Ok : Cfg → Prop} (hC : Clo Z l 10 7 prog_13_method_99_code (some .int) 6 111 o wo Ok) (a2 : Int32) (a3 : Int32) (s : Int32 × Int32 × Int32 × Wld) : SimK Ok (V_M_years_64 a2 a3 s) (B_M_years_64 a2 a3 s) (GLp Ok (V_M_years_64 a2 a3) (GEp Ok (E_M_years_64 a2 a3))) := by
  unfold B_M_years_64
  show SimK Ok (64, [(0, vR 0), (2, vI a2), (3, vI a3), (4, vI s.1), (5, vI s.2.1), (6, vI s.2.2.1)], [], s.2.2.2) _ _
  refine sim_blk0 hC [(.iload 6, 0, 0, 0, 0), (.iload_n 2, 0, 0, 0, 0)] [(0, vR 0), (2, vI a2), (3, vI a3), (4, vI s.1), (5, vI s.2.1), (6, vI s.2.2.1)] [vI a2, vI s.2.2.1] s.2.2.2 67 (by decide +kernel) rfl rfl ?_
  refine sim_br hC (.if_icmp .ge 43) 110 (by decide +kernel) rfl (by decide) ?_ ?_
  · refine sim_sub hC [0, 2, 3, 4] ?_
    exact sim_exit (E := (E_M_years_64 a2 a3)) ((s.1, s.2.1, s.2.2.2))
  · refine sim_blk0 hC [(.aload_n 0, 0, 0, 0, 0)] [(0, vR 0), (2, vI a2), (3, vI a3), (4, vI s.1), (5, vI s.2.1), (6, vI s.2.2.1)] [vR 0] s.2.2.2 71 (by decide +kernel) rfl rfl ?_
    refine sim_vv hC 456 mX11_something 2 21 0 [] [] (by decide +kernel) ml_10_456 rfl rfl rfl rfl rfl rfl (fun wz hz => c_M_something s.2.2.2 wz hz) (fun w6 => ?_)
    refine sim_blk0 hC [(.aload_n 0, 0, 0, 0, 0)] [(0, vR 0), (2, vI a2), (3, vI a3), (4, vI s.1), (5, vI s.2.1), (6, vI s.2.2.1)] [vR 0] w6 75 (by decide +kernel) rfl rfl ?_
    refine sim_vv hC 362 mX11_aNight 5 88 0 [] [] (by decide +kernel) ml_10_362 rfl rfl rfl rfl rfl rfl (fun wz hz => c_M_aNight w6 wz hz) (fun w7 => ?_)
    refine sim_blk0 hC [(.iload 4, 0, 0, 0, 0), (.aload_n 0, 0, 0, 0, 0), (.getfield 356, 0, 39, 0, 0)] [(0, vR 0), (2, vI a2), (3, vI a3), (4, vI s.1), (5, vI s.2.1), (6, vI s.2.2.1)] [vI (w7 0 39), vI s.1] w7 84 (by decide +kernel) rfl rfl ?_
    refine sim_br hC (.ifCond .ne 7) 91 (by decide +kernel) rfl (by decide) ?_ ?_
    · refine sim_blk0 hC [(.iconst 0, 0, 0, 0, 0)] [(0, vR 0), (2, vI a2), (3, vI a3), (4, vI s.1), (5, vI s.2.1), (6, vI s.2.2.1)] [vI 0, vI s.1] w7 92 (by decide +kernel) rfl rfl ?_
      refine sim_sub hC [0, 1, 2, 4, 5] ?_
      exact s_K_M_years_92 hC a2 a3 s.2.1 s.2.2.1 s.1 0 w7
    · refine sim_blk0 hC [(.iconst 1, 0, 0, 0, 1)] [(0, vR 0), (2, vI a2), (3, vI a3), (4, vI s.1), (5, vI s.2.1), (6, vI s.2.2.1)] [vI 1, vI s.1] w7 88 (by decide +kernel) rfl rfl ?_
      refine sim_goto hC 4 92 (by decide +kernel) (by decide) ?_
      refine sim_sub hC [0, 1, 2, 4, 5] ?_
      exact s_K_M_years_92 hC a2 a3 s.2.1 s.2.2.1 s.1 1 w7
noncomputable def K_M_years_133 (t0 : Int32) (w : Wld) : Option (Int32 × Wld) :=
  bv (F_M_unpack_24 w 0) (fun w13 => some ((t0, w13)))
set_option maxRecDepth 10000 in
theorem s_K_M_years_133 {Z : ZT} {l : Launch} {o : Oc} {wo : Wld} {Ok : Cfg → Prop} (hC : Clo Z l 10 7 prog_13_method_99_code (some .int) 6 111 o wo Ok) (t0 : Int32) (w : Wld) : SimK Ok (133, [(0, vR 0)], [vI t0], w) (K_M_years_133 t0 w) (Gi o wo) := by
  unfold K_M_years_133
  refine sim_blk0 hC [(.istore 6, 0, 0, 0, 0), (.aload_n 0, 0, 0, 0, 0), (.aload_n 0, 0, 0, 0, 0), (.getfield 107, 0, 42, 26, 0), (.iconst 0, 0, 0, 0, 0)] [(0, vR 0), (6, vI t0)] [vI 0, vR 24, vR 0] w 141 (by decide +kernel) rfl rfl ?_
  refine sim_vv hC 401 mX11_unpack 1 0 0 [vR 24, vI 0] [] (by decide +kernel) ml_10_401 rfl rfl rfl rfl rfl rfl (fun wz hz => c_M_unpack_24 w 0 wz hz) (fun w13 => ?_)
  refine sim_blk0 hC [(.iload 6, 0, 0, 0, 0)] [(0, vR 0), (6, vI t0)] [vI t0] w13 146 (by decide +kernel) rfl rfl ?_
  exact sim_reti hC (by decide +kernel) trivial
noncomputable def F_M_years (w : Wld) (a1 : Int32) (a2 : Int32) (a3 : Int32) : Option (Int32 × Wld) :=
  bw (wup w 0 2 0) (fun w1 => bp (F_M_isIn w1 (Int32.toInt64 a3) (Int32.toInt64 0) (Int32.toInt64 2)) (fun i2 => br (¬ i2 = 0) (bp (F_M_isIn w1 (Int32.toInt64 a2) (Int32.toInt64 0) (Int32.toInt64 60)) (fun i3 => br (¬ i3 = 0) (bv (F_M_pack_24 w1 0) (fun w4 => bw (wup w4 0 54 a1) (fun w5 => bl (loop (B_M_years_64 a2 a3) ((0, 0, 0, w5))) (fun r11 => br (¬ a3 = 0) (br (¬ a3 = 1) (bp (F_M_metMany r11.2.2) (fun i12 => K_M_years_133 i12 r11.2.2)) (K_M_years_133 r11.2.1 r11.2.2)) (K_M_years_133 r11.1 r11.2.2))))) (bd (F_M_fail w1 2) (fun i14 w15 => some ((i14, w15)))))) (bd (F_M_fail w1 1) (fun i16 w17 => some ((i16, w17))))))
set_option maxRecDepth 10000 in
theorem s_M_years {Z : ZT} {l : Launch} {o : Oc} {wo : Wld} {Ok : Cfg → Prop} (hC : Clo Z l 10 7 prog_13_method_99_code (some .int) 6 111 o wo Ok) (w : Wld) (a1 : Int32) (a2 : Int32) (a3 : Int32) : SimK Ok (0, [(0, vR 0), (1, vI a1), (2, vI a2), (3, vI a3)], [], w) (F_M_years w a1 a2 a3) (Gi o wo) := by
  unfold F_M_years
  refine sim_blk0 hC [(.aload_n 0, 0, 0, 0, 0), (.iconst 0, 0, 0, 0, 0), (.putfield 159, 0, 2, 0, 0)] [(0, vR 0), (1, vI a1), (2, vI a2), (3, vI a3)] [] (wup w 0 2 0) 5 (by decide +kernel) rfl rfl ?_
  refine sim_bw (C := fun w1 => (5, [(0, vR 0), (1, vI a1), (2, vI a2), (3, vI a3)], [], w1)) (fun w1 => ?_)
  refine sim_blk0 hC [(.iload_n 3, 0, 0, 0, 0), (.i2l, 0, 0, 0, 0), (.lconst 0, 0, 0, 0, 0), (.ldc2_w 404, 0, 0, 0, 2)] [(0, vR 0), (1, vI a1), (2, vI a2), (3, vI a3)] [vL (Int32.toInt64 2), vL (Int32.toInt64 0), vL (Int32.toInt64 a3)] w1 11 (by decide +kernel) rfl rfl ?_
  refine sim_sp hC 162 mX11_isIn 1 0 [vL (Int32.toInt64 a3), vL (Int32.toInt64 0), vL (Int32.toInt64 2)] [] (by decide +kernel) ml_10_162 rfl rfl rfl rfl rfl (fun rz hz => c_M_isIn w1 (Int32.toInt64 a3) (Int32.toInt64 0) (Int32.toInt64 2) rz hz) (fun i2 => ?_)
  refine sim_br hC (.ifCond .ne 9) 23 (by decide +kernel) rfl (by decide) ?_ ?_
  · refine sim_blk0 hC [(.iload_n 2, 0, 0, 0, 0), (.i2l, 0, 0, 0, 0), (.lconst 0, 0, 0, 0, 0), (.ldc2_w 406, 0, 0, 0, 60)] [(0, vR 0), (1, vI a1), (2, vI a2), (3, vI a3)] [vL (Int32.toInt64 60), vL (Int32.toInt64 0), vL (Int32.toInt64 a2)] w1 29 (by decide +kernel) rfl rfl ?_
    refine sim_sp hC 162 mX11_isIn 1 0 [vL (Int32.toInt64 a2), vL (Int32.toInt64 0), vL (Int32.toInt64 60)] [] (by decide +kernel) ml_10_162 rfl rfl rfl rfl rfl (fun rz hz => c_M_isIn w1 (Int32.toInt64 a2) (Int32.toInt64 0) (Int32.toInt64 60) rz hz) (fun i3 => ?_)
    refine sim_br hC (.ifCond .ne 9) 41 (by decide +kernel) rfl (by decide) ?_ ?_
    · refine sim_blk0 hC [(.aload_n 0, 0, 0, 0, 0), (.aload_n 0, 0, 0, 0, 0), (.getfield 107, 0, 42, 26, 0), (.iconst 0, 0, 0, 0, 0)] [(0, vR 0), (1, vI a1), (2, vI a2), (3, vI a3)] [vI 0, vR 24, vR 0] w1 47 (by decide +kernel) rfl rfl ?_
      refine sim_vv hC 379 mX11_pack 1 0 0 [vR 24, vI 0] [] (by decide +kernel) ml_10_379 rfl rfl rfl rfl rfl rfl (fun wz hz => c_M_pack_24 w1 0 wz hz) (fun w4 => ?_)
      refine sim_blk0 hC [(.aload_n 0, 0, 0, 0, 0), (.iload_n 1, 0, 0, 0, 0), (.putfield 449, 0, 54, 0, 0)] [(0, vR 0), (1, vI a1), (2, vI a2), (3, vI a3)] [] (wup w4 0 54 a1) 55 (by decide +kernel) rfl rfl ?_
      refine sim_bw (C := fun w5 => (55, [(0, vR 0), (1, vI a1), (2, vI a2), (3, vI a3)], [], w5)) (fun w5 => ?_)
      refine sim_blk0 hC [(.iconst 0, 0, 0, 0, 0), (.istore 4, 0, 0, 0, 0), (.iconst 0, 0, 0, 0, 0), (.istore 5, 0, 0, 0, 0), (.iconst 0, 0, 0, 0, 0), (.istore 6, 0, 0, 0, 0)] [(0, vR 0), (1, vI a1), (2, vI a2), (3, vI a3), (4, vI 0), (5, vI 0), (6, vI 0)] [] w5 64 (by decide +kernel) rfl rfl ?_
      refine sim_bl (E := (E_M_years_64 a2 a3)) ?_ (fun r11 => ?_)
      · refine sim_sub hC [0, 2, 3, 4, 5, 6] ?_
        exact sim_loop (V := (V_M_years_64 a2 a3)) (fun sz => s_B_M_years_64 hC a2 a3 sz) ((0, 0, 0, w5))
      · show SimK Ok (110, [(0, vR 0), (3, vI a3), (4, vI r11.1), (5, vI r11.2.1)], [], r11.2.2) _ _
        refine sim_blk0 hC [(.iload_n 3, 0, 0, 0, 0)] [(0, vR 0), (3, vI a3), (4, vI r11.1), (5, vI r11.2.1)] [vI a3] r11.2.2 111 (by decide +kernel) rfl rfl ?_
        refine sim_br hC (.ifCond .ne 8) 119 (by decide +kernel) rfl (by decide) ?_ ?_
        · refine sim_blk0 hC [(.iload_n 3, 0, 0, 0, 0), (.iconst 1, 0, 0, 0, 1)] [(0, vR 0), (3, vI a3), (4, vI r11.1), (5, vI r11.2.1)] [vI 1, vI a3] r11.2.2 121 (by decide +kernel) rfl rfl ?_
          refine sim_br hC (.if_icmp .ne 8) 129 (by decide +kernel) rfl (by decide) ?_ ?_
          · refine sim_blk0 hC [(.aload_n 0, 0, 0, 0, 0)] [(0, vR 0), (3, vI a3), (4, vI r11.1), (5, vI r11.2.1)] [vR 0] r11.2.2 130 (by decide +kernel) rfl rfl ?_
            refine sim_vp hC 368 mX11_metMany 2 22 0 [] [] (by decide +kernel) ml_10_368 rfl rfl rfl rfl rfl rfl (fun rz hz => c_M_metMany r11.2.2 rz hz) (fun i12 => ?_)
            refine sim_sub hC [0] ?_
            exact s_K_M_years_133 hC i12 r11.2.2
          · refine sim_blk0 hC [(.iload 5, 0, 0, 0, 0)] [(0, vR 0), (3, vI a3), (4, vI r11.1), (5, vI r11.2.1)] [vI r11.2.1] r11.2.2 126 (by decide +kernel) rfl rfl ?_
            refine sim_goto hC 7 133 (by decide +kernel) (by decide) ?_
            refine sim_sub hC [0] ?_
            exact s_K_M_years_133 hC r11.2.1 r11.2.2
        · refine sim_blk0 hC [(.iload 4, 0, 0, 0, 0)] [(0, vR 0), (3, vI a3), (4, vI r11.1), (5, vI r11.2.1)] [vI r11.1] r11.2.2 116 (by decide +kernel) rfl rfl ?_
          refine sim_goto hC 17 133 (by decide +kernel) (by decide) ?_
          refine sim_sub hC [0] ?_
          exact s_K_M_years_133 hC r11.1 r11.2.2
    · refine sim_blk0 hC [(.aload_n 0, 0, 0, 0, 0), (.iconst 2, 0, 0, 0, 2)] [(0, vR 0), (1, vI a1), (2, vI a2), (3, vI a3)] [vI 2, vR 0] w1 37 (by decide +kernel) rfl rfl ?_
      refine sim_vd hC 292 mX11_fail 1 0 0 [vI 2] [] (by decide +kernel) ml_10_292 rfl rfl rfl rfl rfl rfl (fun rz wz hz => c_M_fail w1 2 rz wz hz) (fun i14 w15 => ?_)
      exact sim_reti hC (by decide +kernel) trivial
  · refine sim_blk0 hC [(.aload_n 0, 0, 0, 0, 0), (.iconst 1, 0, 0, 0, 1)] [(0, vR 0), (1, vI a1), (2, vI a2), (3, vI a3)] [vI 1, vR 0] w1 19 (by decide +kernel) rfl rfl ?_
    refine sim_vd hC 292 mX11_fail 1 0 0 [vI 1] [] (by decide +kernel) ml_10_292 rfl rfl rfl rfl rfl rfl (fun rz wz hz => c_M_fail w1 1 rz wz hz) (fun i16 w17 => ?_)
    exact sim_reti hC (by decide +kernel) trivial
theorem c_M_years {Z : ZT} {l : Launch} (w : Wld) (a1 : Int32) (a2 : Int32) (a3 : Int32) (r : Int32) (w1 : Wld) (h : F_M_years w a1 a2 a3 = some (r, w1)) : Con Z l mX11_years 6 111 [vR 0, vI a1, vI a2, vI a3] w (.inr (some r)) w1 :=
  Con_of (oc := 10) (by decide +kernel) rfl rfl (fun Ok hC => s_M_years hC w a1 a2 a3 (r, w1) h ⟨rfl, rfl⟩)
def V_M_pack_35_32 (a3 : Int32) : (Int32 × Wld) → Cfg := fun s => (32, [(0, vR 0), (1, vR 35), (3, vI a3), (4, vI s.1)], [], s.2)
def E_M_pack_35_32 (a3 : Int32) : (Wld) → Cfg := fun s => (106, [(0, vR 0), (1, vR 35), (3, vI a3)], [], s)
noncomputable def B_M_pack_35_32 (a3 : Int32) (s : Int32 × Wld) : Option ((Int32 × Wld) ⊕ (Wld)) :=
  br ((8 : Int32) ≤ s.1) (some (.inr s.2)) (gd (vp_in s.1 8) (gd (vp_in (a3 + s.1) 53) (bw (wup s.2 35 (Int32.toNatClampNeg (a3 + s.1)) (s.2 14 (Int32.toNatClampNeg s.1))) (fun w5 => gd (vp_in s.1 8) (gd (vp_in ((a3 + (8 : Int32)) + s.1) 53) (bw (wup w5 35 (Int32.toNatClampNeg ((a3 + (8 : Int32)) + s.1)) (w5 15 (Int32.toNatClampNeg s.1))) (fun w6 => gd (vp_in s.1 8) (gd (vp_in ((a3 + (16 : Int32)) + s.1) 53) (bw (wup w6 35 (Int32.toNatClampNeg ((a3 + (16 : Int32)) + s.1)) (w6 16 (Int32.toNatClampNeg s.1))) (fun w7 => gd (vp_in s.1 8) (gd (vp_in ((a3 + (24 : Int32)) + s.1) 53) (bw (wup w7 35 (Int32.toNatClampNeg ((a3 + (24 : Int32)) + s.1)) (w7 17 (Int32.toNatClampNeg s.1))) (fun w8 => bi (s.1 + 1) (fun i9 => some (.inl ((i9, w8)))))))))))))))))
set_option maxRecDepth 10000 in
theorem s_B_M_pack_35_32 {Z : ZT} {l : Launch} {o : Oc} {wo : Wld} {Ok : Cfg → Prop} (hC : Clo Z l 10 5 prog_13_method_38_code none 1 0 o wo Ok) (a3 : Int32) (s : Int32 × Wld) : SimK Ok (V_M_pack_35_32 a3 s) (B_M_pack_35_32 a3 s) (GLp Ok (V_M_pack_35_32 a3) (GEp Ok (E_M_pack_35_32 a3))) := by
  unfold B_M_pack_35_32
  show SimK Ok (32, [(0, vR 0), (1, vR 35), (3, vI a3), (4, vI s.1)], [], s.2) _ _
  refine sim_blk0 hC [(.iload 4, 0, 0, 0, 0), (.bipush 8, 0, 0, 0, 8)] [(0, vR 0), (1, vR 35), (3, vI a3), (4, vI s.1)] [vI 8, vI s.1] s.2 36 (by decide +kernel) rfl rfl ?_
  refine sim_br hC (.if_icmp .ge 70) 106 (by decide +kernel) rfl (by decide) ?_ ?_
  · refine sim_sub hC [0, 1, 2] ?_
    exact sim_exit (E := (E_M_pack_35_32 a3)) s.2
  · refine sim_blk2 hC [(.aload_n 1, 0, 0, 0, 0), (.iload_n 3, 0, 0, 0, 0), (.iload 4, 0, 0, 0, 0), (.iadd, 0, 0, 0, 0), (.aload_n 0, 0, 0, 0, 0), (.getfield 78, 0, 24, 16, 0), (.iload 4, 0, 0, 0, 0), (.iaload, 14, 8, 0, 0), (.iastore, 35, 53, 0, 0)] [(0, vR 0), (1, vR 35), (3, vI a3), (4, vI s.1)] [] (wup s.2 35 (Int32.toNatClampNeg (a3 + s.1)) (s.2 14 (Int32.toNatClampNeg s.1))) 52 (by decide +kernel) rfl rfl ?_
    refine sim_bw (C := fun w5 => (52, [(0, vR 0), (1, vR 35), (3, vI a3), (4, vI s.1)], [], w5)) (fun w5 => ?_)
    refine sim_blk2 hC [(.aload_n 1, 0, 0, 0, 0), (.iload_n 3, 0, 0, 0, 0), (.bipush 8, 0, 0, 0, 8), (.iadd, 0, 0, 0, 0), (.iload 4, 0, 0, 0, 0), (.iadd, 0, 0, 0, 0), (.aload_n 0, 0, 0, 0, 0), (.getfield 81, 0, 25, 17, 0), (.iload 4, 0, 0, 0, 0), (.iaload, 15, 8, 0, 0), (.iastore, 35, 53, 0, 0)] [(0, vR 0), (1, vR 35), (3, vI a3), (4, vI s.1)] [] (wup w5 35 (Int32.toNatClampNeg ((a3 + (8 : Int32)) + s.1)) (w5 15 (Int32.toNatClampNeg s.1))) 68 (by decide +kernel) rfl rfl ?_
    refine sim_bw (C := fun w6 => (68, [(0, vR 0), (1, vR 35), (3, vI a3), (4, vI s.1)], [], w6)) (fun w6 => ?_)
    refine sim_blk2 hC [(.aload_n 1, 0, 0, 0, 0), (.iload_n 3, 0, 0, 0, 0), (.bipush 16, 0, 0, 0, 16), (.iadd, 0, 0, 0, 0), (.iload 4, 0, 0, 0, 0), (.iadd, 0, 0, 0, 0), (.aload_n 0, 0, 0, 0, 0), (.getfield 84, 0, 26, 18, 0), (.iload 4, 0, 0, 0, 0), (.iaload, 16, 8, 0, 0), (.iastore, 35, 53, 0, 0)] [(0, vR 0), (1, vR 35), (3, vI a3), (4, vI s.1)] [] (wup w6 35 (Int32.toNatClampNeg ((a3 + (16 : Int32)) + s.1)) (w6 16 (Int32.toNatClampNeg s.1))) 84 (by decide +kernel) rfl rfl ?_
    refine sim_bw (C := fun w7 => (84, [(0, vR 0), (1, vR 35), (3, vI a3), (4, vI s.1)], [], w7)) (fun w7 => ?_)
    refine sim_blk2 hC [(.aload_n 1, 0, 0, 0, 0), (.iload_n 3, 0, 0, 0, 0), (.bipush 24, 0, 0, 0, 24), (.iadd, 0, 0, 0, 0), (.iload 4, 0, 0, 0, 0), (.iadd, 0, 0, 0, 0), (.aload_n 0, 0, 0, 0, 0), (.getfield 87, 0, 27, 19, 0), (.iload 4, 0, 0, 0, 0), (.iaload, 17, 8, 0, 0), (.iastore, 35, 53, 0, 0)] [(0, vR 0), (1, vR 35), (3, vI a3), (4, vI s.1)] [] (wup w7 35 (Int32.toNatClampNeg ((a3 + (24 : Int32)) + s.1)) (w7 17 (Int32.toNatClampNeg s.1))) 100 (by decide +kernel) rfl rfl ?_
    refine sim_bw (C := fun w8 => (100, [(0, vR 0), (1, vR 35), (3, vI a3), (4, vI s.1)], [], w8)) (fun w8 => ?_)
    refine sim_blk0 hC [(.iinc 4 1, 0, 0, 0, 1)] [(0, vR 0), (1, vR 35), (3, vI a3), (4, vI (s.1 + 1))] [] w8 103 (by decide +kernel) rfl rfl ?_
    refine sim_bi (C := fun i9 => (103, [(0, vR 0), (1, vR 35), (3, vI a3), (4, vI i9)], [], w8)) (fun i9 => ?_)
    refine sim_goto hC (-71) 32 (by decide +kernel) (by decide) ?_
    exact sim_back (V := (V_M_pack_35_32 a3)) ((i9, w8))
def V_M_pack_35_112 (a3 : Int32) : (Int32 × Wld) → Cfg := fun s => (112, [(0, vR 0), (1, vR 35), (3, vI a3), (4, vI s.1)], [], s.2)
def E_M_pack_35_112 (a3 : Int32) : (Wld) → Cfg := fun s => (154, [], [], s)
noncomputable def B_M_pack_35_112 (a3 : Int32) (s : Int32 × Wld) : Option ((Int32 × Wld) ⊕ (Wld)) :=
  br ((9 : Int32) ≤ s.1) (some (.inr s.2)) (gd (vp_in s.1 9) (gd (vp_in (a3 + s.1) 53) (bw (wup s.2 35 (Int32.toNatClampNeg (a3 + s.1)) (s.2 18 (Int32.toNatClampNeg s.1))) (fun w12 => gd (vp_in s.1 9) (gd (vp_in ((a3 + (9 : Int32)) + s.1) 53) (bw (wup w12 35 (Int32.toNatClampNeg ((a3 + (9 : Int32)) + s.1)) (w12 19 (Int32.toNatClampNeg s.1))) (fun w13 => bi (s.1 + 1) (fun i14 => some (.inl ((i14, w13)))))))))))
set_option maxRecDepth 10000 in
theorem s_B_M_pack_35_112 {Z : ZT} {l : Launch} {o : Oc} {wo : Wld} {Ok : Cfg → Prop} (hC : Clo Z l 10 5 prog_13_method_38_code none 1 0 o wo Ok) (a3 : Int32) (s : Int32 × Wld) : SimK Ok (V_M_pack_35_112 a3 s) (B_M_pack_35_112 a3 s) (GLp Ok (V_M_pack_35_112 a3) (GEp Ok (E_M_pack_35_112 a3))) := by
  unfold B_M_pack_35_112
  show SimK Ok (112, [(0, vR 0), (1, vR 35), (3, vI a3), (4, vI s.1)], [], s.2) _ _
  refine sim_blk0 hC [(.iload 4, 0, 0, 0, 0), (.bipush 9, 0, 0, 0, 9)] [(0, vR 0), (1, vR 35), (3, vI a3), (4, vI s.1)] [vI 9, vI s.1] s.2 116 (by decide +kernel) rfl rfl ?_
  refine sim_br hC (.if_icmp .ge 38) 154 (by decide +kernel) rfl (by decide) ?_ ?_
  · refine sim_sub hC [] ?_
    exact sim_exit (E := (E_M_pack_35_112 a3)) s.2
  · refine sim_blk2 hC [(.aload_n 1, 0, 0, 0, 0), (.iload_n 3, 0, 0, 0, 0), (.iload 4, 0, 0, 0, 0), (.iadd, 0, 0, 0, 0), (.aload_n 0, 0, 0, 0, 0), (.getfield 89, 0, 28, 20, 0), (.iload 4, 0, 0, 0, 0), (.iaload, 18, 9, 0, 0), (.iastore, 35, 53, 0, 0)] [(0, vR 0), (1, vR 35), (3, vI a3), (4, vI s.1)] [] (wup s.2 35 (Int32.toNatClampNeg (a3 + s.1)) (s.2 18 (Int32.toNatClampNeg s.1))) 132 (by decide +kernel) rfl rfl ?_
    refine sim_bw (C := fun w12 => (132, [(0, vR 0), (1, vR 35), (3, vI a3), (4, vI s.1)], [], w12)) (fun w12 => ?_)
    refine sim_blk2 hC [(.aload_n 1, 0, 0, 0, 0), (.iload_n 3, 0, 0, 0, 0), (.bipush 9, 0, 0, 0, 9), (.iadd, 0, 0, 0, 0), (.iload 4, 0, 0, 0, 0), (.iadd, 0, 0, 0, 0), (.aload_n 0, 0, 0, 0, 0), (.getfield 92, 0, 29, 21, 0), (.iload 4, 0, 0, 0, 0), (.iaload, 19, 9, 0, 0), (.iastore, 35, 53, 0, 0)] [(0, vR 0), (1, vR 35), (3, vI a3), (4, vI s.1)] [] (wup w12 35 (Int32.toNatClampNeg ((a3 + (9 : Int32)) + s.1)) (w12 19 (Int32.toNatClampNeg s.1))) 148 (by decide +kernel) rfl rfl ?_
    refine sim_bw (C := fun w13 => (148, [(0, vR 0), (1, vR 35), (3, vI a3), (4, vI s.1)], [], w13)) (fun w13 => ?_)
    refine sim_blk0 hC [(.iinc 4 1, 0, 0, 0, 1)] [(0, vR 0), (1, vR 35), (3, vI a3), (4, vI (s.1 + 1))] [] w13 151 (by decide +kernel) rfl rfl ?_
    refine sim_bi (C := fun i14 => (151, [(0, vR 0), (1, vR 35), (3, vI a3), (4, vI i14)], [], w13)) (fun i14 => ?_)
    refine sim_goto hC (-39) 112 (by decide +kernel) (by decide) ?_
    exact sim_back (V := (V_M_pack_35_112 a3)) ((i14, w13))
noncomputable def F_M_pack_35 (w : Wld) (a2 : Int32) : Option (Wld) :=
  gd (vp_in a2 53) (bw (wup w 35 (Int32.toNatClampNeg a2) (w 0 31)) (fun w1 => gd (vp_in (a2 + (1 : Int32)) 53) (bw (wup w1 35 (Int32.toNatClampNeg (a2 + (1 : Int32))) (w1 0 32)) (fun w2 => gd (vp_in (a2 + (2 : Int32)) 53) (bw (wup w2 35 (Int32.toNatClampNeg (a2 + (2 : Int32))) (w2 0 33)) (fun w3 => bi (a2 + (3 : Int32)) (fun i4 => bl (loop (B_M_pack_35_32 i4) ((0, w3))) (fun r10 => bi (i4 + 32) (fun i11 => bl (loop (B_M_pack_35_112 i11) ((0, r10))) (fun r15 => some r15))))))))))
set_option maxRecDepth 10000 in
theorem s_M_pack_35 {Z : ZT} {l : Launch} {o : Oc} {wo : Wld} {Ok : Cfg → Prop} (hC : Clo Z l 10 5 prog_13_method_38_code none 1 0 o wo Ok) (w : Wld) (a2 : Int32) : SimK Ok (0, [(0, vR 0), (1, vR 35), (2, vI a2)], [], w) (F_M_pack_35 w a2) (Gv o wo) := by
  unfold F_M_pack_35
  refine sim_blk1 hC [(.aload_n 1, 0, 0, 0, 0), (.iload_n 2, 0, 0, 0, 0), (.aload_n 0, 0, 0, 0, 0), (.getfield 305, 0, 31, 0, 0), (.iastore, 35, 53, 0, 0)] [(0, vR 0), (1, vR 35), (2, vI a2)] [] (wup w 35 (Int32.toNatClampNeg a2) (w 0 31)) 7 (by decide +kernel) rfl rfl ?_
  refine sim_bw (C := fun w1 => (7, [(0, vR 0), (1, vR 35), (2, vI a2)], [], w1)) (fun w1 => ?_)
  refine sim_blk1 hC [(.aload_n 1, 0, 0, 0, 0), (.iload_n 2, 0, 0, 0, 0), (.iconst 1, 0, 0, 0, 1), (.iadd, 0, 0, 0, 0), (.aload_n 0, 0, 0, 0, 0), (.getfield 307, 0, 32, 0, 0), (.iastore, 35, 53, 0, 0)] [(0, vR 0), (1, vR 35), (2, vI a2)] [] (wup w1 35 (Int32.toNatClampNeg (a2 + (1 : Int32))) (w1 0 32)) 16 (by decide +kernel) rfl rfl ?_
  refine sim_bw (C := fun w2 => (16, [(0, vR 0), (1, vR 35), (2, vI a2)], [], w2)) (fun w2 => ?_)
  refine sim_blk1 hC [(.aload_n 1, 0, 0, 0, 0), (.iload_n 2, 0, 0, 0, 0), (.iconst 2, 0, 0, 0, 2), (.iadd, 0, 0, 0, 0), (.aload_n 0, 0, 0, 0, 0), (.getfield 309, 0, 33, 0, 0), (.iastore, 35, 53, 0, 0)] [(0, vR 0), (1, vR 35), (2, vI a2)] [] (wup w2 35 (Int32.toNatClampNeg (a2 + (2 : Int32))) (w2 0 33)) 25 (by decide +kernel) rfl rfl ?_
  refine sim_bw (C := fun w3 => (25, [(0, vR 0), (1, vR 35), (2, vI a2)], [], w3)) (fun w3 => ?_)
  refine sim_blk0 hC [(.iload_n 2, 0, 0, 0, 0), (.iconst 3, 0, 0, 0, 3), (.iadd, 0, 0, 0, 0), (.istore_n 3, 0, 0, 0, 0)] [(0, vR 0), (1, vR 35), (2, vI a2), (3, vI (a2 + (3 : Int32)))] [] w3 29 (by decide +kernel) rfl rfl ?_
  refine sim_bi (C := fun i4 => (29, [(0, vR 0), (1, vR 35), (2, vI a2), (3, vI i4)], [], w3)) (fun i4 => ?_)
  refine sim_blk0 hC [(.iconst 0, 0, 0, 0, 0), (.istore 4, 0, 0, 0, 0)] [(0, vR 0), (1, vR 35), (2, vI a2), (3, vI i4), (4, vI 0)] [] w3 32 (by decide +kernel) rfl rfl ?_
  refine sim_bl (E := (E_M_pack_35_32 i4)) ?_ (fun r10 => ?_)
  · refine sim_sub hC [0, 1, 3, 4] ?_
    exact sim_loop (V := (V_M_pack_35_32 i4)) (fun sz => s_B_M_pack_35_32 hC i4 sz) ((0, w3))
  · show SimK Ok (106, [(0, vR 0), (1, vR 35), (3, vI i4)], [], r10) _ _
    refine sim_blk0 hC [(.iinc 3 32, 0, 0, 0, 32)] [(0, vR 0), (1, vR 35), (3, vI (i4 + 32))] [] r10 109 (by decide +kernel) rfl rfl ?_
    refine sim_bi (C := fun i11 => (109, [(0, vR 0), (1, vR 35), (3, vI i11)], [], r10)) (fun i11 => ?_)
    refine sim_blk0 hC [(.iconst 0, 0, 0, 0, 0), (.istore 4, 0, 0, 0, 0)] [(0, vR 0), (1, vR 35), (3, vI i11), (4, vI 0)] [] r10 112 (by decide +kernel) rfl rfl ?_
    refine sim_bl (E := (E_M_pack_35_112 i11)) ?_ (fun r15 => ?_)
    · exact sim_loop (V := (V_M_pack_35_112 i11)) (fun sz => s_B_M_pack_35_112 hC i11 sz) ((0, r10))
    · show SimK Ok (154, [], [], r15) _ _
      exact sim_retv hC (by decide +kernel)
theorem c_M_pack_35 {Z : ZT} {l : Launch} (w : Wld) (a2 : Int32) (w1 : Wld) (h : F_M_pack_35 w a2 = some w1) : Con Z l mX11_pack 1 0 [vR 0, vR 35, vI a2] w (.inr none) w1 :=
  Con_of (oc := 10) (by decide +kernel) rfl rfl (fun Ok hC => s_M_pack_35 hC w a2 w1 h ⟨rfl, rfl⟩)
def V_M_copyTo_36_20_2 : (Int32 × Wld) → Cfg := fun s => (2, [(0, vR 36), (1, vR 20), (2, vI s.1)], [], s.2)
def E_M_copyTo_36_20_2 : (Wld) → Cfg := fun s => (20, [], [], s)
noncomputable def B_M_copyTo_36_20_2 (s : Int32 × Wld) : Option ((Int32 × Wld) ⊕ (Wld)) :=
  br ((2120 : Int32) ≤ s.1) (some (.inr s.2)) (gd (vp_in s.1 2120) (gd (vp_in s.1 2120) (bw (wup s.2 36 (Int32.toNatClampNeg s.1) (s.2 20 (Int32.toNatClampNeg s.1))) (fun w1 => bi (s.1 + 1) (fun i2 => some (.inl ((i2, w1))))))))
set_option maxRecDepth 10000 in
theorem s_B_M_copyTo_36_20_2 {Z : ZT} {l : Launch} {o : Oc} {wo : Wld} {Ok : Cfg → Prop} (hC : Clo Z l 10 3 prog_13_method_100_code none 1 0 o wo Ok) (s : Int32 × Wld) : SimK Ok (V_M_copyTo_36_20_2 s) (B_M_copyTo_36_20_2 s) (GLp Ok (V_M_copyTo_36_20_2) (GEp Ok (E_M_copyTo_36_20_2))) := by
  unfold B_M_copyTo_36_20_2
  show SimK Ok (2, [(0, vR 36), (1, vR 20), (2, vI s.1)], [], s.2) _ _
  refine sim_blk0 hC [(.iload_n 2, 0, 0, 0, 0), (.aload_n 0, 0, 0, 0, 0), (.arraylength, 36, 2120, 0, 2120)] [(0, vR 36), (1, vR 20), (2, vI s.1)] [vI 2120, vI s.1] s.2 5 (by decide +kernel) rfl rfl ?_
  refine sim_br hC (.if_icmp .ge 15) 20 (by decide +kernel) rfl (by decide) ?_ ?_
  · refine sim_sub hC [] ?_
    exact sim_exit (E := (E_M_copyTo_36_20_2)) s.2
  · refine sim_blk2 hC [(.aload_n 0, 0, 0, 0, 0), (.iload_n 2, 0, 0, 0, 0), (.aload_n 1, 0, 0, 0, 0), (.iload_n 2, 0, 0, 0, 0), (.iaload, 20, 2120, 0, 0), (.iastore, 36, 2120, 0, 0)] [(0, vR 36), (1, vR 20), (2, vI s.1)] [] (wup s.2 36 (Int32.toNatClampNeg s.1) (s.2 20 (Int32.toNatClampNeg s.1))) 14 (by decide +kernel) rfl rfl ?_
    refine sim_bw (C := fun w1 => (14, [(0, vR 36), (1, vR 20), (2, vI s.1)], [], w1)) (fun w1 => ?_)
    refine sim_blk0 hC [(.iinc 2 1, 0, 0, 0, 1)] [(0, vR 36), (1, vR 20), (2, vI (s.1 + 1))] [] w1 17 (by decide +kernel) rfl rfl ?_
    refine sim_bi (C := fun i2 => (17, [(0, vR 36), (1, vR 20), (2, vI i2)], [], w1)) (fun i2 => ?_)
    refine sim_goto hC (-15) 2 (by decide +kernel) (by decide) ?_
    exact sim_back (V := (V_M_copyTo_36_20_2)) ((i2, w1))
noncomputable def F_M_copyTo_36_20 (w : Wld) : Option (Wld) :=
  bl (loop (B_M_copyTo_36_20_2) ((0, w))) (fun r3 => some r3)
set_option maxRecDepth 10000 in
theorem s_M_copyTo_36_20 {Z : ZT} {l : Launch} {o : Oc} {wo : Wld} {Ok : Cfg → Prop} (hC : Clo Z l 10 3 prog_13_method_100_code none 1 0 o wo Ok) (w : Wld) : SimK Ok (0, [(0, vR 36), (1, vR 20)], [], w) (F_M_copyTo_36_20 w) (Gv o wo) := by
  unfold F_M_copyTo_36_20
  refine sim_blk0 hC [(.iconst 0, 0, 0, 0, 0), (.istore_n 2, 0, 0, 0, 0)] [(0, vR 36), (1, vR 20), (2, vI 0)] [] w 2 (by decide +kernel) rfl rfl ?_
  refine sim_bl (E := (E_M_copyTo_36_20_2)) ?_ (fun r3 => ?_)
  · exact sim_loop (V := (V_M_copyTo_36_20_2)) (fun sz => s_B_M_copyTo_36_20_2 hC sz) ((0, w))
  · show SimK Ok (20, [], [], r3) _ _
    exact sim_retv hC (by decide +kernel)
theorem c_M_copyTo_36_20 {Z : ZT} {l : Launch} (w : Wld) (w1 : Wld) (h : F_M_copyTo_36_20 w = some w1) : Con Z l mX11_copyTo 1 0 [vR 36, vR 20] w (.inr none) w1 :=
  Con_of (oc := 10) (by decide +kernel) rfl rfl (fun Ok hC => s_M_copyTo_36_20 hC w w1 h ⟨rfl, rfl⟩)
def V_M_copyTo_37_28_2 : (Int32 × Wld) → Cfg := fun s => (2, [(0, vR 37), (1, vR 28), (2, vI s.1)], [], s.2)
def E_M_copyTo_37_28_2 : (Wld) → Cfg := fun s => (20, [], [], s)
noncomputable def B_M_copyTo_37_28_2 (s : Int32 × Wld) : Option ((Int32 × Wld) ⊕ (Wld)) :=
  br ((8 : Int32) ≤ s.1) (some (.inr s.2)) (gd (vp_in s.1 8) (gd (vp_in s.1 8) (bw (wup s.2 37 (Int32.toNatClampNeg s.1) (s.2 28 (Int32.toNatClampNeg s.1))) (fun w1 => bi (s.1 + 1) (fun i2 => some (.inl ((i2, w1))))))))
set_option maxRecDepth 10000 in
theorem s_B_M_copyTo_37_28_2 {Z : ZT} {l : Launch} {o : Oc} {wo : Wld} {Ok : Cfg → Prop} (hC : Clo Z l 10 3 prog_13_method_100_code none 1 0 o wo Ok) (s : Int32 × Wld) : SimK Ok (V_M_copyTo_37_28_2 s) (B_M_copyTo_37_28_2 s) (GLp Ok (V_M_copyTo_37_28_2) (GEp Ok (E_M_copyTo_37_28_2))) := by
  unfold B_M_copyTo_37_28_2
  show SimK Ok (2, [(0, vR 37), (1, vR 28), (2, vI s.1)], [], s.2) _ _
  refine sim_blk0 hC [(.iload_n 2, 0, 0, 0, 0), (.aload_n 0, 0, 0, 0, 0), (.arraylength, 37, 8, 0, 8)] [(0, vR 37), (1, vR 28), (2, vI s.1)] [vI 8, vI s.1] s.2 5 (by decide +kernel) rfl rfl ?_
  refine sim_br hC (.if_icmp .ge 15) 20 (by decide +kernel) rfl (by decide) ?_ ?_
  · refine sim_sub hC [] ?_
    exact sim_exit (E := (E_M_copyTo_37_28_2)) s.2
  · refine sim_blk2 hC [(.aload_n 0, 0, 0, 0, 0), (.iload_n 2, 0, 0, 0, 0), (.aload_n 1, 0, 0, 0, 0), (.iload_n 2, 0, 0, 0, 0), (.iaload, 28, 8, 0, 0), (.iastore, 37, 8, 0, 0)] [(0, vR 37), (1, vR 28), (2, vI s.1)] [] (wup s.2 37 (Int32.toNatClampNeg s.1) (s.2 28 (Int32.toNatClampNeg s.1))) 14 (by decide +kernel) rfl rfl ?_
    refine sim_bw (C := fun w1 => (14, [(0, vR 37), (1, vR 28), (2, vI s.1)], [], w1)) (fun w1 => ?_)
    refine sim_blk0 hC [(.iinc 2 1, 0, 0, 0, 1)] [(0, vR 37), (1, vR 28), (2, vI (s.1 + 1))] [] w1 17 (by decide +kernel) rfl rfl ?_
    refine sim_bi (C := fun i2 => (17, [(0, vR 37), (1, vR 28), (2, vI i2)], [], w1)) (fun i2 => ?_)
    refine sim_goto hC (-15) 2 (by decide +kernel) (by decide) ?_
    exact sim_back (V := (V_M_copyTo_37_28_2)) ((i2, w1))
noncomputable def F_M_copyTo_37_28 (w : Wld) : Option (Wld) :=
  bl (loop (B_M_copyTo_37_28_2) ((0, w))) (fun r3 => some r3)
set_option maxRecDepth 10000 in
theorem s_M_copyTo_37_28 {Z : ZT} {l : Launch} {o : Oc} {wo : Wld} {Ok : Cfg → Prop} (hC : Clo Z l 10 3 prog_13_method_100_code none 1 0 o wo Ok) (w : Wld) : SimK Ok (0, [(0, vR 37), (1, vR 28)], [], w) (F_M_copyTo_37_28 w) (Gv o wo) := by
  unfold F_M_copyTo_37_28
  refine sim_blk0 hC [(.iconst 0, 0, 0, 0, 0), (.istore_n 2, 0, 0, 0, 0)] [(0, vR 37), (1, vR 28), (2, vI 0)] [] w 2 (by decide +kernel) rfl rfl ?_
  refine sim_bl (E := (E_M_copyTo_37_28_2)) ?_ (fun r3 => ?_)
  · exact sim_loop (V := (V_M_copyTo_37_28_2)) (fun sz => s_B_M_copyTo_37_28_2 hC sz) ((0, w))
  · show SimK Ok (20, [], [], r3) _ _
    exact sim_retv hC (by decide +kernel)
theorem c_M_copyTo_37_28 {Z : ZT} {l : Launch} (w : Wld) (w1 : Wld) (h : F_M_copyTo_37_28 w = some w1) : Con Z l mX11_copyTo 1 0 [vR 37, vR 28] w (.inr none) w1 :=
  Con_of (oc := 10) (by decide +kernel) rfl rfl (fun Ok hC => s_M_copyTo_37_28 hC w w1 h ⟨rfl, rfl⟩)
def V_M_copyTo_38_29_2 : (Int32 × Wld) → Cfg := fun s => (2, [(0, vR 38), (1, vR 29), (2, vI s.1)], [], s.2)
def E_M_copyTo_38_29_2 : (Wld) → Cfg := fun s => (20, [], [], s)
noncomputable def B_M_copyTo_38_29_2 (s : Int32 × Wld) : Option ((Int32 × Wld) ⊕ (Wld)) :=
  br ((8 : Int32) ≤ s.1) (some (.inr s.2)) (gd (vp_in s.1 8) (gd (vp_in s.1 8) (bw (wup s.2 38 (Int32.toNatClampNeg s.1) (s.2 29 (Int32.toNatClampNeg s.1))) (fun w1 => bi (s.1 + 1) (fun i2 => some (.inl ((i2, w1))))))))
set_option maxRecDepth 10000 in
theorem s_B_M_copyTo_38_29_2 {Z : ZT} {l : Launch} {o : Oc} {wo : Wld} {Ok : Cfg → Prop} (hC : Clo Z l 10 3 prog_13_method_100_code none 1 0 o wo Ok) (s : Int32 × Wld) : SimK Ok (V_M_copyTo_38_29_2 s) (B_M_copyTo_38_29_2 s) (GLp Ok (V_M_copyTo_38_29_2) (GEp Ok (E_M_copyTo_38_29_2))) := by
  unfold B_M_copyTo_38_29_2
  show SimK Ok (2, [(0, vR 38), (1, vR 29), (2, vI s.1)], [], s.2) _ _
  refine sim_blk0 hC [(.iload_n 2, 0, 0, 0, 0), (.aload_n 0, 0, 0, 0, 0), (.arraylength, 38, 8, 0, 8)] [(0, vR 38), (1, vR 29), (2, vI s.1)] [vI 8, vI s.1] s.2 5 (by decide +kernel) rfl rfl ?_
  refine sim_br hC (.if_icmp .ge 15) 20 (by decide +kernel) rfl (by decide) ?_ ?_
  · refine sim_sub hC [] ?_
    exact sim_exit (E := (E_M_copyTo_38_29_2)) s.2
  · refine sim_blk2 hC [(.aload_n 0, 0, 0, 0, 0), (.iload_n 2, 0, 0, 0, 0), (.aload_n 1, 0, 0, 0, 0), (.iload_n 2, 0, 0, 0, 0), (.iaload, 29, 8, 0, 0), (.iastore, 38, 8, 0, 0)] [(0, vR 38), (1, vR 29), (2, vI s.1)] [] (wup s.2 38 (Int32.toNatClampNeg s.1) (s.2 29 (Int32.toNatClampNeg s.1))) 14 (by decide +kernel) rfl rfl ?_
    refine sim_bw (C := fun w1 => (14, [(0, vR 38), (1, vR 29), (2, vI s.1)], [], w1)) (fun w1 => ?_)
    refine sim_blk0 hC [(.iinc 2 1, 0, 0, 0, 1)] [(0, vR 38), (1, vR 29), (2, vI (s.1 + 1))] [] w1 17 (by decide +kernel) rfl rfl ?_
    refine sim_bi (C := fun i2 => (17, [(0, vR 38), (1, vR 29), (2, vI i2)], [], w1)) (fun i2 => ?_)
    refine sim_goto hC (-15) 2 (by decide +kernel) (by decide) ?_
    exact sim_back (V := (V_M_copyTo_38_29_2)) ((i2, w1))
noncomputable def F_M_copyTo_38_29 (w : Wld) : Option (Wld) :=
  bl (loop (B_M_copyTo_38_29_2) ((0, w))) (fun r3 => some r3)
set_option maxRecDepth 10000 in
theorem s_M_copyTo_38_29 {Z : ZT} {l : Launch} {o : Oc} {wo : Wld} {Ok : Cfg → Prop} (hC : Clo Z l 10 3 prog_13_method_100_code none 1 0 o wo Ok) (w : Wld) : SimK Ok (0, [(0, vR 38), (1, vR 29)], [], w) (F_M_copyTo_38_29 w) (Gv o wo) := by
  unfold F_M_copyTo_38_29
  refine sim_blk0 hC [(.iconst 0, 0, 0, 0, 0), (.istore_n 2, 0, 0, 0, 0)] [(0, vR 38), (1, vR 29), (2, vI 0)] [] w 2 (by decide +kernel) rfl rfl ?_
  refine sim_bl (E := (E_M_copyTo_38_29_2)) ?_ (fun r3 => ?_)
  · exact sim_loop (V := (V_M_copyTo_38_29_2)) (fun sz => s_B_M_copyTo_38_29_2 hC sz) ((0, w))
  · show SimK Ok (20, [], [], r3) _ _
    exact sim_retv hC (by decide +kernel)
theorem c_M_copyTo_38_29 {Z : ZT} {l : Launch} (w : Wld) (w1 : Wld) (h : F_M_copyTo_38_29 w = some w1) : Con Z l mX11_copyTo 1 0 [vR 38, vR 29] w (.inr none) w1 :=
  Con_of (oc := 10) (by decide +kernel) rfl rfl (fun Ok hC => s_M_copyTo_38_29 hC w w1 h ⟨rfl, rfl⟩)
def V_M_copyTo_39_12_2 : (Int32 × Wld) → Cfg := fun s => (2, [(0, vR 39), (1, vR 12), (2, vI s.1)], [], s.2)
def E_M_copyTo_39_12_2 : (Wld) → Cfg := fun s => (20, [], [], s)
noncomputable def B_M_copyTo_39_12_2 (s : Int32 × Wld) : Option ((Int32 × Wld) ⊕ (Wld)) :=
  br ((3 : Int32) ≤ s.1) (some (.inr s.2)) (gd (vp_in s.1 3) (gd (vp_in s.1 3) (bw (wup s.2 39 (Int32.toNatClampNeg s.1) (s.2 12 (Int32.toNatClampNeg s.1))) (fun w1 => bi (s.1 + 1) (fun i2 => some (.inl ((i2, w1))))))))
set_option maxRecDepth 10000 in
theorem s_B_M_copyTo_39_12_2 {Z : ZT} {l : Launch} {o : Oc} {wo : Wld} {Ok : Cfg → Prop} (hC : Clo Z l 10 3 prog_13_method_100_code none 1 0 o wo Ok) (s : Int32 × Wld) : SimK Ok (V_M_copyTo_39_12_2 s) (B_M_copyTo_39_12_2 s) (GLp Ok (V_M_copyTo_39_12_2) (GEp Ok (E_M_copyTo_39_12_2))) := by
  unfold B_M_copyTo_39_12_2
  show SimK Ok (2, [(0, vR 39), (1, vR 12), (2, vI s.1)], [], s.2) _ _
  refine sim_blk0 hC [(.iload_n 2, 0, 0, 0, 0), (.aload_n 0, 0, 0, 0, 0), (.arraylength, 39, 3, 0, 3)] [(0, vR 39), (1, vR 12), (2, vI s.1)] [vI 3, vI s.1] s.2 5 (by decide +kernel) rfl rfl ?_
  refine sim_br hC (.if_icmp .ge 15) 20 (by decide +kernel) rfl (by decide) ?_ ?_
  · refine sim_sub hC [] ?_
    exact sim_exit (E := (E_M_copyTo_39_12_2)) s.2
  · refine sim_blk2 hC [(.aload_n 0, 0, 0, 0, 0), (.iload_n 2, 0, 0, 0, 0), (.aload_n 1, 0, 0, 0, 0), (.iload_n 2, 0, 0, 0, 0), (.iaload, 12, 3, 0, 0), (.iastore, 39, 3, 0, 0)] [(0, vR 39), (1, vR 12), (2, vI s.1)] [] (wup s.2 39 (Int32.toNatClampNeg s.1) (s.2 12 (Int32.toNatClampNeg s.1))) 14 (by decide +kernel) rfl rfl ?_
    refine sim_bw (C := fun w1 => (14, [(0, vR 39), (1, vR 12), (2, vI s.1)], [], w1)) (fun w1 => ?_)
    refine sim_blk0 hC [(.iinc 2 1, 0, 0, 0, 1)] [(0, vR 39), (1, vR 12), (2, vI (s.1 + 1))] [] w1 17 (by decide +kernel) rfl rfl ?_
    refine sim_bi (C := fun i2 => (17, [(0, vR 39), (1, vR 12), (2, vI i2)], [], w1)) (fun i2 => ?_)
    refine sim_goto hC (-15) 2 (by decide +kernel) (by decide) ?_
    exact sim_back (V := (V_M_copyTo_39_12_2)) ((i2, w1))
noncomputable def F_M_copyTo_39_12 (w : Wld) : Option (Wld) :=
  bl (loop (B_M_copyTo_39_12_2) ((0, w))) (fun r3 => some r3)
set_option maxRecDepth 10000 in
theorem s_M_copyTo_39_12 {Z : ZT} {l : Launch} {o : Oc} {wo : Wld} {Ok : Cfg → Prop} (hC : Clo Z l 10 3 prog_13_method_100_code none 1 0 o wo Ok) (w : Wld) : SimK Ok (0, [(0, vR 39), (1, vR 12)], [], w) (F_M_copyTo_39_12 w) (Gv o wo) := by
  unfold F_M_copyTo_39_12
  refine sim_blk0 hC [(.iconst 0, 0, 0, 0, 0), (.istore_n 2, 0, 0, 0, 0)] [(0, vR 39), (1, vR 12), (2, vI 0)] [] w 2 (by decide +kernel) rfl rfl ?_
  refine sim_bl (E := (E_M_copyTo_39_12_2)) ?_ (fun r3 => ?_)
  · exact sim_loop (V := (V_M_copyTo_39_12_2)) (fun sz => s_B_M_copyTo_39_12_2 hC sz) ((0, w))
  · show SimK Ok (20, [], [], r3) _ _
    exact sim_retv hC (by decide +kernel)
theorem c_M_copyTo_39_12 {Z : ZT} {l : Launch} (w : Wld) (w1 : Wld) (h : F_M_copyTo_39_12 w = some w1) : Con Z l mX11_copyTo 1 0 [vR 39, vR 12] w (.inr none) w1 :=
  Con_of (oc := 10) (by decide +kernel) rfl rfl (fun Ok hC => s_M_copyTo_39_12 hC w w1 h ⟨rfl, rfl⟩)
def V_M_image_70 : (Int32 × Wld) → Cfg := fun s => (70, [(0, vR 0), (1, vI s.1)], [], s.2)
def E_M_image_70 : (Wld) → Cfg := fun s => (94, [(0, vR 0)], [], s)
noncomputable def B_M_image_70 (s : Int32 × Wld) : Option ((Int32 × Wld) ⊕ (Wld)) :=
  br ((8 : Int32) ≤ s.1) (some (.inr s.2)) (gd (vp_in s.1 8) (gd (vp_in s.1 8) (bw (wup s.2 40 (Int32.toNatClampNeg s.1) (vp_nar .boolean (s.2 31 (Int32.toNatClampNeg s.1)))) (fun w9 => bi (s.1 + 1) (fun i10 => some (.inl ((i10, w9))))))))
set_option maxRecDepth 10000 in
theorem s_B_M_image_70 {Z : ZT} {l : Launch} {o : Oc} {wo : Wld} {Ok : Cfg → Prop} (hC : Clo Z l 10 2 prog_13_method_101_code none 2 24 o wo Ok) (s : Int32 × Wld) : SimK Ok (V_M_image_70 s) (B_M_image_70 s) (GLp Ok (V_M_image_70) (GEp Ok (E_M_image_70))) := by
  unfold B_M_image_70
  show SimK Ok (70, [(0, vR 0), (1, vI s.1)], [], s.2) _ _
  refine sim_blk0 hC [(.iload_n 1, 0, 0, 0, 0), (.bipush 8, 0, 0, 0, 8)] [(0, vR 0), (1, vI s.1)] [vI 8, vI s.1] s.2 73 (by decide +kernel) rfl rfl ?_
  refine sim_br hC (.if_icmp .ge 21) 94 (by decide +kernel) rfl (by decide) ?_ ?_
  · refine sim_sub hC [0] ?_
    exact sim_exit (E := (E_M_image_70)) s.2
  · refine sim_blk2 hC [(.aload_n 0, 0, 0, 0, 0), (.getfield 156, 0, 63, 42, 0), (.iload_n 1, 0, 0, 0, 0), (.aload_n 0, 0, 0, 0, 0), (.getfield 128, 0, 49, 33, 0), (.iload_n 1, 0, 0, 0, 0), (.baload, 31, 8, 2, 0), (.bastore, 40, 8, 2, 0)] [(0, vR 0), (1, vI s.1)] [] (wup s.2 40 (Int32.toNatClampNeg s.1) (vp_nar .boolean (s.2 31 (Int32.toNatClampNeg s.1)))) 88 (by decide +kernel) rfl rfl ?_
    refine sim_bw (C := fun w9 => (88, [(0, vR 0), (1, vI s.1)], [], w9)) (fun w9 => ?_)
    refine sim_blk0 hC [(.iinc 1 1, 0, 0, 0, 1)] [(0, vR 0), (1, vI (s.1 + 1))] [] w9 91 (by decide +kernel) rfl rfl ?_
    refine sim_bi (C := fun i10 => (91, [(0, vR 0), (1, vI i10)], [], w9)) (fun i10 => ?_)
    refine sim_goto hC (-21) 70 (by decide +kernel) (by decide) ?_
    exact sim_back (V := (V_M_image_70)) ((i10, w9))
noncomputable def F_M_image (w : Wld) : Option (Wld) :=
  bw (wup w 0 2 0) (fun w1 => gd ((1 : Int32) = 0 ∨ (1 : Int32) = 1) (bw (wup w1 0 55 1) (fun w2 => bw (wup w2 0 56 (w2 0 34)) (fun w3 => bw (wup w3 0 57 (w3 0 35)) (fun w4 => bv (F_M_pack_35 w4 0) (fun w5 => bv (F_M_copyTo_36_20 w5) (fun w6 => bv (F_M_copyTo_37_28 w6) (fun w7 => bv (F_M_copyTo_38_29 w7) (fun w8 => bl (loop (B_M_image_70) ((0, w8))) (fun r11 => bv (F_M_copyTo_39_12 r11) (fun w12 => some w12)))))))))))
set_option maxRecDepth 10000 in
theorem s_M_image {Z : ZT} {l : Launch} {o : Oc} {wo : Wld} {Ok : Cfg → Prop} (hC : Clo Z l 10 2 prog_13_method_101_code none 2 24 o wo Ok) (w : Wld) : SimK Ok (0, [(0, vR 0)], [], w) (F_M_image w) (Gv o wo) := by
  unfold F_M_image
  refine sim_blk0 hC [(.aload_n 0, 0, 0, 0, 0), (.iconst 0, 0, 0, 0, 0), (.putfield 159, 0, 2, 0, 0)] [(0, vR 0)] [] (wup w 0 2 0) 5 (by decide +kernel) rfl rfl ?_
  refine sim_bw (C := fun w1 => (5, [(0, vR 0)], [], w1)) (fun w1 => ?_)
  refine sim_blk1 hC [(.aload_n 0, 0, 0, 0, 0), (.iconst 1, 0, 0, 0, 1), (.putfield 318, 0, 55, 2, 0)] [(0, vR 0)] [] (wup w1 0 55 1) 10 (by decide +kernel) rfl rfl ?_
  refine sim_bw (C := fun w2 => (10, [(0, vR 0)], [], w2)) (fun w2 => ?_)
  refine sim_blk0 hC [(.aload_n 0, 0, 0, 0, 0), (.aload_n 0, 0, 0, 0, 0), (.getfield 312, 0, 34, 0, 0), (.putfield 459, 0, 56, 0, 0)] [(0, vR 0)] [] (wup w2 0 56 (w2 0 34)) 18 (by decide +kernel) rfl rfl ?_
  refine sim_bw (C := fun w3 => (18, [(0, vR 0)], [], w3)) (fun w3 => ?_)
  refine sim_blk0 hC [(.aload_n 0, 0, 0, 0, 0), (.aload_n 0, 0, 0, 0, 0), (.getfield 315, 0, 35, 0, 0), (.putfield 462, 0, 57, 0, 0)] [(0, vR 0)] [] (wup w3 0 57 (w3 0 35)) 26 (by decide +kernel) rfl rfl ?_
  refine sim_bw (C := fun w4 => (26, [(0, vR 0)], [], w4)) (fun w4 => ?_)
  refine sim_blk0 hC [(.aload_n 0, 0, 0, 0, 0), (.aload_n 0, 0, 0, 0, 0), (.getfield 141, 0, 58, 37, 0), (.iconst 0, 0, 0, 0, 0)] [(0, vR 0)] [vI 0, vR 35, vR 0] w4 32 (by decide +kernel) rfl rfl ?_
  refine sim_vv hC 379 mX11_pack 1 0 0 [vR 35, vI 0] [] (by decide +kernel) ml_10_379 rfl rfl rfl rfl rfl rfl (fun wz hz => c_M_pack_35 w4 0 wz hz) (fun w5 => ?_)
  refine sim_blk0 hC [(.aload_n 0, 0, 0, 0, 0), (.getfield 144, 0, 59, 38, 0), (.aload_n 0, 0, 0, 0, 0), (.getfield 95, 0, 30, 22, 0)] [(0, vR 0)] [vR 20, vR 36] w5 43 (by decide +kernel) rfl rfl ?_
  refine sim_sv hC 465 mX11_copyTo 1 0 [vR 36, vR 20] [] (by decide +kernel) ml_10_465 rfl rfl rfl rfl rfl (fun wz hz => c_M_copyTo_36_20 w5 wz hz) (fun w6 => ?_)
  refine sim_blk0 hC [(.aload_n 0, 0, 0, 0, 0), (.getfield 147, 0, 60, 39, 0), (.aload_n 0, 0, 0, 0, 0), (.getfield 119, 0, 46, 30, 0)] [(0, vR 0)] [vR 28, vR 37] w6 54 (by decide +kernel) rfl rfl ?_
  refine sim_sv hC 465 mX11_copyTo 1 0 [vR 37, vR 28] [] (by decide +kernel) ml_10_465 rfl rfl rfl rfl rfl (fun wz hz => c_M_copyTo_37_28 w6 wz hz) (fun w7 => ?_)
  refine sim_blk0 hC [(.aload_n 0, 0, 0, 0, 0), (.getfield 150, 0, 61, 40, 0), (.aload_n 0, 0, 0, 0, 0), (.getfield 122, 0, 47, 31, 0)] [(0, vR 0)] [vR 29, vR 38] w7 65 (by decide +kernel) rfl rfl ?_
  refine sim_sv hC 465 mX11_copyTo 1 0 [vR 38, vR 29] [] (by decide +kernel) ml_10_465 rfl rfl rfl rfl rfl (fun wz hz => c_M_copyTo_38_29 w7 wz hz) (fun w8 => ?_)
  refine sim_blk0 hC [(.iconst 0, 0, 0, 0, 0), (.istore_n 1, 0, 0, 0, 0)] [(0, vR 0), (1, vI 0)] [] w8 70 (by decide +kernel) rfl rfl ?_
  refine sim_bl (E := (E_M_image_70)) ?_ (fun r11 => ?_)
  · exact sim_loop (V := (V_M_image_70)) (fun sz => s_B_M_image_70 hC sz) ((0, w8))
  · show SimK Ok (94, [(0, vR 0)], [], r11) _ _
    refine sim_blk0 hC [(.aload_n 0, 0, 0, 0, 0), (.getfield 153, 0, 62, 41, 0), (.aload_n 0, 0, 0, 0, 0), (.getfield 68, 0, 12, 14, 0)] [(0, vR 0)] [vR 12, vR 39] r11 102 (by decide +kernel) rfl rfl ?_
    refine sim_sv hC 465 mX11_copyTo 1 0 [vR 39, vR 12] [] (by decide +kernel) ml_10_465 rfl rfl rfl rfl rfl (fun wz hz => c_M_copyTo_39_12 r11 wz hz) (fun w12 => ?_)
    exact sim_retv hC (by decide +kernel)
theorem c_M_image {Z : ZT} {l : Launch} (w : Wld) (w1 : Wld) (h : F_M_image w = some w1) : Con Z l mX11_image 2 24 [vR 0] w (.inr none) w1 :=
  Con_of (oc := 10) (by decide +kernel) rfl rfl (fun Ok hC => s_M_image hC w w1 h ⟨rfl, rfl⟩)
