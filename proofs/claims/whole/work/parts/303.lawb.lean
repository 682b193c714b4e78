/-! ===== the law's loop ===== -/
def CtxL (Z : ZT) (l : Launch) (xs : Nat → Int32) (L : Nat) (wo : Wld) (Ok OkN : Cfg → Prop) : Prop :=
  Clo Z l 14 7 code (some .boolean) 2048 84000 (.inr (some 1)) wo Ok ∧ CloS xs L code Ok ∧ CloH Z l code Ok OkN ∧ Clo Z l 14 7 code (some .boolean) 2048 84000 (.inr (some 1)) wo OkN ∧ CloS xs L code OkN ∧ (∀ g, OkN g → Ok g)
def V_law : (Int32 × Wld) → Cfg := fun s => (23, [(0, vS 998), (1, vR 42), (2, vR 0), (3, vR 41), (4, vI s.1)], [], s.2)
def E_law : Wld → Cfg := fun w => (2301, [], [], w)
theorem hm_of {idx : Nat} {M : HI} (h1 : Cond.methodLink (RN 14) idx M.1 ∈ TBL) (h2 : Cond.static M.1 ∈ TBL) (h3 : Cond.initialized M.1.cls ∈ TBL) (h4 : Cond.codeWith M.1 M.2.1 M.2.2.1 (some .int) M.2.2.2 ∈ TBL) : ∀ x ∈ va_wsS (RN 14) idx M.1 (wsH M), x ∈ TBL := by
  intro x hx
  unfold va_wsS wsH at hx
  rcases List.mem_append.mp hx with hx | hx
  · rcases List.mem_cons.mp hx with rfl | hx
    · exact h1
    rcases List.mem_cons.mp hx with rfl | hx
    · exact h2
    rcases List.mem_cons.mp hx with rfl | hx
    · exact h3
    cases hx
  · rcases List.mem_cons.mp hx with rfl | hx
    · exact h4
    exact hx
theorem hm_house : ∀ x ∈ va_wsS (RN 14) 108 hL_house.1 (wsH hL_house), x ∈ TBL := hm_of (tb (in_t3 4 rfl) rfl) (tb (in_t3 5 rfl) rfl) (tb (in_t1 0 rfl) rfl) (tb (in_t3 6 rfl) rfl)
theorem hm_count : ∀ x ∈ va_wsS (RN 14) 122 hL_count.1 (wsH hL_count), x ∈ TBL := hm_of (tb (in_t4 36 rfl) rfl) (tb (in_t4 37 rfl) rfl) (tb (in_t1 0 rfl) rfl) (tb (in_t4 38 rfl) rfl)
theorem hm_room : ∀ x ∈ va_wsS (RN 14) 125 hL_room.1 (wsH hL_room), x ∈ TBL := hm_of (tb (in_t4 68 rfl) rfl) (tb (in_t4 69 rfl) rfl) (tb (in_t1 0 rfl) rfl) (tb (in_t4 70 rfl) rfl)
theorem hm_monk : ∀ x ∈ va_wsS (RN 14) 129 hL_monk.1 (wsH hL_monk), x ∈ TBL := hm_of (tb (in_t4 83 rfl) rfl) (tb (in_t4 84 rfl) rfl) (tb (in_t1 0 rfl) rfl) (tb (in_t4 85 rfl) rfl)
theorem hm_fish : ∀ x ∈ va_wsS (RN 14) 136 hL_fish.1 (wsH hL_fish), x ∈ TBL := hm_of (tb (in_t4 95 rfl) rfl) (tb (in_t4 96 rfl) rfl) (tb (in_t1 0 rfl) rfl) (tb (in_t4 97 rfl) rfl)
theorem hm_pray : ∀ x ∈ va_wsS (RN 14) 139 hL_pray.1 (wsH hL_pray), x ∈ TBL := hm_of (tb (in_t4 107 rfl) rfl) (tb (in_t4 108 rfl) rfl) (tb (in_t1 0 rfl) rfl) (tb (in_t4 109 rfl) rfl)
theorem hm_tie : ∀ x ∈ va_wsS (RN 14) 142 hL_tie.1 (wsH hL_tie), x ∈ TBL := hm_of (tb (in_t4 118 rfl) rfl) (tb (in_t4 119 rfl) rfl) (tb (in_t1 0 rfl) rfl) (tb (in_t4 120 rfl) rfl)
theorem hm_move : ∀ x ∈ va_wsS (RN 14) 146 hL_move.1 (wsH hL_move), x ∈ TBL := hm_of (tb (in_t4 125 rfl) rfl) (tb (in_t4 126 rfl) rfl) (tb (in_t1 0 rfl) rfl) (tb (in_t4 127 rfl) rfl)
theorem hm_door : ∀ x ∈ va_wsS (RN 14) 149 hL_door.1 (wsH hL_door), x ∈ TBL := hm_of (tb (in_t4 136 rfl) rfl) (tb (in_t4 137 rfl) rfl) (tb (in_t1 0 rfl) rfl) (tb (in_t4 138 rfl) rfl)
theorem hm_up : ∀ x ∈ va_wsS (RN 14) 157 hL_up.1 (wsH hL_up), x ∈ TBL := hm_of (tb (in_t4 143 rfl) rfl) (tb (in_t4 144 rfl) rfl) (tb (in_t1 0 rfl) rfl) (tb (in_t4 145 rfl) rfl)
theorem hm_then : ∀ x ∈ va_wsS (RN 14) 160 hL_then.1 (wsH hL_then), x ∈ TBL := hm_of (tb (in_t4 162 rfl) rfl) (tb (in_t4 163 rfl) rfl) (tb (in_t1 0 rfl) rfl) (tb (in_t4 164 rfl) rfl)
theorem hm_meets : ∀ x ∈ va_wsS (RN 14) 168 hL_meets.1 (wsH hL_meets), x ∈ TBL := hm_of (tb (in_t4 169 rfl) rfl) (tb (in_t4 170 rfl) rfl) (tb (in_t1 0 rfl) rfl) (tb (in_t4 171 rfl) rfl)
theorem hm_often : ∀ x ∈ va_wsS (RN 14) 171 hL_often.1 (wsH hL_often), x ∈ TBL := hm_of (tb (in_t4 176 rfl) rfl) (tb (in_t4 177 rfl) rfl) (tb (in_t1 0 rfl) rfl) (tb (in_t4 178 rfl) rfl)
theorem hm_ring : ∀ x ∈ va_wsS (RN 14) 174 hL_ring.1 (wsH hL_ring), x ∈ TBL := hm_of (tb (in_t4 183 rfl) rfl) (tb (in_t4 184 rfl) rfl) (tb (in_t1 0 rfl) rfl) (tb (in_t4 185 rfl) rfl)
theorem hm_from : ∀ x ∈ va_wsS (RN 14) 177 hL_from.1 (wsH hL_from), x ∈ TBL := hm_of (tb (in_t4 199 rfl) rfl) (tb (in_t4 200 rfl) rfl) (tb (in_t1 0 rfl) rfl) (tb (in_t4 201 rfl) rfl)
theorem hm_meeting : ∀ x ∈ va_wsS (RN 14) 180 hL_meeting.1 (wsH hL_meeting), x ∈ TBL := hm_of (tb (in_t4 210 rfl) rfl) (tb (in_t4 211 rfl) rfl) (tb (in_t1 0 rfl) rfl) (tb (in_t4 212 rfl) rfl)
theorem hm_leastFish : ∀ x ∈ va_wsS (RN 14) 183 hL_leastFish.1 (wsH hL_leastFish), x ∈ TBL := hm_of (tb (in_t4 217 rfl) rfl) (tb (in_t4 218 rfl) rfl) (tb (in_t1 0 rfl) rfl) (tb (in_t4 219 rfl) rfl)
theorem hm_lonely : ∀ x ∈ va_wsS (RN 14) 194 hL_lonely.1 (wsH hL_lonely), x ∈ TBL := hm_of (tb (in_t4 233 rfl) rfl) (tb (in_t4 234 rfl) rfl) (tb (in_t1 0 rfl) rfl) (tb (in_t4 235 rfl) rfl)
theorem hm_crowd : ∀ x ∈ va_wsS (RN 14) 197 hL_crowd.1 (wsH hL_crowd), x ∈ TBL := hm_of (tb (in_t5 4 rfl) rfl) (tb (in_t5 5 rfl) rfl) (tb (in_t1 0 rfl) rfl) (tb (in_t5 6 rfl) rfl)
theorem hm_toPray : ∀ x ∈ va_wsS (RN 14) 200 hL_toPray.1 (wsH hL_toPray), x ∈ TBL := hm_of (tb (in_t5 11 rfl) rfl) (tb (in_t5 12 rfl) rfl) (tb (in_t1 0 rfl) rfl) (tb (in_t5 13 rfl) rfl)
theorem hm_needless : ∀ x ∈ va_wsS (RN 14) 203 hL_needless.1 (wsH hL_needless), x ∈ TBL := hm_of (tb (in_t5 18 rfl) rfl) (tb (in_t5 19 rfl) rfl) (tb (in_t1 0 rfl) rfl) (tb (in_t5 20 rfl) rfl)
theorem hm_psalm : ∀ x ∈ va_wsS (RN 14) 206 hL_psalm.1 (wsH hL_psalm), x ∈ TBL := hm_of (tb (in_t5 29 rfl) rfl) (tb (in_t5 30 rfl) rfl) (tb (in_t1 0 rfl) rfl) (tb (in_t5 31 rfl) rfl)
theorem hm_spread : ∀ x ∈ va_wsS (RN 14) 209 hL_spread.1 (wsH hL_spread), x ∈ TBL := hm_of (tb (in_t5 41 rfl) rfl) (tb (in_t5 42 rfl) rfl) (tb (in_t1 0 rfl) rfl) (tb (in_t5 43 rfl) rfl)
theorem hm_eaten : ∀ x ∈ va_wsS (RN 14) 221 hL_eaten.1 (wsH hL_eaten), x ∈ TBL := hm_of (tb (in_t5 48 rfl) rfl) (tb (in_t5 49 rfl) rfl) (tb (in_t1 0 rfl) rfl) (tb (in_t5 50 rfl) rfl)
theorem hm_listen : ∀ x ∈ va_wsS (RN 14) 224 hL_listen.1 (wsH hL_listen), x ∈ TBL := hm_of (tb (in_t5 76 rfl) rfl) (tb (in_t5 77 rfl) rfl) (tb (in_t1 0 rfl) rfl) (tb (in_t5 78 rfl) rfl)
theorem hm_game : ∀ x ∈ va_wsS (RN 14) 231 hL_game.1 (wsH hL_game), x ∈ TBL := hm_of (tb (in_t5 91 rfl) rfl) (tb (in_t5 92 rfl) rfl) (tb (in_t1 0 rfl) rfl) (tb (in_t5 93 rfl) rfl)
theorem hm_years : ∀ x ∈ va_wsS (RN 14) 234 hL_years.1 (wsH hL_years), x ∈ TBL := hm_of (tb (in_t5 114 rfl) rfl) (tb (in_t5 115 rfl) rfl) (tb (in_t1 0 rfl) rfl) (tb (in_t5 116 rfl) rfl)
noncomputable def Lc_0 (xs : Nat → Int32) (L : Nat) (a4 : Int32) (w : Wld) : Option ((Int32 × Wld) ⊕ Wld) :=
  gd (vp_in (a4 + (1 : Int32)) L) (gd (vp_in (a4 + (2 : Int32)) L) (gd (vp_in (a4 + (3 : Int32)) L) (gd (vp_in (a4 + (4 : Int32)) L) (gd (vp_in (a4 + (5 : Int32)) L) (bd (F_C_feed w (xs (Int32.toNatClampNeg (a4 + (1 : Int32)))) (xs (Int32.toNatClampNeg (a4 + (2 : Int32)))) (xs (Int32.toNatClampNeg (a4 + (3 : Int32)))) (xs (Int32.toNatClampNeg (a4 + (4 : Int32)))) (xs (Int32.toNatClampNeg (a4 + (5 : Int32))))) (fun i2 w3 => gd (vp_in (a4 + (1 : Int32)) L) (gd (vp_in (a4 + (2 : Int32)) L) (gd (vp_in (a4 + (3 : Int32)) L) (gd (vp_in (a4 + (4 : Int32)) L) (gd (vp_in (a4 + (5 : Int32)) L) (bd (F_M_feed w3 (xs (Int32.toNatClampNeg (a4 + (1 : Int32)))) (xs (Int32.toNatClampNeg (a4 + (2 : Int32)))) (xs (Int32.toNatClampNeg (a4 + (3 : Int32)))) (xs (Int32.toNatClampNeg (a4 + (4 : Int32)))) (xs (Int32.toNatClampNeg (a4 + (5 : Int32))))) (fun i4 w5 => br (i2 = i4) (bi (a4 + 6) (fun i6 => some (.inl (i6, w5)))) (none)))))))))))))
set_option maxRecDepth 10000 in
theorem s_Lc_0 {Z : ZT} {l : Launch} {wo : Wld} {Ok OkN : Cfg → Prop} {xs : Nat → Int32} {L : Nat} (hL : CtxL Z l xs L wo Ok OkN) (a4 : Int32) (w : Wld) : SimK Ok (212, [(0, vS 998), (1, vR 42), (2, vR 0), (3, vR 41), (4, vI a4)], [], w) (Lc_0 xs L a4 w) (GLp OkN V_law (GEp OkN E_law)) := by
  unfold Lc_0
  have hC := hL.1
  have hS := hL.2.1
  have hH := hL.2.2.1
  have hN := hL.2.2.2.2.2
  refine sim_blk0 hC [(.aload_n 1, 0, 0, 0, 0), (.aload_n 0, 0, 0, 0, 0), (.iload 4, 0, 0, 0, 0), (.iconst 1, 0, 0, 0, 1), (.iadd, 0, 0, 0, 0)] [(0, vS 998), (1, vR 42), (2, vR 0), (3, vR 41), (4, vI a4)] [vI (a4 + (1 : Int32)), vS 998, vR 42] w 218 (by decide +kernel) rfl rfl ?_
  refine sim_sld hS (by decide +kernel) ?_
  refine sim_blk0 hC [(.aload_n 0, 0, 0, 0, 0), (.iload 4, 0, 0, 0, 0), (.iconst 2, 0, 0, 0, 2), (.iadd, 0, 0, 0, 0)] [(0, vS 998), (1, vR 42), (2, vR 0), (3, vR 41), (4, vI a4)] [vI (a4 + (2 : Int32)), vS 998, vI (xs (Int32.toNatClampNeg (a4 + (1 : Int32)))), vR 42] w 224 (by decide +kernel) rfl rfl ?_
  refine sim_sld hS (by decide +kernel) ?_
  refine sim_blk0 hC [(.aload_n 0, 0, 0, 0, 0), (.iload 4, 0, 0, 0, 0), (.iconst 3, 0, 0, 0, 3), (.iadd, 0, 0, 0, 0)] [(0, vS 998), (1, vR 42), (2, vR 0), (3, vR 41), (4, vI a4)] [vI (a4 + (3 : Int32)), vS 998, vI (xs (Int32.toNatClampNeg (a4 + (2 : Int32)))), vI (xs (Int32.toNatClampNeg (a4 + (1 : Int32)))), vR 42] w 230 (by decide +kernel) rfl rfl ?_
  refine sim_sld hS (by decide +kernel) ?_
  refine sim_blk0 hC [(.aload_n 0, 0, 0, 0, 0), (.iload 4, 0, 0, 0, 0), (.iconst 4, 0, 0, 0, 4), (.iadd, 0, 0, 0, 0)] [(0, vS 998), (1, vR 42), (2, vR 0), (3, vR 41), (4, vI a4)] [vI (a4 + (4 : Int32)), vS 998, vI (xs (Int32.toNatClampNeg (a4 + (3 : Int32)))), vI (xs (Int32.toNatClampNeg (a4 + (2 : Int32)))), vI (xs (Int32.toNatClampNeg (a4 + (1 : Int32)))), vR 42] w 236 (by decide +kernel) rfl rfl ?_
  refine sim_sld hS (by decide +kernel) ?_
  refine sim_blk0 hC [(.aload_n 0, 0, 0, 0, 0), (.iload 4, 0, 0, 0, 0), (.iconst 5, 0, 0, 0, 5), (.iadd, 0, 0, 0, 0)] [(0, vS 998), (1, vR 42), (2, vR 0), (3, vR 41), (4, vI a4)] [vI (a4 + (5 : Int32)), vS 998, vI (xs (Int32.toNatClampNeg (a4 + (4 : Int32)))), vI (xs (Int32.toNatClampNeg (a4 + (3 : Int32)))), vI (xs (Int32.toNatClampNeg (a4 + (2 : Int32)))), vI (xs (Int32.toNatClampNeg (a4 + (1 : Int32)))), vR 42] w 242 (by decide +kernel) rfl rfl ?_
  refine sim_sld hS (by decide +kernel) ?_
  refine sim_vd hC 103 mX10_feed 2 22 42 [vI (xs (Int32.toNatClampNeg (a4 + (1 : Int32)))), vI (xs (Int32.toNatClampNeg (a4 + (2 : Int32)))), vI (xs (Int32.toNatClampNeg (a4 + (3 : Int32)))), vI (xs (Int32.toNatClampNeg (a4 + (4 : Int32)))), vI (xs (Int32.toNatClampNeg (a4 + (5 : Int32))))] [] (by decide +kernel) ml_14_103 rfl rfl rfl rfl rfl rfl (fun rz wz hz => c_C_feed w (xs (Int32.toNatClampNeg (a4 + (1 : Int32)))) (xs (Int32.toNatClampNeg (a4 + (2 : Int32)))) (xs (Int32.toNatClampNeg (a4 + (3 : Int32)))) (xs (Int32.toNatClampNeg (a4 + (4 : Int32)))) (xs (Int32.toNatClampNeg (a4 + (5 : Int32)))) rz wz hz) (fun i2 w3 => ?_)
  refine sim_blk0 hC [(.aload_n 2, 0, 0, 0, 0), (.aload_n 0, 0, 0, 0, 0), (.iload 4, 0, 0, 0, 0), (.iconst 1, 0, 0, 0, 1), (.iadd, 0, 0, 0, 0)] [(0, vS 998), (1, vR 42), (2, vR 0), (3, vR 41), (4, vI a4)] [vI (a4 + (1 : Int32)), vS 998, vR 0, vI i2] w3 252 (by decide +kernel) rfl rfl ?_
  refine sim_sld hS (by decide +kernel) ?_
  refine sim_blk0 hC [(.aload_n 0, 0, 0, 0, 0), (.iload 4, 0, 0, 0, 0), (.iconst 2, 0, 0, 0, 2), (.iadd, 0, 0, 0, 0)] [(0, vS 998), (1, vR 42), (2, vR 0), (3, vR 41), (4, vI a4)] [vI (a4 + (2 : Int32)), vS 998, vI (xs (Int32.toNatClampNeg (a4 + (1 : Int32)))), vR 0, vI i2] w3 258 (by decide +kernel) rfl rfl ?_
  refine sim_sld hS (by decide +kernel) ?_
  refine sim_blk0 hC [(.aload_n 0, 0, 0, 0, 0), (.iload 4, 0, 0, 0, 0), (.iconst 3, 0, 0, 0, 3), (.iadd, 0, 0, 0, 0)] [(0, vS 998), (1, vR 42), (2, vR 0), (3, vR 41), (4, vI a4)] [vI (a4 + (3 : Int32)), vS 998, vI (xs (Int32.toNatClampNeg (a4 + (2 : Int32)))), vI (xs (Int32.toNatClampNeg (a4 + (1 : Int32)))), vR 0, vI i2] w3 264 (by decide +kernel) rfl rfl ?_
  refine sim_sld hS (by decide +kernel) ?_
  refine sim_blk0 hC [(.aload_n 0, 0, 0, 0, 0), (.iload 4, 0, 0, 0, 0), (.iconst 4, 0, 0, 0, 4), (.iadd, 0, 0, 0, 0)] [(0, vS 998), (1, vR 42), (2, vR 0), (3, vR 41), (4, vI a4)] [vI (a4 + (4 : Int32)), vS 998, vI (xs (Int32.toNatClampNeg (a4 + (3 : Int32)))), vI (xs (Int32.toNatClampNeg (a4 + (2 : Int32)))), vI (xs (Int32.toNatClampNeg (a4 + (1 : Int32)))), vR 0, vI i2] w3 270 (by decide +kernel) rfl rfl ?_
  refine sim_sld hS (by decide +kernel) ?_
  refine sim_blk0 hC [(.aload_n 0, 0, 0, 0, 0), (.iload 4, 0, 0, 0, 0), (.iconst 5, 0, 0, 0, 5), (.iadd, 0, 0, 0, 0)] [(0, vS 998), (1, vR 42), (2, vR 0), (3, vR 41), (4, vI a4)] [vI (a4 + (5 : Int32)), vS 998, vI (xs (Int32.toNatClampNeg (a4 + (4 : Int32)))), vI (xs (Int32.toNatClampNeg (a4 + (3 : Int32)))), vI (xs (Int32.toNatClampNeg (a4 + (2 : Int32)))), vI (xs (Int32.toNatClampNeg (a4 + (1 : Int32)))), vR 0, vI i2] w3 276 (by decide +kernel) rfl rfl ?_
  refine sim_sld hS (by decide +kernel) ?_
  refine sim_vd hC 107 mX11_feed 1 0 0 [vI (xs (Int32.toNatClampNeg (a4 + (1 : Int32)))), vI (xs (Int32.toNatClampNeg (a4 + (2 : Int32)))), vI (xs (Int32.toNatClampNeg (a4 + (3 : Int32)))), vI (xs (Int32.toNatClampNeg (a4 + (4 : Int32)))), vI (xs (Int32.toNatClampNeg (a4 + (5 : Int32))))] [vI i2] (by decide +kernel) ml_14_107 rfl rfl rfl rfl rfl rfl (fun rz wz hz => c_M_feed w3 (xs (Int32.toNatClampNeg (a4 + (1 : Int32)))) (xs (Int32.toNatClampNeg (a4 + (2 : Int32)))) (xs (Int32.toNatClampNeg (a4 + (3 : Int32)))) (xs (Int32.toNatClampNeg (a4 + (4 : Int32)))) (xs (Int32.toNatClampNeg (a4 + (5 : Int32)))) rz wz hz) (fun i4 w5 => ?_)
  refine sim_br hC (.if_icmp .eq 2015) 2295 (by decide +kernel) rfl (by decide) ?_ ?_
  · refine sim_blk0 hC [(.iinc 4 6, 0, 0, 0, 6)] [(0, vS 998), (1, vR 42), (2, vR 0), (3, vR 41), (4, vI (a4 + 6))] [] w5 2298 (by decide +kernel) rfl rfl ?_
    refine sim_bi (C := fun i6 => (2298, [(0, vS 998), (1, vR 42), (2, vR 0), (3, vR 41), (4, vI i6)], [], w5)) (fun i6 => ?_)
    refine sim_goto hC (-2275) 23 (by decide +kernel) (by decide) ?_
    exact sim_backN (V := V_law) hN (i6, w5)
  · exact sim_none
noncomputable def K_law_338 (xs : Nat → Int32) (L : Nat) (a4 : Int32) (w : Wld) : Option ((Int32 × Wld) ⊕ Wld) :=
  bi (a4 + 6) (fun i12 => some (.inl (i12, w)))
set_option maxRecDepth 10000 in
theorem s_K_law_338 {Z : ZT} {l : Launch} {wo : Wld} {Ok OkN : Cfg → Prop} {xs : Nat → Int32} {L : Nat} (hL : CtxL Z l xs L wo Ok OkN) (a4 : Int32) (w : Wld) : SimK OkN (338, [(0, vS 998), (1, vR 42), (2, vR 0), (3, vR 41), (4, vI a4)], [], w) (K_law_338 xs L a4 w) (GLp OkN V_law (GEp OkN E_law)) := by
  unfold K_law_338
  have hC := hL.2.2.2.1
  have hS := hL.2.2.2.2.1
  refine sim_goto hC 1957 2295 (by decide +kernel) (by decide) ?_
  refine sim_blk0 hC [(.iinc 4 6, 0, 0, 0, 6)] [(0, vS 998), (1, vR 42), (2, vR 0), (3, vR 41), (4, vI (a4 + 6))] [] w 2298 (by decide +kernel) rfl rfl ?_
  refine sim_bi (C := fun i12 => (2298, [(0, vS 998), (1, vR 42), (2, vR 0), (3, vR 41), (4, vI i12)], [], w)) (fun i12 => ?_)
  refine sim_goto hC (-2275) 23 (by decide +kernel) (by decide) ?_
  exact sim_back (V := V_law) (i12, w)
noncomputable def K_law_296 (xs : Nat → Int32) (L : Nat) (a4 : Int32) (t0 : Int32) (w : Wld) : Option ((Int32 × Wld) ⊕ Wld) :=
  gd (vp_in (a4 + (1 : Int32)) L) (bd (F_M_house w (xs (Int32.toNatClampNeg (a4 + (1 : Int32))))) (fun i9 w10 => bp (F_M_thrown w10) (fun i11 => br (i11 = t0) (br (¬ t0 = 0) (K_law_338 xs L a4 w10) (gd (vp_in 0 1) (br ((lg_cmp (Int32.toInt64 (w10 41 (Int32.toNatClampNeg 0))) (Int32.toInt64 i9)) = 0) (K_law_338 xs L a4 w10) (none)))) (none))))
set_option maxRecDepth 10000 in
theorem s_K_law_296 {Z : ZT} {l : Launch} {wo : Wld} {Ok OkN : Cfg → Prop} {xs : Nat → Int32} {L : Nat} (hL : CtxL Z l xs L wo Ok OkN) (a4 : Int32) (t0 : Int32) (w : Wld) : SimK OkN (296, [(0, vS 998), (1, vR 42), (2, vR 0), (3, vR 41), (4, vI a4)], [vI t0], w) (K_law_296 xs L a4 t0 w) (GLp OkN V_law (GEp OkN E_law)) := by
  unfold K_law_296
  have hC := hL.2.2.2.1
  have hS := hL.2.2.2.2.1
  refine sim_blk0 hC [(.istore 5, 0, 0, 0, 0), (.aload_n 2, 0, 0, 0, 0), (.aload_n 0, 0, 0, 0, 0), (.iload 4, 0, 0, 0, 0), (.iconst 1, 0, 0, 0, 1), (.iadd, 0, 0, 0, 0)] [(0, vS 998), (1, vR 42), (2, vR 0), (3, vR 41), (4, vI a4), (5, vI t0)] [vI (a4 + (1 : Int32)), vS 998, vR 0] w 304 (by decide +kernel) rfl rfl ?_
  refine sim_sld hS (by decide +kernel) ?_
  refine sim_vd hC 113 mX11_house 102 1965 0 [vI (xs (Int32.toNatClampNeg (a4 + (1 : Int32))))] [] (by decide +kernel) ml_14_113 rfl rfl rfl rfl rfl rfl (fun rz wz hz => c_M_house w (xs (Int32.toNatClampNeg (a4 + (1 : Int32)))) rz wz hz) (fun i9 w10 => ?_)
  refine sim_blk0 hC [(.istore 6, 0, 0, 0, 0), (.aload_n 2, 0, 0, 0, 0)] [(0, vS 998), (1, vR 42), (2, vR 0), (3, vR 41), (4, vI a4), (5, vI t0), (6, vI i9)] [vR 0] w10 311 (by decide +kernel) rfl rfl ?_
  refine sim_vp hC 114 mX11_thrown 1 0 0 [] [] (by decide +kernel) ml_14_114 rfl rfl rfl rfl rfl rfl (fun rz hz => c_M_thrown w10 rz hz) (fun i11 => ?_)
  refine sim_blk0 hC [(.iload 5, 0, 0, 0, 0)] [(0, vS 998), (1, vR 42), (2, vR 0), (3, vR 41), (4, vI a4), (5, vI t0), (6, vI i9)] [vI t0, vI i11] w10 316 (by decide +kernel) rfl rfl ?_
  refine sim_br hC (.if_icmp .eq 5) 321 (by decide +kernel) rfl (by decide) ?_ ?_
  · refine sim_blk0 hC [(.iload 5, 0, 0, 0, 0)] [(0, vS 998), (1, vR 42), (2, vR 0), (3, vR 41), (4, vI a4), (5, vI t0), (6, vI i9)] [vI t0] w10 323 (by decide +kernel) rfl rfl ?_
    refine sim_br hC (.ifCond .ne 15) 338 (by decide +kernel) rfl (by decide) ?_ ?_
    · refine sim_sub hC [0, 1, 2, 3, 4] ?_
      exact s_K_law_338 hL a4 w10
    · refine sim_blk1 hC [(.aload_n 3, 0, 0, 0, 0), (.iconst 0, 0, 0, 0, 0), (.laload, 41, 1, 3, 0), (.iload 6, 0, 0, 0, 0), (.i2l, 0, 0, 0, 0), (.lcmp, 0, 0, 0, 0)] [(0, vS 998), (1, vR 42), (2, vR 0), (3, vR 41), (4, vI a4), (5, vI t0), (6, vI i9)] [vI (lg_cmp (Int32.toInt64 (w10 41 (Int32.toNatClampNeg 0))) (Int32.toInt64 i9))] w10 333 (by decide +kernel) rfl rfl ?_
      refine sim_br hC (.ifCond .eq 5) 338 (by decide +kernel) rfl (by decide) ?_ ?_
      · refine sim_sub hC [0, 1, 2, 3, 4] ?_
        exact s_K_law_338 hL a4 w10
      · exact sim_none
  · exact sim_none
noncomputable def Lc_1 (xs : Nat → Int32) (L : Nat) (a4 : Int32) (w : Wld) : Option ((Int32 × Wld) ⊕ Wld) :=
  gd (vp_in (a4 + (1 : Int32)) L) (bd (H_house w (xs (Int32.toNatClampNeg (a4 + (1 : Int32))))) (fun i7 w8 => K_law_296 xs L a4 i7 w8))
set_option maxRecDepth 10000 in
theorem s_Lc_1 {Z : ZT} {l : Launch} {wo : Wld} {Ok OkN : Cfg → Prop} {xs : Nat → Int32} {L : Nat} (hL : CtxL Z l xs L wo Ok OkN) (a4 : Int32) (w : Wld) : SimK Ok (285, [(0, vS 998), (1, vR 42), (2, vR 0), (3, vR 41), (4, vI a4)], [], w) (Lc_1 xs L a4 w) (GLp OkN V_law (GEp OkN E_law)) := by
  unfold Lc_1
  have hC := hL.1
  have hS := hL.2.1
  have hH := hL.2.2.1
  have hN := hL.2.2.2.2.2
  refine sim_blk0 hC [(.aload_n 1, 0, 0, 0, 0), (.aload_n 0, 0, 0, 0, 0), (.iload 4, 0, 0, 0, 0), (.iconst 1, 0, 0, 0, 1), (.iadd, 0, 0, 0, 0)] [(0, vS 998), (1, vR 42), (2, vR 0), (3, vR 41), (4, vI a4)] [vI (a4 + (1 : Int32)), vS 998, vR 42] w 291 (by decide +kernel) rfl rfl ?_
  refine sim_sld hS (by decide +kernel) ?_
  refine sim_blk0 hC [(.aload_n 3, 0, 0, 0, 0)] [(0, vS 998), (1, vR 42), (2, vR 0), (3, vR 41), (4, vI a4)] [vR 41, vI (xs (Int32.toNatClampNeg (a4 + (1 : Int32)))), vR 42] w 293 (by decide +kernel) rfl rfl ?_
  refine sim_help hH 108 hL_house 115 2320 [vR 42, vI (xs (Int32.toNatClampNeg (a4 + (1 : Int32)))), vR 41] [] (by decide +kernel) hm_house rfl rfl rfl rfl rfl rfl (fun rz wz hz => h_house w (xs (Int32.toNatClampNeg (a4 + (1 : Int32)))) rz wz hz) (fun i7 w8 => ?_)
  exact s_K_law_296 hL a4 i7 w8
noncomputable def Lc_2 (xs : Nat → Int32) (L : Nat) (a4 : Int32) (w : Wld) : Option ((Int32 × Wld) ⊕ Wld) :=
  bp (F_C_fault w) (fun i13 => bd (F_M_fault w) (fun i14 w15 => br (i13 = i14) (bi (a4 + 6) (fun i16 => some (.inl (i16, w15)))) (none)))
set_option maxRecDepth 10000 in
theorem s_Lc_2 {Z : ZT} {l : Launch} {wo : Wld} {Ok OkN : Cfg → Prop} {xs : Nat → Int32} {L : Nat} (hL : CtxL Z l xs L wo Ok OkN) (a4 : Int32) (w : Wld) : SimK Ok (341, [(0, vS 998), (1, vR 42), (2, vR 0), (3, vR 41), (4, vI a4)], [], w) (Lc_2 xs L a4 w) (GLp OkN V_law (GEp OkN E_law)) := by
  unfold Lc_2
  have hC := hL.1
  have hS := hL.2.1
  have hH := hL.2.2.1
  have hN := hL.2.2.2.2.2
  refine sim_blk0 hC [(.aload_n 1, 0, 0, 0, 0)] [(0, vS 998), (1, vR 42), (2, vR 0), (3, vR 41), (4, vI a4)] [vR 42] w 342 (by decide +kernel) rfl rfl ?_
  refine sim_vp hC 118 mX10_fault 1 0 42 [] [] (by decide +kernel) ml_14_118 rfl rfl rfl rfl rfl rfl (fun rz hz => c_C_fault w rz hz) (fun i13 => ?_)
  refine sim_blk0 hC [(.aload_n 2, 0, 0, 0, 0)] [(0, vS 998), (1, vR 42), (2, vR 0), (3, vR 41), (4, vI a4)] [vR 0, vI i13] w 346 (by decide +kernel) rfl rfl ?_
  refine sim_vd hC 121 mX11_fault 1 0 0 [] [vI i13] (by decide +kernel) ml_14_121 rfl rfl rfl rfl rfl rfl (fun rz wz hz => c_M_fault w rz wz hz) (fun i14 w15 => ?_)
  refine sim_br hC (.if_icmp .eq 1946) 2295 (by decide +kernel) rfl (by decide) ?_ ?_
  · refine sim_blk0 hC [(.iinc 4 6, 0, 0, 0, 6)] [(0, vS 998), (1, vR 42), (2, vR 0), (3, vR 41), (4, vI (a4 + 6))] [] w15 2298 (by decide +kernel) rfl rfl ?_
    refine sim_bi (C := fun i16 => (2298, [(0, vS 998), (1, vR 42), (2, vR 0), (3, vR 41), (4, vI i16)], [], w15)) (fun i16 => ?_)
    refine sim_goto hC (-2275) 23 (by decide +kernel) (by decide) ?_
    exact sim_backN (V := V_law) hN (i16, w15)
  · exact sim_none
noncomputable def K_law_407 (xs : Nat → Int32) (L : Nat) (a4 : Int32) (w : Wld) : Option ((Int32 × Wld) ⊕ Wld) :=
  bi (a4 + 6) (fun i22 => some (.inl (i22, w)))
set_option maxRecDepth 10000 in
theorem s_K_law_407 {Z : ZT} {l : Launch} {wo : Wld} {Ok OkN : Cfg → Prop} {xs : Nat → Int32} {L : Nat} (hL : CtxL Z l xs L wo Ok OkN) (a4 : Int32) (w : Wld) : SimK OkN (407, [(0, vS 998), (1, vR 42), (2, vR 0), (3, vR 41), (4, vI a4)], [], w) (K_law_407 xs L a4 w) (GLp OkN V_law (GEp OkN E_law)) := by
  unfold K_law_407
  have hC := hL.2.2.2.1
  have hS := hL.2.2.2.2.1
  refine sim_goto hC 1888 2295 (by decide +kernel) (by decide) ?_
  refine sim_blk0 hC [(.iinc 4 6, 0, 0, 0, 6)] [(0, vS 998), (1, vR 42), (2, vR 0), (3, vR 41), (4, vI (a4 + 6))] [] w 2298 (by decide +kernel) rfl rfl ?_
  refine sim_bi (C := fun i22 => (2298, [(0, vS 998), (1, vR 42), (2, vR 0), (3, vR 41), (4, vI i22)], [], w)) (fun i22 => ?_)
  refine sim_goto hC (-2275) 23 (by decide +kernel) (by decide) ?_
  exact sim_back (V := V_law) (i22, w)
noncomputable def K_law_365 (xs : Nat → Int32) (L : Nat) (a4 : Int32) (t0 : Int32) (w : Wld) : Option ((Int32 × Wld) ⊕ Wld) :=
  gd (vp_in (a4 + (1 : Int32)) L) (bd (F_M_count w (xs (Int32.toNatClampNeg (a4 + (1 : Int32))))) (fun i19 w20 => bp (F_M_thrown w20) (fun i21 => br (i21 = t0) (br (¬ t0 = 0) (K_law_407 xs L a4 w20) (gd (vp_in 0 1) (br ((lg_cmp (Int32.toInt64 (w20 41 (Int32.toNatClampNeg 0))) (Int32.toInt64 i19)) = 0) (K_law_407 xs L a4 w20) (none)))) (none))))
set_option maxRecDepth 10000 in
theorem s_K_law_365 {Z : ZT} {l : Launch} {wo : Wld} {Ok OkN : Cfg → Prop} {xs : Nat → Int32} {L : Nat} (hL : CtxL Z l xs L wo Ok OkN) (a4 : Int32) (t0 : Int32) (w : Wld) : SimK OkN (365, [(0, vS 998), (1, vR 42), (2, vR 0), (3, vR 41), (4, vI a4)], [vI t0], w) (K_law_365 xs L a4 t0 w) (GLp OkN V_law (GEp OkN E_law)) := by
  unfold K_law_365
  have hC := hL.2.2.2.1
  have hS := hL.2.2.2.2.1
  refine sim_blk0 hC [(.istore 5, 0, 0, 0, 0), (.aload_n 2, 0, 0, 0, 0), (.aload_n 0, 0, 0, 0, 0), (.iload 4, 0, 0, 0, 0), (.iconst 1, 0, 0, 0, 1), (.iadd, 0, 0, 0, 0)] [(0, vS 998), (1, vR 42), (2, vR 0), (3, vR 41), (4, vI a4), (5, vI t0)] [vI (a4 + (1 : Int32)), vS 998, vR 0] w 373 (by decide +kernel) rfl rfl ?_
  refine sim_sld hS (by decide +kernel) ?_
  refine sim_vd hC 124 mX11_count 3 44 0 [vI (xs (Int32.toNatClampNeg (a4 + (1 : Int32))))] [] (by decide +kernel) ml_14_124 rfl rfl rfl rfl rfl rfl (fun rz wz hz => c_M_count w (xs (Int32.toNatClampNeg (a4 + (1 : Int32)))) rz wz hz) (fun i19 w20 => ?_)
  refine sim_blk0 hC [(.istore 6, 0, 0, 0, 0), (.aload_n 2, 0, 0, 0, 0)] [(0, vS 998), (1, vR 42), (2, vR 0), (3, vR 41), (4, vI a4), (5, vI t0), (6, vI i19)] [vR 0] w20 380 (by decide +kernel) rfl rfl ?_
  refine sim_vp hC 114 mX11_thrown 1 0 0 [] [] (by decide +kernel) ml_14_114 rfl rfl rfl rfl rfl rfl (fun rz hz => c_M_thrown w20 rz hz) (fun i21 => ?_)
  refine sim_blk0 hC [(.iload 5, 0, 0, 0, 0)] [(0, vS 998), (1, vR 42), (2, vR 0), (3, vR 41), (4, vI a4), (5, vI t0), (6, vI i19)] [vI t0, vI i21] w20 385 (by decide +kernel) rfl rfl ?_
  refine sim_br hC (.if_icmp .eq 5) 390 (by decide +kernel) rfl (by decide) ?_ ?_
  · refine sim_blk0 hC [(.iload 5, 0, 0, 0, 0)] [(0, vS 998), (1, vR 42), (2, vR 0), (3, vR 41), (4, vI a4), (5, vI t0), (6, vI i19)] [vI t0] w20 392 (by decide +kernel) rfl rfl ?_
    refine sim_br hC (.ifCond .ne 15) 407 (by decide +kernel) rfl (by decide) ?_ ?_
    · refine sim_sub hC [0, 1, 2, 3, 4] ?_
      exact s_K_law_407 hL a4 w20
    · refine sim_blk1 hC [(.aload_n 3, 0, 0, 0, 0), (.iconst 0, 0, 0, 0, 0), (.laload, 41, 1, 3, 0), (.iload 6, 0, 0, 0, 0), (.i2l, 0, 0, 0, 0), (.lcmp, 0, 0, 0, 0)] [(0, vS 998), (1, vR 42), (2, vR 0), (3, vR 41), (4, vI a4), (5, vI t0), (6, vI i19)] [vI (lg_cmp (Int32.toInt64 (w20 41 (Int32.toNatClampNeg 0))) (Int32.toInt64 i19))] w20 402 (by decide +kernel) rfl rfl ?_
      refine sim_br hC (.ifCond .eq 5) 407 (by decide +kernel) rfl (by decide) ?_ ?_
      · refine sim_sub hC [0, 1, 2, 3, 4] ?_
        exact s_K_law_407 hL a4 w20
      · exact sim_none
  · exact sim_none
noncomputable def Lc_3 (xs : Nat → Int32) (L : Nat) (a4 : Int32) (w : Wld) : Option ((Int32 × Wld) ⊕ Wld) :=
  gd (vp_in (a4 + (1 : Int32)) L) (bd (H_count w (xs (Int32.toNatClampNeg (a4 + (1 : Int32))))) (fun i17 w18 => K_law_365 xs L a4 i17 w18))
set_option maxRecDepth 10000 in
theorem s_Lc_3 {Z : ZT} {l : Launch} {wo : Wld} {Ok OkN : Cfg → Prop} {xs : Nat → Int32} {L : Nat} (hL : CtxL Z l xs L wo Ok OkN) (a4 : Int32) (w : Wld) : SimK Ok (354, [(0, vS 998), (1, vR 42), (2, vR 0), (3, vR 41), (4, vI a4)], [], w) (Lc_3 xs L a4 w) (GLp OkN V_law (GEp OkN E_law)) := by
  unfold Lc_3
  have hC := hL.1
  have hS := hL.2.1
  have hH := hL.2.2.1
  have hN := hL.2.2.2.2.2
  refine sim_blk0 hC [(.aload_n 1, 0, 0, 0, 0), (.aload_n 0, 0, 0, 0, 0), (.iload 4, 0, 0, 0, 0), (.iconst 1, 0, 0, 0, 1), (.iadd, 0, 0, 0, 0)] [(0, vS 998), (1, vR 42), (2, vR 0), (3, vR 41), (4, vI a4)] [vI (a4 + (1 : Int32)), vS 998, vR 42] w 360 (by decide +kernel) rfl rfl ?_
  refine sim_sld hS (by decide +kernel) ?_
  refine sim_blk0 hC [(.aload_n 3, 0, 0, 0, 0)] [(0, vS 998), (1, vR 42), (2, vR 0), (3, vR 41), (4, vI a4)] [vR 41, vI (xs (Int32.toNatClampNeg (a4 + (1 : Int32)))), vR 42] w 362 (by decide +kernel) rfl rfl ?_
  refine sim_help hH 122 hL_count 8 120 [vR 42, vI (xs (Int32.toNatClampNeg (a4 + (1 : Int32)))), vR 41] [] (by decide +kernel) hm_count rfl rfl rfl rfl rfl rfl (fun rz wz hz => h_count w (xs (Int32.toNatClampNeg (a4 + (1 : Int32)))) rz wz hz) (fun i17 w18 => ?_)
  exact s_K_law_365 hL a4 i17 w18
noncomputable def K_law_475 (xs : Nat → Int32) (L : Nat) (a4 : Int32) (w : Wld) : Option ((Int32 × Wld) ⊕ Wld) :=
  bi (a4 + 6) (fun i28 => some (.inl (i28, w)))
set_option maxRecDepth 10000 in
theorem s_K_law_475 {Z : ZT} {l : Launch} {wo : Wld} {Ok OkN : Cfg → Prop} {xs : Nat → Int32} {L : Nat} (hL : CtxL Z l xs L wo Ok OkN) (a4 : Int32) (w : Wld) : SimK OkN (475, [(0, vS 998), (1, vR 42), (2, vR 0), (3, vR 41), (4, vI a4)], [], w) (K_law_475 xs L a4 w) (GLp OkN V_law (GEp OkN E_law)) := by
  unfold K_law_475
  have hC := hL.2.2.2.1
  have hS := hL.2.2.2.2.1
  refine sim_goto hC 1820 2295 (by decide +kernel) (by decide) ?_
  refine sim_blk0 hC [(.iinc 4 6, 0, 0, 0, 6)] [(0, vS 998), (1, vR 42), (2, vR 0), (3, vR 41), (4, vI (a4 + 6))] [] w 2298 (by decide +kernel) rfl rfl ?_
  refine sim_bi (C := fun i28 => (2298, [(0, vS 998), (1, vR 42), (2, vR 0), (3, vR 41), (4, vI i28)], [], w)) (fun i28 => ?_)
  refine sim_goto hC (-2275) 23 (by decide +kernel) (by decide) ?_
  exact sim_back (V := V_law) (i28, w)
noncomputable def K_law_427 (xs : Nat → Int32) (L : Nat) (a4 : Int32) (t0 : Int32) (w : Wld) : Option ((Int32 × Wld) ⊕ Wld) :=
  gd (vp_in (a4 + (1 : Int32)) L) (gd (vp_in (a4 + (2 : Int32)) L) (bd (F_M_room w (xs (Int32.toNatClampNeg (a4 + (1 : Int32)))) (xs (Int32.toNatClampNeg (a4 + (2 : Int32))))) (fun i25 w26 => bp (F_M_thrown w26) (fun i27 => br (i27 = t0) (br (¬ t0 = 0) (K_law_475 xs L a4 w26) (gd (vp_in 0 1) (br ((lg_cmp (Int32.toInt64 (w26 41 (Int32.toNatClampNeg 0))) (Int32.toInt64 i25)) = 0) (K_law_475 xs L a4 w26) (none)))) (none)))))
set_option maxRecDepth 10000 in
theorem s_K_law_427 {Z : ZT} {l : Launch} {wo : Wld} {Ok OkN : Cfg → Prop} {xs : Nat → Int32} {L : Nat} (hL : CtxL Z l xs L wo Ok OkN) (a4 : Int32) (t0 : Int32) (w : Wld) : SimK OkN (427, [(0, vS 998), (1, vR 42), (2, vR 0), (3, vR 41), (4, vI a4)], [vI t0], w) (K_law_427 xs L a4 t0 w) (GLp OkN V_law (GEp OkN E_law)) := by
  unfold K_law_427
  have hC := hL.2.2.2.1
  have hS := hL.2.2.2.2.1
  refine sim_blk0 hC [(.istore 5, 0, 0, 0, 0), (.aload_n 2, 0, 0, 0, 0), (.aload_n 0, 0, 0, 0, 0), (.iload 4, 0, 0, 0, 0), (.iconst 1, 0, 0, 0, 1), (.iadd, 0, 0, 0, 0)] [(0, vS 998), (1, vR 42), (2, vR 0), (3, vR 41), (4, vI a4), (5, vI t0)] [vI (a4 + (1 : Int32)), vS 998, vR 0] w 435 (by decide +kernel) rfl rfl ?_
  refine sim_sld hS (by decide +kernel) ?_
  refine sim_blk0 hC [(.aload_n 0, 0, 0, 0, 0), (.iload 4, 0, 0, 0, 0), (.iconst 2, 0, 0, 0, 2), (.iadd, 0, 0, 0, 0)] [(0, vS 998), (1, vR 42), (2, vR 0), (3, vR 41), (4, vI a4), (5, vI t0)] [vI (a4 + (2 : Int32)), vS 998, vI (xs (Int32.toNatClampNeg (a4 + (1 : Int32)))), vR 0] w 441 (by decide +kernel) rfl rfl ?_
  refine sim_sld hS (by decide +kernel) ?_
  refine sim_vd hC 128 mX11_room 3 46 0 [vI (xs (Int32.toNatClampNeg (a4 + (1 : Int32)))), vI (xs (Int32.toNatClampNeg (a4 + (2 : Int32))))] [] (by decide +kernel) ml_14_128 rfl rfl rfl rfl rfl rfl (fun rz wz hz => c_M_room w (xs (Int32.toNatClampNeg (a4 + (1 : Int32)))) (xs (Int32.toNatClampNeg (a4 + (2 : Int32)))) rz wz hz) (fun i25 w26 => ?_)
  refine sim_blk0 hC [(.istore 6, 0, 0, 0, 0), (.aload_n 2, 0, 0, 0, 0)] [(0, vS 998), (1, vR 42), (2, vR 0), (3, vR 41), (4, vI a4), (5, vI t0), (6, vI i25)] [vR 0] w26 448 (by decide +kernel) rfl rfl ?_
  refine sim_vp hC 114 mX11_thrown 1 0 0 [] [] (by decide +kernel) ml_14_114 rfl rfl rfl rfl rfl rfl (fun rz hz => c_M_thrown w26 rz hz) (fun i27 => ?_)
  refine sim_blk0 hC [(.iload 5, 0, 0, 0, 0)] [(0, vS 998), (1, vR 42), (2, vR 0), (3, vR 41), (4, vI a4), (5, vI t0), (6, vI i25)] [vI t0, vI i27] w26 453 (by decide +kernel) rfl rfl ?_
  refine sim_br hC (.if_icmp .eq 5) 458 (by decide +kernel) rfl (by decide) ?_ ?_
  · refine sim_blk0 hC [(.iload 5, 0, 0, 0, 0)] [(0, vS 998), (1, vR 42), (2, vR 0), (3, vR 41), (4, vI a4), (5, vI t0), (6, vI i25)] [vI t0] w26 460 (by decide +kernel) rfl rfl ?_
    refine sim_br hC (.ifCond .ne 15) 475 (by decide +kernel) rfl (by decide) ?_ ?_
    · refine sim_sub hC [0, 1, 2, 3, 4] ?_
      exact s_K_law_475 hL a4 w26
    · refine sim_blk1 hC [(.aload_n 3, 0, 0, 0, 0), (.iconst 0, 0, 0, 0, 0), (.laload, 41, 1, 3, 0), (.iload 6, 0, 0, 0, 0), (.i2l, 0, 0, 0, 0), (.lcmp, 0, 0, 0, 0)] [(0, vS 998), (1, vR 42), (2, vR 0), (3, vR 41), (4, vI a4), (5, vI t0), (6, vI i25)] [vI (lg_cmp (Int32.toInt64 (w26 41 (Int32.toNatClampNeg 0))) (Int32.toInt64 i25))] w26 470 (by decide +kernel) rfl rfl ?_
      refine sim_br hC (.ifCond .eq 5) 475 (by decide +kernel) rfl (by decide) ?_ ?_
      · refine sim_sub hC [0, 1, 2, 3, 4] ?_
        exact s_K_law_475 hL a4 w26
      · exact sim_none
  · exact sim_none
noncomputable def Lc_4 (xs : Nat → Int32) (L : Nat) (a4 : Int32) (w : Wld) : Option ((Int32 × Wld) ⊕ Wld) :=
  gd (vp_in (a4 + (1 : Int32)) L) (gd (vp_in (a4 + (2 : Int32)) L) (bd (H_room w (xs (Int32.toNatClampNeg (a4 + (1 : Int32)))) (xs (Int32.toNatClampNeg (a4 + (2 : Int32))))) (fun i23 w24 => K_law_427 xs L a4 i23 w24)))
set_option maxRecDepth 10000 in
theorem s_Lc_4 {Z : ZT} {l : Launch} {wo : Wld} {Ok OkN : Cfg → Prop} {xs : Nat → Int32} {L : Nat} (hL : CtxL Z l xs L wo Ok OkN) (a4 : Int32) (w : Wld) : SimK Ok (410, [(0, vS 998), (1, vR 42), (2, vR 0), (3, vR 41), (4, vI a4)], [], w) (Lc_4 xs L a4 w) (GLp OkN V_law (GEp OkN E_law)) := by
  unfold Lc_4
  have hC := hL.1
  have hS := hL.2.1
  have hH := hL.2.2.1
  have hN := hL.2.2.2.2.2
  refine sim_blk0 hC [(.aload_n 1, 0, 0, 0, 0), (.aload_n 0, 0, 0, 0, 0), (.iload 4, 0, 0, 0, 0), (.iconst 1, 0, 0, 0, 1), (.iadd, 0, 0, 0, 0)] [(0, vS 998), (1, vR 42), (2, vR 0), (3, vR 41), (4, vI a4)] [vI (a4 + (1 : Int32)), vS 998, vR 42] w 416 (by decide +kernel) rfl rfl ?_
  refine sim_sld hS (by decide +kernel) ?_
  refine sim_blk0 hC [(.aload_n 0, 0, 0, 0, 0), (.iload 4, 0, 0, 0, 0), (.iconst 2, 0, 0, 0, 2), (.iadd, 0, 0, 0, 0)] [(0, vS 998), (1, vR 42), (2, vR 0), (3, vR 41), (4, vI a4)] [vI (a4 + (2 : Int32)), vS 998, vI (xs (Int32.toNatClampNeg (a4 + (1 : Int32)))), vR 42] w 422 (by decide +kernel) rfl rfl ?_
  refine sim_sld hS (by decide +kernel) ?_
  refine sim_blk0 hC [(.aload_n 3, 0, 0, 0, 0)] [(0, vS 998), (1, vR 42), (2, vR 0), (3, vR 41), (4, vI a4)] [vR 41, vI (xs (Int32.toNatClampNeg (a4 + (2 : Int32)))), vI (xs (Int32.toNatClampNeg (a4 + (1 : Int32)))), vR 42] w 424 (by decide +kernel) rfl rfl ?_
  refine sim_help hH 125 hL_room 8 132 [vR 42, vI (xs (Int32.toNatClampNeg (a4 + (1 : Int32)))), vI (xs (Int32.toNatClampNeg (a4 + (2 : Int32)))), vR 41] [] (by decide +kernel) hm_room rfl rfl rfl rfl rfl rfl (fun rz wz hz => h_room w (xs (Int32.toNatClampNeg (a4 + (1 : Int32)))) (xs (Int32.toNatClampNeg (a4 + (2 : Int32)))) rz wz hz) (fun i23 w24 => ?_)
  exact s_K_law_427 hL a4 i23 w24
noncomputable def K_law_543 (xs : Nat → Int32) (L : Nat) (a4 : Int32) (w : Wld) : Option ((Int32 × Wld) ⊕ Wld) :=
  bi (a4 + 6) (fun i34 => some (.inl (i34, w)))
set_option maxRecDepth 10000 in
theorem s_K_law_543 {Z : ZT} {l : Launch} {wo : Wld} {Ok OkN : Cfg → Prop} {xs : Nat → Int32} {L : Nat} (hL : CtxL Z l xs L wo Ok OkN) (a4 : Int32) (w : Wld) : SimK OkN (543, [(0, vS 998), (1, vR 42), (2, vR 0), (3, vR 41), (4, vI a4)], [], w) (K_law_543 xs L a4 w) (GLp OkN V_law (GEp OkN E_law)) := by
  unfold K_law_543
  have hC := hL.2.2.2.1
  have hS := hL.2.2.2.2.1
  refine sim_goto hC 1752 2295 (by decide +kernel) (by decide) ?_
  refine sim_blk0 hC [(.iinc 4 6, 0, 0, 0, 6)] [(0, vS 998), (1, vR 42), (2, vR 0), (3, vR 41), (4, vI (a4 + 6))] [] w 2298 (by decide +kernel) rfl rfl ?_
  refine sim_bi (C := fun i34 => (2298, [(0, vS 998), (1, vR 42), (2, vR 0), (3, vR 41), (4, vI i34)], [], w)) (fun i34 => ?_)
  refine sim_goto hC (-2275) 23 (by decide +kernel) (by decide) ?_
  exact sim_back (V := V_law) (i34, w)
noncomputable def K_law_495 (xs : Nat → Int32) (L : Nat) (a4 : Int32) (t0 : Int32) (w : Wld) : Option ((Int32 × Wld) ⊕ Wld) :=
  gd (vp_in (a4 + (1 : Int32)) L) (gd (vp_in (a4 + (2 : Int32)) L) (bd (F_M_monk w (xs (Int32.toNatClampNeg (a4 + (1 : Int32)))) (xs (Int32.toNatClampNeg (a4 + (2 : Int32))))) (fun i31 w32 => bp (F_M_thrown w32) (fun i33 => br (i33 = t0) (br (¬ t0 = 0) (K_law_543 xs L a4 w32) (gd (vp_in 0 1) (br ((lg_cmp (Int32.toInt64 (w32 41 (Int32.toNatClampNeg 0))) (Int32.toInt64 i31)) = 0) (K_law_543 xs L a4 w32) (none)))) (none)))))
set_option maxRecDepth 10000 in
theorem s_K_law_495 {Z : ZT} {l : Launch} {wo : Wld} {Ok OkN : Cfg → Prop} {xs : Nat → Int32} {L : Nat} (hL : CtxL Z l xs L wo Ok OkN) (a4 : Int32) (t0 : Int32) (w : Wld) : SimK OkN (495, [(0, vS 998), (1, vR 42), (2, vR 0), (3, vR 41), (4, vI a4)], [vI t0], w) (K_law_495 xs L a4 t0 w) (GLp OkN V_law (GEp OkN E_law)) := by
  unfold K_law_495
  have hC := hL.2.2.2.1
  have hS := hL.2.2.2.2.1
  refine sim_blk0 hC [(.istore 5, 0, 0, 0, 0), (.aload_n 2, 0, 0, 0, 0), (.aload_n 0, 0, 0, 0, 0), (.iload 4, 0, 0, 0, 0), (.iconst 1, 0, 0, 0, 1), (.iadd, 0, 0, 0, 0)] [(0, vS 998), (1, vR 42), (2, vR 0), (3, vR 41), (4, vI a4), (5, vI t0)] [vI (a4 + (1 : Int32)), vS 998, vR 0] w 503 (by decide +kernel) rfl rfl ?_
  refine sim_sld hS (by decide +kernel) ?_
  refine sim_blk0 hC [(.aload_n 0, 0, 0, 0, 0), (.iload 4, 0, 0, 0, 0), (.iconst 2, 0, 0, 0, 2), (.iadd, 0, 0, 0, 0)] [(0, vS 998), (1, vR 42), (2, vR 0), (3, vR 41), (4, vI a4), (5, vI t0)] [vI (a4 + (2 : Int32)), vS 998, vI (xs (Int32.toNatClampNeg (a4 + (1 : Int32)))), vR 0] w 509 (by decide +kernel) rfl rfl ?_
  refine sim_sld hS (by decide +kernel) ?_
  refine sim_vd hC 131 mX11_monk 4 66 0 [vI (xs (Int32.toNatClampNeg (a4 + (1 : Int32)))), vI (xs (Int32.toNatClampNeg (a4 + (2 : Int32))))] [] (by decide +kernel) ml_14_131 rfl rfl rfl rfl rfl rfl (fun rz wz hz => c_M_monk w (xs (Int32.toNatClampNeg (a4 + (1 : Int32)))) (xs (Int32.toNatClampNeg (a4 + (2 : Int32)))) rz wz hz) (fun i31 w32 => ?_)
  refine sim_blk0 hC [(.istore 6, 0, 0, 0, 0), (.aload_n 2, 0, 0, 0, 0)] [(0, vS 998), (1, vR 42), (2, vR 0), (3, vR 41), (4, vI a4), (5, vI t0), (6, vI i31)] [vR 0] w32 516 (by decide +kernel) rfl rfl ?_
  refine sim_vp hC 114 mX11_thrown 1 0 0 [] [] (by decide +kernel) ml_14_114 rfl rfl rfl rfl rfl rfl (fun rz hz => c_M_thrown w32 rz hz) (fun i33 => ?_)
  refine sim_blk0 hC [(.iload 5, 0, 0, 0, 0)] [(0, vS 998), (1, vR 42), (2, vR 0), (3, vR 41), (4, vI a4), (5, vI t0), (6, vI i31)] [vI t0, vI i33] w32 521 (by decide +kernel) rfl rfl ?_
  refine sim_br hC (.if_icmp .eq 5) 526 (by decide +kernel) rfl (by decide) ?_ ?_
  · refine sim_blk0 hC [(.iload 5, 0, 0, 0, 0)] [(0, vS 998), (1, vR 42), (2, vR 0), (3, vR 41), (4, vI a4), (5, vI t0), (6, vI i31)] [vI t0] w32 528 (by decide +kernel) rfl rfl ?_
    refine sim_br hC (.ifCond .ne 15) 543 (by decide +kernel) rfl (by decide) ?_ ?_
    · refine sim_sub hC [0, 1, 2, 3, 4] ?_
      exact s_K_law_543 hL a4 w32
    · refine sim_blk1 hC [(.aload_n 3, 0, 0, 0, 0), (.iconst 0, 0, 0, 0, 0), (.laload, 41, 1, 3, 0), (.iload 6, 0, 0, 0, 0), (.i2l, 0, 0, 0, 0), (.lcmp, 0, 0, 0, 0)] [(0, vS 998), (1, vR 42), (2, vR 0), (3, vR 41), (4, vI a4), (5, vI t0), (6, vI i31)] [vI (lg_cmp (Int32.toInt64 (w32 41 (Int32.toNatClampNeg 0))) (Int32.toInt64 i31))] w32 538 (by decide +kernel) rfl rfl ?_
      refine sim_br hC (.ifCond .eq 5) 543 (by decide +kernel) rfl (by decide) ?_ ?_
      · refine sim_sub hC [0, 1, 2, 3, 4] ?_
        exact s_K_law_543 hL a4 w32
      · exact sim_none
  · exact sim_none
noncomputable def Lc_5 (xs : Nat → Int32) (L : Nat) (a4 : Int32) (w : Wld) : Option ((Int32 × Wld) ⊕ Wld) :=
  gd (vp_in (a4 + (1 : Int32)) L) (gd (vp_in (a4 + (2 : Int32)) L) (bd (H_monk w (xs (Int32.toNatClampNeg (a4 + (1 : Int32)))) (xs (Int32.toNatClampNeg (a4 + (2 : Int32))))) (fun i29 w30 => K_law_495 xs L a4 i29 w30)))
set_option maxRecDepth 10000 in
theorem s_Lc_5 {Z : ZT} {l : Launch} {wo : Wld} {Ok OkN : Cfg → Prop} {xs : Nat → Int32} {L : Nat} (hL : CtxL Z l xs L wo Ok OkN) (a4 : Int32) (w : Wld) : SimK Ok (478, [(0, vS 998), (1, vR 42), (2, vR 0), (3, vR 41), (4, vI a4)], [], w) (Lc_5 xs L a4 w) (GLp OkN V_law (GEp OkN E_law)) := by
  unfold Lc_5
  have hC := hL.1
  have hS := hL.2.1
  have hH := hL.2.2.1
  have hN := hL.2.2.2.2.2
  refine sim_blk0 hC [(.aload_n 1, 0, 0, 0, 0), (.aload_n 0, 0, 0, 0, 0), (.iload 4, 0, 0, 0, 0), (.iconst 1, 0, 0, 0, 1), (.iadd, 0, 0, 0, 0)] [(0, vS 998), (1, vR 42), (2, vR 0), (3, vR 41), (4, vI a4)] [vI (a4 + (1 : Int32)), vS 998, vR 42] w 484 (by decide +kernel) rfl rfl ?_
  refine sim_sld hS (by decide +kernel) ?_
  refine sim_blk0 hC [(.aload_n 0, 0, 0, 0, 0), (.iload 4, 0, 0, 0, 0), (.iconst 2, 0, 0, 0, 2), (.iadd, 0, 0, 0, 0)] [(0, vS 998), (1, vR 42), (2, vR 0), (3, vR 41), (4, vI a4)] [vI (a4 + (2 : Int32)), vS 998, vI (xs (Int32.toNatClampNeg (a4 + (1 : Int32)))), vR 42] w 490 (by decide +kernel) rfl rfl ?_
  refine sim_sld hS (by decide +kernel) ?_
  refine sim_blk0 hC [(.aload_n 3, 0, 0, 0, 0)] [(0, vS 998), (1, vR 42), (2, vR 0), (3, vR 41), (4, vI a4)] [vR 41, vI (xs (Int32.toNatClampNeg (a4 + (2 : Int32)))), vI (xs (Int32.toNatClampNeg (a4 + (1 : Int32)))), vR 42] w 492 (by decide +kernel) rfl rfl ?_
  refine sim_help hH 129 hL_monk 8 133 [vR 42, vI (xs (Int32.toNatClampNeg (a4 + (1 : Int32)))), vI (xs (Int32.toNatClampNeg (a4 + (2 : Int32)))), vR 41] [] (by decide +kernel) hm_monk rfl rfl rfl rfl rfl rfl (fun rz wz hz => h_monk w (xs (Int32.toNatClampNeg (a4 + (1 : Int32)))) (xs (Int32.toNatClampNeg (a4 + (2 : Int32)))) rz wz hz) (fun i29 w30 => ?_)
  exact s_K_law_495 hL a4 i29 w30
noncomputable def Lc_6 (xs : Nat → Int32) (L : Nat) (a4 : Int32) (w : Wld) : Option ((Int32 × Wld) ⊕ Wld) :=
  gd (vp_in (a4 + (1 : Int32)) L) (bd (F_C_nights w (xs (Int32.toNatClampNeg (a4 + (1 : Int32))))) (fun i35 w36 => gd (vp_in (a4 + (1 : Int32)) L) (bd (F_M_nights w36 (xs (Int32.toNatClampNeg (a4 + (1 : Int32))))) (fun i37 w38 => br (i35 = i37) (bi (a4 + 6) (fun i39 => some (.inl (i39, w38)))) (none)))))
set_option maxRecDepth 10000 in
theorem s_Lc_6 {Z : ZT} {l : Launch} {wo : Wld} {Ok OkN : Cfg → Prop} {xs : Nat → Int32} {L : Nat} (hL : CtxL Z l xs L wo Ok OkN) (a4 : Int32) (w : Wld) : SimK Ok (546, [(0, vS 998), (1, vR 42), (2, vR 0), (3, vR 41), (4, vI a4)], [], w) (Lc_6 xs L a4 w) (GLp OkN V_law (GEp OkN E_law)) := by
  unfold Lc_6
  have hC := hL.1
  have hS := hL.2.1
  have hH := hL.2.2.1
  have hN := hL.2.2.2.2.2
  refine sim_blk0 hC [(.aload_n 1, 0, 0, 0, 0), (.aload_n 0, 0, 0, 0, 0), (.iload 4, 0, 0, 0, 0), (.iconst 1, 0, 0, 0, 1), (.iadd, 0, 0, 0, 0)] [(0, vS 998), (1, vR 42), (2, vR 0), (3, vR 41), (4, vI a4)] [vI (a4 + (1 : Int32)), vS 998, vR 42] w 552 (by decide +kernel) rfl rfl ?_
  refine sim_sld hS (by decide +kernel) ?_
  refine sim_vd hC 132 mX10_nights 5 93 42 [vI (xs (Int32.toNatClampNeg (a4 + (1 : Int32))))] [] (by decide +kernel) ml_14_132 rfl rfl rfl rfl rfl rfl (fun rz wz hz => c_C_nights w (xs (Int32.toNatClampNeg (a4 + (1 : Int32)))) rz wz hz) (fun i35 w36 => ?_)
  refine sim_blk0 hC [(.aload_n 2, 0, 0, 0, 0), (.aload_n 0, 0, 0, 0, 0), (.iload 4, 0, 0, 0, 0), (.iconst 1, 0, 0, 0, 1), (.iadd, 0, 0, 0, 0)] [(0, vS 998), (1, vR 42), (2, vR 0), (3, vR 41), (4, vI a4)] [vI (a4 + (1 : Int32)), vS 998, vR 0, vI i35] w36 562 (by decide +kernel) rfl rfl ?_
  refine sim_sld hS (by decide +kernel) ?_
  refine sim_vd hC 135 mX11_nights 7 133 0 [vI (xs (Int32.toNatClampNeg (a4 + (1 : Int32))))] [vI i35] (by decide +kernel) ml_14_135 rfl rfl rfl rfl rfl rfl (fun rz wz hz => c_M_nights w36 (xs (Int32.toNatClampNeg (a4 + (1 : Int32)))) rz wz hz) (fun i37 w38 => ?_)
  refine sim_br hC (.if_icmp .eq 1729) 2295 (by decide +kernel) rfl (by decide) ?_ ?_
  · refine sim_blk0 hC [(.iinc 4 6, 0, 0, 0, 6)] [(0, vS 998), (1, vR 42), (2, vR 0), (3, vR 41), (4, vI (a4 + 6))] [] w38 2298 (by decide +kernel) rfl rfl ?_
    refine sim_bi (C := fun i39 => (2298, [(0, vS 998), (1, vR 42), (2, vR 0), (3, vR 41), (4, vI i39)], [], w38)) (fun i39 => ?_)
    refine sim_goto hC (-2275) 23 (by decide +kernel) (by decide) ?_
    exact sim_backN (V := V_law) hN (i39, w38)
  · exact sim_none
noncomputable def K_law_636 (xs : Nat → Int32) (L : Nat) (a4 : Int32) (w : Wld) : Option ((Int32 × Wld) ⊕ Wld) :=
  bi (a4 + 6) (fun i45 => some (.inl (i45, w)))
set_option maxRecDepth 10000 in
theorem s_K_law_636 {Z : ZT} {l : Launch} {wo : Wld} {Ok OkN : Cfg → Prop} {xs : Nat → Int32} {L : Nat} (hL : CtxL Z l xs L wo Ok OkN) (a4 : Int32) (w : Wld) : SimK OkN (636, [(0, vS 998), (1, vR 42), (2, vR 0), (3, vR 41), (4, vI a4)], [], w) (K_law_636 xs L a4 w) (GLp OkN V_law (GEp OkN E_law)) := by
  unfold K_law_636
  have hC := hL.2.2.2.1
  have hS := hL.2.2.2.2.1
  refine sim_goto hC 1659 2295 (by decide +kernel) (by decide) ?_
  refine sim_blk0 hC [(.iinc 4 6, 0, 0, 0, 6)] [(0, vS 998), (1, vR 42), (2, vR 0), (3, vR 41), (4, vI (a4 + 6))] [] w 2298 (by decide +kernel) rfl rfl ?_
  refine sim_bi (C := fun i45 => (2298, [(0, vS 998), (1, vR 42), (2, vR 0), (3, vR 41), (4, vI i45)], [], w)) (fun i45 => ?_)
  refine sim_goto hC (-2275) 23 (by decide +kernel) (by decide) ?_
  exact sim_back (V := V_law) (i45, w)
noncomputable def K_law_588 (xs : Nat → Int32) (L : Nat) (a4 : Int32) (t0 : Int32) (w : Wld) : Option ((Int32 × Wld) ⊕ Wld) :=
  gd (vp_in (a4 + (1 : Int32)) L) (gd (vp_in (a4 + (2 : Int32)) L) (bd (F_M_fish w (xs (Int32.toNatClampNeg (a4 + (1 : Int32)))) (xs (Int32.toNatClampNeg (a4 + (2 : Int32))))) (fun i42 w43 => bp (F_M_thrown w43) (fun i44 => br (i44 = t0) (br (¬ t0 = 0) (K_law_636 xs L a4 w43) (gd (vp_in 0 1) (br ((lg_cmp (Int32.toInt64 (w43 41 (Int32.toNatClampNeg 0))) (Int32.toInt64 i42)) = 0) (K_law_636 xs L a4 w43) (none)))) (none)))))
set_option maxRecDepth 10000 in
theorem s_K_law_588 {Z : ZT} {l : Launch} {wo : Wld} {Ok OkN : Cfg → Prop} {xs : Nat → Int32} {L : Nat} (hL : CtxL Z l xs L wo Ok OkN) (a4 : Int32) (t0 : Int32) (w : Wld) : SimK OkN (588, [(0, vS 998), (1, vR 42), (2, vR 0), (3, vR 41), (4, vI a4)], [vI t0], w) (K_law_588 xs L a4 t0 w) (GLp OkN V_law (GEp OkN E_law)) := by
  unfold K_law_588
  have hC := hL.2.2.2.1
  have hS := hL.2.2.2.2.1
  refine sim_blk0 hC [(.istore 5, 0, 0, 0, 0), (.aload_n 2, 0, 0, 0, 0), (.aload_n 0, 0, 0, 0, 0), (.iload 4, 0, 0, 0, 0), (.iconst 1, 0, 0, 0, 1), (.iadd, 0, 0, 0, 0)] [(0, vS 998), (1, vR 42), (2, vR 0), (3, vR 41), (4, vI a4), (5, vI t0)] [vI (a4 + (1 : Int32)), vS 998, vR 0] w 596 (by decide +kernel) rfl rfl ?_
  refine sim_sld hS (by decide +kernel) ?_
  refine sim_blk0 hC [(.aload_n 0, 0, 0, 0, 0), (.iload 4, 0, 0, 0, 0), (.iconst 2, 0, 0, 0, 2), (.iadd, 0, 0, 0, 0)] [(0, vS 998), (1, vR 42), (2, vR 0), (3, vR 41), (4, vI a4), (5, vI t0)] [vI (a4 + (2 : Int32)), vS 998, vI (xs (Int32.toNatClampNeg (a4 + (1 : Int32)))), vR 0] w 602 (by decide +kernel) rfl rfl ?_
  refine sim_sld hS (by decide +kernel) ?_
  refine sim_vd hC 138 mX11_fish 3 46 0 [vI (xs (Int32.toNatClampNeg (a4 + (1 : Int32)))), vI (xs (Int32.toNatClampNeg (a4 + (2 : Int32))))] [] (by decide +kernel) ml_14_138 rfl rfl rfl rfl rfl rfl (fun rz wz hz => c_M_fish w (xs (Int32.toNatClampNeg (a4 + (1 : Int32)))) (xs (Int32.toNatClampNeg (a4 + (2 : Int32)))) rz wz hz) (fun i42 w43 => ?_)
  refine sim_blk0 hC [(.istore 6, 0, 0, 0, 0), (.aload_n 2, 0, 0, 0, 0)] [(0, vS 998), (1, vR 42), (2, vR 0), (3, vR 41), (4, vI a4), (5, vI t0), (6, vI i42)] [vR 0] w43 609 (by decide +kernel) rfl rfl ?_
  refine sim_vp hC 114 mX11_thrown 1 0 0 [] [] (by decide +kernel) ml_14_114 rfl rfl rfl rfl rfl rfl (fun rz hz => c_M_thrown w43 rz hz) (fun i44 => ?_)
  refine sim_blk0 hC [(.iload 5, 0, 0, 0, 0)] [(0, vS 998), (1, vR 42), (2, vR 0), (3, vR 41), (4, vI a4), (5, vI t0), (6, vI i42)] [vI t0, vI i44] w43 614 (by decide +kernel) rfl rfl ?_
  refine sim_br hC (.if_icmp .eq 5) 619 (by decide +kernel) rfl (by decide) ?_ ?_
  · refine sim_blk0 hC [(.iload 5, 0, 0, 0, 0)] [(0, vS 998), (1, vR 42), (2, vR 0), (3, vR 41), (4, vI a4), (5, vI t0), (6, vI i42)] [vI t0] w43 621 (by decide +kernel) rfl rfl ?_
    refine sim_br hC (.ifCond .ne 15) 636 (by decide +kernel) rfl (by decide) ?_ ?_
    · refine sim_sub hC [0, 1, 2, 3, 4] ?_
      exact s_K_law_636 hL a4 w43
    · refine sim_blk1 hC [(.aload_n 3, 0, 0, 0, 0), (.iconst 0, 0, 0, 0, 0), (.laload, 41, 1, 3, 0), (.iload 6, 0, 0, 0, 0), (.i2l, 0, 0, 0, 0), (.lcmp, 0, 0, 0, 0)] [(0, vS 998), (1, vR 42), (2, vR 0), (3, vR 41), (4, vI a4), (5, vI t0), (6, vI i42)] [vI (lg_cmp (Int32.toInt64 (w43 41 (Int32.toNatClampNeg 0))) (Int32.toInt64 i42))] w43 631 (by decide +kernel) rfl rfl ?_
      refine sim_br hC (.ifCond .eq 5) 636 (by decide +kernel) rfl (by decide) ?_ ?_
      · refine sim_sub hC [0, 1, 2, 3, 4] ?_
        exact s_K_law_636 hL a4 w43
      · exact sim_none
  · exact sim_none
noncomputable def Lc_7 (xs : Nat → Int32) (L : Nat) (a4 : Int32) (w : Wld) : Option ((Int32 × Wld) ⊕ Wld) :=
  gd (vp_in (a4 + (1 : Int32)) L) (gd (vp_in (a4 + (2 : Int32)) L) (bd (H_fish w (xs (Int32.toNatClampNeg (a4 + (1 : Int32)))) (xs (Int32.toNatClampNeg (a4 + (2 : Int32))))) (fun i40 w41 => K_law_588 xs L a4 i40 w41)))
set_option maxRecDepth 10000 in
theorem s_Lc_7 {Z : ZT} {l : Launch} {wo : Wld} {Ok OkN : Cfg → Prop} {xs : Nat → Int32} {L : Nat} (hL : CtxL Z l xs L wo Ok OkN) (a4 : Int32) (w : Wld) : SimK Ok (571, [(0, vS 998), (1, vR 42), (2, vR 0), (3, vR 41), (4, vI a4)], [], w) (Lc_7 xs L a4 w) (GLp OkN V_law (GEp OkN E_law)) := by
  unfold Lc_7
  have hC := hL.1
  have hS := hL.2.1
  have hH := hL.2.2.1
  have hN := hL.2.2.2.2.2
  refine sim_blk0 hC [(.aload_n 1, 0, 0, 0, 0), (.aload_n 0, 0, 0, 0, 0), (.iload 4, 0, 0, 0, 0), (.iconst 1, 0, 0, 0, 1), (.iadd, 0, 0, 0, 0)] [(0, vS 998), (1, vR 42), (2, vR 0), (3, vR 41), (4, vI a4)] [vI (a4 + (1 : Int32)), vS 998, vR 42] w 577 (by decide +kernel) rfl rfl ?_
  refine sim_sld hS (by decide +kernel) ?_
  refine sim_blk0 hC [(.aload_n 0, 0, 0, 0, 0), (.iload 4, 0, 0, 0, 0), (.iconst 2, 0, 0, 0, 2), (.iadd, 0, 0, 0, 0)] [(0, vS 998), (1, vR 42), (2, vR 0), (3, vR 41), (4, vI a4)] [vI (a4 + (2 : Int32)), vS 998, vI (xs (Int32.toNatClampNeg (a4 + (1 : Int32)))), vR 42] w 583 (by decide +kernel) rfl rfl ?_
  refine sim_sld hS (by decide +kernel) ?_
  refine sim_blk0 hC [(.aload_n 3, 0, 0, 0, 0)] [(0, vS 998), (1, vR 42), (2, vR 0), (3, vR 41), (4, vI a4)] [vR 41, vI (xs (Int32.toNatClampNeg (a4 + (2 : Int32)))), vI (xs (Int32.toNatClampNeg (a4 + (1 : Int32)))), vR 42] w 585 (by decide +kernel) rfl rfl ?_
  refine sim_help hH 136 hL_fish 8 132 [vR 42, vI (xs (Int32.toNatClampNeg (a4 + (1 : Int32)))), vI (xs (Int32.toNatClampNeg (a4 + (2 : Int32)))), vR 41] [] (by decide +kernel) hm_fish rfl rfl rfl rfl rfl rfl (fun rz wz hz => h_fish w (xs (Int32.toNatClampNeg (a4 + (1 : Int32)))) (xs (Int32.toNatClampNeg (a4 + (2 : Int32)))) rz wz hz) (fun i40 w41 => ?_)
  exact s_K_law_588 hL a4 i40 w41
noncomputable def K_law_704 (xs : Nat → Int32) (L : Nat) (a4 : Int32) (w : Wld) : Option ((Int32 × Wld) ⊕ Wld) :=
  bi (a4 + 6) (fun i51 => some (.inl (i51, w)))
set_option maxRecDepth 10000 in
theorem s_K_law_704 {Z : ZT} {l : Launch} {wo : Wld} {Ok OkN : Cfg → Prop} {xs : Nat → Int32} {L : Nat} (hL : CtxL Z l xs L wo Ok OkN) (a4 : Int32) (w : Wld) : SimK OkN (704, [(0, vS 998), (1, vR 42), (2, vR 0), (3, vR 41), (4, vI a4)], [], w) (K_law_704 xs L a4 w) (GLp OkN V_law (GEp OkN E_law)) := by
  unfold K_law_704
  have hC := hL.2.2.2.1
  have hS := hL.2.2.2.2.1
  refine sim_goto hC 1591 2295 (by decide +kernel) (by decide) ?_
  refine sim_blk0 hC [(.iinc 4 6, 0, 0, 0, 6)] [(0, vS 998), (1, vR 42), (2, vR 0), (3, vR 41), (4, vI (a4 + 6))] [] w 2298 (by decide +kernel) rfl rfl ?_
  refine sim_bi (C := fun i51 => (2298, [(0, vS 998), (1, vR 42), (2, vR 0), (3, vR 41), (4, vI i51)], [], w)) (fun i51 => ?_)
  refine sim_goto hC (-2275) 23 (by decide +kernel) (by decide) ?_
  exact sim_back (V := V_law) (i51, w)
noncomputable def K_law_656 (xs : Nat → Int32) (L : Nat) (a4 : Int32) (t0 : Int32) (w : Wld) : Option ((Int32 × Wld) ⊕ Wld) :=
  gd (vp_in (a4 + (1 : Int32)) L) (gd (vp_in (a4 + (2 : Int32)) L) (bd (F_M_pray w (xs (Int32.toNatClampNeg (a4 + (1 : Int32)))) (xs (Int32.toNatClampNeg (a4 + (2 : Int32))))) (fun i48 w49 => bp (F_M_thrown w49) (fun i50 => br (i50 = t0) (br (¬ t0 = 0) (K_law_704 xs L a4 w49) (gd (vp_in 0 1) (br ((lg_cmp (Int32.toInt64 (w49 41 (Int32.toNatClampNeg 0))) (Int32.toInt64 i48)) = 0) (K_law_704 xs L a4 w49) (none)))) (none)))))
set_option maxRecDepth 10000 in
theorem s_K_law_656 {Z : ZT} {l : Launch} {wo : Wld} {Ok OkN : Cfg → Prop} {xs : Nat → Int32} {L : Nat} (hL : CtxL Z l xs L wo Ok OkN) (a4 : Int32) (t0 : Int32) (w : Wld) : SimK OkN (656, [(0, vS 998), (1, vR 42), (2, vR 0), (3, vR 41), (4, vI a4)], [vI t0], w) (K_law_656 xs L a4 t0 w) (GLp OkN V_law (GEp OkN E_law)) := by
  unfold K_law_656
  have hC := hL.2.2.2.1
  have hS := hL.2.2.2.2.1
  refine sim_blk0 hC [(.istore 5, 0, 0, 0, 0), (.aload_n 2, 0, 0, 0, 0), (.aload_n 0, 0, 0, 0, 0), (.iload 4, 0, 0, 0, 0), (.iconst 1, 0, 0, 0, 1), (.iadd, 0, 0, 0, 0)] [(0, vS 998), (1, vR 42), (2, vR 0), (3, vR 41), (4, vI a4), (5, vI t0)] [vI (a4 + (1 : Int32)), vS 998, vR 0] w 664 (by decide +kernel) rfl rfl ?_
  refine sim_sld hS (by decide +kernel) ?_
  refine sim_blk0 hC [(.aload_n 0, 0, 0, 0, 0), (.iload 4, 0, 0, 0, 0), (.iconst 2, 0, 0, 0, 2), (.iadd, 0, 0, 0, 0)] [(0, vS 998), (1, vR 42), (2, vR 0), (3, vR 41), (4, vI a4), (5, vI t0)] [vI (a4 + (2 : Int32)), vS 998, vI (xs (Int32.toNatClampNeg (a4 + (1 : Int32)))), vR 0] w 670 (by decide +kernel) rfl rfl ?_
  refine sim_sld hS (by decide +kernel) ?_
  refine sim_vd hC 141 mX11_pray 3 46 0 [vI (xs (Int32.toNatClampNeg (a4 + (1 : Int32)))), vI (xs (Int32.toNatClampNeg (a4 + (2 : Int32))))] [] (by decide +kernel) ml_14_141 rfl rfl rfl rfl rfl rfl (fun rz wz hz => c_M_pray w (xs (Int32.toNatClampNeg (a4 + (1 : Int32)))) (xs (Int32.toNatClampNeg (a4 + (2 : Int32)))) rz wz hz) (fun i48 w49 => ?_)
  refine sim_blk0 hC [(.istore 6, 0, 0, 0, 0), (.aload_n 2, 0, 0, 0, 0)] [(0, vS 998), (1, vR 42), (2, vR 0), (3, vR 41), (4, vI a4), (5, vI t0), (6, vI i48)] [vR 0] w49 677 (by decide +kernel) rfl rfl ?_
  refine sim_vp hC 114 mX11_thrown 1 0 0 [] [] (by decide +kernel) ml_14_114 rfl rfl rfl rfl rfl rfl (fun rz hz => c_M_thrown w49 rz hz) (fun i50 => ?_)
  refine sim_blk0 hC [(.iload 5, 0, 0, 0, 0)] [(0, vS 998), (1, vR 42), (2, vR 0), (3, vR 41), (4, vI a4), (5, vI t0), (6, vI i48)] [vI t0, vI i50] w49 682 (by decide +kernel) rfl rfl ?_
  refine sim_br hC (.if_icmp .eq 5) 687 (by decide +kernel) rfl (by decide) ?_ ?_
  · refine sim_blk0 hC [(.iload 5, 0, 0, 0, 0)] [(0, vS 998), (1, vR 42), (2, vR 0), (3, vR 41), (4, vI a4), (5, vI t0), (6, vI i48)] [vI t0] w49 689 (by decide +kernel) rfl rfl ?_
    refine sim_br hC (.ifCond .ne 15) 704 (by decide +kernel) rfl (by decide) ?_ ?_
    · refine sim_sub hC [0, 1, 2, 3, 4] ?_
      exact s_K_law_704 hL a4 w49
    · refine sim_blk1 hC [(.aload_n 3, 0, 0, 0, 0), (.iconst 0, 0, 0, 0, 0), (.laload, 41, 1, 3, 0), (.iload 6, 0, 0, 0, 0), (.i2l, 0, 0, 0, 0), (.lcmp, 0, 0, 0, 0)] [(0, vS 998), (1, vR 42), (2, vR 0), (3, vR 41), (4, vI a4), (5, vI t0), (6, vI i48)] [vI (lg_cmp (Int32.toInt64 (w49 41 (Int32.toNatClampNeg 0))) (Int32.toInt64 i48))] w49 699 (by decide +kernel) rfl rfl ?_
      refine sim_br hC (.ifCond .eq 5) 704 (by decide +kernel) rfl (by decide) ?_ ?_
      · refine sim_sub hC [0, 1, 2, 3, 4] ?_
        exact s_K_law_704 hL a4 w49
      · exact sim_none
  · exact sim_none
noncomputable def Lc_8 (xs : Nat → Int32) (L : Nat) (a4 : Int32) (w : Wld) : Option ((Int32 × Wld) ⊕ Wld) :=
  gd (vp_in (a4 + (1 : Int32)) L) (gd (vp_in (a4 + (2 : Int32)) L) (bd (H_pray w (xs (Int32.toNatClampNeg (a4 + (1 : Int32)))) (xs (Int32.toNatClampNeg (a4 + (2 : Int32))))) (fun i46 w47 => K_law_656 xs L a4 i46 w47)))
set_option maxRecDepth 10000 in
theorem s_Lc_8 {Z : ZT} {l : Launch} {wo : Wld} {Ok OkN : Cfg → Prop} {xs : Nat → Int32} {L : Nat} (hL : CtxL Z l xs L wo Ok OkN) (a4 : Int32) (w : Wld) : SimK Ok (639, [(0, vS 998), (1, vR 42), (2, vR 0), (3, vR 41), (4, vI a4)], [], w) (Lc_8 xs L a4 w) (GLp OkN V_law (GEp OkN E_law)) := by
  unfold Lc_8
  have hC := hL.1
  have hS := hL.2.1
  have hH := hL.2.2.1
  have hN := hL.2.2.2.2.2
  refine sim_blk0 hC [(.aload_n 1, 0, 0, 0, 0), (.aload_n 0, 0, 0, 0, 0), (.iload 4, 0, 0, 0, 0), (.iconst 1, 0, 0, 0, 1), (.iadd, 0, 0, 0, 0)] [(0, vS 998), (1, vR 42), (2, vR 0), (3, vR 41), (4, vI a4)] [vI (a4 + (1 : Int32)), vS 998, vR 42] w 645 (by decide +kernel) rfl rfl ?_
  refine sim_sld hS (by decide +kernel) ?_
  refine sim_blk0 hC [(.aload_n 0, 0, 0, 0, 0), (.iload 4, 0, 0, 0, 0), (.iconst 2, 0, 0, 0, 2), (.iadd, 0, 0, 0, 0)] [(0, vS 998), (1, vR 42), (2, vR 0), (3, vR 41), (4, vI a4)] [vI (a4 + (2 : Int32)), vS 998, vI (xs (Int32.toNatClampNeg (a4 + (1 : Int32)))), vR 42] w 651 (by decide +kernel) rfl rfl ?_
  refine sim_sld hS (by decide +kernel) ?_
  refine sim_blk0 hC [(.aload_n 3, 0, 0, 0, 0)] [(0, vS 998), (1, vR 42), (2, vR 0), (3, vR 41), (4, vI a4)] [vR 41, vI (xs (Int32.toNatClampNeg (a4 + (2 : Int32)))), vI (xs (Int32.toNatClampNeg (a4 + (1 : Int32)))), vR 42] w 653 (by decide +kernel) rfl rfl ?_
  refine sim_help hH 139 hL_pray 8 132 [vR 42, vI (xs (Int32.toNatClampNeg (a4 + (1 : Int32)))), vI (xs (Int32.toNatClampNeg (a4 + (2 : Int32)))), vR 41] [] (by decide +kernel) hm_pray rfl rfl rfl rfl rfl rfl (fun rz wz hz => h_pray w (xs (Int32.toNatClampNeg (a4 + (1 : Int32)))) (xs (Int32.toNatClampNeg (a4 + (2 : Int32)))) rz wz hz) (fun i46 w47 => ?_)
  exact s_K_law_656 hL a4 i46 w47
noncomputable def K_law_795 (xs : Nat → Int32) (L : Nat) (a4 : Int32) (w : Wld) : Option ((Int32 × Wld) ⊕ Wld) :=
  bi (a4 + 6) (fun i57 => some (.inl (i57, w)))
set_option maxRecDepth 10000 in
theorem s_K_law_795 {Z : ZT} {l : Launch} {wo : Wld} {Ok OkN : Cfg → Prop} {xs : Nat → Int32} {L : Nat} (hL : CtxL Z l xs L wo Ok OkN) (a4 : Int32) (w : Wld) : SimK OkN (795, [(0, vS 998), (1, vR 42), (2, vR 0), (3, vR 41), (4, vI a4)], [], w) (K_law_795 xs L a4 w) (GLp OkN V_law (GEp OkN E_law)) := by
  unfold K_law_795
  have hC := hL.2.2.2.1
  have hS := hL.2.2.2.2.1
  refine sim_goto hC 1500 2295 (by decide +kernel) (by decide) ?_
  refine sim_blk0 hC [(.iinc 4 6, 0, 0, 0, 6)] [(0, vS 998), (1, vR 42), (2, vR 0), (3, vR 41), (4, vI (a4 + 6))] [] w 2298 (by decide +kernel) rfl rfl ?_
  refine sim_bi (C := fun i57 => (2298, [(0, vS 998), (1, vR 42), (2, vR 0), (3, vR 41), (4, vI i57)], [], w)) (fun i57 => ?_)
  refine sim_goto hC (-2275) 23 (by decide +kernel) (by decide) ?_
  exact sim_back (V := V_law) (i57, w)
noncomputable def K_law_789 (xs : Nat → Int32) (L : Nat) (a4 : Int32) (t0 : Int64) (t1 : Int64) (w : Wld) : Option ((Int32 × Wld) ⊕ Wld) :=
  br ((lg_cmp t0 t1) = 0) (K_law_795 xs L a4 w) (none)
set_option maxRecDepth 10000 in
theorem s_K_law_789 {Z : ZT} {l : Launch} {wo : Wld} {Ok OkN : Cfg → Prop} {xs : Nat → Int32} {L : Nat} (hL : CtxL Z l xs L wo Ok OkN) (a4 : Int32) (t0 : Int64) (t1 : Int64) (w : Wld) : SimK OkN (789, [(0, vS 998), (1, vR 42), (2, vR 0), (3, vR 41), (4, vI a4)], [vL t1, vL t0], w) (K_law_789 xs L a4 t0 t1 w) (GLp OkN V_law (GEp OkN E_law)) := by
  unfold K_law_789
  have hC := hL.2.2.2.1
  have hS := hL.2.2.2.2.1
  refine sim_blk0 hC [(.lcmp, 0, 0, 0, 0)] [(0, vS 998), (1, vR 42), (2, vR 0), (3, vR 41), (4, vI a4)] [vI (lg_cmp t0 t1)] w 790 (by decide +kernel) rfl rfl ?_
  refine sim_br hC (.ifCond .eq 5) 795 (by decide +kernel) rfl (by decide) ?_ ?_
  · exact s_K_law_795 hL a4 w
  · exact sim_none
noncomputable def K_law_755 (xs : Nat → Int32) (L : Nat) (a4 : Int32) (a5 : Int32) (t1 : Int32) (t2 : Int32) (w : Wld) : Option ((Int32 × Wld) ⊕ Wld) :=
  bd (F_M_tie w t1 t2) (fun i54 w55 => bp (F_M_thrown w55) (fun i56 => br (i56 = a5) (br (¬ a5 = 0) (K_law_795 xs L a4 w55) (gd (vp_in 0 1) (br (i54 = 0) (K_law_789 xs L a4 (Int32.toInt64 (w55 41 (Int32.toNatClampNeg 0))) (Int32.toInt64 0) w55) (K_law_789 xs L a4 (Int32.toInt64 (w55 41 (Int32.toNatClampNeg 0))) (Int32.toInt64 1) w55)))) (none)))
set_option maxRecDepth 10000 in
theorem s_K_law_755 {Z : ZT} {l : Launch} {wo : Wld} {Ok OkN : Cfg → Prop} {xs : Nat → Int32} {L : Nat} (hL : CtxL Z l xs L wo Ok OkN) (a4 : Int32) (a5 : Int32) (t1 : Int32) (t2 : Int32) (w : Wld) : SimK OkN (755, [(0, vS 998), (1, vR 42), (2, vR 0), (3, vR 41), (4, vI a4), (5, vI a5)], [vI t2, vI t1, vR 0], w) (K_law_755 xs L a4 a5 t1 t2 w) (GLp OkN V_law (GEp OkN E_law)) := by
  unfold K_law_755
  have hC := hL.2.2.2.1
  have hS := hL.2.2.2.2.1
  refine sim_vd hC 145 mX11_tie 3 46 0 [vI t1, vI t2] [] (by decide +kernel) ml_14_145 rfl rfl rfl rfl rfl rfl (fun rz wz hz => c_M_tie w t1 t2 rz wz hz) (fun i54 w55 => ?_)
  refine sim_blk0 hC [(.istore 6, 0, 0, 0, 0), (.aload_n 2, 0, 0, 0, 0)] [(0, vS 998), (1, vR 42), (2, vR 0), (3, vR 41), (4, vI a4), (5, vI a5), (6, vI i54)] [vR 0] w55 761 (by decide +kernel) rfl rfl ?_
  refine sim_vp hC 114 mX11_thrown 1 0 0 [] [] (by decide +kernel) ml_14_114 rfl rfl rfl rfl rfl rfl (fun rz hz => c_M_thrown w55 rz hz) (fun i56 => ?_)
  refine sim_blk0 hC [(.iload 5, 0, 0, 0, 0)] [(0, vS 998), (1, vR 42), (2, vR 0), (3, vR 41), (4, vI a4), (5, vI a5), (6, vI i54)] [vI a5, vI i56] w55 766 (by decide +kernel) rfl rfl ?_
  refine sim_br hC (.if_icmp .eq 5) 771 (by decide +kernel) rfl (by decide) ?_ ?_
  · refine sim_blk0 hC [(.iload 5, 0, 0, 0, 0)] [(0, vS 998), (1, vR 42), (2, vR 0), (3, vR 41), (4, vI a4), (5, vI a5), (6, vI i54)] [vI a5] w55 773 (by decide +kernel) rfl rfl ?_
    refine sim_br hC (.ifCond .ne 22) 795 (by decide +kernel) rfl (by decide) ?_ ?_
    · refine sim_sub hC [0, 1, 2, 3, 4] ?_
      exact s_K_law_795 hL a4 w55
    · refine sim_blk1 hC [(.aload_n 3, 0, 0, 0, 0), (.iconst 0, 0, 0, 0, 0), (.laload, 41, 1, 3, 0), (.iload 6, 0, 0, 0, 0)] [(0, vS 998), (1, vR 42), (2, vR 0), (3, vR 41), (4, vI a4), (5, vI a5), (6, vI i54)] [vI i54, vL (Int32.toInt64 (w55 41 (Int32.toNatClampNeg 0)))] w55 781 (by decide +kernel) rfl rfl ?_
      refine sim_br hC (.ifCond .eq 7) 788 (by decide +kernel) rfl (by decide) ?_ ?_
      · refine sim_blk0 hC [(.lconst 0, 0, 0, 0, 0)] [(0, vS 998), (1, vR 42), (2, vR 0), (3, vR 41), (4, vI a4), (5, vI a5), (6, vI i54)] [vL (Int32.toInt64 0), vL (Int32.toInt64 (w55 41 (Int32.toNatClampNeg 0)))] w55 789 (by decide +kernel) rfl rfl ?_
        refine sim_sub hC [0, 1, 2, 3, 4] ?_
        exact s_K_law_789 hL a4 (Int32.toInt64 (w55 41 (Int32.toNatClampNeg 0))) (Int32.toInt64 0) w55
      · refine sim_blk0 hC [(.lconst 1, 0, 0, 0, 1)] [(0, vS 998), (1, vR 42), (2, vR 0), (3, vR 41), (4, vI a4), (5, vI a5), (6, vI i54)] [vL (Int32.toInt64 1), vL (Int32.toInt64 (w55 41 (Int32.toNatClampNeg 0)))] w55 785 (by decide +kernel) rfl rfl ?_
        refine sim_goto hC 4 789 (by decide +kernel) (by decide) ?_
        refine sim_sub hC [0, 1, 2, 3, 4] ?_
        exact s_K_law_789 hL a4 (Int32.toInt64 (w55 41 (Int32.toNatClampNeg 0))) (Int32.toInt64 1) w55
  · exact sim_none
noncomputable def K_law_732 (xs : Nat → Int32) (L : Nat) (a4 : Int32) (t0 : Int32) (w : Wld) : Option ((Int32 × Wld) ⊕ Wld) :=
  gd (vp_in (a4 + (1 : Int32)) L) (gd (vp_in (a4 + (2 : Int32)) L) (br ((xs (Int32.toNatClampNeg (a4 + (2 : Int32)))) = 0) (K_law_755 xs L a4 t0 (xs (Int32.toNatClampNeg (a4 + (1 : Int32)))) 0 w) (K_law_755 xs L a4 t0 (xs (Int32.toNatClampNeg (a4 + (1 : Int32)))) 1 w)))
set_option maxRecDepth 10000 in
theorem s_K_law_732 {Z : ZT} {l : Launch} {wo : Wld} {Ok OkN : Cfg → Prop} {xs : Nat → Int32} {L : Nat} (hL : CtxL Z l xs L wo Ok OkN) (a4 : Int32) (t0 : Int32) (w : Wld) : SimK OkN (732, [(0, vS 998), (1, vR 42), (2, vR 0), (3, vR 41), (4, vI a4)], [vI t0], w) (K_law_732 xs L a4 t0 w) (GLp OkN V_law (GEp OkN E_law)) := by
  unfold K_law_732
  have hC := hL.2.2.2.1
  have hS := hL.2.2.2.2.1
  refine sim_blk0 hC [(.istore 5, 0, 0, 0, 0), (.aload_n 2, 0, 0, 0, 0), (.aload_n 0, 0, 0, 0, 0), (.iload 4, 0, 0, 0, 0), (.iconst 1, 0, 0, 0, 1), (.iadd, 0, 0, 0, 0)] [(0, vS 998), (1, vR 42), (2, vR 0), (3, vR 41), (4, vI a4), (5, vI t0)] [vI (a4 + (1 : Int32)), vS 998, vR 0] w 740 (by decide +kernel) rfl rfl ?_
  refine sim_sld hS (by decide +kernel) ?_
  refine sim_blk0 hC [(.aload_n 0, 0, 0, 0, 0), (.iload 4, 0, 0, 0, 0), (.iconst 2, 0, 0, 0, 2), (.iadd, 0, 0, 0, 0)] [(0, vS 998), (1, vR 42), (2, vR 0), (3, vR 41), (4, vI a4), (5, vI t0)] [vI (a4 + (2 : Int32)), vS 998, vI (xs (Int32.toNatClampNeg (a4 + (1 : Int32)))), vR 0] w 746 (by decide +kernel) rfl rfl ?_
  refine sim_sld hS (by decide +kernel) ?_
  refine sim_br hC (.ifCond .eq 7) 754 (by decide +kernel) rfl (by decide) ?_ ?_
  · refine sim_blk0 hC [(.iconst 0, 0, 0, 0, 0)] [(0, vS 998), (1, vR 42), (2, vR 0), (3, vR 41), (4, vI a4), (5, vI t0)] [vI 0, vI (xs (Int32.toNatClampNeg (a4 + (1 : Int32)))), vR 0] w 755 (by decide +kernel) rfl rfl ?_
    exact s_K_law_755 hL a4 t0 (xs (Int32.toNatClampNeg (a4 + (1 : Int32)))) 0 w
  · refine sim_blk0 hC [(.iconst 1, 0, 0, 0, 1)] [(0, vS 998), (1, vR 42), (2, vR 0), (3, vR 41), (4, vI a4), (5, vI t0)] [vI 1, vI (xs (Int32.toNatClampNeg (a4 + (1 : Int32)))), vR 0] w 751 (by decide +kernel) rfl rfl ?_
    refine sim_goto hC 4 755 (by decide +kernel) (by decide) ?_
    exact s_K_law_755 hL a4 t0 (xs (Int32.toNatClampNeg (a4 + (1 : Int32)))) 1 w
noncomputable def K_law_728 (xs : Nat → Int32) (L : Nat) (a4 : Int32) (t1 : Int32) (t2 : Int32) (w : Wld) : Option ((Int32 × Wld) ⊕ Wld) :=
  bd (H_tie w t1 t2) (fun i52 w53 => K_law_732 xs L a4 i52 w53)
set_option maxRecDepth 10000 in
theorem s_K_law_728 {Z : ZT} {l : Launch} {wo : Wld} {Ok OkN : Cfg → Prop} {xs : Nat → Int32} {L : Nat} (hL : CtxL Z l xs L wo Ok OkN) (a4 : Int32) (t1 : Int32) (t2 : Int32) (w : Wld) : SimK Ok (728, [(0, vS 998), (1, vR 42), (2, vR 0), (3, vR 41), (4, vI a4)], [vI t2, vI t1, vR 42], w) (K_law_728 xs L a4 t1 t2 w) (GLp OkN V_law (GEp OkN E_law)) := by
  unfold K_law_728
  have hC := hL.1
  have hS := hL.2.1
  have hH := hL.2.2.1
  have hN := hL.2.2.2.2.2
  refine sim_blk0 hC [(.aload_n 3, 0, 0, 0, 0)] [(0, vS 998), (1, vR 42), (2, vR 0), (3, vR 41), (4, vI a4)] [vR 41, vI t2, vI t1, vR 42] w 729 (by decide +kernel) rfl rfl ?_
  refine sim_help hH 142 hL_tie 8 134 [vR 42, vI t1, vI t2, vR 41] [] (by decide +kernel) hm_tie rfl rfl rfl rfl rfl rfl (fun rz wz hz => h_tie w t1 t2 rz wz hz) (fun i52 w53 => ?_)
  exact s_K_law_732 hL a4 i52 w53
noncomputable def Lc_9 (xs : Nat → Int32) (L : Nat) (a4 : Int32) (w : Wld) : Option ((Int32 × Wld) ⊕ Wld) :=
  gd (vp_in (a4 + (1 : Int32)) L) (gd (vp_in (a4 + (2 : Int32)) L) (br ((xs (Int32.toNatClampNeg (a4 + (2 : Int32)))) = 0) (K_law_728 xs L a4 (xs (Int32.toNatClampNeg (a4 + (1 : Int32)))) 0 w) (K_law_728 xs L a4 (xs (Int32.toNatClampNeg (a4 + (1 : Int32)))) 1 w)))
set_option maxRecDepth 10000 in
theorem s_Lc_9 {Z : ZT} {l : Launch} {wo : Wld} {Ok OkN : Cfg → Prop} {xs : Nat → Int32} {L : Nat} (hL : CtxL Z l xs L wo Ok OkN) (a4 : Int32) (w : Wld) : SimK Ok (707, [(0, vS 998), (1, vR 42), (2, vR 0), (3, vR 41), (4, vI a4)], [], w) (Lc_9 xs L a4 w) (GLp OkN V_law (GEp OkN E_law)) := by
  unfold Lc_9
  have hC := hL.1
  have hS := hL.2.1
  have hH := hL.2.2.1
  have hN := hL.2.2.2.2.2
  refine sim_blk0 hC [(.aload_n 1, 0, 0, 0, 0), (.aload_n 0, 0, 0, 0, 0), (.iload 4, 0, 0, 0, 0), (.iconst 1, 0, 0, 0, 1), (.iadd, 0, 0, 0, 0)] [(0, vS 998), (1, vR 42), (2, vR 0), (3, vR 41), (4, vI a4)] [vI (a4 + (1 : Int32)), vS 998, vR 42] w 713 (by decide +kernel) rfl rfl ?_
  refine sim_sld hS (by decide +kernel) ?_
  refine sim_blk0 hC [(.aload_n 0, 0, 0, 0, 0), (.iload 4, 0, 0, 0, 0), (.iconst 2, 0, 0, 0, 2), (.iadd, 0, 0, 0, 0)] [(0, vS 998), (1, vR 42), (2, vR 0), (3, vR 41), (4, vI a4)] [vI (a4 + (2 : Int32)), vS 998, vI (xs (Int32.toNatClampNeg (a4 + (1 : Int32)))), vR 42] w 719 (by decide +kernel) rfl rfl ?_
  refine sim_sld hS (by decide +kernel) ?_
  refine sim_br hC (.ifCond .eq 7) 727 (by decide +kernel) rfl (by decide) ?_ ?_
  · refine sim_blk0 hC [(.iconst 0, 0, 0, 0, 0)] [(0, vS 998), (1, vR 42), (2, vR 0), (3, vR 41), (4, vI a4)] [vI 0, vI (xs (Int32.toNatClampNeg (a4 + (1 : Int32)))), vR 42] w 728 (by decide +kernel) rfl rfl ?_
    exact s_K_law_728 hL a4 (xs (Int32.toNatClampNeg (a4 + (1 : Int32)))) 0 w
  · refine sim_blk0 hC [(.iconst 1, 0, 0, 0, 1)] [(0, vS 998), (1, vR 42), (2, vR 0), (3, vR 41), (4, vI a4)] [vI 1, vI (xs (Int32.toNatClampNeg (a4 + (1 : Int32)))), vR 42] w 724 (by decide +kernel) rfl rfl ?_
    refine sim_goto hC 4 728 (by decide +kernel) (by decide) ?_
    exact s_K_law_728 hL a4 (xs (Int32.toNatClampNeg (a4 + (1 : Int32)))) 1 w
noncomputable def K_law_863 (xs : Nat → Int32) (L : Nat) (a4 : Int32) (w : Wld) : Option ((Int32 × Wld) ⊕ Wld) :=
  bi (a4 + 6) (fun i63 => some (.inl (i63, w)))
set_option maxRecDepth 10000 in
theorem s_K_law_863 {Z : ZT} {l : Launch} {wo : Wld} {Ok OkN : Cfg → Prop} {xs : Nat → Int32} {L : Nat} (hL : CtxL Z l xs L wo Ok OkN) (a4 : Int32) (w : Wld) : SimK OkN (863, [(0, vS 998), (1, vR 42), (2, vR 0), (3, vR 41), (4, vI a4)], [], w) (K_law_863 xs L a4 w) (GLp OkN V_law (GEp OkN E_law)) := by
  unfold K_law_863
  have hC := hL.2.2.2.1
  have hS := hL.2.2.2.2.1
  refine sim_goto hC 1432 2295 (by decide +kernel) (by decide) ?_
  refine sim_blk0 hC [(.iinc 4 6, 0, 0, 0, 6)] [(0, vS 998), (1, vR 42), (2, vR 0), (3, vR 41), (4, vI (a4 + 6))] [] w 2298 (by decide +kernel) rfl rfl ?_
  refine sim_bi (C := fun i63 => (2298, [(0, vS 998), (1, vR 42), (2, vR 0), (3, vR 41), (4, vI i63)], [], w)) (fun i63 => ?_)
  refine sim_goto hC (-2275) 23 (by decide +kernel) (by decide) ?_
  exact sim_back (V := V_law) (i63, w)
noncomputable def K_law_815 (xs : Nat → Int32) (L : Nat) (a4 : Int32) (t0 : Int32) (w : Wld) : Option ((Int32 × Wld) ⊕ Wld) :=
  gd (vp_in (a4 + (1 : Int32)) L) (gd (vp_in (a4 + (2 : Int32)) L) (bd (F_M_move w (xs (Int32.toNatClampNeg (a4 + (1 : Int32)))) (xs (Int32.toNatClampNeg (a4 + (2 : Int32))))) (fun i60 w61 => bp (F_M_thrown w61) (fun i62 => br (i62 = t0) (br (¬ t0 = 0) (K_law_863 xs L a4 w61) (gd (vp_in 0 1) (br ((lg_cmp (Int32.toInt64 (w61 41 (Int32.toNatClampNeg 0))) (Int32.toInt64 i60)) = 0) (K_law_863 xs L a4 w61) (none)))) (none)))))
set_option maxRecDepth 10000 in
theorem s_K_law_815 {Z : ZT} {l : Launch} {wo : Wld} {Ok OkN : Cfg → Prop} {xs : Nat → Int32} {L : Nat} (hL : CtxL Z l xs L wo Ok OkN) (a4 : Int32) (t0 : Int32) (w : Wld) : SimK OkN (815, [(0, vS 998), (1, vR 42), (2, vR 0), (3, vR 41), (4, vI a4)], [vI t0], w) (K_law_815 xs L a4 t0 w) (GLp OkN V_law (GEp OkN E_law)) := by
  unfold K_law_815
  have hC := hL.2.2.2.1
  have hS := hL.2.2.2.2.1
  refine sim_blk0 hC [(.istore 5, 0, 0, 0, 0), (.aload_n 2, 0, 0, 0, 0), (.aload_n 0, 0, 0, 0, 0), (.iload 4, 0, 0, 0, 0), (.iconst 1, 0, 0, 0, 1), (.iadd, 0, 0, 0, 0)] [(0, vS 998), (1, vR 42), (2, vR 0), (3, vR 41), (4, vI a4), (5, vI t0)] [vI (a4 + (1 : Int32)), vS 998, vR 0] w 823 (by decide +kernel) rfl rfl ?_
  refine sim_sld hS (by decide +kernel) ?_
  refine sim_blk0 hC [(.aload_n 0, 0, 0, 0, 0), (.iload 4, 0, 0, 0, 0), (.iconst 2, 0, 0, 0, 2), (.iadd, 0, 0, 0, 0)] [(0, vS 998), (1, vR 42), (2, vR 0), (3, vR 41), (4, vI a4), (5, vI t0)] [vI (a4 + (2 : Int32)), vS 998, vI (xs (Int32.toNatClampNeg (a4 + (1 : Int32)))), vR 0] w 829 (by decide +kernel) rfl rfl ?_
  refine sim_sld hS (by decide +kernel) ?_
  refine sim_vd hC 148 mX11_move 3 46 0 [vI (xs (Int32.toNatClampNeg (a4 + (1 : Int32)))), vI (xs (Int32.toNatClampNeg (a4 + (2 : Int32))))] [] (by decide +kernel) ml_14_148 rfl rfl rfl rfl rfl rfl (fun rz wz hz => c_M_move w (xs (Int32.toNatClampNeg (a4 + (1 : Int32)))) (xs (Int32.toNatClampNeg (a4 + (2 : Int32)))) rz wz hz) (fun i60 w61 => ?_)
  refine sim_blk0 hC [(.istore 6, 0, 0, 0, 0), (.aload_n 2, 0, 0, 0, 0)] [(0, vS 998), (1, vR 42), (2, vR 0), (3, vR 41), (4, vI a4), (5, vI t0), (6, vI i60)] [vR 0] w61 836 (by decide +kernel) rfl rfl ?_
  refine sim_vp hC 114 mX11_thrown 1 0 0 [] [] (by decide +kernel) ml_14_114 rfl rfl rfl rfl rfl rfl (fun rz hz => c_M_thrown w61 rz hz) (fun i62 => ?_)
  refine sim_blk0 hC [(.iload 5, 0, 0, 0, 0)] [(0, vS 998), (1, vR 42), (2, vR 0), (3, vR 41), (4, vI a4), (5, vI t0), (6, vI i60)] [vI t0, vI i62] w61 841 (by decide +kernel) rfl rfl ?_
  refine sim_br hC (.if_icmp .eq 5) 846 (by decide +kernel) rfl (by decide) ?_ ?_
  · refine sim_blk0 hC [(.iload 5, 0, 0, 0, 0)] [(0, vS 998), (1, vR 42), (2, vR 0), (3, vR 41), (4, vI a4), (5, vI t0), (6, vI i60)] [vI t0] w61 848 (by decide +kernel) rfl rfl ?_
    refine sim_br hC (.ifCond .ne 15) 863 (by decide +kernel) rfl (by decide) ?_ ?_
    · refine sim_sub hC [0, 1, 2, 3, 4] ?_
      exact s_K_law_863 hL a4 w61
    · refine sim_blk1 hC [(.aload_n 3, 0, 0, 0, 0), (.iconst 0, 0, 0, 0, 0), (.laload, 41, 1, 3, 0), (.iload 6, 0, 0, 0, 0), (.i2l, 0, 0, 0, 0), (.lcmp, 0, 0, 0, 0)] [(0, vS 998), (1, vR 42), (2, vR 0), (3, vR 41), (4, vI a4), (5, vI t0), (6, vI i60)] [vI (lg_cmp (Int32.toInt64 (w61 41 (Int32.toNatClampNeg 0))) (Int32.toInt64 i60))] w61 858 (by decide +kernel) rfl rfl ?_
      refine sim_br hC (.ifCond .eq 5) 863 (by decide +kernel) rfl (by decide) ?_ ?_
      · refine sim_sub hC [0, 1, 2, 3, 4] ?_
        exact s_K_law_863 hL a4 w61
      · exact sim_none
  · exact sim_none
noncomputable def Lc_10 (xs : Nat → Int32) (L : Nat) (a4 : Int32) (w : Wld) : Option ((Int32 × Wld) ⊕ Wld) :=
  gd (vp_in (a4 + (1 : Int32)) L) (gd (vp_in (a4 + (2 : Int32)) L) (bd (H_move w (xs (Int32.toNatClampNeg (a4 + (1 : Int32)))) (xs (Int32.toNatClampNeg (a4 + (2 : Int32))))) (fun i58 w59 => K_law_815 xs L a4 i58 w59)))
set_option maxRecDepth 10000 in
theorem s_Lc_10 {Z : ZT} {l : Launch} {wo : Wld} {Ok OkN : Cfg → Prop} {xs : Nat → Int32} {L : Nat} (hL : CtxL Z l xs L wo Ok OkN) (a4 : Int32) (w : Wld) : SimK Ok (798, [(0, vS 998), (1, vR 42), (2, vR 0), (3, vR 41), (4, vI a4)], [], w) (Lc_10 xs L a4 w) (GLp OkN V_law (GEp OkN E_law)) := by
  unfold Lc_10
  have hC := hL.1
  have hS := hL.2.1
  have hH := hL.2.2.1
  have hN := hL.2.2.2.2.2
  refine sim_blk0 hC [(.aload_n 1, 0, 0, 0, 0), (.aload_n 0, 0, 0, 0, 0), (.iload 4, 0, 0, 0, 0), (.iconst 1, 0, 0, 0, 1), (.iadd, 0, 0, 0, 0)] [(0, vS 998), (1, vR 42), (2, vR 0), (3, vR 41), (4, vI a4)] [vI (a4 + (1 : Int32)), vS 998, vR 42] w 804 (by decide +kernel) rfl rfl ?_
  refine sim_sld hS (by decide +kernel) ?_
  refine sim_blk0 hC [(.aload_n 0, 0, 0, 0, 0), (.iload 4, 0, 0, 0, 0), (.iconst 2, 0, 0, 0, 2), (.iadd, 0, 0, 0, 0)] [(0, vS 998), (1, vR 42), (2, vR 0), (3, vR 41), (4, vI a4)] [vI (a4 + (2 : Int32)), vS 998, vI (xs (Int32.toNatClampNeg (a4 + (1 : Int32)))), vR 42] w 810 (by decide +kernel) rfl rfl ?_
  refine sim_sld hS (by decide +kernel) ?_
  refine sim_blk0 hC [(.aload_n 3, 0, 0, 0, 0)] [(0, vS 998), (1, vR 42), (2, vR 0), (3, vR 41), (4, vI a4)] [vR 41, vI (xs (Int32.toNatClampNeg (a4 + (2 : Int32)))), vI (xs (Int32.toNatClampNeg (a4 + (1 : Int32)))), vR 42] w 812 (by decide +kernel) rfl rfl ?_
  refine sim_help hH 146 hL_move 8 148 [vR 42, vI (xs (Int32.toNatClampNeg (a4 + (1 : Int32)))), vI (xs (Int32.toNatClampNeg (a4 + (2 : Int32)))), vR 41] [] (by decide +kernel) hm_move rfl rfl rfl rfl rfl rfl (fun rz wz hz => h_move w (xs (Int32.toNatClampNeg (a4 + (1 : Int32)))) (xs (Int32.toNatClampNeg (a4 + (2 : Int32)))) rz wz hz) (fun i58 w59 => ?_)
  exact s_K_law_815 hL a4 i58 w59
noncomputable def K_law_959 (xs : Nat → Int32) (L : Nat) (a4 : Int32) (w : Wld) : Option ((Int32 × Wld) ⊕ Wld) :=
  bi (a4 + 6) (fun i69 => some (.inl (i69, w)))
set_option maxRecDepth 10000 in
theorem s_K_law_959 {Z : ZT} {l : Launch} {wo : Wld} {Ok OkN : Cfg → Prop} {xs : Nat → Int32} {L : Nat} (hL : CtxL Z l xs L wo Ok OkN) (a4 : Int32) (w : Wld) : SimK OkN (959, [(0, vS 998), (1, vR 42), (2, vR 0), (3, vR 41), (4, vI a4)], [], w) (K_law_959 xs L a4 w) (GLp OkN V_law (GEp OkN E_law)) := by
  unfold K_law_959
  have hC := hL.2.2.2.1
  have hS := hL.2.2.2.2.1
  refine sim_goto hC 1336 2295 (by decide +kernel) (by decide) ?_
  refine sim_blk0 hC [(.iinc 4 6, 0, 0, 0, 6)] [(0, vS 998), (1, vR 42), (2, vR 0), (3, vR 41), (4, vI (a4 + 6))] [] w 2298 (by decide +kernel) rfl rfl ?_
  refine sim_bi (C := fun i69 => (2298, [(0, vS 998), (1, vR 42), (2, vR 0), (3, vR 41), (4, vI i69)], [], w)) (fun i69 => ?_)
  refine sim_goto hC (-2275) 23 (by decide +kernel) (by decide) ?_
  exact sim_back (V := V_law) (i69, w)
noncomputable def K_law_920 (xs : Nat → Int32) (L : Nat) (a4 : Int32) (a5 : Int32) (t1 : Int32) (t2 : Int32) (w : Wld) : Option ((Int32 × Wld) ⊕ Wld) :=
  gd (vp_in (a4 + (3 : Int32)) L) (bd (F_M_door w t1 t2 (xs (Int32.toNatClampNeg (a4 + (3 : Int32))))) (fun i66 w67 => bp (F_M_thrown w67) (fun i68 => br (i68 = a5) (br (¬ a5 = 0) (K_law_959 xs L a4 w67) (gd (vp_in 0 1) (br ((lg_cmp (Int32.toInt64 (w67 41 (Int32.toNatClampNeg 0))) (Int32.toInt64 i66)) = 0) (K_law_959 xs L a4 w67) (none)))) (none))))
set_option maxRecDepth 10000 in
theorem s_K_law_920 {Z : ZT} {l : Launch} {wo : Wld} {Ok OkN : Cfg → Prop} {xs : Nat → Int32} {L : Nat} (hL : CtxL Z l xs L wo Ok OkN) (a4 : Int32) (a5 : Int32) (t1 : Int32) (t2 : Int32) (w : Wld) : SimK OkN (920, [(0, vS 998), (1, vR 42), (2, vR 0), (3, vR 41), (4, vI a4), (5, vI a5)], [vI t2, vI t1, vR 0], w) (K_law_920 xs L a4 a5 t1 t2 w) (GLp OkN V_law (GEp OkN E_law)) := by
  unfold K_law_920
  have hC := hL.2.2.2.1
  have hS := hL.2.2.2.2.1
  refine sim_blk0 hC [(.aload_n 0, 0, 0, 0, 0), (.iload 4, 0, 0, 0, 0), (.iconst 3, 0, 0, 0, 3), (.iadd, 0, 0, 0, 0)] [(0, vS 998), (1, vR 42), (2, vR 0), (3, vR 41), (4, vI a4), (5, vI a5)] [vI (a4 + (3 : Int32)), vS 998, vI t2, vI t1, vR 0] w 925 (by decide +kernel) rfl rfl ?_
  refine sim_sld hS (by decide +kernel) ?_
  refine sim_vd hC 152 mX11_door 3 46 0 [vI t1, vI t2, vI (xs (Int32.toNatClampNeg (a4 + (3 : Int32))))] [] (by decide +kernel) ml_14_152 rfl rfl rfl rfl rfl rfl (fun rz wz hz => c_M_door w t1 t2 (xs (Int32.toNatClampNeg (a4 + (3 : Int32)))) rz wz hz) (fun i66 w67 => ?_)
  refine sim_blk0 hC [(.istore 6, 0, 0, 0, 0), (.aload_n 2, 0, 0, 0, 0)] [(0, vS 998), (1, vR 42), (2, vR 0), (3, vR 41), (4, vI a4), (5, vI a5), (6, vI i66)] [vR 0] w67 932 (by decide +kernel) rfl rfl ?_
  refine sim_vp hC 114 mX11_thrown 1 0 0 [] [] (by decide +kernel) ml_14_114 rfl rfl rfl rfl rfl rfl (fun rz hz => c_M_thrown w67 rz hz) (fun i68 => ?_)
  refine sim_blk0 hC [(.iload 5, 0, 0, 0, 0)] [(0, vS 998), (1, vR 42), (2, vR 0), (3, vR 41), (4, vI a4), (5, vI a5), (6, vI i66)] [vI a5, vI i68] w67 937 (by decide +kernel) rfl rfl ?_
  refine sim_br hC (.if_icmp .eq 5) 942 (by decide +kernel) rfl (by decide) ?_ ?_
  · refine sim_blk0 hC [(.iload 5, 0, 0, 0, 0)] [(0, vS 998), (1, vR 42), (2, vR 0), (3, vR 41), (4, vI a4), (5, vI a5), (6, vI i66)] [vI a5] w67 944 (by decide +kernel) rfl rfl ?_
    refine sim_br hC (.ifCond .ne 15) 959 (by decide +kernel) rfl (by decide) ?_ ?_
    · refine sim_sub hC [0, 1, 2, 3, 4] ?_
      exact s_K_law_959 hL a4 w67
    · refine sim_blk1 hC [(.aload_n 3, 0, 0, 0, 0), (.iconst 0, 0, 0, 0, 0), (.laload, 41, 1, 3, 0), (.iload 6, 0, 0, 0, 0), (.i2l, 0, 0, 0, 0), (.lcmp, 0, 0, 0, 0)] [(0, vS 998), (1, vR 42), (2, vR 0), (3, vR 41), (4, vI a4), (5, vI a5), (6, vI i66)] [vI (lg_cmp (Int32.toInt64 (w67 41 (Int32.toNatClampNeg 0))) (Int32.toInt64 i66))] w67 954 (by decide +kernel) rfl rfl ?_
      refine sim_br hC (.ifCond .eq 5) 959 (by decide +kernel) rfl (by decide) ?_ ?_
      · refine sim_sub hC [0, 1, 2, 3, 4] ?_
        exact s_K_law_959 hL a4 w67
      · exact sim_none
  · exact sim_none
noncomputable def K_law_897 (xs : Nat → Int32) (L : Nat) (a4 : Int32) (t0 : Int32) (w : Wld) : Option ((Int32 × Wld) ⊕ Wld) :=
  gd (vp_in (a4 + (1 : Int32)) L) (gd (vp_in (a4 + (2 : Int32)) L) (br ((xs (Int32.toNatClampNeg (a4 + (2 : Int32)))) = 0) (K_law_920 xs L a4 t0 (xs (Int32.toNatClampNeg (a4 + (1 : Int32)))) 0 w) (K_law_920 xs L a4 t0 (xs (Int32.toNatClampNeg (a4 + (1 : Int32)))) 1 w)))
set_option maxRecDepth 10000 in
theorem s_K_law_897 {Z : ZT} {l : Launch} {wo : Wld} {Ok OkN : Cfg → Prop} {xs : Nat → Int32} {L : Nat} (hL : CtxL Z l xs L wo Ok OkN) (a4 : Int32) (t0 : Int32) (w : Wld) : SimK OkN (897, [(0, vS 998), (1, vR 42), (2, vR 0), (3, vR 41), (4, vI a4)], [vI t0], w) (K_law_897 xs L a4 t0 w) (GLp OkN V_law (GEp OkN E_law)) := by
  unfold K_law_897
  have hC := hL.2.2.2.1
  have hS := hL.2.2.2.2.1
  refine sim_blk0 hC [(.istore 5, 0, 0, 0, 0), (.aload_n 2, 0, 0, 0, 0), (.aload_n 0, 0, 0, 0, 0), (.iload 4, 0, 0, 0, 0), (.iconst 1, 0, 0, 0, 1), (.iadd, 0, 0, 0, 0)] [(0, vS 998), (1, vR 42), (2, vR 0), (3, vR 41), (4, vI a4), (5, vI t0)] [vI (a4 + (1 : Int32)), vS 998, vR 0] w 905 (by decide +kernel) rfl rfl ?_
  refine sim_sld hS (by decide +kernel) ?_
  refine sim_blk0 hC [(.aload_n 0, 0, 0, 0, 0), (.iload 4, 0, 0, 0, 0), (.iconst 2, 0, 0, 0, 2), (.iadd, 0, 0, 0, 0)] [(0, vS 998), (1, vR 42), (2, vR 0), (3, vR 41), (4, vI a4), (5, vI t0)] [vI (a4 + (2 : Int32)), vS 998, vI (xs (Int32.toNatClampNeg (a4 + (1 : Int32)))), vR 0] w 911 (by decide +kernel) rfl rfl ?_
  refine sim_sld hS (by decide +kernel) ?_
  refine sim_br hC (.ifCond .eq 7) 919 (by decide +kernel) rfl (by decide) ?_ ?_
  · refine sim_blk0 hC [(.iconst 0, 0, 0, 0, 0)] [(0, vS 998), (1, vR 42), (2, vR 0), (3, vR 41), (4, vI a4), (5, vI t0)] [vI 0, vI (xs (Int32.toNatClampNeg (a4 + (1 : Int32)))), vR 0] w 920 (by decide +kernel) rfl rfl ?_
    exact s_K_law_920 hL a4 t0 (xs (Int32.toNatClampNeg (a4 + (1 : Int32)))) 0 w
  · refine sim_blk0 hC [(.iconst 1, 0, 0, 0, 1)] [(0, vS 998), (1, vR 42), (2, vR 0), (3, vR 41), (4, vI a4), (5, vI t0)] [vI 1, vI (xs (Int32.toNatClampNeg (a4 + (1 : Int32)))), vR 0] w 916 (by decide +kernel) rfl rfl ?_
    refine sim_goto hC 4 920 (by decide +kernel) (by decide) ?_
    exact s_K_law_920 hL a4 t0 (xs (Int32.toNatClampNeg (a4 + (1 : Int32)))) 1 w
noncomputable def K_law_887 (xs : Nat → Int32) (L : Nat) (a4 : Int32) (t1 : Int32) (t2 : Int32) (w : Wld) : Option ((Int32 × Wld) ⊕ Wld) :=
  gd (vp_in (a4 + (3 : Int32)) L) (bd (H_door w t1 t2 (xs (Int32.toNatClampNeg (a4 + (3 : Int32))))) (fun i64 w65 => K_law_897 xs L a4 i64 w65))
set_option maxRecDepth 10000 in
theorem s_K_law_887 {Z : ZT} {l : Launch} {wo : Wld} {Ok OkN : Cfg → Prop} {xs : Nat → Int32} {L : Nat} (hL : CtxL Z l xs L wo Ok OkN) (a4 : Int32) (t1 : Int32) (t2 : Int32) (w : Wld) : SimK Ok (887, [(0, vS 998), (1, vR 42), (2, vR 0), (3, vR 41), (4, vI a4)], [vI t2, vI t1, vR 42], w) (K_law_887 xs L a4 t1 t2 w) (GLp OkN V_law (GEp OkN E_law)) := by
  unfold K_law_887
  have hC := hL.1
  have hS := hL.2.1
  have hH := hL.2.2.1
  have hN := hL.2.2.2.2.2
  refine sim_blk0 hC [(.aload_n 0, 0, 0, 0, 0), (.iload 4, 0, 0, 0, 0), (.iconst 3, 0, 0, 0, 3), (.iadd, 0, 0, 0, 0)] [(0, vS 998), (1, vR 42), (2, vR 0), (3, vR 41), (4, vI a4)] [vI (a4 + (3 : Int32)), vS 998, vI t2, vI t1, vR 42] w 892 (by decide +kernel) rfl rfl ?_
  refine sim_sld hS (by decide +kernel) ?_
  refine sim_blk0 hC [(.aload_n 3, 0, 0, 0, 0)] [(0, vS 998), (1, vR 42), (2, vR 0), (3, vR 41), (4, vI a4)] [vR 41, vI (xs (Int32.toNatClampNeg (a4 + (3 : Int32)))), vI t2, vI t1, vR 42] w 894 (by decide +kernel) rfl rfl ?_
  refine sim_help hH 149 hL_door 8 149 [vR 42, vI t1, vI t2, vI (xs (Int32.toNatClampNeg (a4 + (3 : Int32)))), vR 41] [] (by decide +kernel) hm_door rfl rfl rfl rfl rfl rfl (fun rz wz hz => h_door w t1 t2 (xs (Int32.toNatClampNeg (a4 + (3 : Int32)))) rz wz hz) (fun i64 w65 => ?_)
  exact s_K_law_897 hL a4 i64 w65
noncomputable def Lc_11 (xs : Nat → Int32) (L : Nat) (a4 : Int32) (w : Wld) : Option ((Int32 × Wld) ⊕ Wld) :=
  gd (vp_in (a4 + (1 : Int32)) L) (gd (vp_in (a4 + (2 : Int32)) L) (br ((xs (Int32.toNatClampNeg (a4 + (2 : Int32)))) = 0) (K_law_887 xs L a4 (xs (Int32.toNatClampNeg (a4 + (1 : Int32)))) 0 w) (K_law_887 xs L a4 (xs (Int32.toNatClampNeg (a4 + (1 : Int32)))) 1 w)))
set_option maxRecDepth 10000 in
theorem s_Lc_11 {Z : ZT} {l : Launch} {wo : Wld} {Ok OkN : Cfg → Prop} {xs : Nat → Int32} {L : Nat} (hL : CtxL Z l xs L wo Ok OkN) (a4 : Int32) (w : Wld) : SimK Ok (866, [(0, vS 998), (1, vR 42), (2, vR 0), (3, vR 41), (4, vI a4)], [], w) (Lc_11 xs L a4 w) (GLp OkN V_law (GEp OkN E_law)) := by
  unfold Lc_11
  have hC := hL.1
  have hS := hL.2.1
  have hH := hL.2.2.1
  have hN := hL.2.2.2.2.2
  refine sim_blk0 hC [(.aload_n 1, 0, 0, 0, 0), (.aload_n 0, 0, 0, 0, 0), (.iload 4, 0, 0, 0, 0), (.iconst 1, 0, 0, 0, 1), (.iadd, 0, 0, 0, 0)] [(0, vS 998), (1, vR 42), (2, vR 0), (3, vR 41), (4, vI a4)] [vI (a4 + (1 : Int32)), vS 998, vR 42] w 872 (by decide +kernel) rfl rfl ?_
  refine sim_sld hS (by decide +kernel) ?_
  refine sim_blk0 hC [(.aload_n 0, 0, 0, 0, 0), (.iload 4, 0, 0, 0, 0), (.iconst 2, 0, 0, 0, 2), (.iadd, 0, 0, 0, 0)] [(0, vS 998), (1, vR 42), (2, vR 0), (3, vR 41), (4, vI a4)] [vI (a4 + (2 : Int32)), vS 998, vI (xs (Int32.toNatClampNeg (a4 + (1 : Int32)))), vR 42] w 878 (by decide +kernel) rfl rfl ?_
  refine sim_sld hS (by decide +kernel) ?_
  refine sim_br hC (.ifCond .eq 7) 886 (by decide +kernel) rfl (by decide) ?_ ?_
  · refine sim_blk0 hC [(.iconst 0, 0, 0, 0, 0)] [(0, vS 998), (1, vR 42), (2, vR 0), (3, vR 41), (4, vI a4)] [vI 0, vI (xs (Int32.toNatClampNeg (a4 + (1 : Int32)))), vR 42] w 887 (by decide +kernel) rfl rfl ?_
    exact s_K_law_887 hL a4 (xs (Int32.toNatClampNeg (a4 + (1 : Int32)))) 0 w
  · refine sim_blk0 hC [(.iconst 1, 0, 0, 0, 1)] [(0, vS 998), (1, vR 42), (2, vR 0), (3, vR 41), (4, vI a4)] [vI 1, vI (xs (Int32.toNatClampNeg (a4 + (1 : Int32)))), vR 42] w 883 (by decide +kernel) rfl rfl ?_
    refine sim_goto hC 4 887 (by decide +kernel) (by decide) ?_
    exact s_K_law_887 hL a4 (xs (Int32.toNatClampNeg (a4 + (1 : Int32)))) 1 w
noncomputable def Lc_12 (xs : Nat → Int32) (L : Nat) (a4 : Int32) (w : Wld) : Option ((Int32 × Wld) ⊕ Wld) :=
  bd (F_C_undo w) (fun i70 w71 => bd (F_M_undo w71) (fun i72 w73 => br (i70 = i72) (bi (a4 + 6) (fun i74 => some (.inl (i74, w73)))) (none)))
set_option maxRecDepth 10000 in
theorem s_Lc_12 {Z : ZT} {l : Launch} {wo : Wld} {Ok OkN : Cfg → Prop} {xs : Nat → Int32} {L : Nat} (hL : CtxL Z l xs L wo Ok OkN) (a4 : Int32) (w : Wld) : SimK Ok (962, [(0, vS 998), (1, vR 42), (2, vR 0), (3, vR 41), (4, vI a4)], [], w) (Lc_12 xs L a4 w) (GLp OkN V_law (GEp OkN E_law)) := by
  unfold Lc_12
  have hC := hL.1
  have hS := hL.2.1
  have hH := hL.2.2.1
  have hN := hL.2.2.2.2.2
  refine sim_blk0 hC [(.aload_n 1, 0, 0, 0, 0)] [(0, vS 998), (1, vR 42), (2, vR 0), (3, vR 41), (4, vI a4)] [vR 42] w 963 (by decide +kernel) rfl rfl ?_
  refine sim_vd hC 153 mX10_undo 3 81 42 [] [] (by decide +kernel) ml_14_153 rfl rfl rfl rfl rfl rfl (fun rz wz hz => c_C_undo w rz wz hz) (fun i70 w71 => ?_)
  refine sim_blk0 hC [(.aload_n 2, 0, 0, 0, 0)] [(0, vS 998), (1, vR 42), (2, vR 0), (3, vR 41), (4, vI a4)] [vR 0, vI i70] w71 967 (by decide +kernel) rfl rfl ?_
  refine sim_vd hC 156 mX11_undo 2 24 0 [] [vI i70] (by decide +kernel) ml_14_156 rfl rfl rfl rfl rfl rfl (fun rz wz hz => c_M_undo w71 rz wz hz) (fun i72 w73 => ?_)
  refine sim_br hC (.if_icmp .eq 1325) 2295 (by decide +kernel) rfl (by decide) ?_ ?_
  · refine sim_blk0 hC [(.iinc 4 6, 0, 0, 0, 6)] [(0, vS 998), (1, vR 42), (2, vR 0), (3, vR 41), (4, vI (a4 + 6))] [] w73 2298 (by decide +kernel) rfl rfl ?_
    refine sim_bi (C := fun i74 => (2298, [(0, vS 998), (1, vR 42), (2, vR 0), (3, vR 41), (4, vI i74)], [], w73)) (fun i74 => ?_)
    refine sim_goto hC (-2275) 23 (by decide +kernel) (by decide) ?_
    exact sim_backN (V := V_law) hN (i74, w73)
  · exact sim_none
noncomputable def K_law_1040 (xs : Nat → Int32) (L : Nat) (a4 : Int32) (w : Wld) : Option ((Int32 × Wld) ⊕ Wld) :=
  bi (a4 + 6) (fun i80 => some (.inl (i80, w)))
set_option maxRecDepth 10000 in
theorem s_K_law_1040 {Z : ZT} {l : Launch} {wo : Wld} {Ok OkN : Cfg → Prop} {xs : Nat → Int32} {L : Nat} (hL : CtxL Z l xs L wo Ok OkN) (a4 : Int32) (w : Wld) : SimK OkN (1040, [(0, vS 998), (1, vR 42), (2, vR 0), (3, vR 41), (4, vI a4)], [], w) (K_law_1040 xs L a4 w) (GLp OkN V_law (GEp OkN E_law)) := by
  unfold K_law_1040
  have hC := hL.2.2.2.1
  have hS := hL.2.2.2.2.1
  refine sim_goto hC 1255 2295 (by decide +kernel) (by decide) ?_
  refine sim_blk0 hC [(.iinc 4 6, 0, 0, 0, 6)] [(0, vS 998), (1, vR 42), (2, vR 0), (3, vR 41), (4, vI (a4 + 6))] [] w 2298 (by decide +kernel) rfl rfl ?_
  refine sim_bi (C := fun i80 => (2298, [(0, vS 998), (1, vR 42), (2, vR 0), (3, vR 41), (4, vI i80)], [], w)) (fun i80 => ?_)
  refine sim_goto hC (-2275) 23 (by decide +kernel) (by decide) ?_
  exact sim_back (V := V_law) (i80, w)
noncomputable def K_law_992 (xs : Nat → Int32) (L : Nat) (a4 : Int32) (t0 : Int32) (w : Wld) : Option ((Int32 × Wld) ⊕ Wld) :=
  gd (vp_in (a4 + (1 : Int32)) L) (gd (vp_in (a4 + (2 : Int32)) L) (bd (F_M_up w (xs (Int32.toNatClampNeg (a4 + (1 : Int32)))) (xs (Int32.toNatClampNeg (a4 + (2 : Int32))))) (fun i77 w78 => bp (F_M_thrown w78) (fun i79 => br (i79 = t0) (br (¬ t0 = 0) (K_law_1040 xs L a4 w78) (gd (vp_in 0 1) (br ((lg_cmp (Int32.toInt64 (w78 41 (Int32.toNatClampNeg 0))) (Int32.toInt64 i77)) = 0) (K_law_1040 xs L a4 w78) (none)))) (none)))))
set_option maxRecDepth 10000 in
theorem s_K_law_992 {Z : ZT} {l : Launch} {wo : Wld} {Ok OkN : Cfg → Prop} {xs : Nat → Int32} {L : Nat} (hL : CtxL Z l xs L wo Ok OkN) (a4 : Int32) (t0 : Int32) (w : Wld) : SimK OkN (992, [(0, vS 998), (1, vR 42), (2, vR 0), (3, vR 41), (4, vI a4)], [vI t0], w) (K_law_992 xs L a4 t0 w) (GLp OkN V_law (GEp OkN E_law)) := by
  unfold K_law_992
  have hC := hL.2.2.2.1
  have hS := hL.2.2.2.2.1
  refine sim_blk0 hC [(.istore 5, 0, 0, 0, 0), (.aload_n 2, 0, 0, 0, 0), (.aload_n 0, 0, 0, 0, 0), (.iload 4, 0, 0, 0, 0), (.iconst 1, 0, 0, 0, 1), (.iadd, 0, 0, 0, 0)] [(0, vS 998), (1, vR 42), (2, vR 0), (3, vR 41), (4, vI a4), (5, vI t0)] [vI (a4 + (1 : Int32)), vS 998, vR 0] w 1000 (by decide +kernel) rfl rfl ?_
  refine sim_sld hS (by decide +kernel) ?_
  refine sim_blk0 hC [(.aload_n 0, 0, 0, 0, 0), (.iload 4, 0, 0, 0, 0), (.iconst 2, 0, 0, 0, 2), (.iadd, 0, 0, 0, 0)] [(0, vS 998), (1, vR 42), (2, vR 0), (3, vR 41), (4, vI a4), (5, vI t0)] [vI (a4 + (2 : Int32)), vS 998, vI (xs (Int32.toNatClampNeg (a4 + (1 : Int32)))), vR 0] w 1006 (by decide +kernel) rfl rfl ?_
  refine sim_sld hS (by decide +kernel) ?_
  refine sim_vd hC 159 mX11_up 7 133 0 [vI (xs (Int32.toNatClampNeg (a4 + (1 : Int32)))), vI (xs (Int32.toNatClampNeg (a4 + (2 : Int32))))] [] (by decide +kernel) ml_14_159 rfl rfl rfl rfl rfl rfl (fun rz wz hz => c_M_up w (xs (Int32.toNatClampNeg (a4 + (1 : Int32)))) (xs (Int32.toNatClampNeg (a4 + (2 : Int32)))) rz wz hz) (fun i77 w78 => ?_)
  refine sim_blk0 hC [(.istore 6, 0, 0, 0, 0), (.aload_n 2, 0, 0, 0, 0)] [(0, vS 998), (1, vR 42), (2, vR 0), (3, vR 41), (4, vI a4), (5, vI t0), (6, vI i77)] [vR 0] w78 1013 (by decide +kernel) rfl rfl ?_
  refine sim_vp hC 114 mX11_thrown 1 0 0 [] [] (by decide +kernel) ml_14_114 rfl rfl rfl rfl rfl rfl (fun rz hz => c_M_thrown w78 rz hz) (fun i79 => ?_)
  refine sim_blk0 hC [(.iload 5, 0, 0, 0, 0)] [(0, vS 998), (1, vR 42), (2, vR 0), (3, vR 41), (4, vI a4), (5, vI t0), (6, vI i77)] [vI t0, vI i79] w78 1018 (by decide +kernel) rfl rfl ?_
  refine sim_br hC (.if_icmp .eq 5) 1023 (by decide +kernel) rfl (by decide) ?_ ?_
  · refine sim_blk0 hC [(.iload 5, 0, 0, 0, 0)] [(0, vS 998), (1, vR 42), (2, vR 0), (3, vR 41), (4, vI a4), (5, vI t0), (6, vI i77)] [vI t0] w78 1025 (by decide +kernel) rfl rfl ?_
    refine sim_br hC (.ifCond .ne 15) 1040 (by decide +kernel) rfl (by decide) ?_ ?_
    · refine sim_sub hC [0, 1, 2, 3, 4] ?_
      exact s_K_law_1040 hL a4 w78
    · refine sim_blk1 hC [(.aload_n 3, 0, 0, 0, 0), (.iconst 0, 0, 0, 0, 0), (.laload, 41, 1, 3, 0), (.iload 6, 0, 0, 0, 0), (.i2l, 0, 0, 0, 0), (.lcmp, 0, 0, 0, 0)] [(0, vS 998), (1, vR 42), (2, vR 0), (3, vR 41), (4, vI a4), (5, vI t0), (6, vI i77)] [vI (lg_cmp (Int32.toInt64 (w78 41 (Int32.toNatClampNeg 0))) (Int32.toInt64 i77))] w78 1035 (by decide +kernel) rfl rfl ?_
      refine sim_br hC (.ifCond .eq 5) 1040 (by decide +kernel) rfl (by decide) ?_ ?_
      · refine sim_sub hC [0, 1, 2, 3, 4] ?_
        exact s_K_law_1040 hL a4 w78
      · exact sim_none
  · exact sim_none
noncomputable def Lc_13 (xs : Nat → Int32) (L : Nat) (a4 : Int32) (w : Wld) : Option ((Int32 × Wld) ⊕ Wld) :=
  gd (vp_in (a4 + (1 : Int32)) L) (gd (vp_in (a4 + (2 : Int32)) L) (bd (H_up w (xs (Int32.toNatClampNeg (a4 + (1 : Int32)))) (xs (Int32.toNatClampNeg (a4 + (2 : Int32))))) (fun i75 w76 => K_law_992 xs L a4 i75 w76)))
set_option maxRecDepth 10000 in
theorem s_Lc_13 {Z : ZT} {l : Launch} {wo : Wld} {Ok OkN : Cfg → Prop} {xs : Nat → Int32} {L : Nat} (hL : CtxL Z l xs L wo Ok OkN) (a4 : Int32) (w : Wld) : SimK Ok (975, [(0, vS 998), (1, vR 42), (2, vR 0), (3, vR 41), (4, vI a4)], [], w) (Lc_13 xs L a4 w) (GLp OkN V_law (GEp OkN E_law)) := by
  unfold Lc_13
  have hC := hL.1
  have hS := hL.2.1
  have hH := hL.2.2.1
  have hN := hL.2.2.2.2.2
  refine sim_blk0 hC [(.aload_n 1, 0, 0, 0, 0), (.aload_n 0, 0, 0, 0, 0), (.iload 4, 0, 0, 0, 0), (.iconst 1, 0, 0, 0, 1), (.iadd, 0, 0, 0, 0)] [(0, vS 998), (1, vR 42), (2, vR 0), (3, vR 41), (4, vI a4)] [vI (a4 + (1 : Int32)), vS 998, vR 42] w 981 (by decide +kernel) rfl rfl ?_
  refine sim_sld hS (by decide +kernel) ?_
  refine sim_blk0 hC [(.aload_n 0, 0, 0, 0, 0), (.iload 4, 0, 0, 0, 0), (.iconst 2, 0, 0, 0, 2), (.iadd, 0, 0, 0, 0)] [(0, vS 998), (1, vR 42), (2, vR 0), (3, vR 41), (4, vI a4)] [vI (a4 + (2 : Int32)), vS 998, vI (xs (Int32.toNatClampNeg (a4 + (1 : Int32)))), vR 42] w 987 (by decide +kernel) rfl rfl ?_
  refine sim_sld hS (by decide +kernel) ?_
  refine sim_blk0 hC [(.aload_n 3, 0, 0, 0, 0)] [(0, vS 998), (1, vR 42), (2, vR 0), (3, vR 41), (4, vI a4)] [vR 41, vI (xs (Int32.toNatClampNeg (a4 + (2 : Int32)))), vI (xs (Int32.toNatClampNeg (a4 + (1 : Int32)))), vR 42] w 989 (by decide +kernel) rfl rfl ?_
  refine sim_help hH 157 hL_up 8 158 [vR 42, vI (xs (Int32.toNatClampNeg (a4 + (1 : Int32)))), vI (xs (Int32.toNatClampNeg (a4 + (2 : Int32)))), vR 41] [] (by decide +kernel) hm_up rfl rfl rfl rfl rfl rfl (fun rz wz hz => h_up w (xs (Int32.toNatClampNeg (a4 + (1 : Int32)))) (xs (Int32.toNatClampNeg (a4 + (2 : Int32)))) rz wz hz) (fun i75 w76 => ?_)
  exact s_K_law_992 hL a4 i75 w76
noncomputable def K_law_1120 (xs : Nat → Int32) (L : Nat) (a4 : Int32) (w : Wld) : Option ((Int32 × Wld) ⊕ Wld) :=
  bi (a4 + 6) (fun i86 => some (.inl (i86, w)))
set_option maxRecDepth 10000 in
theorem s_K_law_1120 {Z : ZT} {l : Launch} {wo : Wld} {Ok OkN : Cfg → Prop} {xs : Nat → Int32} {L : Nat} (hL : CtxL Z l xs L wo Ok OkN) (a4 : Int32) (w : Wld) : SimK OkN (1120, [(0, vS 998), (1, vR 42), (2, vR 0), (3, vR 41), (4, vI a4)], [], w) (K_law_1120 xs L a4 w) (GLp OkN V_law (GEp OkN E_law)) := by
  unfold K_law_1120
  have hC := hL.2.2.2.1
  have hS := hL.2.2.2.2.1
  refine sim_goto hC 1175 2295 (by decide +kernel) (by decide) ?_
  refine sim_blk0 hC [(.iinc 4 6, 0, 0, 0, 6)] [(0, vS 998), (1, vR 42), (2, vR 0), (3, vR 41), (4, vI (a4 + 6))] [] w 2298 (by decide +kernel) rfl rfl ?_
  refine sim_bi (C := fun i86 => (2298, [(0, vS 998), (1, vR 42), (2, vR 0), (3, vR 41), (4, vI i86)], [], w)) (fun i86 => ?_)
  refine sim_goto hC (-2275) 23 (by decide +kernel) (by decide) ?_
  exact sim_back (V := V_law) (i86, w)
noncomputable def K_law_1066 (xs : Nat → Int32) (L : Nat) (a4 : Int32) (t0 : Int32) (w : Wld) : Option ((Int32 × Wld) ⊕ Wld) :=
  gd (vp_in (a4 + (1 : Int32)) L) (gd (vp_in (a4 + (2 : Int32)) L) (gd (vp_in (a4 + (3 : Int32)) L) (bd (F_M_then w (xs (Int32.toNatClampNeg (a4 + (1 : Int32)))) (xs (Int32.toNatClampNeg (a4 + (2 : Int32)))) (xs (Int32.toNatClampNeg (a4 + (3 : Int32))))) (fun i83 w84 => bp (F_M_thrown w84) (fun i85 => br (i85 = t0) (br (¬ t0 = 0) (K_law_1120 xs L a4 w84) (gd (vp_in 0 1) (br ((lg_cmp (Int32.toInt64 (w84 41 (Int32.toNatClampNeg 0))) (Int32.toInt64 i83)) = 0) (K_law_1120 xs L a4 w84) (none)))) (none))))))
set_option maxRecDepth 10000 in
theorem s_K_law_1066 {Z : ZT} {l : Launch} {wo : Wld} {Ok OkN : Cfg → Prop} {xs : Nat → Int32} {L : Nat} (hL : CtxL Z l xs L wo Ok OkN) (a4 : Int32) (t0 : Int32) (w : Wld) : SimK OkN (1066, [(0, vS 998), (1, vR 42), (2, vR 0), (3, vR 41), (4, vI a4)], [vI t0], w) (K_law_1066 xs L a4 t0 w) (GLp OkN V_law (GEp OkN E_law)) := by
  unfold K_law_1066
  have hC := hL.2.2.2.1
  have hS := hL.2.2.2.2.1
  refine sim_blk0 hC [(.istore 5, 0, 0, 0, 0), (.aload_n 2, 0, 0, 0, 0), (.aload_n 0, 0, 0, 0, 0), (.iload 4, 0, 0, 0, 0), (.iconst 1, 0, 0, 0, 1), (.iadd, 0, 0, 0, 0)] [(0, vS 998), (1, vR 42), (2, vR 0), (3, vR 41), (4, vI a4), (5, vI t0)] [vI (a4 + (1 : Int32)), vS 998, vR 0] w 1074 (by decide +kernel) rfl rfl ?_
  refine sim_sld hS (by decide +kernel) ?_
  refine sim_blk0 hC [(.aload_n 0, 0, 0, 0, 0), (.iload 4, 0, 0, 0, 0), (.iconst 2, 0, 0, 0, 2), (.iadd, 0, 0, 0, 0)] [(0, vS 998), (1, vR 42), (2, vR 0), (3, vR 41), (4, vI a4), (5, vI t0)] [vI (a4 + (2 : Int32)), vS 998, vI (xs (Int32.toNatClampNeg (a4 + (1 : Int32)))), vR 0] w 1080 (by decide +kernel) rfl rfl ?_
  refine sim_sld hS (by decide +kernel) ?_
  refine sim_blk0 hC [(.aload_n 0, 0, 0, 0, 0), (.iload 4, 0, 0, 0, 0), (.iconst 3, 0, 0, 0, 3), (.iadd, 0, 0, 0, 0)] [(0, vS 998), (1, vR 42), (2, vR 0), (3, vR 41), (4, vI a4), (5, vI t0)] [vI (a4 + (3 : Int32)), vS 998, vI (xs (Int32.toNatClampNeg (a4 + (2 : Int32)))), vI (xs (Int32.toNatClampNeg (a4 + (1 : Int32)))), vR 0] w 1086 (by decide +kernel) rfl rfl ?_
  refine sim_sld hS (by decide +kernel) ?_
  refine sim_vd hC 163 mX11_then 7 133 0 [vI (xs (Int32.toNatClampNeg (a4 + (1 : Int32)))), vI (xs (Int32.toNatClampNeg (a4 + (2 : Int32)))), vI (xs (Int32.toNatClampNeg (a4 + (3 : Int32))))] [] (by decide +kernel) ml_14_163 rfl rfl rfl rfl rfl rfl (fun rz wz hz => c_M_then w (xs (Int32.toNatClampNeg (a4 + (1 : Int32)))) (xs (Int32.toNatClampNeg (a4 + (2 : Int32)))) (xs (Int32.toNatClampNeg (a4 + (3 : Int32)))) rz wz hz) (fun i83 w84 => ?_)
  refine sim_blk0 hC [(.istore 6, 0, 0, 0, 0), (.aload_n 2, 0, 0, 0, 0)] [(0, vS 998), (1, vR 42), (2, vR 0), (3, vR 41), (4, vI a4), (5, vI t0), (6, vI i83)] [vR 0] w84 1093 (by decide +kernel) rfl rfl ?_
  refine sim_vp hC 114 mX11_thrown 1 0 0 [] [] (by decide +kernel) ml_14_114 rfl rfl rfl rfl rfl rfl (fun rz hz => c_M_thrown w84 rz hz) (fun i85 => ?_)
  refine sim_blk0 hC [(.iload 5, 0, 0, 0, 0)] [(0, vS 998), (1, vR 42), (2, vR 0), (3, vR 41), (4, vI a4), (5, vI t0), (6, vI i83)] [vI t0, vI i85] w84 1098 (by decide +kernel) rfl rfl ?_
  refine sim_br hC (.if_icmp .eq 5) 1103 (by decide +kernel) rfl (by decide) ?_ ?_
  · refine sim_blk0 hC [(.iload 5, 0, 0, 0, 0)] [(0, vS 998), (1, vR 42), (2, vR 0), (3, vR 41), (4, vI a4), (5, vI t0), (6, vI i83)] [vI t0] w84 1105 (by decide +kernel) rfl rfl ?_
    refine sim_br hC (.ifCond .ne 15) 1120 (by decide +kernel) rfl (by decide) ?_ ?_
    · refine sim_sub hC [0, 1, 2, 3, 4] ?_
      exact s_K_law_1120 hL a4 w84
    · refine sim_blk1 hC [(.aload_n 3, 0, 0, 0, 0), (.iconst 0, 0, 0, 0, 0), (.laload, 41, 1, 3, 0), (.iload 6, 0, 0, 0, 0), (.i2l, 0, 0, 0, 0), (.lcmp, 0, 0, 0, 0)] [(0, vS 998), (1, vR 42), (2, vR 0), (3, vR 41), (4, vI a4), (5, vI t0), (6, vI i83)] [vI (lg_cmp (Int32.toInt64 (w84 41 (Int32.toNatClampNeg 0))) (Int32.toInt64 i83))] w84 1115 (by decide +kernel) rfl rfl ?_
      refine sim_br hC (.ifCond .eq 5) 1120 (by decide +kernel) rfl (by decide) ?_ ?_
      · refine sim_sub hC [0, 1, 2, 3, 4] ?_
        exact s_K_law_1120 hL a4 w84
      · exact sim_none
  · exact sim_none
noncomputable def Lc_14 (xs : Nat → Int32) (L : Nat) (a4 : Int32) (w : Wld) : Option ((Int32 × Wld) ⊕ Wld) :=
  gd (vp_in (a4 + (1 : Int32)) L) (gd (vp_in (a4 + (2 : Int32)) L) (gd (vp_in (a4 + (3 : Int32)) L) (bd (H_then w (xs (Int32.toNatClampNeg (a4 + (1 : Int32)))) (xs (Int32.toNatClampNeg (a4 + (2 : Int32)))) (xs (Int32.toNatClampNeg (a4 + (3 : Int32))))) (fun i81 w82 => K_law_1066 xs L a4 i81 w82))))
set_option maxRecDepth 10000 in
theorem s_Lc_14 {Z : ZT} {l : Launch} {wo : Wld} {Ok OkN : Cfg → Prop} {xs : Nat → Int32} {L : Nat} (hL : CtxL Z l xs L wo Ok OkN) (a4 : Int32) (w : Wld) : SimK Ok (1043, [(0, vS 998), (1, vR 42), (2, vR 0), (3, vR 41), (4, vI a4)], [], w) (Lc_14 xs L a4 w) (GLp OkN V_law (GEp OkN E_law)) := by
  unfold Lc_14
  have hC := hL.1
  have hS := hL.2.1
  have hH := hL.2.2.1
  have hN := hL.2.2.2.2.2
  refine sim_blk0 hC [(.aload_n 1, 0, 0, 0, 0), (.aload_n 0, 0, 0, 0, 0), (.iload 4, 0, 0, 0, 0), (.iconst 1, 0, 0, 0, 1), (.iadd, 0, 0, 0, 0)] [(0, vS 998), (1, vR 42), (2, vR 0), (3, vR 41), (4, vI a4)] [vI (a4 + (1 : Int32)), vS 998, vR 42] w 1049 (by decide +kernel) rfl rfl ?_
  refine sim_sld hS (by decide +kernel) ?_
  refine sim_blk0 hC [(.aload_n 0, 0, 0, 0, 0), (.iload 4, 0, 0, 0, 0), (.iconst 2, 0, 0, 0, 2), (.iadd, 0, 0, 0, 0)] [(0, vS 998), (1, vR 42), (2, vR 0), (3, vR 41), (4, vI a4)] [vI (a4 + (2 : Int32)), vS 998, vI (xs (Int32.toNatClampNeg (a4 + (1 : Int32)))), vR 42] w 1055 (by decide +kernel) rfl rfl ?_
  refine sim_sld hS (by decide +kernel) ?_
  refine sim_blk0 hC [(.aload_n 0, 0, 0, 0, 0), (.iload 4, 0, 0, 0, 0), (.iconst 3, 0, 0, 0, 3), (.iadd, 0, 0, 0, 0)] [(0, vS 998), (1, vR 42), (2, vR 0), (3, vR 41), (4, vI a4)] [vI (a4 + (3 : Int32)), vS 998, vI (xs (Int32.toNatClampNeg (a4 + (2 : Int32)))), vI (xs (Int32.toNatClampNeg (a4 + (1 : Int32)))), vR 42] w 1061 (by decide +kernel) rfl rfl ?_
  refine sim_sld hS (by decide +kernel) ?_
  refine sim_blk0 hC [(.aload_n 3, 0, 0, 0, 0)] [(0, vS 998), (1, vR 42), (2, vR 0), (3, vR 41), (4, vI a4)] [vR 41, vI (xs (Int32.toNatClampNeg (a4 + (3 : Int32)))), vI (xs (Int32.toNatClampNeg (a4 + (2 : Int32)))), vI (xs (Int32.toNatClampNeg (a4 + (1 : Int32)))), vR 42] w 1063 (by decide +kernel) rfl rfl ?_
  refine sim_help hH 160 hL_then 8 159 [vR 42, vI (xs (Int32.toNatClampNeg (a4 + (1 : Int32)))), vI (xs (Int32.toNatClampNeg (a4 + (2 : Int32)))), vI (xs (Int32.toNatClampNeg (a4 + (3 : Int32)))), vR 41] [] (by decide +kernel) hm_then rfl rfl rfl rfl rfl rfl (fun rz wz hz => h_then w (xs (Int32.toNatClampNeg (a4 + (1 : Int32)))) (xs (Int32.toNatClampNeg (a4 + (2 : Int32)))) (xs (Int32.toNatClampNeg (a4 + (3 : Int32)))) rz wz hz) (fun i81 w82 => ?_)
  exact s_K_law_1066 hL a4 i81 w82
noncomputable def Lc_15 (xs : Nat → Int32) (L : Nat) (a4 : Int32) (w : Wld) : Option ((Int32 × Wld) ⊕ Wld) :=
  bd (F_C_full w) (fun i87 w88 => bd (F_M_full w88) (fun i89 w90 => br (i87 = i89) (bi (a4 + 6) (fun i91 => some (.inl (i91, w90)))) (none)))
set_option maxRecDepth 10000 in
theorem s_Lc_15 {Z : ZT} {l : Launch} {wo : Wld} {Ok OkN : Cfg → Prop} {xs : Nat → Int32} {L : Nat} (hL : CtxL Z l xs L wo Ok OkN) (a4 : Int32) (w : Wld) : SimK Ok (1123, [(0, vS 998), (1, vR 42), (2, vR 0), (3, vR 41), (4, vI a4)], [], w) (Lc_15 xs L a4 w) (GLp OkN V_law (GEp OkN E_law)) := by
  unfold Lc_15
  have hC := hL.1
  have hS := hL.2.1
  have hH := hL.2.2.1
  have hN := hL.2.2.2.2.2
  refine sim_blk0 hC [(.aload_n 1, 0, 0, 0, 0)] [(0, vS 998), (1, vR 42), (2, vR 0), (3, vR 41), (4, vI a4)] [vR 42] w 1124 (by decide +kernel) rfl rfl ?_
  refine sim_vd hC 164 mX10_full 5 101 42 [] [] (by decide +kernel) ml_14_164 rfl rfl rfl rfl rfl rfl (fun rz wz hz => c_C_full w rz wz hz) (fun i87 w88 => ?_)
  refine sim_blk0 hC [(.aload_n 2, 0, 0, 0, 0)] [(0, vS 998), (1, vR 42), (2, vR 0), (3, vR 41), (4, vI a4)] [vR 0, vI i87] w88 1128 (by decide +kernel) rfl rfl ?_
  refine sim_vd hC 167 mX11_full 6 111 0 [] [vI i87] (by decide +kernel) ml_14_167 rfl rfl rfl rfl rfl rfl (fun rz wz hz => c_M_full w88 rz wz hz) (fun i89 w90 => ?_)
  refine sim_br hC (.if_icmp .eq 1164) 2295 (by decide +kernel) rfl (by decide) ?_ ?_
  · refine sim_blk0 hC [(.iinc 4 6, 0, 0, 0, 6)] [(0, vS 998), (1, vR 42), (2, vR 0), (3, vR 41), (4, vI (a4 + 6))] [] w90 2298 (by decide +kernel) rfl rfl ?_
    refine sim_bi (C := fun i91 => (2298, [(0, vS 998), (1, vR 42), (2, vR 0), (3, vR 41), (4, vI i91)], [], w90)) (fun i91 => ?_)
    refine sim_goto hC (-2275) 23 (by decide +kernel) (by decide) ?_
    exact sim_backN (V := V_law) hN (i91, w90)
  · exact sim_none
noncomputable def K_law_1201 (xs : Nat → Int32) (L : Nat) (a4 : Int32) (w : Wld) : Option ((Int32 × Wld) ⊕ Wld) :=
  bi (a4 + 6) (fun i97 => some (.inl (i97, w)))
set_option maxRecDepth 10000 in
theorem s_K_law_1201 {Z : ZT} {l : Launch} {wo : Wld} {Ok OkN : Cfg → Prop} {xs : Nat → Int32} {L : Nat} (hL : CtxL Z l xs L wo Ok OkN) (a4 : Int32) (w : Wld) : SimK OkN (1201, [(0, vS 998), (1, vR 42), (2, vR 0), (3, vR 41), (4, vI a4)], [], w) (K_law_1201 xs L a4 w) (GLp OkN V_law (GEp OkN E_law)) := by
  unfold K_law_1201
  have hC := hL.2.2.2.1
  have hS := hL.2.2.2.2.1
  refine sim_goto hC 1094 2295 (by decide +kernel) (by decide) ?_
  refine sim_blk0 hC [(.iinc 4 6, 0, 0, 0, 6)] [(0, vS 998), (1, vR 42), (2, vR 0), (3, vR 41), (4, vI (a4 + 6))] [] w 2298 (by decide +kernel) rfl rfl ?_
  refine sim_bi (C := fun i97 => (2298, [(0, vS 998), (1, vR 42), (2, vR 0), (3, vR 41), (4, vI i97)], [], w)) (fun i97 => ?_)
  refine sim_goto hC (-2275) 23 (by decide +kernel) (by decide) ?_
  exact sim_back (V := V_law) (i97, w)
noncomputable def K_law_1153 (xs : Nat → Int32) (L : Nat) (a4 : Int32) (t0 : Int32) (w : Wld) : Option ((Int32 × Wld) ⊕ Wld) :=
  gd (vp_in (a4 + (1 : Int32)) L) (gd (vp_in (a4 + (2 : Int32)) L) (bd (F_M_meets w (xs (Int32.toNatClampNeg (a4 + (1 : Int32)))) (xs (Int32.toNatClampNeg (a4 + (2 : Int32))))) (fun i94 w95 => bp (F_M_thrown w95) (fun i96 => br (i96 = t0) (br (¬ t0 = 0) (K_law_1201 xs L a4 w95) (gd (vp_in 0 1) (br ((lg_cmp (Int32.toInt64 (w95 41 (Int32.toNatClampNeg 0))) (Int32.toInt64 i94)) = 0) (K_law_1201 xs L a4 w95) (none)))) (none)))))
set_option maxRecDepth 10000 in
theorem s_K_law_1153 {Z : ZT} {l : Launch} {wo : Wld} {Ok OkN : Cfg → Prop} {xs : Nat → Int32} {L : Nat} (hL : CtxL Z l xs L wo Ok OkN) (a4 : Int32) (t0 : Int32) (w : Wld) : SimK OkN (1153, [(0, vS 998), (1, vR 42), (2, vR 0), (3, vR 41), (4, vI a4)], [vI t0], w) (K_law_1153 xs L a4 t0 w) (GLp OkN V_law (GEp OkN E_law)) := by
  unfold K_law_1153
  have hC := hL.2.2.2.1
  have hS := hL.2.2.2.2.1
  refine sim_blk0 hC [(.istore 5, 0, 0, 0, 0), (.aload_n 2, 0, 0, 0, 0), (.aload_n 0, 0, 0, 0, 0), (.iload 4, 0, 0, 0, 0), (.iconst 1, 0, 0, 0, 1), (.iadd, 0, 0, 0, 0)] [(0, vS 998), (1, vR 42), (2, vR 0), (3, vR 41), (4, vI a4), (5, vI t0)] [vI (a4 + (1 : Int32)), vS 998, vR 0] w 1161 (by decide +kernel) rfl rfl ?_
  refine sim_sld hS (by decide +kernel) ?_
  refine sim_blk0 hC [(.aload_n 0, 0, 0, 0, 0), (.iload 4, 0, 0, 0, 0), (.iconst 2, 0, 0, 0, 2), (.iadd, 0, 0, 0, 0)] [(0, vS 998), (1, vR 42), (2, vR 0), (3, vR 41), (4, vI a4), (5, vI t0)] [vI (a4 + (2 : Int32)), vS 998, vI (xs (Int32.toNatClampNeg (a4 + (1 : Int32)))), vR 0] w 1167 (by decide +kernel) rfl rfl ?_
  refine sim_sld hS (by decide +kernel) ?_
  refine sim_vd hC 170 mX11_meets 6 111 0 [vI (xs (Int32.toNatClampNeg (a4 + (1 : Int32)))), vI (xs (Int32.toNatClampNeg (a4 + (2 : Int32))))] [] (by decide +kernel) ml_14_170 rfl rfl rfl rfl rfl rfl (fun rz wz hz => c_M_meets w (xs (Int32.toNatClampNeg (a4 + (1 : Int32)))) (xs (Int32.toNatClampNeg (a4 + (2 : Int32)))) rz wz hz) (fun i94 w95 => ?_)
  refine sim_blk0 hC [(.istore 6, 0, 0, 0, 0), (.aload_n 2, 0, 0, 0, 0)] [(0, vS 998), (1, vR 42), (2, vR 0), (3, vR 41), (4, vI a4), (5, vI t0), (6, vI i94)] [vR 0] w95 1174 (by decide +kernel) rfl rfl ?_
  refine sim_vp hC 114 mX11_thrown 1 0 0 [] [] (by decide +kernel) ml_14_114 rfl rfl rfl rfl rfl rfl (fun rz hz => c_M_thrown w95 rz hz) (fun i96 => ?_)
  refine sim_blk0 hC [(.iload 5, 0, 0, 0, 0)] [(0, vS 998), (1, vR 42), (2, vR 0), (3, vR 41), (4, vI a4), (5, vI t0), (6, vI i94)] [vI t0, vI i96] w95 1179 (by decide +kernel) rfl rfl ?_
  refine sim_br hC (.if_icmp .eq 5) 1184 (by decide +kernel) rfl (by decide) ?_ ?_
  · refine sim_blk0 hC [(.iload 5, 0, 0, 0, 0)] [(0, vS 998), (1, vR 42), (2, vR 0), (3, vR 41), (4, vI a4), (5, vI t0), (6, vI i94)] [vI t0] w95 1186 (by decide +kernel) rfl rfl ?_
    refine sim_br hC (.ifCond .ne 15) 1201 (by decide +kernel) rfl (by decide) ?_ ?_
    · refine sim_sub hC [0, 1, 2, 3, 4] ?_
      exact s_K_law_1201 hL a4 w95
    · refine sim_blk1 hC [(.aload_n 3, 0, 0, 0, 0), (.iconst 0, 0, 0, 0, 0), (.laload, 41, 1, 3, 0), (.iload 6, 0, 0, 0, 0), (.i2l, 0, 0, 0, 0), (.lcmp, 0, 0, 0, 0)] [(0, vS 998), (1, vR 42), (2, vR 0), (3, vR 41), (4, vI a4), (5, vI t0), (6, vI i94)] [vI (lg_cmp (Int32.toInt64 (w95 41 (Int32.toNatClampNeg 0))) (Int32.toInt64 i94))] w95 1196 (by decide +kernel) rfl rfl ?_
      refine sim_br hC (.ifCond .eq 5) 1201 (by decide +kernel) rfl (by decide) ?_ ?_
      · refine sim_sub hC [0, 1, 2, 3, 4] ?_
        exact s_K_law_1201 hL a4 w95
      · exact sim_none
  · exact sim_none
noncomputable def Lc_16 (xs : Nat → Int32) (L : Nat) (a4 : Int32) (w : Wld) : Option ((Int32 × Wld) ⊕ Wld) :=
  gd (vp_in (a4 + (1 : Int32)) L) (gd (vp_in (a4 + (2 : Int32)) L) (bd (H_meets w (xs (Int32.toNatClampNeg (a4 + (1 : Int32)))) (xs (Int32.toNatClampNeg (a4 + (2 : Int32))))) (fun i92 w93 => K_law_1153 xs L a4 i92 w93)))
set_option maxRecDepth 10000 in
theorem s_Lc_16 {Z : ZT} {l : Launch} {wo : Wld} {Ok OkN : Cfg → Prop} {xs : Nat → Int32} {L : Nat} (hL : CtxL Z l xs L wo Ok OkN) (a4 : Int32) (w : Wld) : SimK Ok (1136, [(0, vS 998), (1, vR 42), (2, vR 0), (3, vR 41), (4, vI a4)], [], w) (Lc_16 xs L a4 w) (GLp OkN V_law (GEp OkN E_law)) := by
  unfold Lc_16
  have hC := hL.1
  have hS := hL.2.1
  have hH := hL.2.2.1
  have hN := hL.2.2.2.2.2
  refine sim_blk0 hC [(.aload_n 1, 0, 0, 0, 0), (.aload_n 0, 0, 0, 0, 0), (.iload 4, 0, 0, 0, 0), (.iconst 1, 0, 0, 0, 1), (.iadd, 0, 0, 0, 0)] [(0, vS 998), (1, vR 42), (2, vR 0), (3, vR 41), (4, vI a4)] [vI (a4 + (1 : Int32)), vS 998, vR 42] w 1142 (by decide +kernel) rfl rfl ?_
  refine sim_sld hS (by decide +kernel) ?_
  refine sim_blk0 hC [(.aload_n 0, 0, 0, 0, 0), (.iload 4, 0, 0, 0, 0), (.iconst 2, 0, 0, 0, 2), (.iadd, 0, 0, 0, 0)] [(0, vS 998), (1, vR 42), (2, vR 0), (3, vR 41), (4, vI a4)] [vI (a4 + (2 : Int32)), vS 998, vI (xs (Int32.toNatClampNeg (a4 + (1 : Int32)))), vR 42] w 1148 (by decide +kernel) rfl rfl ?_
  refine sim_sld hS (by decide +kernel) ?_
  refine sim_blk0 hC [(.aload_n 3, 0, 0, 0, 0)] [(0, vS 998), (1, vR 42), (2, vR 0), (3, vR 41), (4, vI a4)] [vR 41, vI (xs (Int32.toNatClampNeg (a4 + (2 : Int32)))), vI (xs (Int32.toNatClampNeg (a4 + (1 : Int32)))), vR 42] w 1150 (by decide +kernel) rfl rfl ?_
  refine sim_help hH 168 hL_meets 8 133 [vR 42, vI (xs (Int32.toNatClampNeg (a4 + (1 : Int32)))), vI (xs (Int32.toNatClampNeg (a4 + (2 : Int32)))), vR 41] [] (by decide +kernel) hm_meets rfl rfl rfl rfl rfl rfl (fun rz wz hz => h_meets w (xs (Int32.toNatClampNeg (a4 + (1 : Int32)))) (xs (Int32.toNatClampNeg (a4 + (2 : Int32)))) rz wz hz) (fun i92 w93 => ?_)
  exact s_K_law_1153 hL a4 i92 w93
noncomputable def K_law_1269 (xs : Nat → Int32) (L : Nat) (a4 : Int32) (w : Wld) : Option ((Int32 × Wld) ⊕ Wld) :=
  bi (a4 + 6) (fun i103 => some (.inl (i103, w)))
set_option maxRecDepth 10000 in
theorem s_K_law_1269 {Z : ZT} {l : Launch} {wo : Wld} {Ok OkN : Cfg → Prop} {xs : Nat → Int32} {L : Nat} (hL : CtxL Z l xs L wo Ok OkN) (a4 : Int32) (w : Wld) : SimK OkN (1269, [(0, vS 998), (1, vR 42), (2, vR 0), (3, vR 41), (4, vI a4)], [], w) (K_law_1269 xs L a4 w) (GLp OkN V_law (GEp OkN E_law)) := by
  unfold K_law_1269
  have hC := hL.2.2.2.1
  have hS := hL.2.2.2.2.1
  refine sim_goto hC 1026 2295 (by decide +kernel) (by decide) ?_
  refine sim_blk0 hC [(.iinc 4 6, 0, 0, 0, 6)] [(0, vS 998), (1, vR 42), (2, vR 0), (3, vR 41), (4, vI (a4 + 6))] [] w 2298 (by decide +kernel) rfl rfl ?_
  refine sim_bi (C := fun i103 => (2298, [(0, vS 998), (1, vR 42), (2, vR 0), (3, vR 41), (4, vI i103)], [], w)) (fun i103 => ?_)
  refine sim_goto hC (-2275) 23 (by decide +kernel) (by decide) ?_
  exact sim_back (V := V_law) (i103, w)
noncomputable def K_law_1221 (xs : Nat → Int32) (L : Nat) (a4 : Int32) (t0 : Int32) (w : Wld) : Option ((Int32 × Wld) ⊕ Wld) :=
  gd (vp_in (a4 + (1 : Int32)) L) (gd (vp_in (a4 + (2 : Int32)) L) (bd (F_M_often w (xs (Int32.toNatClampNeg (a4 + (1 : Int32)))) (xs (Int32.toNatClampNeg (a4 + (2 : Int32))))) (fun i100 w101 => bp (F_M_thrown w101) (fun i102 => br (i102 = t0) (br (¬ t0 = 0) (K_law_1269 xs L a4 w101) (gd (vp_in 0 1) (br ((lg_cmp (Int32.toInt64 (w101 41 (Int32.toNatClampNeg 0))) (Int32.toInt64 i100)) = 0) (K_law_1269 xs L a4 w101) (none)))) (none)))))
set_option maxRecDepth 10000 in
theorem s_K_law_1221 {Z : ZT} {l : Launch} {wo : Wld} {Ok OkN : Cfg → Prop} {xs : Nat → Int32} {L : Nat} (hL : CtxL Z l xs L wo Ok OkN) (a4 : Int32) (t0 : Int32) (w : Wld) : SimK OkN (1221, [(0, vS 998), (1, vR 42), (2, vR 0), (3, vR 41), (4, vI a4)], [vI t0], w) (K_law_1221 xs L a4 t0 w) (GLp OkN V_law (GEp OkN E_law)) := by
  unfold K_law_1221
  have hC := hL.2.2.2.1
  have hS := hL.2.2.2.2.1
  refine sim_blk0 hC [(.istore 5, 0, 0, 0, 0), (.aload_n 2, 0, 0, 0, 0), (.aload_n 0, 0, 0, 0, 0), (.iload 4, 0, 0, 0, 0), (.iconst 1, 0, 0, 0, 1), (.iadd, 0, 0, 0, 0)] [(0, vS 998), (1, vR 42), (2, vR 0), (3, vR 41), (4, vI a4), (5, vI t0)] [vI (a4 + (1 : Int32)), vS 998, vR 0] w 1229 (by decide +kernel) rfl rfl ?_
  refine sim_sld hS (by decide +kernel) ?_
  refine sim_blk0 hC [(.aload_n 0, 0, 0, 0, 0), (.iload 4, 0, 0, 0, 0), (.iconst 2, 0, 0, 0, 2), (.iadd, 0, 0, 0, 0)] [(0, vS 998), (1, vR 42), (2, vR 0), (3, vR 41), (4, vI a4), (5, vI t0)] [vI (a4 + (2 : Int32)), vS 998, vI (xs (Int32.toNatClampNeg (a4 + (1 : Int32)))), vR 0] w 1235 (by decide +kernel) rfl rfl ?_
  refine sim_sld hS (by decide +kernel) ?_
  refine sim_vd hC 173 mX11_often 6 111 0 [vI (xs (Int32.toNatClampNeg (a4 + (1 : Int32)))), vI (xs (Int32.toNatClampNeg (a4 + (2 : Int32))))] [] (by decide +kernel) ml_14_173 rfl rfl rfl rfl rfl rfl (fun rz wz hz => c_M_often w (xs (Int32.toNatClampNeg (a4 + (1 : Int32)))) (xs (Int32.toNatClampNeg (a4 + (2 : Int32)))) rz wz hz) (fun i100 w101 => ?_)
  refine sim_blk0 hC [(.istore 6, 0, 0, 0, 0), (.aload_n 2, 0, 0, 0, 0)] [(0, vS 998), (1, vR 42), (2, vR 0), (3, vR 41), (4, vI a4), (5, vI t0), (6, vI i100)] [vR 0] w101 1242 (by decide +kernel) rfl rfl ?_
  refine sim_vp hC 114 mX11_thrown 1 0 0 [] [] (by decide +kernel) ml_14_114 rfl rfl rfl rfl rfl rfl (fun rz hz => c_M_thrown w101 rz hz) (fun i102 => ?_)
  refine sim_blk0 hC [(.iload 5, 0, 0, 0, 0)] [(0, vS 998), (1, vR 42), (2, vR 0), (3, vR 41), (4, vI a4), (5, vI t0), (6, vI i100)] [vI t0, vI i102] w101 1247 (by decide +kernel) rfl rfl ?_
  refine sim_br hC (.if_icmp .eq 5) 1252 (by decide +kernel) rfl (by decide) ?_ ?_
  · refine sim_blk0 hC [(.iload 5, 0, 0, 0, 0)] [(0, vS 998), (1, vR 42), (2, vR 0), (3, vR 41), (4, vI a4), (5, vI t0), (6, vI i100)] [vI t0] w101 1254 (by decide +kernel) rfl rfl ?_
    refine sim_br hC (.ifCond .ne 15) 1269 (by decide +kernel) rfl (by decide) ?_ ?_
    · refine sim_sub hC [0, 1, 2, 3, 4] ?_
      exact s_K_law_1269 hL a4 w101
    · refine sim_blk1 hC [(.aload_n 3, 0, 0, 0, 0), (.iconst 0, 0, 0, 0, 0), (.laload, 41, 1, 3, 0), (.iload 6, 0, 0, 0, 0), (.i2l, 0, 0, 0, 0), (.lcmp, 0, 0, 0, 0)] [(0, vS 998), (1, vR 42), (2, vR 0), (3, vR 41), (4, vI a4), (5, vI t0), (6, vI i100)] [vI (lg_cmp (Int32.toInt64 (w101 41 (Int32.toNatClampNeg 0))) (Int32.toInt64 i100))] w101 1264 (by decide +kernel) rfl rfl ?_
      refine sim_br hC (.ifCond .eq 5) 1269 (by decide +kernel) rfl (by decide) ?_ ?_
      · refine sim_sub hC [0, 1, 2, 3, 4] ?_
        exact s_K_law_1269 hL a4 w101
      · exact sim_none
  · exact sim_none
noncomputable def Lc_17 (xs : Nat → Int32) (L : Nat) (a4 : Int32) (w : Wld) : Option ((Int32 × Wld) ⊕ Wld) :=
  gd (vp_in (a4 + (1 : Int32)) L) (gd (vp_in (a4 + (2 : Int32)) L) (bd (H_often w (xs (Int32.toNatClampNeg (a4 + (1 : Int32)))) (xs (Int32.toNatClampNeg (a4 + (2 : Int32))))) (fun i98 w99 => K_law_1221 xs L a4 i98 w99)))
set_option maxRecDepth 10000 in
theorem s_Lc_17 {Z : ZT} {l : Launch} {wo : Wld} {Ok OkN : Cfg → Prop} {xs : Nat → Int32} {L : Nat} (hL : CtxL Z l xs L wo Ok OkN) (a4 : Int32) (w : Wld) : SimK Ok (1204, [(0, vS 998), (1, vR 42), (2, vR 0), (3, vR 41), (4, vI a4)], [], w) (Lc_17 xs L a4 w) (GLp OkN V_law (GEp OkN E_law)) := by
  unfold Lc_17
  have hC := hL.1
  have hS := hL.2.1
  have hH := hL.2.2.1
  have hN := hL.2.2.2.2.2
  refine sim_blk0 hC [(.aload_n 1, 0, 0, 0, 0), (.aload_n 0, 0, 0, 0, 0), (.iload 4, 0, 0, 0, 0), (.iconst 1, 0, 0, 0, 1), (.iadd, 0, 0, 0, 0)] [(0, vS 998), (1, vR 42), (2, vR 0), (3, vR 41), (4, vI a4)] [vI (a4 + (1 : Int32)), vS 998, vR 42] w 1210 (by decide +kernel) rfl rfl ?_
  refine sim_sld hS (by decide +kernel) ?_
  refine sim_blk0 hC [(.aload_n 0, 0, 0, 0, 0), (.iload 4, 0, 0, 0, 0), (.iconst 2, 0, 0, 0, 2), (.iadd, 0, 0, 0, 0)] [(0, vS 998), (1, vR 42), (2, vR 0), (3, vR 41), (4, vI a4)] [vI (a4 + (2 : Int32)), vS 998, vI (xs (Int32.toNatClampNeg (a4 + (1 : Int32)))), vR 42] w 1216 (by decide +kernel) rfl rfl ?_
  refine sim_sld hS (by decide +kernel) ?_
  refine sim_blk0 hC [(.aload_n 3, 0, 0, 0, 0)] [(0, vS 998), (1, vR 42), (2, vR 0), (3, vR 41), (4, vI a4)] [vR 41, vI (xs (Int32.toNatClampNeg (a4 + (2 : Int32)))), vI (xs (Int32.toNatClampNeg (a4 + (1 : Int32)))), vR 42] w 1218 (by decide +kernel) rfl rfl ?_
  refine sim_help hH 171 hL_often 8 135 [vR 42, vI (xs (Int32.toNatClampNeg (a4 + (1 : Int32)))), vI (xs (Int32.toNatClampNeg (a4 + (2 : Int32)))), vR 41] [] (by decide +kernel) hm_often rfl rfl rfl rfl rfl rfl (fun rz wz hz => h_often w (xs (Int32.toNatClampNeg (a4 + (1 : Int32)))) (xs (Int32.toNatClampNeg (a4 + (2 : Int32)))) rz wz hz) (fun i98 w99 => ?_)
  exact s_K_law_1221 hL a4 i98 w99
noncomputable def K_law_1365 (xs : Nat → Int32) (L : Nat) (a4 : Int32) (w : Wld) : Option ((Int32 × Wld) ⊕ Wld) :=
  bi (a4 + 6) (fun i109 => some (.inl (i109, w)))
set_option maxRecDepth 10000 in
theorem s_K_law_1365 {Z : ZT} {l : Launch} {wo : Wld} {Ok OkN : Cfg → Prop} {xs : Nat → Int32} {L : Nat} (hL : CtxL Z l xs L wo Ok OkN) (a4 : Int32) (w : Wld) : SimK OkN (1365, [(0, vS 998), (1, vR 42), (2, vR 0), (3, vR 41), (4, vI a4)], [], w) (K_law_1365 xs L a4 w) (GLp OkN V_law (GEp OkN E_law)) := by
  unfold K_law_1365
  have hC := hL.2.2.2.1
  have hS := hL.2.2.2.2.1
  refine sim_goto hC 930 2295 (by decide +kernel) (by decide) ?_
  refine sim_blk0 hC [(.iinc 4 6, 0, 0, 0, 6)] [(0, vS 998), (1, vR 42), (2, vR 0), (3, vR 41), (4, vI (a4 + 6))] [] w 2298 (by decide +kernel) rfl rfl ?_
  refine sim_bi (C := fun i109 => (2298, [(0, vS 998), (1, vR 42), (2, vR 0), (3, vR 41), (4, vI i109)], [], w)) (fun i109 => ?_)
  refine sim_goto hC (-2275) 23 (by decide +kernel) (by decide) ?_
  exact sim_back (V := V_law) (i109, w)
noncomputable def K_law_1326 (xs : Nat → Int32) (L : Nat) (a4 : Int32) (a5 : Int32) (t1 : Int32) (t2 : Int32) (w : Wld) : Option ((Int32 × Wld) ⊕ Wld) :=
  gd (vp_in (a4 + (3 : Int32)) L) (bd (F_M_ring w t1 t2 (xs (Int32.toNatClampNeg (a4 + (3 : Int32))))) (fun i106 w107 => bp (F_M_thrown w107) (fun i108 => br (i108 = a5) (br (¬ a5 = 0) (K_law_1365 xs L a4 w107) (gd (vp_in 0 1) (br ((lg_cmp (Int32.toInt64 (w107 41 (Int32.toNatClampNeg 0))) (Int32.toInt64 i106)) = 0) (K_law_1365 xs L a4 w107) (none)))) (none))))
set_option maxRecDepth 10000 in
theorem s_K_law_1326 {Z : ZT} {l : Launch} {wo : Wld} {Ok OkN : Cfg → Prop} {xs : Nat → Int32} {L : Nat} (hL : CtxL Z l xs L wo Ok OkN) (a4 : Int32) (a5 : Int32) (t1 : Int32) (t2 : Int32) (w : Wld) : SimK OkN (1326, [(0, vS 998), (1, vR 42), (2, vR 0), (3, vR 41), (4, vI a4), (5, vI a5)], [vI t2, vI t1, vR 0], w) (K_law_1326 xs L a4 a5 t1 t2 w) (GLp OkN V_law (GEp OkN E_law)) := by
  unfold K_law_1326
  have hC := hL.2.2.2.1
  have hS := hL.2.2.2.2.1
  refine sim_blk0 hC [(.aload_n 0, 0, 0, 0, 0), (.iload 4, 0, 0, 0, 0), (.iconst 3, 0, 0, 0, 3), (.iadd, 0, 0, 0, 0)] [(0, vS 998), (1, vR 42), (2, vR 0), (3, vR 41), (4, vI a4), (5, vI a5)] [vI (a4 + (3 : Int32)), vS 998, vI t2, vI t1, vR 0] w 1331 (by decide +kernel) rfl rfl ?_
  refine sim_sld hS (by decide +kernel) ?_
  refine sim_vd hC 176 mX11_ring 3 46 0 [vI t1, vI t2, vI (xs (Int32.toNatClampNeg (a4 + (3 : Int32))))] [] (by decide +kernel) ml_14_176 rfl rfl rfl rfl rfl rfl (fun rz wz hz => c_M_ring w t1 t2 (xs (Int32.toNatClampNeg (a4 + (3 : Int32)))) rz wz hz) (fun i106 w107 => ?_)
  refine sim_blk0 hC [(.istore 6, 0, 0, 0, 0), (.aload_n 2, 0, 0, 0, 0)] [(0, vS 998), (1, vR 42), (2, vR 0), (3, vR 41), (4, vI a4), (5, vI a5), (6, vI i106)] [vR 0] w107 1338 (by decide +kernel) rfl rfl ?_
  refine sim_vp hC 114 mX11_thrown 1 0 0 [] [] (by decide +kernel) ml_14_114 rfl rfl rfl rfl rfl rfl (fun rz hz => c_M_thrown w107 rz hz) (fun i108 => ?_)
  refine sim_blk0 hC [(.iload 5, 0, 0, 0, 0)] [(0, vS 998), (1, vR 42), (2, vR 0), (3, vR 41), (4, vI a4), (5, vI a5), (6, vI i106)] [vI a5, vI i108] w107 1343 (by decide +kernel) rfl rfl ?_
  refine sim_br hC (.if_icmp .eq 5) 1348 (by decide +kernel) rfl (by decide) ?_ ?_
  · refine sim_blk0 hC [(.iload 5, 0, 0, 0, 0)] [(0, vS 998), (1, vR 42), (2, vR 0), (3, vR 41), (4, vI a4), (5, vI a5), (6, vI i106)] [vI a5] w107 1350 (by decide +kernel) rfl rfl ?_
    refine sim_br hC (.ifCond .ne 15) 1365 (by decide +kernel) rfl (by decide) ?_ ?_
    · refine sim_sub hC [0, 1, 2, 3, 4] ?_
      exact s_K_law_1365 hL a4 w107
    · refine sim_blk1 hC [(.aload_n 3, 0, 0, 0, 0), (.iconst 0, 0, 0, 0, 0), (.laload, 41, 1, 3, 0), (.iload 6, 0, 0, 0, 0), (.i2l, 0, 0, 0, 0), (.lcmp, 0, 0, 0, 0)] [(0, vS 998), (1, vR 42), (2, vR 0), (3, vR 41), (4, vI a4), (5, vI a5), (6, vI i106)] [vI (lg_cmp (Int32.toInt64 (w107 41 (Int32.toNatClampNeg 0))) (Int32.toInt64 i106))] w107 1360 (by decide +kernel) rfl rfl ?_
      refine sim_br hC (.ifCond .eq 5) 1365 (by decide +kernel) rfl (by decide) ?_ ?_
      · refine sim_sub hC [0, 1, 2, 3, 4] ?_
        exact s_K_law_1365 hL a4 w107
      · exact sim_none
  · exact sim_none
noncomputable def K_law_1303 (xs : Nat → Int32) (L : Nat) (a4 : Int32) (t0 : Int32) (w : Wld) : Option ((Int32 × Wld) ⊕ Wld) :=
  gd (vp_in (a4 + (1 : Int32)) L) (gd (vp_in (a4 + (2 : Int32)) L) (br ((xs (Int32.toNatClampNeg (a4 + (2 : Int32)))) = 0) (K_law_1326 xs L a4 t0 (xs (Int32.toNatClampNeg (a4 + (1 : Int32)))) 0 w) (K_law_1326 xs L a4 t0 (xs (Int32.toNatClampNeg (a4 + (1 : Int32)))) 1 w)))
set_option maxRecDepth 10000 in
theorem s_K_law_1303 {Z : ZT} {l : Launch} {wo : Wld} {Ok OkN : Cfg → Prop} {xs : Nat → Int32} {L : Nat} (hL : CtxL Z l xs L wo Ok OkN) (a4 : Int32) (t0 : Int32) (w : Wld) : SimK OkN (1303, [(0, vS 998), (1, vR 42), (2, vR 0), (3, vR 41), (4, vI a4)], [vI t0], w) (K_law_1303 xs L a4 t0 w) (GLp OkN V_law (GEp OkN E_law)) := by
  unfold K_law_1303
  have hC := hL.2.2.2.1
  have hS := hL.2.2.2.2.1
  refine sim_blk0 hC [(.istore 5, 0, 0, 0, 0), (.aload_n 2, 0, 0, 0, 0), (.aload_n 0, 0, 0, 0, 0), (.iload 4, 0, 0, 0, 0), (.iconst 1, 0, 0, 0, 1), (.iadd, 0, 0, 0, 0)] [(0, vS 998), (1, vR 42), (2, vR 0), (3, vR 41), (4, vI a4), (5, vI t0)] [vI (a4 + (1 : Int32)), vS 998, vR 0] w 1311 (by decide +kernel) rfl rfl ?_
  refine sim_sld hS (by decide +kernel) ?_
  refine sim_blk0 hC [(.aload_n 0, 0, 0, 0, 0), (.iload 4, 0, 0, 0, 0), (.iconst 2, 0, 0, 0, 2), (.iadd, 0, 0, 0, 0)] [(0, vS 998), (1, vR 42), (2, vR 0), (3, vR 41), (4, vI a4), (5, vI t0)] [vI (a4 + (2 : Int32)), vS 998, vI (xs (Int32.toNatClampNeg (a4 + (1 : Int32)))), vR 0] w 1317 (by decide +kernel) rfl rfl ?_
  refine sim_sld hS (by decide +kernel) ?_
  refine sim_br hC (.ifCond .eq 7) 1325 (by decide +kernel) rfl (by decide) ?_ ?_
  · refine sim_blk0 hC [(.iconst 0, 0, 0, 0, 0)] [(0, vS 998), (1, vR 42), (2, vR 0), (3, vR 41), (4, vI a4), (5, vI t0)] [vI 0, vI (xs (Int32.toNatClampNeg (a4 + (1 : Int32)))), vR 0] w 1326 (by decide +kernel) rfl rfl ?_
    exact s_K_law_1326 hL a4 t0 (xs (Int32.toNatClampNeg (a4 + (1 : Int32)))) 0 w
  · refine sim_blk0 hC [(.iconst 1, 0, 0, 0, 1)] [(0, vS 998), (1, vR 42), (2, vR 0), (3, vR 41), (4, vI a4), (5, vI t0)] [vI 1, vI (xs (Int32.toNatClampNeg (a4 + (1 : Int32)))), vR 0] w 1322 (by decide +kernel) rfl rfl ?_
    refine sim_goto hC 4 1326 (by decide +kernel) (by decide) ?_
    exact s_K_law_1326 hL a4 t0 (xs (Int32.toNatClampNeg (a4 + (1 : Int32)))) 1 w
noncomputable def K_law_1293 (xs : Nat → Int32) (L : Nat) (a4 : Int32) (t1 : Int32) (t2 : Int32) (w : Wld) : Option ((Int32 × Wld) ⊕ Wld) :=
  gd (vp_in (a4 + (3 : Int32)) L) (bd (H_ring w t1 t2 (xs (Int32.toNatClampNeg (a4 + (3 : Int32))))) (fun i104 w105 => K_law_1303 xs L a4 i104 w105))
set_option maxRecDepth 10000 in
theorem s_K_law_1293 {Z : ZT} {l : Launch} {wo : Wld} {Ok OkN : Cfg → Prop} {xs : Nat → Int32} {L : Nat} (hL : CtxL Z l xs L wo Ok OkN) (a4 : Int32) (t1 : Int32) (t2 : Int32) (w : Wld) : SimK Ok (1293, [(0, vS 998), (1, vR 42), (2, vR 0), (3, vR 41), (4, vI a4)], [vI t2, vI t1, vR 42], w) (K_law_1293 xs L a4 t1 t2 w) (GLp OkN V_law (GEp OkN E_law)) := by
  unfold K_law_1293
  have hC := hL.1
  have hS := hL.2.1
  have hH := hL.2.2.1
  have hN := hL.2.2.2.2.2
  refine sim_blk0 hC [(.aload_n 0, 0, 0, 0, 0), (.iload 4, 0, 0, 0, 0), (.iconst 3, 0, 0, 0, 3), (.iadd, 0, 0, 0, 0)] [(0, vS 998), (1, vR 42), (2, vR 0), (3, vR 41), (4, vI a4)] [vI (a4 + (3 : Int32)), vS 998, vI t2, vI t1, vR 42] w 1298 (by decide +kernel) rfl rfl ?_
  refine sim_sld hS (by decide +kernel) ?_
  refine sim_blk0 hC [(.aload_n 3, 0, 0, 0, 0)] [(0, vS 998), (1, vR 42), (2, vR 0), (3, vR 41), (4, vI a4)] [vR 41, vI (xs (Int32.toNatClampNeg (a4 + (3 : Int32)))), vI t2, vI t1, vR 42] w 1300 (by decide +kernel) rfl rfl ?_
  refine sim_help hH 174 hL_ring 8 135 [vR 42, vI t1, vI t2, vI (xs (Int32.toNatClampNeg (a4 + (3 : Int32)))), vR 41] [] (by decide +kernel) hm_ring rfl rfl rfl rfl rfl rfl (fun rz wz hz => h_ring w t1 t2 (xs (Int32.toNatClampNeg (a4 + (3 : Int32)))) rz wz hz) (fun i104 w105 => ?_)
  exact s_K_law_1303 hL a4 i104 w105
noncomputable def Lc_18 (xs : Nat → Int32) (L : Nat) (a4 : Int32) (w : Wld) : Option ((Int32 × Wld) ⊕ Wld) :=
  gd (vp_in (a4 + (1 : Int32)) L) (gd (vp_in (a4 + (2 : Int32)) L) (br ((xs (Int32.toNatClampNeg (a4 + (2 : Int32)))) = 0) (K_law_1293 xs L a4 (xs (Int32.toNatClampNeg (a4 + (1 : Int32)))) 0 w) (K_law_1293 xs L a4 (xs (Int32.toNatClampNeg (a4 + (1 : Int32)))) 1 w)))
set_option maxRecDepth 10000 in
theorem s_Lc_18 {Z : ZT} {l : Launch} {wo : Wld} {Ok OkN : Cfg → Prop} {xs : Nat → Int32} {L : Nat} (hL : CtxL Z l xs L wo Ok OkN) (a4 : Int32) (w : Wld) : SimK Ok (1272, [(0, vS 998), (1, vR 42), (2, vR 0), (3, vR 41), (4, vI a4)], [], w) (Lc_18 xs L a4 w) (GLp OkN V_law (GEp OkN E_law)) := by
  unfold Lc_18
  have hC := hL.1
  have hS := hL.2.1
  have hH := hL.2.2.1
  have hN := hL.2.2.2.2.2
  refine sim_blk0 hC [(.aload_n 1, 0, 0, 0, 0), (.aload_n 0, 0, 0, 0, 0), (.iload 4, 0, 0, 0, 0), (.iconst 1, 0, 0, 0, 1), (.iadd, 0, 0, 0, 0)] [(0, vS 998), (1, vR 42), (2, vR 0), (3, vR 41), (4, vI a4)] [vI (a4 + (1 : Int32)), vS 998, vR 42] w 1278 (by decide +kernel) rfl rfl ?_
  refine sim_sld hS (by decide +kernel) ?_
  refine sim_blk0 hC [(.aload_n 0, 0, 0, 0, 0), (.iload 4, 0, 0, 0, 0), (.iconst 2, 0, 0, 0, 2), (.iadd, 0, 0, 0, 0)] [(0, vS 998), (1, vR 42), (2, vR 0), (3, vR 41), (4, vI a4)] [vI (a4 + (2 : Int32)), vS 998, vI (xs (Int32.toNatClampNeg (a4 + (1 : Int32)))), vR 42] w 1284 (by decide +kernel) rfl rfl ?_
  refine sim_sld hS (by decide +kernel) ?_
  refine sim_br hC (.ifCond .eq 7) 1292 (by decide +kernel) rfl (by decide) ?_ ?_
  · refine sim_blk0 hC [(.iconst 0, 0, 0, 0, 0)] [(0, vS 998), (1, vR 42), (2, vR 0), (3, vR 41), (4, vI a4)] [vI 0, vI (xs (Int32.toNatClampNeg (a4 + (1 : Int32)))), vR 42] w 1293 (by decide +kernel) rfl rfl ?_
    exact s_K_law_1293 hL a4 (xs (Int32.toNatClampNeg (a4 + (1 : Int32)))) 0 w
  · refine sim_blk0 hC [(.iconst 1, 0, 0, 0, 1)] [(0, vS 998), (1, vR 42), (2, vR 0), (3, vR 41), (4, vI a4)] [vI 1, vI (xs (Int32.toNatClampNeg (a4 + (1 : Int32)))), vR 42] w 1289 (by decide +kernel) rfl rfl ?_
    refine sim_goto hC 4 1293 (by decide +kernel) (by decide) ?_
    exact s_K_law_1293 hL a4 (xs (Int32.toNatClampNeg (a4 + (1 : Int32)))) 1 w
noncomputable def K_law_1421 (xs : Nat → Int32) (L : Nat) (a4 : Int32) (w : Wld) : Option ((Int32 × Wld) ⊕ Wld) :=
  bi (a4 + 6) (fun i115 => some (.inl (i115, w)))
set_option maxRecDepth 10000 in
theorem s_K_law_1421 {Z : ZT} {l : Launch} {wo : Wld} {Ok OkN : Cfg → Prop} {xs : Nat → Int32} {L : Nat} (hL : CtxL Z l xs L wo Ok OkN) (a4 : Int32) (w : Wld) : SimK OkN (1421, [(0, vS 998), (1, vR 42), (2, vR 0), (3, vR 41), (4, vI a4)], [], w) (K_law_1421 xs L a4 w) (GLp OkN V_law (GEp OkN E_law)) := by
  unfold K_law_1421
  have hC := hL.2.2.2.1
  have hS := hL.2.2.2.2.1
  refine sim_goto hC 874 2295 (by decide +kernel) (by decide) ?_
  refine sim_blk0 hC [(.iinc 4 6, 0, 0, 0, 6)] [(0, vS 998), (1, vR 42), (2, vR 0), (3, vR 41), (4, vI (a4 + 6))] [] w 2298 (by decide +kernel) rfl rfl ?_
  refine sim_bi (C := fun i115 => (2298, [(0, vS 998), (1, vR 42), (2, vR 0), (3, vR 41), (4, vI i115)], [], w)) (fun i115 => ?_)
  refine sim_goto hC (-2275) 23 (by decide +kernel) (by decide) ?_
  exact sim_back (V := V_law) (i115, w)
noncomputable def K_law_1379 (xs : Nat → Int32) (L : Nat) (a4 : Int32) (t0 : Int32) (w : Wld) : Option ((Int32 × Wld) ⊕ Wld) :=
  gd (vp_in (a4 + (1 : Int32)) L) (bd (F_M_from w (xs (Int32.toNatClampNeg (a4 + (1 : Int32))))) (fun i112 w113 => bp (F_M_thrown w113) (fun i114 => br (i114 = t0) (br (¬ t0 = 0) (K_law_1421 xs L a4 w113) (gd (vp_in 0 1) (br ((lg_cmp (Int32.toInt64 (w113 41 (Int32.toNatClampNeg 0))) (Int32.toInt64 i112)) = 0) (K_law_1421 xs L a4 w113) (none)))) (none))))
set_option maxRecDepth 10000 in
theorem s_K_law_1379 {Z : ZT} {l : Launch} {wo : Wld} {Ok OkN : Cfg → Prop} {xs : Nat → Int32} {L : Nat} (hL : CtxL Z l xs L wo Ok OkN) (a4 : Int32) (t0 : Int32) (w : Wld) : SimK OkN (1379, [(0, vS 998), (1, vR 42), (2, vR 0), (3, vR 41), (4, vI a4)], [vI t0], w) (K_law_1379 xs L a4 t0 w) (GLp OkN V_law (GEp OkN E_law)) := by
  unfold K_law_1379
  have hC := hL.2.2.2.1
  have hS := hL.2.2.2.2.1
  refine sim_blk0 hC [(.istore 5, 0, 0, 0, 0), (.aload_n 2, 0, 0, 0, 0), (.aload_n 0, 0, 0, 0, 0), (.iload 4, 0, 0, 0, 0), (.iconst 1, 0, 0, 0, 1), (.iadd, 0, 0, 0, 0)] [(0, vS 998), (1, vR 42), (2, vR 0), (3, vR 41), (4, vI a4), (5, vI t0)] [vI (a4 + (1 : Int32)), vS 998, vR 0] w 1387 (by decide +kernel) rfl rfl ?_
  refine sim_sld hS (by decide +kernel) ?_
  refine sim_vd hC 179 mX11_from 3 46 0 [vI (xs (Int32.toNatClampNeg (a4 + (1 : Int32))))] [] (by decide +kernel) ml_14_179 rfl rfl rfl rfl rfl rfl (fun rz wz hz => c_M_from w (xs (Int32.toNatClampNeg (a4 + (1 : Int32)))) rz wz hz) (fun i112 w113 => ?_)
  refine sim_blk0 hC [(.istore 6, 0, 0, 0, 0), (.aload_n 2, 0, 0, 0, 0)] [(0, vS 998), (1, vR 42), (2, vR 0), (3, vR 41), (4, vI a4), (5, vI t0), (6, vI i112)] [vR 0] w113 1394 (by decide +kernel) rfl rfl ?_
  refine sim_vp hC 114 mX11_thrown 1 0 0 [] [] (by decide +kernel) ml_14_114 rfl rfl rfl rfl rfl rfl (fun rz hz => c_M_thrown w113 rz hz) (fun i114 => ?_)
  refine sim_blk0 hC [(.iload 5, 0, 0, 0, 0)] [(0, vS 998), (1, vR 42), (2, vR 0), (3, vR 41), (4, vI a4), (5, vI t0), (6, vI i112)] [vI t0, vI i114] w113 1399 (by decide +kernel) rfl rfl ?_
  refine sim_br hC (.if_icmp .eq 5) 1404 (by decide +kernel) rfl (by decide) ?_ ?_
  · refine sim_blk0 hC [(.iload 5, 0, 0, 0, 0)] [(0, vS 998), (1, vR 42), (2, vR 0), (3, vR 41), (4, vI a4), (5, vI t0), (6, vI i112)] [vI t0] w113 1406 (by decide +kernel) rfl rfl ?_
    refine sim_br hC (.ifCond .ne 15) 1421 (by decide +kernel) rfl (by decide) ?_ ?_
    · refine sim_sub hC [0, 1, 2, 3, 4] ?_
      exact s_K_law_1421 hL a4 w113
    · refine sim_blk1 hC [(.aload_n 3, 0, 0, 0, 0), (.iconst 0, 0, 0, 0, 0), (.laload, 41, 1, 3, 0), (.iload 6, 0, 0, 0, 0), (.i2l, 0, 0, 0, 0), (.lcmp, 0, 0, 0, 0)] [(0, vS 998), (1, vR 42), (2, vR 0), (3, vR 41), (4, vI a4), (5, vI t0), (6, vI i112)] [vI (lg_cmp (Int32.toInt64 (w113 41 (Int32.toNatClampNeg 0))) (Int32.toInt64 i112))] w113 1416 (by decide +kernel) rfl rfl ?_
      refine sim_br hC (.ifCond .eq 5) 1421 (by decide +kernel) rfl (by decide) ?_ ?_
      · refine sim_sub hC [0, 1, 2, 3, 4] ?_
        exact s_K_law_1421 hL a4 w113
      · exact sim_none
  · exact sim_none
noncomputable def Lc_19 (xs : Nat → Int32) (L : Nat) (a4 : Int32) (w : Wld) : Option ((Int32 × Wld) ⊕ Wld) :=
  gd (vp_in (a4 + (1 : Int32)) L) (bd (H_from w (xs (Int32.toNatClampNeg (a4 + (1 : Int32))))) (fun i110 w111 => K_law_1379 xs L a4 i110 w111))
set_option maxRecDepth 10000 in
theorem s_Lc_19 {Z : ZT} {l : Launch} {wo : Wld} {Ok OkN : Cfg → Prop} {xs : Nat → Int32} {L : Nat} (hL : CtxL Z l xs L wo Ok OkN) (a4 : Int32) (w : Wld) : SimK Ok (1368, [(0, vS 998), (1, vR 42), (2, vR 0), (3, vR 41), (4, vI a4)], [], w) (Lc_19 xs L a4 w) (GLp OkN V_law (GEp OkN E_law)) := by
  unfold Lc_19
  have hC := hL.1
  have hS := hL.2.1
  have hH := hL.2.2.1
  have hN := hL.2.2.2.2.2
  refine sim_blk0 hC [(.aload_n 1, 0, 0, 0, 0), (.aload_n 0, 0, 0, 0, 0), (.iload 4, 0, 0, 0, 0), (.iconst 1, 0, 0, 0, 1), (.iadd, 0, 0, 0, 0)] [(0, vS 998), (1, vR 42), (2, vR 0), (3, vR 41), (4, vI a4)] [vI (a4 + (1 : Int32)), vS 998, vR 42] w 1374 (by decide +kernel) rfl rfl ?_
  refine sim_sld hS (by decide +kernel) ?_
  refine sim_blk0 hC [(.aload_n 3, 0, 0, 0, 0)] [(0, vS 998), (1, vR 42), (2, vR 0), (3, vR 41), (4, vI a4)] [vR 41, vI (xs (Int32.toNatClampNeg (a4 + (1 : Int32)))), vR 42] w 1376 (by decide +kernel) rfl rfl ?_
  refine sim_help hH 177 hL_from 8 133 [vR 42, vI (xs (Int32.toNatClampNeg (a4 + (1 : Int32)))), vR 41] [] (by decide +kernel) hm_from rfl rfl rfl rfl rfl rfl (fun rz wz hz => h_from w (xs (Int32.toNatClampNeg (a4 + (1 : Int32)))) rz wz hz) (fun i110 w111 => ?_)
  exact s_K_law_1379 hL a4 i110 w111
noncomputable def K_law_1477 (xs : Nat → Int32) (L : Nat) (a4 : Int32) (w : Wld) : Option ((Int32 × Wld) ⊕ Wld) :=
  bi (a4 + 6) (fun i121 => some (.inl (i121, w)))
set_option maxRecDepth 10000 in
theorem s_K_law_1477 {Z : ZT} {l : Launch} {wo : Wld} {Ok OkN : Cfg → Prop} {xs : Nat → Int32} {L : Nat} (hL : CtxL Z l xs L wo Ok OkN) (a4 : Int32) (w : Wld) : SimK OkN (1477, [(0, vS 998), (1, vR 42), (2, vR 0), (3, vR 41), (4, vI a4)], [], w) (K_law_1477 xs L a4 w) (GLp OkN V_law (GEp OkN E_law)) := by
  unfold K_law_1477
  have hC := hL.2.2.2.1
  have hS := hL.2.2.2.2.1
  refine sim_goto hC 818 2295 (by decide +kernel) (by decide) ?_
  refine sim_blk0 hC [(.iinc 4 6, 0, 0, 0, 6)] [(0, vS 998), (1, vR 42), (2, vR 0), (3, vR 41), (4, vI (a4 + 6))] [] w 2298 (by decide +kernel) rfl rfl ?_
  refine sim_bi (C := fun i121 => (2298, [(0, vS 998), (1, vR 42), (2, vR 0), (3, vR 41), (4, vI i121)], [], w)) (fun i121 => ?_)
  refine sim_goto hC (-2275) 23 (by decide +kernel) (by decide) ?_
  exact sim_back (V := V_law) (i121, w)
noncomputable def K_law_1435 (xs : Nat → Int32) (L : Nat) (a4 : Int32) (t0 : Int32) (w : Wld) : Option ((Int32 × Wld) ⊕ Wld) :=
  gd (vp_in (a4 + (1 : Int32)) L) (bd (F_M_meeting w (xs (Int32.toNatClampNeg (a4 + (1 : Int32))))) (fun i118 w119 => bp (F_M_thrown w119) (fun i120 => br (i120 = t0) (br (¬ t0 = 0) (K_law_1477 xs L a4 w119) (gd (vp_in 0 1) (br ((lg_cmp (Int32.toInt64 (w119 41 (Int32.toNatClampNeg 0))) (Int32.toInt64 i118)) = 0) (K_law_1477 xs L a4 w119) (none)))) (none))))
set_option maxRecDepth 10000 in
theorem s_K_law_1435 {Z : ZT} {l : Launch} {wo : Wld} {Ok OkN : Cfg → Prop} {xs : Nat → Int32} {L : Nat} (hL : CtxL Z l xs L wo Ok OkN) (a4 : Int32) (t0 : Int32) (w : Wld) : SimK OkN (1435, [(0, vS 998), (1, vR 42), (2, vR 0), (3, vR 41), (4, vI a4)], [vI t0], w) (K_law_1435 xs L a4 t0 w) (GLp OkN V_law (GEp OkN E_law)) := by
  unfold K_law_1435
  have hC := hL.2.2.2.1
  have hS := hL.2.2.2.2.1
  refine sim_blk0 hC [(.istore 5, 0, 0, 0, 0), (.aload_n 2, 0, 0, 0, 0), (.aload_n 0, 0, 0, 0, 0), (.iload 4, 0, 0, 0, 0), (.iconst 1, 0, 0, 0, 1), (.iadd, 0, 0, 0, 0)] [(0, vS 998), (1, vR 42), (2, vR 0), (3, vR 41), (4, vI a4), (5, vI t0)] [vI (a4 + (1 : Int32)), vS 998, vR 0] w 1443 (by decide +kernel) rfl rfl ?_
  refine sim_sld hS (by decide +kernel) ?_
  refine sim_vd hC 182 mX11_meeting 3 44 0 [vI (xs (Int32.toNatClampNeg (a4 + (1 : Int32))))] [] (by decide +kernel) ml_14_182 rfl rfl rfl rfl rfl rfl (fun rz wz hz => c_M_meeting w (xs (Int32.toNatClampNeg (a4 + (1 : Int32)))) rz wz hz) (fun i118 w119 => ?_)
  refine sim_blk0 hC [(.istore 6, 0, 0, 0, 0), (.aload_n 2, 0, 0, 0, 0)] [(0, vS 998), (1, vR 42), (2, vR 0), (3, vR 41), (4, vI a4), (5, vI t0), (6, vI i118)] [vR 0] w119 1450 (by decide +kernel) rfl rfl ?_
  refine sim_vp hC 114 mX11_thrown 1 0 0 [] [] (by decide +kernel) ml_14_114 rfl rfl rfl rfl rfl rfl (fun rz hz => c_M_thrown w119 rz hz) (fun i120 => ?_)
  refine sim_blk0 hC [(.iload 5, 0, 0, 0, 0)] [(0, vS 998), (1, vR 42), (2, vR 0), (3, vR 41), (4, vI a4), (5, vI t0), (6, vI i118)] [vI t0, vI i120] w119 1455 (by decide +kernel) rfl rfl ?_
  refine sim_br hC (.if_icmp .eq 5) 1460 (by decide +kernel) rfl (by decide) ?_ ?_
  · refine sim_blk0 hC [(.iload 5, 0, 0, 0, 0)] [(0, vS 998), (1, vR 42), (2, vR 0), (3, vR 41), (4, vI a4), (5, vI t0), (6, vI i118)] [vI t0] w119 1462 (by decide +kernel) rfl rfl ?_
    refine sim_br hC (.ifCond .ne 15) 1477 (by decide +kernel) rfl (by decide) ?_ ?_
    · refine sim_sub hC [0, 1, 2, 3, 4] ?_
      exact s_K_law_1477 hL a4 w119
    · refine sim_blk1 hC [(.aload_n 3, 0, 0, 0, 0), (.iconst 0, 0, 0, 0, 0), (.laload, 41, 1, 3, 0), (.iload 6, 0, 0, 0, 0), (.i2l, 0, 0, 0, 0), (.lcmp, 0, 0, 0, 0)] [(0, vS 998), (1, vR 42), (2, vR 0), (3, vR 41), (4, vI a4), (5, vI t0), (6, vI i118)] [vI (lg_cmp (Int32.toInt64 (w119 41 (Int32.toNatClampNeg 0))) (Int32.toInt64 i118))] w119 1472 (by decide +kernel) rfl rfl ?_
      refine sim_br hC (.ifCond .eq 5) 1477 (by decide +kernel) rfl (by decide) ?_ ?_
      · refine sim_sub hC [0, 1, 2, 3, 4] ?_
        exact s_K_law_1477 hL a4 w119
      · exact sim_none
  · exact sim_none
noncomputable def Lc_20 (xs : Nat → Int32) (L : Nat) (a4 : Int32) (w : Wld) : Option ((Int32 × Wld) ⊕ Wld) :=
  gd (vp_in (a4 + (1 : Int32)) L) (bd (H_meeting w (xs (Int32.toNatClampNeg (a4 + (1 : Int32))))) (fun i116 w117 => K_law_1435 xs L a4 i116 w117))
set_option maxRecDepth 10000 in
theorem s_Lc_20 {Z : ZT} {l : Launch} {wo : Wld} {Ok OkN : Cfg → Prop} {xs : Nat → Int32} {L : Nat} (hL : CtxL Z l xs L wo Ok OkN) (a4 : Int32) (w : Wld) : SimK Ok (1424, [(0, vS 998), (1, vR 42), (2, vR 0), (3, vR 41), (4, vI a4)], [], w) (Lc_20 xs L a4 w) (GLp OkN V_law (GEp OkN E_law)) := by
  unfold Lc_20
  have hC := hL.1
  have hS := hL.2.1
  have hH := hL.2.2.1
  have hN := hL.2.2.2.2.2
  refine sim_blk0 hC [(.aload_n 1, 0, 0, 0, 0), (.aload_n 0, 0, 0, 0, 0), (.iload 4, 0, 0, 0, 0), (.iconst 1, 0, 0, 0, 1), (.iadd, 0, 0, 0, 0)] [(0, vS 998), (1, vR 42), (2, vR 0), (3, vR 41), (4, vI a4)] [vI (a4 + (1 : Int32)), vS 998, vR 42] w 1430 (by decide +kernel) rfl rfl ?_
  refine sim_sld hS (by decide +kernel) ?_
  refine sim_blk0 hC [(.aload_n 3, 0, 0, 0, 0)] [(0, vS 998), (1, vR 42), (2, vR 0), (3, vR 41), (4, vI a4)] [vR 41, vI (xs (Int32.toNatClampNeg (a4 + (1 : Int32)))), vR 42] w 1432 (by decide +kernel) rfl rfl ?_
  refine sim_help hH 180 hL_meeting 8 134 [vR 42, vI (xs (Int32.toNatClampNeg (a4 + (1 : Int32)))), vR 41] [] (by decide +kernel) hm_meeting rfl rfl rfl rfl rfl rfl (fun rz wz hz => h_meeting w (xs (Int32.toNatClampNeg (a4 + (1 : Int32)))) rz wz hz) (fun i116 w117 => ?_)
  exact s_K_law_1435 hL a4 i116 w117
noncomputable def K_law_1533 (xs : Nat → Int32) (L : Nat) (a4 : Int32) (w : Wld) : Option ((Int32 × Wld) ⊕ Wld) :=
  bi (a4 + 6) (fun i127 => some (.inl (i127, w)))
set_option maxRecDepth 10000 in
theorem s_K_law_1533 {Z : ZT} {l : Launch} {wo : Wld} {Ok OkN : Cfg → Prop} {xs : Nat → Int32} {L : Nat} (hL : CtxL Z l xs L wo Ok OkN) (a4 : Int32) (w : Wld) : SimK OkN (1533, [(0, vS 998), (1, vR 42), (2, vR 0), (3, vR 41), (4, vI a4)], [], w) (K_law_1533 xs L a4 w) (GLp OkN V_law (GEp OkN E_law)) := by
  unfold K_law_1533
  have hC := hL.2.2.2.1
  have hS := hL.2.2.2.2.1
  refine sim_goto hC 762 2295 (by decide +kernel) (by decide) ?_
  refine sim_blk0 hC [(.iinc 4 6, 0, 0, 0, 6)] [(0, vS 998), (1, vR 42), (2, vR 0), (3, vR 41), (4, vI (a4 + 6))] [] w 2298 (by decide +kernel) rfl rfl ?_
  refine sim_bi (C := fun i127 => (2298, [(0, vS 998), (1, vR 42), (2, vR 0), (3, vR 41), (4, vI i127)], [], w)) (fun i127 => ?_)
  refine sim_goto hC (-2275) 23 (by decide +kernel) (by decide) ?_
  exact sim_back (V := V_law) (i127, w)
noncomputable def K_law_1491 (xs : Nat → Int32) (L : Nat) (a4 : Int32) (t0 : Int32) (w : Wld) : Option ((Int32 × Wld) ⊕ Wld) :=
  gd (vp_in (a4 + (1 : Int32)) L) (bd (F_M_leastFish w (xs (Int32.toNatClampNeg (a4 + (1 : Int32))))) (fun i124 w125 => bp (F_M_thrown w125) (fun i126 => br (i126 = t0) (br (¬ t0 = 0) (K_law_1533 xs L a4 w125) (gd (vp_in 0 1) (br ((lg_cmp (Int32.toInt64 (w125 41 (Int32.toNatClampNeg 0))) (Int32.toInt64 i124)) = 0) (K_law_1533 xs L a4 w125) (none)))) (none))))
set_option maxRecDepth 10000 in
theorem s_K_law_1491 {Z : ZT} {l : Launch} {wo : Wld} {Ok OkN : Cfg → Prop} {xs : Nat → Int32} {L : Nat} (hL : CtxL Z l xs L wo Ok OkN) (a4 : Int32) (t0 : Int32) (w : Wld) : SimK OkN (1491, [(0, vS 998), (1, vR 42), (2, vR 0), (3, vR 41), (4, vI a4)], [vI t0], w) (K_law_1491 xs L a4 t0 w) (GLp OkN V_law (GEp OkN E_law)) := by
  unfold K_law_1491
  have hC := hL.2.2.2.1
  have hS := hL.2.2.2.2.1
  refine sim_blk0 hC [(.istore 5, 0, 0, 0, 0), (.aload_n 2, 0, 0, 0, 0), (.aload_n 0, 0, 0, 0, 0), (.iload 4, 0, 0, 0, 0), (.iconst 1, 0, 0, 0, 1), (.iadd, 0, 0, 0, 0)] [(0, vS 998), (1, vR 42), (2, vR 0), (3, vR 41), (4, vI a4), (5, vI t0)] [vI (a4 + (1 : Int32)), vS 998, vR 0] w 1499 (by decide +kernel) rfl rfl ?_
  refine sim_sld hS (by decide +kernel) ?_
  refine sim_vd hC 185 mX11_leastFish 6 116 0 [vI (xs (Int32.toNatClampNeg (a4 + (1 : Int32))))] [] (by decide +kernel) ml_14_185 rfl rfl rfl rfl rfl rfl (fun rz wz hz => c_M_leastFish w (xs (Int32.toNatClampNeg (a4 + (1 : Int32)))) rz wz hz) (fun i124 w125 => ?_)
  refine sim_blk0 hC [(.istore 6, 0, 0, 0, 0), (.aload_n 2, 0, 0, 0, 0)] [(0, vS 998), (1, vR 42), (2, vR 0), (3, vR 41), (4, vI a4), (5, vI t0), (6, vI i124)] [vR 0] w125 1506 (by decide +kernel) rfl rfl ?_
  refine sim_vp hC 114 mX11_thrown 1 0 0 [] [] (by decide +kernel) ml_14_114 rfl rfl rfl rfl rfl rfl (fun rz hz => c_M_thrown w125 rz hz) (fun i126 => ?_)
  refine sim_blk0 hC [(.iload 5, 0, 0, 0, 0)] [(0, vS 998), (1, vR 42), (2, vR 0), (3, vR 41), (4, vI a4), (5, vI t0), (6, vI i124)] [vI t0, vI i126] w125 1511 (by decide +kernel) rfl rfl ?_
  refine sim_br hC (.if_icmp .eq 5) 1516 (by decide +kernel) rfl (by decide) ?_ ?_
  · refine sim_blk0 hC [(.iload 5, 0, 0, 0, 0)] [(0, vS 998), (1, vR 42), (2, vR 0), (3, vR 41), (4, vI a4), (5, vI t0), (6, vI i124)] [vI t0] w125 1518 (by decide +kernel) rfl rfl ?_
    refine sim_br hC (.ifCond .ne 15) 1533 (by decide +kernel) rfl (by decide) ?_ ?_
    · refine sim_sub hC [0, 1, 2, 3, 4] ?_
      exact s_K_law_1533 hL a4 w125
    · refine sim_blk1 hC [(.aload_n 3, 0, 0, 0, 0), (.iconst 0, 0, 0, 0, 0), (.laload, 41, 1, 3, 0), (.iload 6, 0, 0, 0, 0), (.i2l, 0, 0, 0, 0), (.lcmp, 0, 0, 0, 0)] [(0, vS 998), (1, vR 42), (2, vR 0), (3, vR 41), (4, vI a4), (5, vI t0), (6, vI i124)] [vI (lg_cmp (Int32.toInt64 (w125 41 (Int32.toNatClampNeg 0))) (Int32.toInt64 i124))] w125 1528 (by decide +kernel) rfl rfl ?_
      refine sim_br hC (.ifCond .eq 5) 1533 (by decide +kernel) rfl (by decide) ?_ ?_
      · refine sim_sub hC [0, 1, 2, 3, 4] ?_
        exact s_K_law_1533 hL a4 w125
      · exact sim_none
  · exact sim_none
noncomputable def Lc_21 (xs : Nat → Int32) (L : Nat) (a4 : Int32) (w : Wld) : Option ((Int32 × Wld) ⊕ Wld) :=
  gd (vp_in (a4 + (1 : Int32)) L) (bd (H_leastFish w (xs (Int32.toNatClampNeg (a4 + (1 : Int32))))) (fun i122 w123 => K_law_1491 xs L a4 i122 w123))
set_option maxRecDepth 10000 in
theorem s_Lc_21 {Z : ZT} {l : Launch} {wo : Wld} {Ok OkN : Cfg → Prop} {xs : Nat → Int32} {L : Nat} (hL : CtxL Z l xs L wo Ok OkN) (a4 : Int32) (w : Wld) : SimK Ok (1480, [(0, vS 998), (1, vR 42), (2, vR 0), (3, vR 41), (4, vI a4)], [], w) (Lc_21 xs L a4 w) (GLp OkN V_law (GEp OkN E_law)) := by
  unfold Lc_21
  have hC := hL.1
  have hS := hL.2.1
  have hH := hL.2.2.1
  have hN := hL.2.2.2.2.2
  refine sim_blk0 hC [(.aload_n 1, 0, 0, 0, 0), (.aload_n 0, 0, 0, 0, 0), (.iload 4, 0, 0, 0, 0), (.iconst 1, 0, 0, 0, 1), (.iadd, 0, 0, 0, 0)] [(0, vS 998), (1, vR 42), (2, vR 0), (3, vR 41), (4, vI a4)] [vI (a4 + (1 : Int32)), vS 998, vR 42] w 1486 (by decide +kernel) rfl rfl ?_
  refine sim_sld hS (by decide +kernel) ?_
  refine sim_blk0 hC [(.aload_n 3, 0, 0, 0, 0)] [(0, vS 998), (1, vR 42), (2, vR 0), (3, vR 41), (4, vI a4)] [vR 41, vI (xs (Int32.toNatClampNeg (a4 + (1 : Int32)))), vR 42] w 1488 (by decide +kernel) rfl rfl ?_
  refine sim_help hH 183 hL_leastFish 8 176 [vR 42, vI (xs (Int32.toNatClampNeg (a4 + (1 : Int32)))), vR 41] [] (by decide +kernel) hm_leastFish rfl rfl rfl rfl rfl rfl (fun rz wz hz => h_leastFish w (xs (Int32.toNatClampNeg (a4 + (1 : Int32)))) rz wz hz) (fun i122 w123 => ?_)
  exact s_K_law_1491 hL a4 i122 w123
noncomputable def Lc_22 (xs : Nat → Int32) (L : Nat) (a4 : Int32) (w : Wld) : Option ((Int32 × Wld) ⊕ Wld) :=
  bp (F_C_choir w) (fun i128 => bd (F_M_choir w) (fun i129 w130 => br (i128 = i129) (bi (a4 + 6) (fun i131 => some (.inl (i131, w130)))) (none)))
set_option maxRecDepth 10000 in
theorem s_Lc_22 {Z : ZT} {l : Launch} {wo : Wld} {Ok OkN : Cfg → Prop} {xs : Nat → Int32} {L : Nat} (hL : CtxL Z l xs L wo Ok OkN) (a4 : Int32) (w : Wld) : SimK Ok (1536, [(0, vS 998), (1, vR 42), (2, vR 0), (3, vR 41), (4, vI a4)], [], w) (Lc_22 xs L a4 w) (GLp OkN V_law (GEp OkN E_law)) := by
  unfold Lc_22
  have hC := hL.1
  have hS := hL.2.1
  have hH := hL.2.2.1
  have hN := hL.2.2.2.2.2
  refine sim_blk0 hC [(.aload_n 1, 0, 0, 0, 0)] [(0, vS 998), (1, vR 42), (2, vR 0), (3, vR 41), (4, vI a4)] [vR 42] w 1537 (by decide +kernel) rfl rfl ?_
  refine sim_vp hC 186 mX10_choir 1 0 42 [] [] (by decide +kernel) ml_14_186 rfl rfl rfl rfl rfl rfl (fun rz hz => c_C_choir w rz hz) (fun i128 => ?_)
  refine sim_blk0 hC [(.aload_n 2, 0, 0, 0, 0)] [(0, vS 998), (1, vR 42), (2, vR 0), (3, vR 41), (4, vI a4)] [vR 0, vI i128] w 1541 (by decide +kernel) rfl rfl ?_
  refine sim_vd hC 189 mX11_choir 3 44 0 [] [vI i128] (by decide +kernel) ml_14_189 rfl rfl rfl rfl rfl rfl (fun rz wz hz => c_M_choir w rz wz hz) (fun i129 w130 => ?_)
  refine sim_br hC (.if_icmp .eq 751) 2295 (by decide +kernel) rfl (by decide) ?_ ?_
  · refine sim_blk0 hC [(.iinc 4 6, 0, 0, 0, 6)] [(0, vS 998), (1, vR 42), (2, vR 0), (3, vR 41), (4, vI (a4 + 6))] [] w130 2298 (by decide +kernel) rfl rfl ?_
    refine sim_bi (C := fun i131 => (2298, [(0, vS 998), (1, vR 42), (2, vR 0), (3, vR 41), (4, vI i131)], [], w130)) (fun i131 => ?_)
    refine sim_goto hC (-2275) 23 (by decide +kernel) (by decide) ?_
    exact sim_backN (V := V_law) hN (i131, w130)
  · exact sim_none
noncomputable def Lc_23 (xs : Nat → Int32) (L : Nat) (a4 : Int32) (w : Wld) : Option ((Int32 × Wld) ⊕ Wld) :=
  bd (F_C_couples w) (fun i132 w133 => bd (F_M_couples w133) (fun i134 w135 => br (i132 = i134) (bi (a4 + 6) (fun i136 => some (.inl (i136, w135)))) (none)))
set_option maxRecDepth 10000 in
theorem s_Lc_23 {Z : ZT} {l : Launch} {wo : Wld} {Ok OkN : Cfg → Prop} {xs : Nat → Int32} {L : Nat} (hL : CtxL Z l xs L wo Ok OkN) (a4 : Int32) (w : Wld) : SimK Ok (1549, [(0, vS 998), (1, vR 42), (2, vR 0), (3, vR 41), (4, vI a4)], [], w) (Lc_23 xs L a4 w) (GLp OkN V_law (GEp OkN E_law)) := by
  unfold Lc_23
  have hC := hL.1
  have hS := hL.2.1
  have hH := hL.2.2.1
  have hN := hL.2.2.2.2.2
  refine sim_blk0 hC [(.aload_n 1, 0, 0, 0, 0)] [(0, vS 998), (1, vR 42), (2, vR 0), (3, vR 41), (4, vI a4)] [vR 42] w 1550 (by decide +kernel) rfl rfl ?_
  refine sim_vd hC 190 mX10_couples 3 47 42 [] [] (by decide +kernel) ml_14_190 rfl rfl rfl rfl rfl rfl (fun rz wz hz => c_C_couples w rz wz hz) (fun i132 w133 => ?_)
  refine sim_blk0 hC [(.aload_n 2, 0, 0, 0, 0)] [(0, vS 998), (1, vR 42), (2, vR 0), (3, vR 41), (4, vI a4)] [vR 0, vI i132] w133 1554 (by decide +kernel) rfl rfl ?_
  refine sim_vd hC 193 mX11_couples 51 875 0 [] [vI i132] (by decide +kernel) ml_14_193 rfl rfl rfl rfl rfl rfl (fun rz wz hz => c_M_couples w133 rz wz hz) (fun i134 w135 => ?_)
  refine sim_br hC (.if_icmp .eq 738) 2295 (by decide +kernel) rfl (by decide) ?_ ?_
  · refine sim_blk0 hC [(.iinc 4 6, 0, 0, 0, 6)] [(0, vS 998), (1, vR 42), (2, vR 0), (3, vR 41), (4, vI (a4 + 6))] [] w135 2298 (by decide +kernel) rfl rfl ?_
    refine sim_bi (C := fun i136 => (2298, [(0, vS 998), (1, vR 42), (2, vR 0), (3, vR 41), (4, vI i136)], [], w135)) (fun i136 => ?_)
    refine sim_goto hC (-2275) 23 (by decide +kernel) (by decide) ?_
    exact sim_backN (V := V_law) hN (i136, w135)
  · exact sim_none
noncomputable def K_law_1615 (xs : Nat → Int32) (L : Nat) (a4 : Int32) (w : Wld) : Option ((Int32 × Wld) ⊕ Wld) :=
  bi (a4 + 6) (fun i142 => some (.inl (i142, w)))
set_option maxRecDepth 10000 in
theorem s_K_law_1615 {Z : ZT} {l : Launch} {wo : Wld} {Ok OkN : Cfg → Prop} {xs : Nat → Int32} {L : Nat} (hL : CtxL Z l xs L wo Ok OkN) (a4 : Int32) (w : Wld) : SimK OkN (1615, [(0, vS 998), (1, vR 42), (2, vR 0), (3, vR 41), (4, vI a4)], [], w) (K_law_1615 xs L a4 w) (GLp OkN V_law (GEp OkN E_law)) := by
  unfold K_law_1615
  have hC := hL.2.2.2.1
  have hS := hL.2.2.2.2.1
  refine sim_goto hC 680 2295 (by decide +kernel) (by decide) ?_
  refine sim_blk0 hC [(.iinc 4 6, 0, 0, 0, 6)] [(0, vS 998), (1, vR 42), (2, vR 0), (3, vR 41), (4, vI (a4 + 6))] [] w 2298 (by decide +kernel) rfl rfl ?_
  refine sim_bi (C := fun i142 => (2298, [(0, vS 998), (1, vR 42), (2, vR 0), (3, vR 41), (4, vI i142)], [], w)) (fun i142 => ?_)
  refine sim_goto hC (-2275) 23 (by decide +kernel) (by decide) ?_
  exact sim_back (V := V_law) (i142, w)
noncomputable def K_law_1573 (xs : Nat → Int32) (L : Nat) (a4 : Int32) (t0 : Int32) (w : Wld) : Option ((Int32 × Wld) ⊕ Wld) :=
  gd (vp_in (a4 + (1 : Int32)) L) (bd (F_M_lonely w (xs (Int32.toNatClampNeg (a4 + (1 : Int32))))) (fun i139 w140 => bp (F_M_thrown w140) (fun i141 => br (i141 = t0) (br (¬ t0 = 0) (K_law_1615 xs L a4 w140) (gd (vp_in 0 1) (br ((lg_cmp (Int32.toInt64 (w140 41 (Int32.toNatClampNeg 0))) (Int32.toInt64 i139)) = 0) (K_law_1615 xs L a4 w140) (none)))) (none))))
set_option maxRecDepth 10000 in
theorem s_K_law_1573 {Z : ZT} {l : Launch} {wo : Wld} {Ok OkN : Cfg → Prop} {xs : Nat → Int32} {L : Nat} (hL : CtxL Z l xs L wo Ok OkN) (a4 : Int32) (t0 : Int32) (w : Wld) : SimK OkN (1573, [(0, vS 998), (1, vR 42), (2, vR 0), (3, vR 41), (4, vI a4)], [vI t0], w) (K_law_1573 xs L a4 t0 w) (GLp OkN V_law (GEp OkN E_law)) := by
  unfold K_law_1573
  have hC := hL.2.2.2.1
  have hS := hL.2.2.2.2.1
  refine sim_blk0 hC [(.istore 5, 0, 0, 0, 0), (.aload_n 2, 0, 0, 0, 0), (.aload_n 0, 0, 0, 0, 0), (.iload 4, 0, 0, 0, 0), (.iconst 1, 0, 0, 0, 1), (.iadd, 0, 0, 0, 0)] [(0, vS 998), (1, vR 42), (2, vR 0), (3, vR 41), (4, vI a4), (5, vI t0)] [vI (a4 + (1 : Int32)), vS 998, vR 0] w 1581 (by decide +kernel) rfl rfl ?_
  refine sim_sld hS (by decide +kernel) ?_
  refine sim_vd hC 196 mX11_lonely 7 133 0 [vI (xs (Int32.toNatClampNeg (a4 + (1 : Int32))))] [] (by decide +kernel) ml_14_196 rfl rfl rfl rfl rfl rfl (fun rz wz hz => c_M_lonely w (xs (Int32.toNatClampNeg (a4 + (1 : Int32)))) rz wz hz) (fun i139 w140 => ?_)
  refine sim_blk0 hC [(.istore 6, 0, 0, 0, 0), (.aload_n 2, 0, 0, 0, 0)] [(0, vS 998), (1, vR 42), (2, vR 0), (3, vR 41), (4, vI a4), (5, vI t0), (6, vI i139)] [vR 0] w140 1588 (by decide +kernel) rfl rfl ?_
  refine sim_vp hC 114 mX11_thrown 1 0 0 [] [] (by decide +kernel) ml_14_114 rfl rfl rfl rfl rfl rfl (fun rz hz => c_M_thrown w140 rz hz) (fun i141 => ?_)
  refine sim_blk0 hC [(.iload 5, 0, 0, 0, 0)] [(0, vS 998), (1, vR 42), (2, vR 0), (3, vR 41), (4, vI a4), (5, vI t0), (6, vI i139)] [vI t0, vI i141] w140 1593 (by decide +kernel) rfl rfl ?_
  refine sim_br hC (.if_icmp .eq 5) 1598 (by decide +kernel) rfl (by decide) ?_ ?_
  · refine sim_blk0 hC [(.iload 5, 0, 0, 0, 0)] [(0, vS 998), (1, vR 42), (2, vR 0), (3, vR 41), (4, vI a4), (5, vI t0), (6, vI i139)] [vI t0] w140 1600 (by decide +kernel) rfl rfl ?_
    refine sim_br hC (.ifCond .ne 15) 1615 (by decide +kernel) rfl (by decide) ?_ ?_
    · refine sim_sub hC [0, 1, 2, 3, 4] ?_
      exact s_K_law_1615 hL a4 w140
    · refine sim_blk1 hC [(.aload_n 3, 0, 0, 0, 0), (.iconst 0, 0, 0, 0, 0), (.laload, 41, 1, 3, 0), (.iload 6, 0, 0, 0, 0), (.i2l, 0, 0, 0, 0), (.lcmp, 0, 0, 0, 0)] [(0, vS 998), (1, vR 42), (2, vR 0), (3, vR 41), (4, vI a4), (5, vI t0), (6, vI i139)] [vI (lg_cmp (Int32.toInt64 (w140 41 (Int32.toNatClampNeg 0))) (Int32.toInt64 i139))] w140 1610 (by decide +kernel) rfl rfl ?_
      refine sim_br hC (.ifCond .eq 5) 1615 (by decide +kernel) rfl (by decide) ?_ ?_
      · refine sim_sub hC [0, 1, 2, 3, 4] ?_
        exact s_K_law_1615 hL a4 w140
      · exact sim_none
  · exact sim_none
noncomputable def Lc_24 (xs : Nat → Int32) (L : Nat) (a4 : Int32) (w : Wld) : Option ((Int32 × Wld) ⊕ Wld) :=
  gd (vp_in (a4 + (1 : Int32)) L) (bd (H_lonely w (xs (Int32.toNatClampNeg (a4 + (1 : Int32))))) (fun i137 w138 => K_law_1573 xs L a4 i137 w138))
set_option maxRecDepth 10000 in
theorem s_Lc_24 {Z : ZT} {l : Launch} {wo : Wld} {Ok OkN : Cfg → Prop} {xs : Nat → Int32} {L : Nat} (hL : CtxL Z l xs L wo Ok OkN) (a4 : Int32) (w : Wld) : SimK Ok (1562, [(0, vS 998), (1, vR 42), (2, vR 0), (3, vR 41), (4, vI a4)], [], w) (Lc_24 xs L a4 w) (GLp OkN V_law (GEp OkN E_law)) := by
  unfold Lc_24
  have hC := hL.1
  have hS := hL.2.1
  have hH := hL.2.2.1
  have hN := hL.2.2.2.2.2
  refine sim_blk0 hC [(.aload_n 1, 0, 0, 0, 0), (.aload_n 0, 0, 0, 0, 0), (.iload 4, 0, 0, 0, 0), (.iconst 1, 0, 0, 0, 1), (.iadd, 0, 0, 0, 0)] [(0, vS 998), (1, vR 42), (2, vR 0), (3, vR 41), (4, vI a4)] [vI (a4 + (1 : Int32)), vS 998, vR 42] w 1568 (by decide +kernel) rfl rfl ?_
  refine sim_sld hS (by decide +kernel) ?_
  refine sim_blk0 hC [(.aload_n 3, 0, 0, 0, 0)] [(0, vS 998), (1, vR 42), (2, vR 0), (3, vR 41), (4, vI a4)] [vR 41, vI (xs (Int32.toNatClampNeg (a4 + (1 : Int32)))), vR 42] w 1570 (by decide +kernel) rfl rfl ?_
  refine sim_help hH 194 hL_lonely 8 157 [vR 42, vI (xs (Int32.toNatClampNeg (a4 + (1 : Int32)))), vR 41] [] (by decide +kernel) hm_lonely rfl rfl rfl rfl rfl rfl (fun rz wz hz => h_lonely w (xs (Int32.toNatClampNeg (a4 + (1 : Int32)))) rz wz hz) (fun i137 w138 => ?_)
  exact s_K_law_1573 hL a4 i137 w138
noncomputable def K_law_1671 (xs : Nat → Int32) (L : Nat) (a4 : Int32) (w : Wld) : Option ((Int32 × Wld) ⊕ Wld) :=
  bi (a4 + 6) (fun i148 => some (.inl (i148, w)))
set_option maxRecDepth 10000 in
theorem s_K_law_1671 {Z : ZT} {l : Launch} {wo : Wld} {Ok OkN : Cfg → Prop} {xs : Nat → Int32} {L : Nat} (hL : CtxL Z l xs L wo Ok OkN) (a4 : Int32) (w : Wld) : SimK OkN (1671, [(0, vS 998), (1, vR 42), (2, vR 0), (3, vR 41), (4, vI a4)], [], w) (K_law_1671 xs L a4 w) (GLp OkN V_law (GEp OkN E_law)) := by
  unfold K_law_1671
  have hC := hL.2.2.2.1
  have hS := hL.2.2.2.2.1
  refine sim_goto hC 624 2295 (by decide +kernel) (by decide) ?_
  refine sim_blk0 hC [(.iinc 4 6, 0, 0, 0, 6)] [(0, vS 998), (1, vR 42), (2, vR 0), (3, vR 41), (4, vI (a4 + 6))] [] w 2298 (by decide +kernel) rfl rfl ?_
  refine sim_bi (C := fun i148 => (2298, [(0, vS 998), (1, vR 42), (2, vR 0), (3, vR 41), (4, vI i148)], [], w)) (fun i148 => ?_)
  refine sim_goto hC (-2275) 23 (by decide +kernel) (by decide) ?_
  exact sim_back (V := V_law) (i148, w)
noncomputable def K_law_1629 (xs : Nat → Int32) (L : Nat) (a4 : Int32) (t0 : Int32) (w : Wld) : Option ((Int32 × Wld) ⊕ Wld) :=
  gd (vp_in (a4 + (1 : Int32)) L) (bd (F_M_crowd w (xs (Int32.toNatClampNeg (a4 + (1 : Int32))))) (fun i145 w146 => bp (F_M_thrown w146) (fun i147 => br (i147 = t0) (br (¬ t0 = 0) (K_law_1671 xs L a4 w146) (gd (vp_in 0 1) (br ((lg_cmp (Int32.toInt64 (w146 41 (Int32.toNatClampNeg 0))) (Int32.toInt64 i145)) = 0) (K_law_1671 xs L a4 w146) (none)))) (none))))
set_option maxRecDepth 10000 in
theorem s_K_law_1629 {Z : ZT} {l : Launch} {wo : Wld} {Ok OkN : Cfg → Prop} {xs : Nat → Int32} {L : Nat} (hL : CtxL Z l xs L wo Ok OkN) (a4 : Int32) (t0 : Int32) (w : Wld) : SimK OkN (1629, [(0, vS 998), (1, vR 42), (2, vR 0), (3, vR 41), (4, vI a4)], [vI t0], w) (K_law_1629 xs L a4 t0 w) (GLp OkN V_law (GEp OkN E_law)) := by
  unfold K_law_1629
  have hC := hL.2.2.2.1
  have hS := hL.2.2.2.2.1
  refine sim_blk0 hC [(.istore 5, 0, 0, 0, 0), (.aload_n 2, 0, 0, 0, 0), (.aload_n 0, 0, 0, 0, 0), (.iload 4, 0, 0, 0, 0), (.iconst 1, 0, 0, 0, 1), (.iadd, 0, 0, 0, 0)] [(0, vS 998), (1, vR 42), (2, vR 0), (3, vR 41), (4, vI a4), (5, vI t0)] [vI (a4 + (1 : Int32)), vS 998, vR 0] w 1637 (by decide +kernel) rfl rfl ?_
  refine sim_sld hS (by decide +kernel) ?_
  refine sim_vd hC 199 mX11_crowd 7 133 0 [vI (xs (Int32.toNatClampNeg (a4 + (1 : Int32))))] [] (by decide +kernel) ml_14_199 rfl rfl rfl rfl rfl rfl (fun rz wz hz => c_M_crowd w (xs (Int32.toNatClampNeg (a4 + (1 : Int32)))) rz wz hz) (fun i145 w146 => ?_)
  refine sim_blk0 hC [(.istore 6, 0, 0, 0, 0), (.aload_n 2, 0, 0, 0, 0)] [(0, vS 998), (1, vR 42), (2, vR 0), (3, vR 41), (4, vI a4), (5, vI t0), (6, vI i145)] [vR 0] w146 1644 (by decide +kernel) rfl rfl ?_
  refine sim_vp hC 114 mX11_thrown 1 0 0 [] [] (by decide +kernel) ml_14_114 rfl rfl rfl rfl rfl rfl (fun rz hz => c_M_thrown w146 rz hz) (fun i147 => ?_)
  refine sim_blk0 hC [(.iload 5, 0, 0, 0, 0)] [(0, vS 998), (1, vR 42), (2, vR 0), (3, vR 41), (4, vI a4), (5, vI t0), (6, vI i145)] [vI t0, vI i147] w146 1649 (by decide +kernel) rfl rfl ?_
  refine sim_br hC (.if_icmp .eq 5) 1654 (by decide +kernel) rfl (by decide) ?_ ?_
  · refine sim_blk0 hC [(.iload 5, 0, 0, 0, 0)] [(0, vS 998), (1, vR 42), (2, vR 0), (3, vR 41), (4, vI a4), (5, vI t0), (6, vI i145)] [vI t0] w146 1656 (by decide +kernel) rfl rfl ?_
    refine sim_br hC (.ifCond .ne 15) 1671 (by decide +kernel) rfl (by decide) ?_ ?_
    · refine sim_sub hC [0, 1, 2, 3, 4] ?_
      exact s_K_law_1671 hL a4 w146
    · refine sim_blk1 hC [(.aload_n 3, 0, 0, 0, 0), (.iconst 0, 0, 0, 0, 0), (.laload, 41, 1, 3, 0), (.iload 6, 0, 0, 0, 0), (.i2l, 0, 0, 0, 0), (.lcmp, 0, 0, 0, 0)] [(0, vS 998), (1, vR 42), (2, vR 0), (3, vR 41), (4, vI a4), (5, vI t0), (6, vI i145)] [vI (lg_cmp (Int32.toInt64 (w146 41 (Int32.toNatClampNeg 0))) (Int32.toInt64 i145))] w146 1666 (by decide +kernel) rfl rfl ?_
      refine sim_br hC (.ifCond .eq 5) 1671 (by decide +kernel) rfl (by decide) ?_ ?_
      · refine sim_sub hC [0, 1, 2, 3, 4] ?_
        exact s_K_law_1671 hL a4 w146
      · exact sim_none
  · exact sim_none
noncomputable def Lc_25 (xs : Nat → Int32) (L : Nat) (a4 : Int32) (w : Wld) : Option ((Int32 × Wld) ⊕ Wld) :=
  gd (vp_in (a4 + (1 : Int32)) L) (bd (H_crowd w (xs (Int32.toNatClampNeg (a4 + (1 : Int32))))) (fun i143 w144 => K_law_1629 xs L a4 i143 w144))
set_option maxRecDepth 10000 in
theorem s_Lc_25 {Z : ZT} {l : Launch} {wo : Wld} {Ok OkN : Cfg → Prop} {xs : Nat → Int32} {L : Nat} (hL : CtxL Z l xs L wo Ok OkN) (a4 : Int32) (w : Wld) : SimK Ok (1618, [(0, vS 998), (1, vR 42), (2, vR 0), (3, vR 41), (4, vI a4)], [], w) (Lc_25 xs L a4 w) (GLp OkN V_law (GEp OkN E_law)) := by
  unfold Lc_25
  have hC := hL.1
  have hS := hL.2.1
  have hH := hL.2.2.1
  have hN := hL.2.2.2.2.2
  refine sim_blk0 hC [(.aload_n 1, 0, 0, 0, 0), (.aload_n 0, 0, 0, 0, 0), (.iload 4, 0, 0, 0, 0), (.iconst 1, 0, 0, 0, 1), (.iadd, 0, 0, 0, 0)] [(0, vS 998), (1, vR 42), (2, vR 0), (3, vR 41), (4, vI a4)] [vI (a4 + (1 : Int32)), vS 998, vR 42] w 1624 (by decide +kernel) rfl rfl ?_
  refine sim_sld hS (by decide +kernel) ?_
  refine sim_blk0 hC [(.aload_n 3, 0, 0, 0, 0)] [(0, vS 998), (1, vR 42), (2, vR 0), (3, vR 41), (4, vI a4)] [vR 41, vI (xs (Int32.toNatClampNeg (a4 + (1 : Int32)))), vR 42] w 1626 (by decide +kernel) rfl rfl ?_
  refine sim_help hH 197 hL_crowd 8 161 [vR 42, vI (xs (Int32.toNatClampNeg (a4 + (1 : Int32)))), vR 41] [] (by decide +kernel) hm_crowd rfl rfl rfl rfl rfl rfl (fun rz wz hz => h_crowd w (xs (Int32.toNatClampNeg (a4 + (1 : Int32)))) rz wz hz) (fun i143 w144 => ?_)
  exact s_K_law_1629 hL a4 i143 w144
noncomputable def K_law_1739 (xs : Nat → Int32) (L : Nat) (a4 : Int32) (w : Wld) : Option ((Int32 × Wld) ⊕ Wld) :=
  bi (a4 + 6) (fun i154 => some (.inl (i154, w)))
set_option maxRecDepth 10000 in
theorem s_K_law_1739 {Z : ZT} {l : Launch} {wo : Wld} {Ok OkN : Cfg → Prop} {xs : Nat → Int32} {L : Nat} (hL : CtxL Z l xs L wo Ok OkN) (a4 : Int32) (w : Wld) : SimK OkN (1739, [(0, vS 998), (1, vR 42), (2, vR 0), (3, vR 41), (4, vI a4)], [], w) (K_law_1739 xs L a4 w) (GLp OkN V_law (GEp OkN E_law)) := by
  unfold K_law_1739
  have hC := hL.2.2.2.1
  have hS := hL.2.2.2.2.1
  refine sim_goto hC 556 2295 (by decide +kernel) (by decide) ?_
  refine sim_blk0 hC [(.iinc 4 6, 0, 0, 0, 6)] [(0, vS 998), (1, vR 42), (2, vR 0), (3, vR 41), (4, vI (a4 + 6))] [] w 2298 (by decide +kernel) rfl rfl ?_
  refine sim_bi (C := fun i154 => (2298, [(0, vS 998), (1, vR 42), (2, vR 0), (3, vR 41), (4, vI i154)], [], w)) (fun i154 => ?_)
  refine sim_goto hC (-2275) 23 (by decide +kernel) (by decide) ?_
  exact sim_back (V := V_law) (i154, w)
noncomputable def K_law_1691 (xs : Nat → Int32) (L : Nat) (a4 : Int32) (t0 : Int32) (w : Wld) : Option ((Int32 × Wld) ⊕ Wld) :=
  gd (vp_in (a4 + (1 : Int32)) L) (gd (vp_in (a4 + (2 : Int32)) L) (bd (F_M_toPray w (xs (Int32.toNatClampNeg (a4 + (1 : Int32)))) (xs (Int32.toNatClampNeg (a4 + (2 : Int32))))) (fun i151 w152 => bp (F_M_thrown w152) (fun i153 => br (i153 = t0) (br (¬ t0 = 0) (K_law_1739 xs L a4 w152) (gd (vp_in 0 1) (br ((lg_cmp (Int32.toInt64 (w152 41 (Int32.toNatClampNeg 0))) (Int32.toInt64 i151)) = 0) (K_law_1739 xs L a4 w152) (none)))) (none)))))
set_option maxRecDepth 10000 in
theorem s_K_law_1691 {Z : ZT} {l : Launch} {wo : Wld} {Ok OkN : Cfg → Prop} {xs : Nat → Int32} {L : Nat} (hL : CtxL Z l xs L wo Ok OkN) (a4 : Int32) (t0 : Int32) (w : Wld) : SimK OkN (1691, [(0, vS 998), (1, vR 42), (2, vR 0), (3, vR 41), (4, vI a4)], [vI t0], w) (K_law_1691 xs L a4 t0 w) (GLp OkN V_law (GEp OkN E_law)) := by
  unfold K_law_1691
  have hC := hL.2.2.2.1
  have hS := hL.2.2.2.2.1
  refine sim_blk0 hC [(.istore 5, 0, 0, 0, 0), (.aload_n 2, 0, 0, 0, 0), (.aload_n 0, 0, 0, 0, 0), (.iload 4, 0, 0, 0, 0), (.iconst 1, 0, 0, 0, 1), (.iadd, 0, 0, 0, 0)] [(0, vS 998), (1, vR 42), (2, vR 0), (3, vR 41), (4, vI a4), (5, vI t0)] [vI (a4 + (1 : Int32)), vS 998, vR 0] w 1699 (by decide +kernel) rfl rfl ?_
  refine sim_sld hS (by decide +kernel) ?_
  refine sim_blk0 hC [(.aload_n 0, 0, 0, 0, 0), (.iload 4, 0, 0, 0, 0), (.iconst 2, 0, 0, 0, 2), (.iadd, 0, 0, 0, 0)] [(0, vS 998), (1, vR 42), (2, vR 0), (3, vR 41), (4, vI a4), (5, vI t0)] [vI (a4 + (2 : Int32)), vS 998, vI (xs (Int32.toNatClampNeg (a4 + (1 : Int32)))), vR 0] w 1705 (by decide +kernel) rfl rfl ?_
  refine sim_sld hS (by decide +kernel) ?_
  refine sim_vd hC 202 mX11_toPray 7 133 0 [vI (xs (Int32.toNatClampNeg (a4 + (1 : Int32)))), vI (xs (Int32.toNatClampNeg (a4 + (2 : Int32))))] [] (by decide +kernel) ml_14_202 rfl rfl rfl rfl rfl rfl (fun rz wz hz => c_M_toPray w (xs (Int32.toNatClampNeg (a4 + (1 : Int32)))) (xs (Int32.toNatClampNeg (a4 + (2 : Int32)))) rz wz hz) (fun i151 w152 => ?_)
  refine sim_blk0 hC [(.istore 6, 0, 0, 0, 0), (.aload_n 2, 0, 0, 0, 0)] [(0, vS 998), (1, vR 42), (2, vR 0), (3, vR 41), (4, vI a4), (5, vI t0), (6, vI i151)] [vR 0] w152 1712 (by decide +kernel) rfl rfl ?_
  refine sim_vp hC 114 mX11_thrown 1 0 0 [] [] (by decide +kernel) ml_14_114 rfl rfl rfl rfl rfl rfl (fun rz hz => c_M_thrown w152 rz hz) (fun i153 => ?_)
  refine sim_blk0 hC [(.iload 5, 0, 0, 0, 0)] [(0, vS 998), (1, vR 42), (2, vR 0), (3, vR 41), (4, vI a4), (5, vI t0), (6, vI i151)] [vI t0, vI i153] w152 1717 (by decide +kernel) rfl rfl ?_
  refine sim_br hC (.if_icmp .eq 5) 1722 (by decide +kernel) rfl (by decide) ?_ ?_
  · refine sim_blk0 hC [(.iload 5, 0, 0, 0, 0)] [(0, vS 998), (1, vR 42), (2, vR 0), (3, vR 41), (4, vI a4), (5, vI t0), (6, vI i151)] [vI t0] w152 1724 (by decide +kernel) rfl rfl ?_
    refine sim_br hC (.ifCond .ne 15) 1739 (by decide +kernel) rfl (by decide) ?_ ?_
    · refine sim_sub hC [0, 1, 2, 3, 4] ?_
      exact s_K_law_1739 hL a4 w152
    · refine sim_blk1 hC [(.aload_n 3, 0, 0, 0, 0), (.iconst 0, 0, 0, 0, 0), (.laload, 41, 1, 3, 0), (.iload 6, 0, 0, 0, 0), (.i2l, 0, 0, 0, 0), (.lcmp, 0, 0, 0, 0)] [(0, vS 998), (1, vR 42), (2, vR 0), (3, vR 41), (4, vI a4), (5, vI t0), (6, vI i151)] [vI (lg_cmp (Int32.toInt64 (w152 41 (Int32.toNatClampNeg 0))) (Int32.toInt64 i151))] w152 1734 (by decide +kernel) rfl rfl ?_
      refine sim_br hC (.ifCond .eq 5) 1739 (by decide +kernel) rfl (by decide) ?_ ?_
      · refine sim_sub hC [0, 1, 2, 3, 4] ?_
        exact s_K_law_1739 hL a4 w152
      · exact sim_none
  · exact sim_none
noncomputable def Lc_26 (xs : Nat → Int32) (L : Nat) (a4 : Int32) (w : Wld) : Option ((Int32 × Wld) ⊕ Wld) :=
  gd (vp_in (a4 + (1 : Int32)) L) (gd (vp_in (a4 + (2 : Int32)) L) (bd (H_toPray w (xs (Int32.toNatClampNeg (a4 + (1 : Int32)))) (xs (Int32.toNatClampNeg (a4 + (2 : Int32))))) (fun i149 w150 => K_law_1691 xs L a4 i149 w150)))
set_option maxRecDepth 10000 in
theorem s_Lc_26 {Z : ZT} {l : Launch} {wo : Wld} {Ok OkN : Cfg → Prop} {xs : Nat → Int32} {L : Nat} (hL : CtxL Z l xs L wo Ok OkN) (a4 : Int32) (w : Wld) : SimK Ok (1674, [(0, vS 998), (1, vR 42), (2, vR 0), (3, vR 41), (4, vI a4)], [], w) (Lc_26 xs L a4 w) (GLp OkN V_law (GEp OkN E_law)) := by
  unfold Lc_26
  have hC := hL.1
  have hS := hL.2.1
  have hH := hL.2.2.1
  have hN := hL.2.2.2.2.2
  refine sim_blk0 hC [(.aload_n 1, 0, 0, 0, 0), (.aload_n 0, 0, 0, 0, 0), (.iload 4, 0, 0, 0, 0), (.iconst 1, 0, 0, 0, 1), (.iadd, 0, 0, 0, 0)] [(0, vS 998), (1, vR 42), (2, vR 0), (3, vR 41), (4, vI a4)] [vI (a4 + (1 : Int32)), vS 998, vR 42] w 1680 (by decide +kernel) rfl rfl ?_
  refine sim_sld hS (by decide +kernel) ?_
  refine sim_blk0 hC [(.aload_n 0, 0, 0, 0, 0), (.iload 4, 0, 0, 0, 0), (.iconst 2, 0, 0, 0, 2), (.iadd, 0, 0, 0, 0)] [(0, vS 998), (1, vR 42), (2, vR 0), (3, vR 41), (4, vI a4)] [vI (a4 + (2 : Int32)), vS 998, vI (xs (Int32.toNatClampNeg (a4 + (1 : Int32)))), vR 42] w 1686 (by decide +kernel) rfl rfl ?_
  refine sim_sld hS (by decide +kernel) ?_
  refine sim_blk0 hC [(.aload_n 3, 0, 0, 0, 0)] [(0, vS 998), (1, vR 42), (2, vR 0), (3, vR 41), (4, vI a4)] [vR 41, vI (xs (Int32.toNatClampNeg (a4 + (2 : Int32)))), vI (xs (Int32.toNatClampNeg (a4 + (1 : Int32)))), vR 42] w 1688 (by decide +kernel) rfl rfl ?_
  refine sim_help hH 200 hL_toPray 8 138 [vR 42, vI (xs (Int32.toNatClampNeg (a4 + (1 : Int32)))), vI (xs (Int32.toNatClampNeg (a4 + (2 : Int32)))), vR 41] [] (by decide +kernel) hm_toPray rfl rfl rfl rfl rfl rfl (fun rz wz hz => h_toPray w (xs (Int32.toNatClampNeg (a4 + (1 : Int32)))) (xs (Int32.toNatClampNeg (a4 + (2 : Int32)))) rz wz hz) (fun i149 w150 => ?_)
  exact s_K_law_1691 hL a4 i149 w150
noncomputable def K_law_1795 (xs : Nat → Int32) (L : Nat) (a4 : Int32) (w : Wld) : Option ((Int32 × Wld) ⊕ Wld) :=
  bi (a4 + 6) (fun i160 => some (.inl (i160, w)))
set_option maxRecDepth 10000 in
theorem s_K_law_1795 {Z : ZT} {l : Launch} {wo : Wld} {Ok OkN : Cfg → Prop} {xs : Nat → Int32} {L : Nat} (hL : CtxL Z l xs L wo Ok OkN) (a4 : Int32) (w : Wld) : SimK OkN (1795, [(0, vS 998), (1, vR 42), (2, vR 0), (3, vR 41), (4, vI a4)], [], w) (K_law_1795 xs L a4 w) (GLp OkN V_law (GEp OkN E_law)) := by
  unfold K_law_1795
  have hC := hL.2.2.2.1
  have hS := hL.2.2.2.2.1
  refine sim_goto hC 500 2295 (by decide +kernel) (by decide) ?_
  refine sim_blk0 hC [(.iinc 4 6, 0, 0, 0, 6)] [(0, vS 998), (1, vR 42), (2, vR 0), (3, vR 41), (4, vI (a4 + 6))] [] w 2298 (by decide +kernel) rfl rfl ?_
  refine sim_bi (C := fun i160 => (2298, [(0, vS 998), (1, vR 42), (2, vR 0), (3, vR 41), (4, vI i160)], [], w)) (fun i160 => ?_)
  refine sim_goto hC (-2275) 23 (by decide +kernel) (by decide) ?_
  exact sim_back (V := V_law) (i160, w)
noncomputable def K_law_1753 (xs : Nat → Int32) (L : Nat) (a4 : Int32) (t0 : Int32) (w : Wld) : Option ((Int32 × Wld) ⊕ Wld) :=
  gd (vp_in (a4 + (1 : Int32)) L) (bd (F_M_needless w (xs (Int32.toNatClampNeg (a4 + (1 : Int32))))) (fun i157 w158 => bp (F_M_thrown w158) (fun i159 => br (i159 = t0) (br (¬ t0 = 0) (K_law_1795 xs L a4 w158) (gd (vp_in 0 1) (br ((lg_cmp (Int32.toInt64 (w158 41 (Int32.toNatClampNeg 0))) (Int32.toInt64 i157)) = 0) (K_law_1795 xs L a4 w158) (none)))) (none))))
set_option maxRecDepth 10000 in
theorem s_K_law_1753 {Z : ZT} {l : Launch} {wo : Wld} {Ok OkN : Cfg → Prop} {xs : Nat → Int32} {L : Nat} (hL : CtxL Z l xs L wo Ok OkN) (a4 : Int32) (t0 : Int32) (w : Wld) : SimK OkN (1753, [(0, vS 998), (1, vR 42), (2, vR 0), (3, vR 41), (4, vI a4)], [vI t0], w) (K_law_1753 xs L a4 t0 w) (GLp OkN V_law (GEp OkN E_law)) := by
  unfold K_law_1753
  have hC := hL.2.2.2.1
  have hS := hL.2.2.2.2.1
  refine sim_blk0 hC [(.istore 5, 0, 0, 0, 0), (.aload_n 2, 0, 0, 0, 0), (.aload_n 0, 0, 0, 0, 0), (.iload 4, 0, 0, 0, 0), (.iconst 1, 0, 0, 0, 1), (.iadd, 0, 0, 0, 0)] [(0, vS 998), (1, vR 42), (2, vR 0), (3, vR 41), (4, vI a4), (5, vI t0)] [vI (a4 + (1 : Int32)), vS 998, vR 0] w 1761 (by decide +kernel) rfl rfl ?_
  refine sim_sld hS (by decide +kernel) ?_
  refine sim_vd hC 205 mX11_needless 7 134 0 [vI (xs (Int32.toNatClampNeg (a4 + (1 : Int32))))] [] (by decide +kernel) ml_14_205 rfl rfl rfl rfl rfl rfl (fun rz wz hz => c_M_needless w (xs (Int32.toNatClampNeg (a4 + (1 : Int32)))) rz wz hz) (fun i157 w158 => ?_)
  refine sim_blk0 hC [(.istore 6, 0, 0, 0, 0), (.aload_n 2, 0, 0, 0, 0)] [(0, vS 998), (1, vR 42), (2, vR 0), (3, vR 41), (4, vI a4), (5, vI t0), (6, vI i157)] [vR 0] w158 1768 (by decide +kernel) rfl rfl ?_
  refine sim_vp hC 114 mX11_thrown 1 0 0 [] [] (by decide +kernel) ml_14_114 rfl rfl rfl rfl rfl rfl (fun rz hz => c_M_thrown w158 rz hz) (fun i159 => ?_)
  refine sim_blk0 hC [(.iload 5, 0, 0, 0, 0)] [(0, vS 998), (1, vR 42), (2, vR 0), (3, vR 41), (4, vI a4), (5, vI t0), (6, vI i157)] [vI t0, vI i159] w158 1773 (by decide +kernel) rfl rfl ?_
  refine sim_br hC (.if_icmp .eq 5) 1778 (by decide +kernel) rfl (by decide) ?_ ?_
  · refine sim_blk0 hC [(.iload 5, 0, 0, 0, 0)] [(0, vS 998), (1, vR 42), (2, vR 0), (3, vR 41), (4, vI a4), (5, vI t0), (6, vI i157)] [vI t0] w158 1780 (by decide +kernel) rfl rfl ?_
    refine sim_br hC (.ifCond .ne 15) 1795 (by decide +kernel) rfl (by decide) ?_ ?_
    · refine sim_sub hC [0, 1, 2, 3, 4] ?_
      exact s_K_law_1795 hL a4 w158
    · refine sim_blk1 hC [(.aload_n 3, 0, 0, 0, 0), (.iconst 0, 0, 0, 0, 0), (.laload, 41, 1, 3, 0), (.iload 6, 0, 0, 0, 0), (.i2l, 0, 0, 0, 0), (.lcmp, 0, 0, 0, 0)] [(0, vS 998), (1, vR 42), (2, vR 0), (3, vR 41), (4, vI a4), (5, vI t0), (6, vI i157)] [vI (lg_cmp (Int32.toInt64 (w158 41 (Int32.toNatClampNeg 0))) (Int32.toInt64 i157))] w158 1790 (by decide +kernel) rfl rfl ?_
      refine sim_br hC (.ifCond .eq 5) 1795 (by decide +kernel) rfl (by decide) ?_ ?_
      · refine sim_sub hC [0, 1, 2, 3, 4] ?_
        exact s_K_law_1795 hL a4 w158
      · exact sim_none
  · exact sim_none
noncomputable def Lc_27 (xs : Nat → Int32) (L : Nat) (a4 : Int32) (w : Wld) : Option ((Int32 × Wld) ⊕ Wld) :=
  gd (vp_in (a4 + (1 : Int32)) L) (bd (H_needless w (xs (Int32.toNatClampNeg (a4 + (1 : Int32))))) (fun i155 w156 => K_law_1753 xs L a4 i155 w156))
set_option maxRecDepth 10000 in
theorem s_Lc_27 {Z : ZT} {l : Launch} {wo : Wld} {Ok OkN : Cfg → Prop} {xs : Nat → Int32} {L : Nat} (hL : CtxL Z l xs L wo Ok OkN) (a4 : Int32) (w : Wld) : SimK Ok (1742, [(0, vS 998), (1, vR 42), (2, vR 0), (3, vR 41), (4, vI a4)], [], w) (Lc_27 xs L a4 w) (GLp OkN V_law (GEp OkN E_law)) := by
  unfold Lc_27
  have hC := hL.1
  have hS := hL.2.1
  have hH := hL.2.2.1
  have hN := hL.2.2.2.2.2
  refine sim_blk0 hC [(.aload_n 1, 0, 0, 0, 0), (.aload_n 0, 0, 0, 0, 0), (.iload 4, 0, 0, 0, 0), (.iconst 1, 0, 0, 0, 1), (.iadd, 0, 0, 0, 0)] [(0, vS 998), (1, vR 42), (2, vR 0), (3, vR 41), (4, vI a4)] [vI (a4 + (1 : Int32)), vS 998, vR 42] w 1748 (by decide +kernel) rfl rfl ?_
  refine sim_sld hS (by decide +kernel) ?_
  refine sim_blk0 hC [(.aload_n 3, 0, 0, 0, 0)] [(0, vS 998), (1, vR 42), (2, vR 0), (3, vR 41), (4, vI a4)] [vR 41, vI (xs (Int32.toNatClampNeg (a4 + (1 : Int32)))), vR 42] w 1750 (by decide +kernel) rfl rfl ?_
  refine sim_help hH 203 hL_needless 8 150 [vR 42, vI (xs (Int32.toNatClampNeg (a4 + (1 : Int32)))), vR 41] [] (by decide +kernel) hm_needless rfl rfl rfl rfl rfl rfl (fun rz wz hz => h_needless w (xs (Int32.toNatClampNeg (a4 + (1 : Int32)))) rz wz hz) (fun i155 w156 => ?_)
  exact s_K_law_1753 hL a4 i155 w156
noncomputable def K_law_1851 (xs : Nat → Int32) (L : Nat) (a4 : Int32) (w : Wld) : Option ((Int32 × Wld) ⊕ Wld) :=
  bi (a4 + 6) (fun i166 => some (.inl (i166, w)))
set_option maxRecDepth 10000 in
theorem s_K_law_1851 {Z : ZT} {l : Launch} {wo : Wld} {Ok OkN : Cfg → Prop} {xs : Nat → Int32} {L : Nat} (hL : CtxL Z l xs L wo Ok OkN) (a4 : Int32) (w : Wld) : SimK OkN (1851, [(0, vS 998), (1, vR 42), (2, vR 0), (3, vR 41), (4, vI a4)], [], w) (K_law_1851 xs L a4 w) (GLp OkN V_law (GEp OkN E_law)) := by
  unfold K_law_1851
  have hC := hL.2.2.2.1
  have hS := hL.2.2.2.2.1
  refine sim_goto hC 444 2295 (by decide +kernel) (by decide) ?_
  refine sim_blk0 hC [(.iinc 4 6, 0, 0, 0, 6)] [(0, vS 998), (1, vR 42), (2, vR 0), (3, vR 41), (4, vI (a4 + 6))] [] w 2298 (by decide +kernel) rfl rfl ?_
  refine sim_bi (C := fun i166 => (2298, [(0, vS 998), (1, vR 42), (2, vR 0), (3, vR 41), (4, vI i166)], [], w)) (fun i166 => ?_)
  refine sim_goto hC (-2275) 23 (by decide +kernel) (by decide) ?_
  exact sim_back (V := V_law) (i166, w)
noncomputable def K_law_1809 (xs : Nat → Int32) (L : Nat) (a4 : Int32) (t0 : Int32) (w : Wld) : Option ((Int32 × Wld) ⊕ Wld) :=
  gd (vp_in (a4 + (1 : Int32)) L) (bd (F_M_psalm w (xs (Int32.toNatClampNeg (a4 + (1 : Int32))))) (fun i163 w164 => bp (F_M_thrown w164) (fun i165 => br (i165 = t0) (br (¬ t0 = 0) (K_law_1851 xs L a4 w164) (gd (vp_in 0 1) (br ((lg_cmp (Int32.toInt64 (w164 41 (Int32.toNatClampNeg 0))) (Int32.toInt64 i163)) = 0) (K_law_1851 xs L a4 w164) (none)))) (none))))
set_option maxRecDepth 10000 in
theorem s_K_law_1809 {Z : ZT} {l : Launch} {wo : Wld} {Ok OkN : Cfg → Prop} {xs : Nat → Int32} {L : Nat} (hL : CtxL Z l xs L wo Ok OkN) (a4 : Int32) (t0 : Int32) (w : Wld) : SimK OkN (1809, [(0, vS 998), (1, vR 42), (2, vR 0), (3, vR 41), (4, vI a4)], [vI t0], w) (K_law_1809 xs L a4 t0 w) (GLp OkN V_law (GEp OkN E_law)) := by
  unfold K_law_1809
  have hC := hL.2.2.2.1
  have hS := hL.2.2.2.2.1
  refine sim_blk0 hC [(.istore 5, 0, 0, 0, 0), (.aload_n 2, 0, 0, 0, 0), (.aload_n 0, 0, 0, 0, 0), (.iload 4, 0, 0, 0, 0), (.iconst 1, 0, 0, 0, 1), (.iadd, 0, 0, 0, 0)] [(0, vS 998), (1, vR 42), (2, vR 0), (3, vR 41), (4, vI a4), (5, vI t0)] [vI (a4 + (1 : Int32)), vS 998, vR 0] w 1817 (by decide +kernel) rfl rfl ?_
  refine sim_sld hS (by decide +kernel) ?_
  refine sim_vd hC 208 mX11_psalm 6 111 0 [vI (xs (Int32.toNatClampNeg (a4 + (1 : Int32))))] [] (by decide +kernel) ml_14_208 rfl rfl rfl rfl rfl rfl (fun rz wz hz => c_M_psalm w (xs (Int32.toNatClampNeg (a4 + (1 : Int32)))) rz wz hz) (fun i163 w164 => ?_)
  refine sim_blk0 hC [(.istore 6, 0, 0, 0, 0), (.aload_n 2, 0, 0, 0, 0)] [(0, vS 998), (1, vR 42), (2, vR 0), (3, vR 41), (4, vI a4), (5, vI t0), (6, vI i163)] [vR 0] w164 1824 (by decide +kernel) rfl rfl ?_
  refine sim_vp hC 114 mX11_thrown 1 0 0 [] [] (by decide +kernel) ml_14_114 rfl rfl rfl rfl rfl rfl (fun rz hz => c_M_thrown w164 rz hz) (fun i165 => ?_)
  refine sim_blk0 hC [(.iload 5, 0, 0, 0, 0)] [(0, vS 998), (1, vR 42), (2, vR 0), (3, vR 41), (4, vI a4), (5, vI t0), (6, vI i163)] [vI t0, vI i165] w164 1829 (by decide +kernel) rfl rfl ?_
  refine sim_br hC (.if_icmp .eq 5) 1834 (by decide +kernel) rfl (by decide) ?_ ?_
  · refine sim_blk0 hC [(.iload 5, 0, 0, 0, 0)] [(0, vS 998), (1, vR 42), (2, vR 0), (3, vR 41), (4, vI a4), (5, vI t0), (6, vI i163)] [vI t0] w164 1836 (by decide +kernel) rfl rfl ?_
    refine sim_br hC (.ifCond .ne 15) 1851 (by decide +kernel) rfl (by decide) ?_ ?_
    · refine sim_sub hC [0, 1, 2, 3, 4] ?_
      exact s_K_law_1851 hL a4 w164
    · refine sim_blk1 hC [(.aload_n 3, 0, 0, 0, 0), (.iconst 0, 0, 0, 0, 0), (.laload, 41, 1, 3, 0), (.iload 6, 0, 0, 0, 0), (.i2l, 0, 0, 0, 0), (.lcmp, 0, 0, 0, 0)] [(0, vS 998), (1, vR 42), (2, vR 0), (3, vR 41), (4, vI a4), (5, vI t0), (6, vI i163)] [vI (lg_cmp (Int32.toInt64 (w164 41 (Int32.toNatClampNeg 0))) (Int32.toInt64 i163))] w164 1846 (by decide +kernel) rfl rfl ?_
      refine sim_br hC (.ifCond .eq 5) 1851 (by decide +kernel) rfl (by decide) ?_ ?_
      · refine sim_sub hC [0, 1, 2, 3, 4] ?_
        exact s_K_law_1851 hL a4 w164
      · exact sim_none
  · exact sim_none
noncomputable def Lc_28 (xs : Nat → Int32) (L : Nat) (a4 : Int32) (w : Wld) : Option ((Int32 × Wld) ⊕ Wld) :=
  gd (vp_in (a4 + (1 : Int32)) L) (bd (H_psalm w (xs (Int32.toNatClampNeg (a4 + (1 : Int32))))) (fun i161 w162 => K_law_1809 xs L a4 i161 w162))
set_option maxRecDepth 10000 in
theorem s_Lc_28 {Z : ZT} {l : Launch} {wo : Wld} {Ok OkN : Cfg → Prop} {xs : Nat → Int32} {L : Nat} (hL : CtxL Z l xs L wo Ok OkN) (a4 : Int32) (w : Wld) : SimK Ok (1798, [(0, vS 998), (1, vR 42), (2, vR 0), (3, vR 41), (4, vI a4)], [], w) (Lc_28 xs L a4 w) (GLp OkN V_law (GEp OkN E_law)) := by
  unfold Lc_28
  have hC := hL.1
  have hS := hL.2.1
  have hH := hL.2.2.1
  have hN := hL.2.2.2.2.2
  refine sim_blk0 hC [(.aload_n 1, 0, 0, 0, 0), (.aload_n 0, 0, 0, 0, 0), (.iload 4, 0, 0, 0, 0), (.iconst 1, 0, 0, 0, 1), (.iadd, 0, 0, 0, 0)] [(0, vS 998), (1, vR 42), (2, vR 0), (3, vR 41), (4, vI a4)] [vI (a4 + (1 : Int32)), vS 998, vR 42] w 1804 (by decide +kernel) rfl rfl ?_
  refine sim_sld hS (by decide +kernel) ?_
  refine sim_blk0 hC [(.aload_n 3, 0, 0, 0, 0)] [(0, vS 998), (1, vR 42), (2, vR 0), (3, vR 41), (4, vI a4)] [vR 41, vI (xs (Int32.toNatClampNeg (a4 + (1 : Int32)))), vR 42] w 1806 (by decide +kernel) rfl rfl ?_
  refine sim_help hH 206 hL_psalm 8 135 [vR 42, vI (xs (Int32.toNatClampNeg (a4 + (1 : Int32)))), vR 41] [] (by decide +kernel) hm_psalm rfl rfl rfl rfl rfl rfl (fun rz wz hz => h_psalm w (xs (Int32.toNatClampNeg (a4 + (1 : Int32)))) rz wz hz) (fun i161 w162 => ?_)
  exact s_K_law_1809 hL a4 i161 w162
noncomputable def K_law_1907 (xs : Nat → Int32) (L : Nat) (a4 : Int32) (w : Wld) : Option ((Int32 × Wld) ⊕ Wld) :=
  bi (a4 + 6) (fun i172 => some (.inl (i172, w)))
set_option maxRecDepth 10000 in
theorem s_K_law_1907 {Z : ZT} {l : Launch} {wo : Wld} {Ok OkN : Cfg → Prop} {xs : Nat → Int32} {L : Nat} (hL : CtxL Z l xs L wo Ok OkN) (a4 : Int32) (w : Wld) : SimK OkN (1907, [(0, vS 998), (1, vR 42), (2, vR 0), (3, vR 41), (4, vI a4)], [], w) (K_law_1907 xs L a4 w) (GLp OkN V_law (GEp OkN E_law)) := by
  unfold K_law_1907
  have hC := hL.2.2.2.1
  have hS := hL.2.2.2.2.1
  refine sim_goto hC 388 2295 (by decide +kernel) (by decide) ?_
  refine sim_blk0 hC [(.iinc 4 6, 0, 0, 0, 6)] [(0, vS 998), (1, vR 42), (2, vR 0), (3, vR 41), (4, vI (a4 + 6))] [] w 2298 (by decide +kernel) rfl rfl ?_
  refine sim_bi (C := fun i172 => (2298, [(0, vS 998), (1, vR 42), (2, vR 0), (3, vR 41), (4, vI i172)], [], w)) (fun i172 => ?_)
  refine sim_goto hC (-2275) 23 (by decide +kernel) (by decide) ?_
  exact sim_back (V := V_law) (i172, w)
noncomputable def K_law_1865 (xs : Nat → Int32) (L : Nat) (a4 : Int32) (t0 : Int32) (w : Wld) : Option ((Int32 × Wld) ⊕ Wld) :=
  gd (vp_in (a4 + (1 : Int32)) L) (bd (F_M_spread w (xs (Int32.toNatClampNeg (a4 + (1 : Int32))))) (fun i169 w170 => bp (F_M_thrown w170) (fun i171 => br (i171 = t0) (br (¬ t0 = 0) (K_law_1907 xs L a4 w170) (gd (vp_in 0 1) (br ((lg_cmp (Int32.toInt64 (w170 41 (Int32.toNatClampNeg 0))) (Int32.toInt64 i169)) = 0) (K_law_1907 xs L a4 w170) (none)))) (none))))
set_option maxRecDepth 10000 in
theorem s_K_law_1865 {Z : ZT} {l : Launch} {wo : Wld} {Ok OkN : Cfg → Prop} {xs : Nat → Int32} {L : Nat} (hL : CtxL Z l xs L wo Ok OkN) (a4 : Int32) (t0 : Int32) (w : Wld) : SimK OkN (1865, [(0, vS 998), (1, vR 42), (2, vR 0), (3, vR 41), (4, vI a4)], [vI t0], w) (K_law_1865 xs L a4 t0 w) (GLp OkN V_law (GEp OkN E_law)) := by
  unfold K_law_1865
  have hC := hL.2.2.2.1
  have hS := hL.2.2.2.2.1
  refine sim_blk0 hC [(.istore 5, 0, 0, 0, 0), (.aload_n 2, 0, 0, 0, 0), (.aload_n 0, 0, 0, 0, 0), (.iload 4, 0, 0, 0, 0), (.iconst 1, 0, 0, 0, 1), (.iadd, 0, 0, 0, 0)] [(0, vS 998), (1, vR 42), (2, vR 0), (3, vR 41), (4, vI a4), (5, vI t0)] [vI (a4 + (1 : Int32)), vS 998, vR 0] w 1873 (by decide +kernel) rfl rfl ?_
  refine sim_sld hS (by decide +kernel) ?_
  refine sim_vd hC 211 mX11_spread 7 133 0 [vI (xs (Int32.toNatClampNeg (a4 + (1 : Int32))))] [] (by decide +kernel) ml_14_211 rfl rfl rfl rfl rfl rfl (fun rz wz hz => c_M_spread w (xs (Int32.toNatClampNeg (a4 + (1 : Int32)))) rz wz hz) (fun i169 w170 => ?_)
  refine sim_blk0 hC [(.istore 6, 0, 0, 0, 0), (.aload_n 2, 0, 0, 0, 0)] [(0, vS 998), (1, vR 42), (2, vR 0), (3, vR 41), (4, vI a4), (5, vI t0), (6, vI i169)] [vR 0] w170 1880 (by decide +kernel) rfl rfl ?_
  refine sim_vp hC 114 mX11_thrown 1 0 0 [] [] (by decide +kernel) ml_14_114 rfl rfl rfl rfl rfl rfl (fun rz hz => c_M_thrown w170 rz hz) (fun i171 => ?_)
  refine sim_blk0 hC [(.iload 5, 0, 0, 0, 0)] [(0, vS 998), (1, vR 42), (2, vR 0), (3, vR 41), (4, vI a4), (5, vI t0), (6, vI i169)] [vI t0, vI i171] w170 1885 (by decide +kernel) rfl rfl ?_
  refine sim_br hC (.if_icmp .eq 5) 1890 (by decide +kernel) rfl (by decide) ?_ ?_
  · refine sim_blk0 hC [(.iload 5, 0, 0, 0, 0)] [(0, vS 998), (1, vR 42), (2, vR 0), (3, vR 41), (4, vI a4), (5, vI t0), (6, vI i169)] [vI t0] w170 1892 (by decide +kernel) rfl rfl ?_
    refine sim_br hC (.ifCond .ne 15) 1907 (by decide +kernel) rfl (by decide) ?_ ?_
    · refine sim_sub hC [0, 1, 2, 3, 4] ?_
      exact s_K_law_1907 hL a4 w170
    · refine sim_blk1 hC [(.aload_n 3, 0, 0, 0, 0), (.iconst 0, 0, 0, 0, 0), (.laload, 41, 1, 3, 0), (.iload 6, 0, 0, 0, 0), (.i2l, 0, 0, 0, 0), (.lcmp, 0, 0, 0, 0)] [(0, vS 998), (1, vR 42), (2, vR 0), (3, vR 41), (4, vI a4), (5, vI t0), (6, vI i169)] [vI (lg_cmp (Int32.toInt64 (w170 41 (Int32.toNatClampNeg 0))) (Int32.toInt64 i169))] w170 1902 (by decide +kernel) rfl rfl ?_
      refine sim_br hC (.ifCond .eq 5) 1907 (by decide +kernel) rfl (by decide) ?_ ?_
      · refine sim_sub hC [0, 1, 2, 3, 4] ?_
        exact s_K_law_1907 hL a4 w170
      · exact sim_none
  · exact sim_none
noncomputable def Lc_29 (xs : Nat → Int32) (L : Nat) (a4 : Int32) (w : Wld) : Option ((Int32 × Wld) ⊕ Wld) :=
  gd (vp_in (a4 + (1 : Int32)) L) (bd (H_spread w (xs (Int32.toNatClampNeg (a4 + (1 : Int32))))) (fun i167 w168 => K_law_1865 xs L a4 i167 w168))
set_option maxRecDepth 10000 in
theorem s_Lc_29 {Z : ZT} {l : Launch} {wo : Wld} {Ok OkN : Cfg → Prop} {xs : Nat → Int32} {L : Nat} (hL : CtxL Z l xs L wo Ok OkN) (a4 : Int32) (w : Wld) : SimK Ok (1854, [(0, vS 998), (1, vR 42), (2, vR 0), (3, vR 41), (4, vI a4)], [], w) (Lc_29 xs L a4 w) (GLp OkN V_law (GEp OkN E_law)) := by
  unfold Lc_29
  have hC := hL.1
  have hS := hL.2.1
  have hH := hL.2.2.1
  have hN := hL.2.2.2.2.2
  refine sim_blk0 hC [(.aload_n 1, 0, 0, 0, 0), (.aload_n 0, 0, 0, 0, 0), (.iload 4, 0, 0, 0, 0), (.iconst 1, 0, 0, 0, 1), (.iadd, 0, 0, 0, 0)] [(0, vS 998), (1, vR 42), (2, vR 0), (3, vR 41), (4, vI a4)] [vI (a4 + (1 : Int32)), vS 998, vR 42] w 1860 (by decide +kernel) rfl rfl ?_
  refine sim_sld hS (by decide +kernel) ?_
  refine sim_blk0 hC [(.aload_n 3, 0, 0, 0, 0)] [(0, vS 998), (1, vR 42), (2, vR 0), (3, vR 41), (4, vI a4)] [vR 41, vI (xs (Int32.toNatClampNeg (a4 + (1 : Int32)))), vR 42] w 1862 (by decide +kernel) rfl rfl ?_
  refine sim_help hH 209 hL_spread 8 159 [vR 42, vI (xs (Int32.toNatClampNeg (a4 + (1 : Int32)))), vR 41] [] (by decide +kernel) hm_spread rfl rfl rfl rfl rfl rfl (fun rz wz hz => h_spread w (xs (Int32.toNatClampNeg (a4 + (1 : Int32)))) rz wz hz) (fun i167 w168 => ?_)
  exact s_K_law_1865 hL a4 i167 w168
noncomputable def Lc_30 (xs : Nat → Int32) (L : Nat) (a4 : Int32) (w : Wld) : Option ((Int32 × Wld) ⊕ Wld) :=
  bd (F_C_silent w) (fun i173 w174 => bd (F_M_silent w174) (fun i175 w176 => br (i173 = i175) (bi (a4 + 6) (fun i177 => some (.inl (i177, w176)))) (none)))
set_option maxRecDepth 10000 in
theorem s_Lc_30 {Z : ZT} {l : Launch} {wo : Wld} {Ok OkN : Cfg → Prop} {xs : Nat → Int32} {L : Nat} (hL : CtxL Z l xs L wo Ok OkN) (a4 : Int32) (w : Wld) : SimK Ok (1910, [(0, vS 998), (1, vR 42), (2, vR 0), (3, vR 41), (4, vI a4)], [], w) (Lc_30 xs L a4 w) (GLp OkN V_law (GEp OkN E_law)) := by
  unfold Lc_30
  have hC := hL.1
  have hS := hL.2.1
  have hH := hL.2.2.1
  have hN := hL.2.2.2.2.2
  refine sim_blk0 hC [(.aload_n 1, 0, 0, 0, 0)] [(0, vS 998), (1, vR 42), (2, vR 0), (3, vR 41), (4, vI a4)] [vR 42] w 1911 (by decide +kernel) rfl rfl ?_
  refine sim_vd hC 212 mX10_silent 5 101 42 [] [] (by decide +kernel) ml_14_212 rfl rfl rfl rfl rfl rfl (fun rz wz hz => c_C_silent w rz wz hz) (fun i173 w174 => ?_)
  refine sim_blk0 hC [(.aload_n 2, 0, 0, 0, 0)] [(0, vS 998), (1, vR 42), (2, vR 0), (3, vR 41), (4, vI a4)] [vR 0, vI i173] w174 1915 (by decide +kernel) rfl rfl ?_
  refine sim_vd hC 215 mX11_silent 6 111 0 [] [vI i173] (by decide +kernel) ml_14_215 rfl rfl rfl rfl rfl rfl (fun rz wz hz => c_M_silent w174 rz wz hz) (fun i175 w176 => ?_)
  refine sim_br hC (.if_icmp .eq 377) 2295 (by decide +kernel) rfl (by decide) ?_ ?_
  · refine sim_blk0 hC [(.iinc 4 6, 0, 0, 0, 6)] [(0, vS 998), (1, vR 42), (2, vR 0), (3, vR 41), (4, vI (a4 + 6))] [] w176 2298 (by decide +kernel) rfl rfl ?_
    refine sim_bi (C := fun i177 => (2298, [(0, vS 998), (1, vR 42), (2, vR 0), (3, vR 41), (4, vI i177)], [], w176)) (fun i177 => ?_)
    refine sim_goto hC (-2275) 23 (by decide +kernel) (by decide) ?_
    exact sim_backN (V := V_law) hN (i177, w176)
  · exact sim_none
noncomputable def K_law_1980 (xs : Nat → Int32) (L : Nat) (a4 : Int32) (t0 : Int32) (t2 : Int32) (t3 : Int32) (t4 : Int32) (w : Wld) : Option ((Int32 × Wld) ⊕ Wld) :=
  bd (F_M_hear w t2 t3 t4) (fun i180 w181 => br (t0 = i180) (bi (a4 + 6) (fun i182 => some (.inl (i182, w181)))) (none))
set_option maxRecDepth 10000 in
theorem s_K_law_1980 {Z : ZT} {l : Launch} {wo : Wld} {Ok OkN : Cfg → Prop} {xs : Nat → Int32} {L : Nat} (hL : CtxL Z l xs L wo Ok OkN) (a4 : Int32) (t0 : Int32) (t2 : Int32) (t3 : Int32) (t4 : Int32) (w : Wld) : SimK Ok (1980, [(0, vS 998), (1, vR 42), (2, vR 0), (3, vR 41), (4, vI a4)], [vI t4, vI t3, vI t2, vR 0, vI t0], w) (K_law_1980 xs L a4 t0 t2 t3 t4 w) (GLp OkN V_law (GEp OkN E_law)) := by
  unfold K_law_1980
  have hC := hL.1
  have hS := hL.2.1
  have hH := hL.2.2.1
  have hN := hL.2.2.2.2.2
  refine sim_vd hC 220 mX11_hear 2 25 0 [vI t2, vI t3, vI t4] [vI t0] (by decide +kernel) ml_14_220 rfl rfl rfl rfl rfl rfl (fun rz wz hz => c_M_hear w t2 t3 t4 rz wz hz) (fun i180 w181 => ?_)
  refine sim_br hC (.if_icmp .eq 312) 2295 (by decide +kernel) rfl (by decide) ?_ ?_
  · refine sim_blk0 hC [(.iinc 4 6, 0, 0, 0, 6)] [(0, vS 998), (1, vR 42), (2, vR 0), (3, vR 41), (4, vI (a4 + 6))] [] w181 2298 (by decide +kernel) rfl rfl ?_
    refine sim_bi (C := fun i182 => (2298, [(0, vS 998), (1, vR 42), (2, vR 0), (3, vR 41), (4, vI i182)], [], w181)) (fun i182 => ?_)
    refine sim_goto hC (-2275) 23 (by decide +kernel) (by decide) ?_
    exact sim_backN (V := V_law) hN (i182, w181)
  · exact sim_none
noncomputable def K_law_1950 (xs : Nat → Int32) (L : Nat) (a4 : Int32) (t1 : Int32) (t2 : Int32) (t3 : Int32) (w : Wld) : Option ((Int32 × Wld) ⊕ Wld) :=
  bd (F_C_hear w t1 t2 t3) (fun i178 w179 => gd (vp_in (a4 + (1 : Int32)) L) (gd (vp_in (a4 + (2 : Int32)) L) (gd (vp_in (a4 + (3 : Int32)) L) (br ((xs (Int32.toNatClampNeg (a4 + (3 : Int32)))) = 0) (K_law_1980 xs L a4 i178 (xs (Int32.toNatClampNeg (a4 + (1 : Int32)))) (xs (Int32.toNatClampNeg (a4 + (2 : Int32)))) 0 w179) (K_law_1980 xs L a4 i178 (xs (Int32.toNatClampNeg (a4 + (1 : Int32)))) (xs (Int32.toNatClampNeg (a4 + (2 : Int32)))) 1 w179)))))
set_option maxRecDepth 10000 in
theorem s_K_law_1950 {Z : ZT} {l : Launch} {wo : Wld} {Ok OkN : Cfg → Prop} {xs : Nat → Int32} {L : Nat} (hL : CtxL Z l xs L wo Ok OkN) (a4 : Int32) (t1 : Int32) (t2 : Int32) (t3 : Int32) (w : Wld) : SimK Ok (1950, [(0, vS 998), (1, vR 42), (2, vR 0), (3, vR 41), (4, vI a4)], [vI t3, vI t2, vI t1, vR 42], w) (K_law_1950 xs L a4 t1 t2 t3 w) (GLp OkN V_law (GEp OkN E_law)) := by
  unfold K_law_1950
  have hC := hL.1
  have hS := hL.2.1
  have hH := hL.2.2.1
  have hN := hL.2.2.2.2.2
  refine sim_vd hC 216 mX10_hear 2 23 42 [vI t1, vI t2, vI t3] [] (by decide +kernel) ml_14_216 rfl rfl rfl rfl rfl rfl (fun rz wz hz => c_C_hear w t1 t2 t3 rz wz hz) (fun i178 w179 => ?_)
  refine sim_blk0 hC [(.aload_n 2, 0, 0, 0, 0), (.aload_n 0, 0, 0, 0, 0), (.iload 4, 0, 0, 0, 0), (.iconst 1, 0, 0, 0, 1), (.iadd, 0, 0, 0, 0)] [(0, vS 998), (1, vR 42), (2, vR 0), (3, vR 41), (4, vI a4)] [vI (a4 + (1 : Int32)), vS 998, vR 0, vI i178] w179 1959 (by decide +kernel) rfl rfl ?_
  refine sim_sld hS (by decide +kernel) ?_
  refine sim_blk0 hC [(.aload_n 0, 0, 0, 0, 0), (.iload 4, 0, 0, 0, 0), (.iconst 2, 0, 0, 0, 2), (.iadd, 0, 0, 0, 0)] [(0, vS 998), (1, vR 42), (2, vR 0), (3, vR 41), (4, vI a4)] [vI (a4 + (2 : Int32)), vS 998, vI (xs (Int32.toNatClampNeg (a4 + (1 : Int32)))), vR 0, vI i178] w179 1965 (by decide +kernel) rfl rfl ?_
  refine sim_sld hS (by decide +kernel) ?_
  refine sim_blk0 hC [(.aload_n 0, 0, 0, 0, 0), (.iload 4, 0, 0, 0, 0), (.iconst 3, 0, 0, 0, 3), (.iadd, 0, 0, 0, 0)] [(0, vS 998), (1, vR 42), (2, vR 0), (3, vR 41), (4, vI a4)] [vI (a4 + (3 : Int32)), vS 998, vI (xs (Int32.toNatClampNeg (a4 + (2 : Int32)))), vI (xs (Int32.toNatClampNeg (a4 + (1 : Int32)))), vR 0, vI i178] w179 1971 (by decide +kernel) rfl rfl ?_
  refine sim_sld hS (by decide +kernel) ?_
  refine sim_br hC (.ifCond .eq 7) 1979 (by decide +kernel) rfl (by decide) ?_ ?_
  · refine sim_blk0 hC [(.iconst 0, 0, 0, 0, 0)] [(0, vS 998), (1, vR 42), (2, vR 0), (3, vR 41), (4, vI a4)] [vI 0, vI (xs (Int32.toNatClampNeg (a4 + (2 : Int32)))), vI (xs (Int32.toNatClampNeg (a4 + (1 : Int32)))), vR 0, vI i178] w179 1980 (by decide +kernel) rfl rfl ?_
    exact s_K_law_1980 hL a4 i178 (xs (Int32.toNatClampNeg (a4 + (1 : Int32)))) (xs (Int32.toNatClampNeg (a4 + (2 : Int32)))) 0 w179
  · refine sim_blk0 hC [(.iconst 1, 0, 0, 0, 1)] [(0, vS 998), (1, vR 42), (2, vR 0), (3, vR 41), (4, vI a4)] [vI 1, vI (xs (Int32.toNatClampNeg (a4 + (2 : Int32)))), vI (xs (Int32.toNatClampNeg (a4 + (1 : Int32)))), vR 0, vI i178] w179 1976 (by decide +kernel) rfl rfl ?_
    refine sim_goto hC 4 1980 (by decide +kernel) (by decide) ?_
    exact s_K_law_1980 hL a4 i178 (xs (Int32.toNatClampNeg (a4 + (1 : Int32)))) (xs (Int32.toNatClampNeg (a4 + (2 : Int32)))) 1 w179
noncomputable def Lc_31 (xs : Nat → Int32) (L : Nat) (a4 : Int32) (w : Wld) : Option ((Int32 × Wld) ⊕ Wld) :=
  gd (vp_in (a4 + (1 : Int32)) L) (gd (vp_in (a4 + (2 : Int32)) L) (gd (vp_in (a4 + (3 : Int32)) L) (br ((xs (Int32.toNatClampNeg (a4 + (3 : Int32)))) = 0) (K_law_1950 xs L a4 (xs (Int32.toNatClampNeg (a4 + (1 : Int32)))) (xs (Int32.toNatClampNeg (a4 + (2 : Int32)))) 0 w) (K_law_1950 xs L a4 (xs (Int32.toNatClampNeg (a4 + (1 : Int32)))) (xs (Int32.toNatClampNeg (a4 + (2 : Int32)))) 1 w))))
set_option maxRecDepth 10000 in
theorem s_Lc_31 {Z : ZT} {l : Launch} {wo : Wld} {Ok OkN : Cfg → Prop} {xs : Nat → Int32} {L : Nat} (hL : CtxL Z l xs L wo Ok OkN) (a4 : Int32) (w : Wld) : SimK Ok (1923, [(0, vS 998), (1, vR 42), (2, vR 0), (3, vR 41), (4, vI a4)], [], w) (Lc_31 xs L a4 w) (GLp OkN V_law (GEp OkN E_law)) := by
  unfold Lc_31
  have hC := hL.1
  have hS := hL.2.1
  have hH := hL.2.2.1
  have hN := hL.2.2.2.2.2
  refine sim_blk0 hC [(.aload_n 1, 0, 0, 0, 0), (.aload_n 0, 0, 0, 0, 0), (.iload 4, 0, 0, 0, 0), (.iconst 1, 0, 0, 0, 1), (.iadd, 0, 0, 0, 0)] [(0, vS 998), (1, vR 42), (2, vR 0), (3, vR 41), (4, vI a4)] [vI (a4 + (1 : Int32)), vS 998, vR 42] w 1929 (by decide +kernel) rfl rfl ?_
  refine sim_sld hS (by decide +kernel) ?_
  refine sim_blk0 hC [(.aload_n 0, 0, 0, 0, 0), (.iload 4, 0, 0, 0, 0), (.iconst 2, 0, 0, 0, 2), (.iadd, 0, 0, 0, 0)] [(0, vS 998), (1, vR 42), (2, vR 0), (3, vR 41), (4, vI a4)] [vI (a4 + (2 : Int32)), vS 998, vI (xs (Int32.toNatClampNeg (a4 + (1 : Int32)))), vR 42] w 1935 (by decide +kernel) rfl rfl ?_
  refine sim_sld hS (by decide +kernel) ?_
  refine sim_blk0 hC [(.aload_n 0, 0, 0, 0, 0), (.iload 4, 0, 0, 0, 0), (.iconst 3, 0, 0, 0, 3), (.iadd, 0, 0, 0, 0)] [(0, vS 998), (1, vR 42), (2, vR 0), (3, vR 41), (4, vI a4)] [vI (a4 + (3 : Int32)), vS 998, vI (xs (Int32.toNatClampNeg (a4 + (2 : Int32)))), vI (xs (Int32.toNatClampNeg (a4 + (1 : Int32)))), vR 42] w 1941 (by decide +kernel) rfl rfl ?_
  refine sim_sld hS (by decide +kernel) ?_
  refine sim_br hC (.ifCond .eq 7) 1949 (by decide +kernel) rfl (by decide) ?_ ?_
  · refine sim_blk0 hC [(.iconst 0, 0, 0, 0, 0)] [(0, vS 998), (1, vR 42), (2, vR 0), (3, vR 41), (4, vI a4)] [vI 0, vI (xs (Int32.toNatClampNeg (a4 + (2 : Int32)))), vI (xs (Int32.toNatClampNeg (a4 + (1 : Int32)))), vR 42] w 1950 (by decide +kernel) rfl rfl ?_
    exact s_K_law_1950 hL a4 (xs (Int32.toNatClampNeg (a4 + (1 : Int32)))) (xs (Int32.toNatClampNeg (a4 + (2 : Int32)))) 0 w
  · refine sim_blk0 hC [(.iconst 1, 0, 0, 0, 1)] [(0, vS 998), (1, vR 42), (2, vR 0), (3, vR 41), (4, vI a4)] [vI 1, vI (xs (Int32.toNatClampNeg (a4 + (2 : Int32)))), vI (xs (Int32.toNatClampNeg (a4 + (1 : Int32)))), vR 42] w 1946 (by decide +kernel) rfl rfl ?_
    refine sim_goto hC 4 1950 (by decide +kernel) (by decide) ?_
    exact s_K_law_1950 hL a4 (xs (Int32.toNatClampNeg (a4 + (1 : Int32)))) (xs (Int32.toNatClampNeg (a4 + (2 : Int32)))) 1 w
noncomputable def K_law_2041 (xs : Nat → Int32) (L : Nat) (a4 : Int32) (w : Wld) : Option ((Int32 × Wld) ⊕ Wld) :=
  bi (a4 + 6) (fun i188 => some (.inl (i188, w)))
set_option maxRecDepth 10000 in
theorem s_K_law_2041 {Z : ZT} {l : Launch} {wo : Wld} {Ok OkN : Cfg → Prop} {xs : Nat → Int32} {L : Nat} (hL : CtxL Z l xs L wo Ok OkN) (a4 : Int32) (w : Wld) : SimK OkN (2041, [(0, vS 998), (1, vR 42), (2, vR 0), (3, vR 41), (4, vI a4)], [], w) (K_law_2041 xs L a4 w) (GLp OkN V_law (GEp OkN E_law)) := by
  unfold K_law_2041
  have hC := hL.2.2.2.1
  have hS := hL.2.2.2.2.1
  refine sim_goto hC 254 2295 (by decide +kernel) (by decide) ?_
  refine sim_blk0 hC [(.iinc 4 6, 0, 0, 0, 6)] [(0, vS 998), (1, vR 42), (2, vR 0), (3, vR 41), (4, vI (a4 + 6))] [] w 2298 (by decide +kernel) rfl rfl ?_
  refine sim_bi (C := fun i188 => (2298, [(0, vS 998), (1, vR 42), (2, vR 0), (3, vR 41), (4, vI i188)], [], w)) (fun i188 => ?_)
  refine sim_goto hC (-2275) 23 (by decide +kernel) (by decide) ?_
  exact sim_back (V := V_law) (i188, w)
noncomputable def K_law_1999 (xs : Nat → Int32) (L : Nat) (a4 : Int32) (t0 : Int32) (w : Wld) : Option ((Int32 × Wld) ⊕ Wld) :=
  gd (vp_in (a4 + (1 : Int32)) L) (bd (F_M_eaten w (xs (Int32.toNatClampNeg (a4 + (1 : Int32))))) (fun i185 w186 => bp (F_M_thrown w186) (fun i187 => br (i187 = t0) (br (¬ t0 = 0) (K_law_2041 xs L a4 w186) (gd (vp_in 0 1) (br ((lg_cmp (Int32.toInt64 (w186 41 (Int32.toNatClampNeg 0))) (Int32.toInt64 i185)) = 0) (K_law_2041 xs L a4 w186) (none)))) (none))))
set_option maxRecDepth 10000 in
theorem s_K_law_1999 {Z : ZT} {l : Launch} {wo : Wld} {Ok OkN : Cfg → Prop} {xs : Nat → Int32} {L : Nat} (hL : CtxL Z l xs L wo Ok OkN) (a4 : Int32) (t0 : Int32) (w : Wld) : SimK OkN (1999, [(0, vS 998), (1, vR 42), (2, vR 0), (3, vR 41), (4, vI a4)], [vI t0], w) (K_law_1999 xs L a4 t0 w) (GLp OkN V_law (GEp OkN E_law)) := by
  unfold K_law_1999
  have hC := hL.2.2.2.1
  have hS := hL.2.2.2.2.1
  refine sim_blk0 hC [(.istore 5, 0, 0, 0, 0), (.aload_n 2, 0, 0, 0, 0), (.aload_n 0, 0, 0, 0, 0), (.iload 4, 0, 0, 0, 0), (.iconst 1, 0, 0, 0, 1), (.iadd, 0, 0, 0, 0)] [(0, vS 998), (1, vR 42), (2, vR 0), (3, vR 41), (4, vI a4), (5, vI t0)] [vI (a4 + (1 : Int32)), vS 998, vR 0] w 2007 (by decide +kernel) rfl rfl ?_
  refine sim_sld hS (by decide +kernel) ?_
  refine sim_vd hC 223 mX11_eaten 8 157 0 [vI (xs (Int32.toNatClampNeg (a4 + (1 : Int32))))] [] (by decide +kernel) ml_14_223 rfl rfl rfl rfl rfl rfl (fun rz wz hz => c_M_eaten w (xs (Int32.toNatClampNeg (a4 + (1 : Int32)))) rz wz hz) (fun i185 w186 => ?_)
  refine sim_blk0 hC [(.istore 6, 0, 0, 0, 0), (.aload_n 2, 0, 0, 0, 0)] [(0, vS 998), (1, vR 42), (2, vR 0), (3, vR 41), (4, vI a4), (5, vI t0), (6, vI i185)] [vR 0] w186 2014 (by decide +kernel) rfl rfl ?_
  refine sim_vp hC 114 mX11_thrown 1 0 0 [] [] (by decide +kernel) ml_14_114 rfl rfl rfl rfl rfl rfl (fun rz hz => c_M_thrown w186 rz hz) (fun i187 => ?_)
  refine sim_blk0 hC [(.iload 5, 0, 0, 0, 0)] [(0, vS 998), (1, vR 42), (2, vR 0), (3, vR 41), (4, vI a4), (5, vI t0), (6, vI i185)] [vI t0, vI i187] w186 2019 (by decide +kernel) rfl rfl ?_
  refine sim_br hC (.if_icmp .eq 5) 2024 (by decide +kernel) rfl (by decide) ?_ ?_
  · refine sim_blk0 hC [(.iload 5, 0, 0, 0, 0)] [(0, vS 998), (1, vR 42), (2, vR 0), (3, vR 41), (4, vI a4), (5, vI t0), (6, vI i185)] [vI t0] w186 2026 (by decide +kernel) rfl rfl ?_
    refine sim_br hC (.ifCond .ne 15) 2041 (by decide +kernel) rfl (by decide) ?_ ?_
    · refine sim_sub hC [0, 1, 2, 3, 4] ?_
      exact s_K_law_2041 hL a4 w186
    · refine sim_blk1 hC [(.aload_n 3, 0, 0, 0, 0), (.iconst 0, 0, 0, 0, 0), (.laload, 41, 1, 3, 0), (.iload 6, 0, 0, 0, 0), (.i2l, 0, 0, 0, 0), (.lcmp, 0, 0, 0, 0)] [(0, vS 998), (1, vR 42), (2, vR 0), (3, vR 41), (4, vI a4), (5, vI t0), (6, vI i185)] [vI (lg_cmp (Int32.toInt64 (w186 41 (Int32.toNatClampNeg 0))) (Int32.toInt64 i185))] w186 2036 (by decide +kernel) rfl rfl ?_
      refine sim_br hC (.ifCond .eq 5) 2041 (by decide +kernel) rfl (by decide) ?_ ?_
      · refine sim_sub hC [0, 1, 2, 3, 4] ?_
        exact s_K_law_2041 hL a4 w186
      · exact sim_none
  · exact sim_none
noncomputable def Lc_32 (xs : Nat → Int32) (L : Nat) (a4 : Int32) (w : Wld) : Option ((Int32 × Wld) ⊕ Wld) :=
  gd (vp_in (a4 + (1 : Int32)) L) (bd (H_eaten w (xs (Int32.toNatClampNeg (a4 + (1 : Int32))))) (fun i183 w184 => K_law_1999 xs L a4 i183 w184))
set_option maxRecDepth 10000 in
theorem s_Lc_32 {Z : ZT} {l : Launch} {wo : Wld} {Ok OkN : Cfg → Prop} {xs : Nat → Int32} {L : Nat} (hL : CtxL Z l xs L wo Ok OkN) (a4 : Int32) (w : Wld) : SimK Ok (1988, [(0, vS 998), (1, vR 42), (2, vR 0), (3, vR 41), (4, vI a4)], [], w) (Lc_32 xs L a4 w) (GLp OkN V_law (GEp OkN E_law)) := by
  unfold Lc_32
  have hC := hL.1
  have hS := hL.2.1
  have hH := hL.2.2.1
  have hN := hL.2.2.2.2.2
  refine sim_blk0 hC [(.aload_n 1, 0, 0, 0, 0), (.aload_n 0, 0, 0, 0, 0), (.iload 4, 0, 0, 0, 0), (.iconst 1, 0, 0, 0, 1), (.iadd, 0, 0, 0, 0)] [(0, vS 998), (1, vR 42), (2, vR 0), (3, vR 41), (4, vI a4)] [vI (a4 + (1 : Int32)), vS 998, vR 42] w 1994 (by decide +kernel) rfl rfl ?_
  refine sim_sld hS (by decide +kernel) ?_
  refine sim_blk0 hC [(.aload_n 3, 0, 0, 0, 0)] [(0, vS 998), (1, vR 42), (2, vR 0), (3, vR 41), (4, vI a4)] [vR 41, vI (xs (Int32.toNatClampNeg (a4 + (1 : Int32)))), vR 42] w 1996 (by decide +kernel) rfl rfl ?_
  refine sim_help hH 221 hL_eaten 8 162 [vR 42, vI (xs (Int32.toNatClampNeg (a4 + (1 : Int32)))), vR 41] [] (by decide +kernel) hm_eaten rfl rfl rfl rfl rfl rfl (fun rz wz hz => h_eaten w (xs (Int32.toNatClampNeg (a4 + (1 : Int32)))) rz wz hz) (fun i183 w184 => ?_)
  exact s_K_law_1999 hL a4 i183 w184
noncomputable def K_law_2097 (xs : Nat → Int32) (L : Nat) (a4 : Int32) (w : Wld) : Option ((Int32 × Wld) ⊕ Wld) :=
  bi (a4 + 6) (fun i194 => some (.inl (i194, w)))
set_option maxRecDepth 10000 in
theorem s_K_law_2097 {Z : ZT} {l : Launch} {wo : Wld} {Ok OkN : Cfg → Prop} {xs : Nat → Int32} {L : Nat} (hL : CtxL Z l xs L wo Ok OkN) (a4 : Int32) (w : Wld) : SimK OkN (2097, [(0, vS 998), (1, vR 42), (2, vR 0), (3, vR 41), (4, vI a4)], [], w) (K_law_2097 xs L a4 w) (GLp OkN V_law (GEp OkN E_law)) := by
  unfold K_law_2097
  have hC := hL.2.2.2.1
  have hS := hL.2.2.2.2.1
  refine sim_goto hC 198 2295 (by decide +kernel) (by decide) ?_
  refine sim_blk0 hC [(.iinc 4 6, 0, 0, 0, 6)] [(0, vS 998), (1, vR 42), (2, vR 0), (3, vR 41), (4, vI (a4 + 6))] [] w 2298 (by decide +kernel) rfl rfl ?_
  refine sim_bi (C := fun i194 => (2298, [(0, vS 998), (1, vR 42), (2, vR 0), (3, vR 41), (4, vI i194)], [], w)) (fun i194 => ?_)
  refine sim_goto hC (-2275) 23 (by decide +kernel) (by decide) ?_
  exact sim_back (V := V_law) (i194, w)
noncomputable def K_law_2055 (xs : Nat → Int32) (L : Nat) (a4 : Int32) (t0 : Int32) (w : Wld) : Option ((Int32 × Wld) ⊕ Wld) :=
  gd (vp_in (a4 + (1 : Int32)) L) (bd (F_M_listen w (xs (Int32.toNatClampNeg (a4 + (1 : Int32))))) (fun i191 w192 => bp (F_M_thrown w192) (fun i193 => br (i193 = t0) (br (¬ t0 = 0) (K_law_2097 xs L a4 w192) (gd (vp_in 0 1) (br ((lg_cmp (Int32.toInt64 (w192 41 (Int32.toNatClampNeg 0))) (Int32.toInt64 i191)) = 0) (K_law_2097 xs L a4 w192) (none)))) (none))))
set_option maxRecDepth 10000 in
theorem s_K_law_2055 {Z : ZT} {l : Launch} {wo : Wld} {Ok OkN : Cfg → Prop} {xs : Nat → Int32} {L : Nat} (hL : CtxL Z l xs L wo Ok OkN) (a4 : Int32) (t0 : Int32) (w : Wld) : SimK OkN (2055, [(0, vS 998), (1, vR 42), (2, vR 0), (3, vR 41), (4, vI a4)], [vI t0], w) (K_law_2055 xs L a4 t0 w) (GLp OkN V_law (GEp OkN E_law)) := by
  unfold K_law_2055
  have hC := hL.2.2.2.1
  have hS := hL.2.2.2.2.1
  refine sim_blk0 hC [(.istore 5, 0, 0, 0, 0), (.aload_n 2, 0, 0, 0, 0), (.aload_n 0, 0, 0, 0, 0), (.iload 4, 0, 0, 0, 0), (.iconst 1, 0, 0, 0, 1), (.iadd, 0, 0, 0, 0)] [(0, vS 998), (1, vR 42), (2, vR 0), (3, vR 41), (4, vI a4), (5, vI t0)] [vI (a4 + (1 : Int32)), vS 998, vR 0] w 2063 (by decide +kernel) rfl rfl ?_
  refine sim_sld hS (by decide +kernel) ?_
  refine sim_vd hC 226 mX11_listen 8 157 0 [vI (xs (Int32.toNatClampNeg (a4 + (1 : Int32))))] [] (by decide +kernel) ml_14_226 rfl rfl rfl rfl rfl rfl (fun rz wz hz => c_M_listen w (xs (Int32.toNatClampNeg (a4 + (1 : Int32)))) rz wz hz) (fun i191 w192 => ?_)
  refine sim_blk0 hC [(.istore 6, 0, 0, 0, 0), (.aload_n 2, 0, 0, 0, 0)] [(0, vS 998), (1, vR 42), (2, vR 0), (3, vR 41), (4, vI a4), (5, vI t0), (6, vI i191)] [vR 0] w192 2070 (by decide +kernel) rfl rfl ?_
  refine sim_vp hC 114 mX11_thrown 1 0 0 [] [] (by decide +kernel) ml_14_114 rfl rfl rfl rfl rfl rfl (fun rz hz => c_M_thrown w192 rz hz) (fun i193 => ?_)
  refine sim_blk0 hC [(.iload 5, 0, 0, 0, 0)] [(0, vS 998), (1, vR 42), (2, vR 0), (3, vR 41), (4, vI a4), (5, vI t0), (6, vI i191)] [vI t0, vI i193] w192 2075 (by decide +kernel) rfl rfl ?_
  refine sim_br hC (.if_icmp .eq 5) 2080 (by decide +kernel) rfl (by decide) ?_ ?_
  · refine sim_blk0 hC [(.iload 5, 0, 0, 0, 0)] [(0, vS 998), (1, vR 42), (2, vR 0), (3, vR 41), (4, vI a4), (5, vI t0), (6, vI i191)] [vI t0] w192 2082 (by decide +kernel) rfl rfl ?_
    refine sim_br hC (.ifCond .ne 15) 2097 (by decide +kernel) rfl (by decide) ?_ ?_
    · refine sim_sub hC [0, 1, 2, 3, 4] ?_
      exact s_K_law_2097 hL a4 w192
    · refine sim_blk1 hC [(.aload_n 3, 0, 0, 0, 0), (.iconst 0, 0, 0, 0, 0), (.laload, 41, 1, 3, 0), (.iload 6, 0, 0, 0, 0), (.i2l, 0, 0, 0, 0), (.lcmp, 0, 0, 0, 0)] [(0, vS 998), (1, vR 42), (2, vR 0), (3, vR 41), (4, vI a4), (5, vI t0), (6, vI i191)] [vI (lg_cmp (Int32.toInt64 (w192 41 (Int32.toNatClampNeg 0))) (Int32.toInt64 i191))] w192 2092 (by decide +kernel) rfl rfl ?_
      refine sim_br hC (.ifCond .eq 5) 2097 (by decide +kernel) rfl (by decide) ?_ ?_
      · refine sim_sub hC [0, 1, 2, 3, 4] ?_
        exact s_K_law_2097 hL a4 w192
      · exact sim_none
  · exact sim_none
noncomputable def Lc_33 (xs : Nat → Int32) (L : Nat) (a4 : Int32) (w : Wld) : Option ((Int32 × Wld) ⊕ Wld) :=
  gd (vp_in (a4 + (1 : Int32)) L) (bd (H_listen w (xs (Int32.toNatClampNeg (a4 + (1 : Int32))))) (fun i189 w190 => K_law_2055 xs L a4 i189 w190))
set_option maxRecDepth 10000 in
theorem s_Lc_33 {Z : ZT} {l : Launch} {wo : Wld} {Ok OkN : Cfg → Prop} {xs : Nat → Int32} {L : Nat} (hL : CtxL Z l xs L wo Ok OkN) (a4 : Int32) (w : Wld) : SimK Ok (2044, [(0, vS 998), (1, vR 42), (2, vR 0), (3, vR 41), (4, vI a4)], [], w) (Lc_33 xs L a4 w) (GLp OkN V_law (GEp OkN E_law)) := by
  unfold Lc_33
  have hC := hL.1
  have hS := hL.2.1
  have hH := hL.2.2.1
  have hN := hL.2.2.2.2.2
  refine sim_blk0 hC [(.aload_n 1, 0, 0, 0, 0), (.aload_n 0, 0, 0, 0, 0), (.iload 4, 0, 0, 0, 0), (.iconst 1, 0, 0, 0, 1), (.iadd, 0, 0, 0, 0)] [(0, vS 998), (1, vR 42), (2, vR 0), (3, vR 41), (4, vI a4)] [vI (a4 + (1 : Int32)), vS 998, vR 42] w 2050 (by decide +kernel) rfl rfl ?_
  refine sim_sld hS (by decide +kernel) ?_
  refine sim_blk0 hC [(.aload_n 3, 0, 0, 0, 0)] [(0, vS 998), (1, vR 42), (2, vR 0), (3, vR 41), (4, vI a4)] [vR 41, vI (xs (Int32.toNatClampNeg (a4 + (1 : Int32)))), vR 42] w 2052 (by decide +kernel) rfl rfl ?_
  refine sim_help hH 224 hL_listen 8 163 [vR 42, vI (xs (Int32.toNatClampNeg (a4 + (1 : Int32)))), vR 41] [] (by decide +kernel) hm_listen rfl rfl rfl rfl rfl rfl (fun rz wz hz => h_listen w (xs (Int32.toNatClampNeg (a4 + (1 : Int32)))) rz wz hz) (fun i189 w190 => ?_)
  exact s_K_law_2055 hL a4 i189 w190
noncomputable def Lc_34 (xs : Nat → Int32) (L : Nat) (a4 : Int32) (w : Wld) : Option ((Int32 × Wld) ⊕ Wld) :=
  bv (F_C_forget w) (fun w195 => bv (F_M_forget w195) (fun w196 => bi (a4 + 6) (fun i197 => some (.inl (i197, w196)))))
set_option maxRecDepth 10000 in
theorem s_Lc_34 {Z : ZT} {l : Launch} {wo : Wld} {Ok OkN : Cfg → Prop} {xs : Nat → Int32} {L : Nat} (hL : CtxL Z l xs L wo Ok OkN) (a4 : Int32) (w : Wld) : SimK Ok (2100, [(0, vS 998), (1, vR 42), (2, vR 0), (3, vR 41), (4, vI a4)], [], w) (Lc_34 xs L a4 w) (GLp OkN V_law (GEp OkN E_law)) := by
  unfold Lc_34
  have hC := hL.1
  have hS := hL.2.1
  have hH := hL.2.2.1
  have hN := hL.2.2.2.2.2
  refine sim_blk0 hC [(.aload_n 1, 0, 0, 0, 0)] [(0, vS 998), (1, vR 42), (2, vR 0), (3, vR 41), (4, vI a4)] [vR 42] w 2101 (by decide +kernel) rfl rfl ?_
  refine sim_vv hC 227 mX10_forget 2 20 42 [] [] (by decide +kernel) ml_14_227 rfl rfl rfl rfl rfl rfl (fun wz hz => c_C_forget w wz hz) (fun w195 => ?_)
  refine sim_blk0 hC [(.aload_n 2, 0, 0, 0, 0)] [(0, vS 998), (1, vR 42), (2, vR 0), (3, vR 41), (4, vI a4)] [vR 0] w195 2105 (by decide +kernel) rfl rfl ?_
  refine sim_vv hC 230 mX11_forget 1 0 0 [] [] (by decide +kernel) ml_14_230 rfl rfl rfl rfl rfl rfl (fun wz hz => c_M_forget w195 wz hz) (fun w196 => ?_)
  refine sim_goto hC 187 2295 (by decide +kernel) (by decide) ?_
  refine sim_blk0 hC [(.iinc 4 6, 0, 0, 0, 6)] [(0, vS 998), (1, vR 42), (2, vR 0), (3, vR 41), (4, vI (a4 + 6))] [] w196 2298 (by decide +kernel) rfl rfl ?_
  refine sim_bi (C := fun i197 => (2298, [(0, vS 998), (1, vR 42), (2, vR 0), (3, vR 41), (4, vI i197)], [], w196)) (fun i197 => ?_)
  refine sim_goto hC (-2275) 23 (by decide +kernel) (by decide) ?_
  exact sim_backN (V := V_law) hN (i197, w196)
noncomputable def K_law_2188 (xs : Nat → Int32) (L : Nat) (a4 : Int32) (w : Wld) : Option ((Int32 × Wld) ⊕ Wld) :=
  bi (a4 + 6) (fun i203 => some (.inl (i203, w)))
set_option maxRecDepth 10000 in
theorem s_K_law_2188 {Z : ZT} {l : Launch} {wo : Wld} {Ok OkN : Cfg → Prop} {xs : Nat → Int32} {L : Nat} (hL : CtxL Z l xs L wo Ok OkN) (a4 : Int32) (w : Wld) : SimK OkN (2188, [(0, vS 998), (1, vR 42), (2, vR 0), (3, vR 41), (4, vI a4)], [], w) (K_law_2188 xs L a4 w) (GLp OkN V_law (GEp OkN E_law)) := by
  unfold K_law_2188
  have hC := hL.2.2.2.1
  have hS := hL.2.2.2.2.1
  refine sim_goto hC 107 2295 (by decide +kernel) (by decide) ?_
  refine sim_blk0 hC [(.iinc 4 6, 0, 0, 0, 6)] [(0, vS 998), (1, vR 42), (2, vR 0), (3, vR 41), (4, vI (a4 + 6))] [] w 2298 (by decide +kernel) rfl rfl ?_
  refine sim_bi (C := fun i203 => (2298, [(0, vS 998), (1, vR 42), (2, vR 0), (3, vR 41), (4, vI i203)], [], w)) (fun i203 => ?_)
  refine sim_goto hC (-2275) 23 (by decide +kernel) (by decide) ?_
  exact sim_back (V := V_law) (i203, w)
noncomputable def K_law_2134 (xs : Nat → Int32) (L : Nat) (a4 : Int32) (t0 : Int32) (w : Wld) : Option ((Int32 × Wld) ⊕ Wld) :=
  gd (vp_in (a4 + (1 : Int32)) L) (gd (vp_in (a4 + (2 : Int32)) L) (gd (vp_in (a4 + (3 : Int32)) L) (bd (F_M_game w (xs (Int32.toNatClampNeg (a4 + (1 : Int32)))) (xs (Int32.toNatClampNeg (a4 + (2 : Int32)))) (xs (Int32.toNatClampNeg (a4 + (3 : Int32))))) (fun i200 w201 => bp (F_M_thrown w201) (fun i202 => br (i202 = t0) (br (¬ t0 = 0) (K_law_2188 xs L a4 w201) (gd (vp_in 0 1) (br ((lg_cmp (Int32.toInt64 (w201 41 (Int32.toNatClampNeg 0))) (Int32.toInt64 i200)) = 0) (K_law_2188 xs L a4 w201) (none)))) (none))))))
set_option maxRecDepth 10000 in
theorem s_K_law_2134 {Z : ZT} {l : Launch} {wo : Wld} {Ok OkN : Cfg → Prop} {xs : Nat → Int32} {L : Nat} (hL : CtxL Z l xs L wo Ok OkN) (a4 : Int32) (t0 : Int32) (w : Wld) : SimK OkN (2134, [(0, vS 998), (1, vR 42), (2, vR 0), (3, vR 41), (4, vI a4)], [vI t0], w) (K_law_2134 xs L a4 t0 w) (GLp OkN V_law (GEp OkN E_law)) := by
  unfold K_law_2134
  have hC := hL.2.2.2.1
  have hS := hL.2.2.2.2.1
  refine sim_blk0 hC [(.istore 5, 0, 0, 0, 0), (.aload_n 2, 0, 0, 0, 0), (.aload_n 0, 0, 0, 0, 0), (.iload 4, 0, 0, 0, 0), (.iconst 1, 0, 0, 0, 1), (.iadd, 0, 0, 0, 0)] [(0, vS 998), (1, vR 42), (2, vR 0), (3, vR 41), (4, vI a4), (5, vI t0)] [vI (a4 + (1 : Int32)), vS 998, vR 0] w 2142 (by decide +kernel) rfl rfl ?_
  refine sim_sld hS (by decide +kernel) ?_
  refine sim_blk0 hC [(.aload_n 0, 0, 0, 0, 0), (.iload 4, 0, 0, 0, 0), (.iconst 2, 0, 0, 0, 2), (.iadd, 0, 0, 0, 0)] [(0, vS 998), (1, vR 42), (2, vR 0), (3, vR 41), (4, vI a4), (5, vI t0)] [vI (a4 + (2 : Int32)), vS 998, vI (xs (Int32.toNatClampNeg (a4 + (1 : Int32)))), vR 0] w 2148 (by decide +kernel) rfl rfl ?_
  refine sim_sld hS (by decide +kernel) ?_
  refine sim_blk0 hC [(.aload_n 0, 0, 0, 0, 0), (.iload 4, 0, 0, 0, 0), (.iconst 3, 0, 0, 0, 3), (.iadd, 0, 0, 0, 0)] [(0, vS 998), (1, vR 42), (2, vR 0), (3, vR 41), (4, vI a4), (5, vI t0)] [vI (a4 + (3 : Int32)), vS 998, vI (xs (Int32.toNatClampNeg (a4 + (2 : Int32)))), vI (xs (Int32.toNatClampNeg (a4 + (1 : Int32)))), vR 0] w 2154 (by decide +kernel) rfl rfl ?_
  refine sim_sld hS (by decide +kernel) ?_
  refine sim_vd hC 233 mX11_game 7 137 0 [vI (xs (Int32.toNatClampNeg (a4 + (1 : Int32)))), vI (xs (Int32.toNatClampNeg (a4 + (2 : Int32)))), vI (xs (Int32.toNatClampNeg (a4 + (3 : Int32))))] [] (by decide +kernel) ml_14_233 rfl rfl rfl rfl rfl rfl (fun rz wz hz => c_M_game w (xs (Int32.toNatClampNeg (a4 + (1 : Int32)))) (xs (Int32.toNatClampNeg (a4 + (2 : Int32)))) (xs (Int32.toNatClampNeg (a4 + (3 : Int32)))) rz wz hz) (fun i200 w201 => ?_)
  refine sim_blk0 hC [(.istore 6, 0, 0, 0, 0), (.aload_n 2, 0, 0, 0, 0)] [(0, vS 998), (1, vR 42), (2, vR 0), (3, vR 41), (4, vI a4), (5, vI t0), (6, vI i200)] [vR 0] w201 2161 (by decide +kernel) rfl rfl ?_
  refine sim_vp hC 114 mX11_thrown 1 0 0 [] [] (by decide +kernel) ml_14_114 rfl rfl rfl rfl rfl rfl (fun rz hz => c_M_thrown w201 rz hz) (fun i202 => ?_)
  refine sim_blk0 hC [(.iload 5, 0, 0, 0, 0)] [(0, vS 998), (1, vR 42), (2, vR 0), (3, vR 41), (4, vI a4), (5, vI t0), (6, vI i200)] [vI t0, vI i202] w201 2166 (by decide +kernel) rfl rfl ?_
  refine sim_br hC (.if_icmp .eq 5) 2171 (by decide +kernel) rfl (by decide) ?_ ?_
  · refine sim_blk0 hC [(.iload 5, 0, 0, 0, 0)] [(0, vS 998), (1, vR 42), (2, vR 0), (3, vR 41), (4, vI a4), (5, vI t0), (6, vI i200)] [vI t0] w201 2173 (by decide +kernel) rfl rfl ?_
    refine sim_br hC (.ifCond .ne 15) 2188 (by decide +kernel) rfl (by decide) ?_ ?_
    · refine sim_sub hC [0, 1, 2, 3, 4] ?_
      exact s_K_law_2188 hL a4 w201
    · refine sim_blk1 hC [(.aload_n 3, 0, 0, 0, 0), (.iconst 0, 0, 0, 0, 0), (.laload, 41, 1, 3, 0), (.iload 6, 0, 0, 0, 0), (.i2l, 0, 0, 0, 0), (.lcmp, 0, 0, 0, 0)] [(0, vS 998), (1, vR 42), (2, vR 0), (3, vR 41), (4, vI a4), (5, vI t0), (6, vI i200)] [vI (lg_cmp (Int32.toInt64 (w201 41 (Int32.toNatClampNeg 0))) (Int32.toInt64 i200))] w201 2183 (by decide +kernel) rfl rfl ?_
      refine sim_br hC (.ifCond .eq 5) 2188 (by decide +kernel) rfl (by decide) ?_ ?_
      · refine sim_sub hC [0, 1, 2, 3, 4] ?_
        exact s_K_law_2188 hL a4 w201
      · exact sim_none
  · exact sim_none
noncomputable def Lc_35 (xs : Nat → Int32) (L : Nat) (a4 : Int32) (w : Wld) : Option ((Int32 × Wld) ⊕ Wld) :=
  gd (vp_in (a4 + (1 : Int32)) L) (gd (vp_in (a4 + (2 : Int32)) L) (gd (vp_in (a4 + (3 : Int32)) L) (bd (H_game w (xs (Int32.toNatClampNeg (a4 + (1 : Int32)))) (xs (Int32.toNatClampNeg (a4 + (2 : Int32)))) (xs (Int32.toNatClampNeg (a4 + (3 : Int32))))) (fun i198 w199 => K_law_2134 xs L a4 i198 w199))))
set_option maxRecDepth 10000 in
theorem s_Lc_35 {Z : ZT} {l : Launch} {wo : Wld} {Ok OkN : Cfg → Prop} {xs : Nat → Int32} {L : Nat} (hL : CtxL Z l xs L wo Ok OkN) (a4 : Int32) (w : Wld) : SimK Ok (2111, [(0, vS 998), (1, vR 42), (2, vR 0), (3, vR 41), (4, vI a4)], [], w) (Lc_35 xs L a4 w) (GLp OkN V_law (GEp OkN E_law)) := by
  unfold Lc_35
  have hC := hL.1
  have hS := hL.2.1
  have hH := hL.2.2.1
  have hN := hL.2.2.2.2.2
  refine sim_blk0 hC [(.aload_n 1, 0, 0, 0, 0), (.aload_n 0, 0, 0, 0, 0), (.iload 4, 0, 0, 0, 0), (.iconst 1, 0, 0, 0, 1), (.iadd, 0, 0, 0, 0)] [(0, vS 998), (1, vR 42), (2, vR 0), (3, vR 41), (4, vI a4)] [vI (a4 + (1 : Int32)), vS 998, vR 42] w 2117 (by decide +kernel) rfl rfl ?_
  refine sim_sld hS (by decide +kernel) ?_
  refine sim_blk0 hC [(.aload_n 0, 0, 0, 0, 0), (.iload 4, 0, 0, 0, 0), (.iconst 2, 0, 0, 0, 2), (.iadd, 0, 0, 0, 0)] [(0, vS 998), (1, vR 42), (2, vR 0), (3, vR 41), (4, vI a4)] [vI (a4 + (2 : Int32)), vS 998, vI (xs (Int32.toNatClampNeg (a4 + (1 : Int32)))), vR 42] w 2123 (by decide +kernel) rfl rfl ?_
  refine sim_sld hS (by decide +kernel) ?_
  refine sim_blk0 hC [(.aload_n 0, 0, 0, 0, 0), (.iload 4, 0, 0, 0, 0), (.iconst 3, 0, 0, 0, 3), (.iadd, 0, 0, 0, 0)] [(0, vS 998), (1, vR 42), (2, vR 0), (3, vR 41), (4, vI a4)] [vI (a4 + (3 : Int32)), vS 998, vI (xs (Int32.toNatClampNeg (a4 + (2 : Int32)))), vI (xs (Int32.toNatClampNeg (a4 + (1 : Int32)))), vR 42] w 2129 (by decide +kernel) rfl rfl ?_
  refine sim_sld hS (by decide +kernel) ?_
  refine sim_blk0 hC [(.aload_n 3, 0, 0, 0, 0)] [(0, vS 998), (1, vR 42), (2, vR 0), (3, vR 41), (4, vI a4)] [vR 41, vI (xs (Int32.toNatClampNeg (a4 + (3 : Int32)))), vI (xs (Int32.toNatClampNeg (a4 + (2 : Int32)))), vI (xs (Int32.toNatClampNeg (a4 + (1 : Int32)))), vR 42] w 2131 (by decide +kernel) rfl rfl ?_
  refine sim_help hH 231 hL_game 8 154 [vR 42, vI (xs (Int32.toNatClampNeg (a4 + (1 : Int32)))), vI (xs (Int32.toNatClampNeg (a4 + (2 : Int32)))), vI (xs (Int32.toNatClampNeg (a4 + (3 : Int32)))), vR 41] [] (by decide +kernel) hm_game rfl rfl rfl rfl rfl rfl (fun rz wz hz => h_game w (xs (Int32.toNatClampNeg (a4 + (1 : Int32)))) (xs (Int32.toNatClampNeg (a4 + (2 : Int32)))) (xs (Int32.toNatClampNeg (a4 + (3 : Int32)))) rz wz hz) (fun i198 w199 => ?_)
  exact s_K_law_2134 hL a4 i198 w199
noncomputable def K_law_2268 (xs : Nat → Int32) (L : Nat) (a4 : Int32) (w : Wld) : Option ((Int32 × Wld) ⊕ Wld) :=
  bi (a4 + 6) (fun i209 => some (.inl (i209, w)))
set_option maxRecDepth 10000 in
theorem s_K_law_2268 {Z : ZT} {l : Launch} {wo : Wld} {Ok OkN : Cfg → Prop} {xs : Nat → Int32} {L : Nat} (hL : CtxL Z l xs L wo Ok OkN) (a4 : Int32) (w : Wld) : SimK OkN (2268, [(0, vS 998), (1, vR 42), (2, vR 0), (3, vR 41), (4, vI a4)], [], w) (K_law_2268 xs L a4 w) (GLp OkN V_law (GEp OkN E_law)) := by
  unfold K_law_2268
  have hC := hL.2.2.2.1
  have hS := hL.2.2.2.2.1
  refine sim_goto hC 27 2295 (by decide +kernel) (by decide) ?_
  refine sim_blk0 hC [(.iinc 4 6, 0, 0, 0, 6)] [(0, vS 998), (1, vR 42), (2, vR 0), (3, vR 41), (4, vI (a4 + 6))] [] w 2298 (by decide +kernel) rfl rfl ?_
  refine sim_bi (C := fun i209 => (2298, [(0, vS 998), (1, vR 42), (2, vR 0), (3, vR 41), (4, vI i209)], [], w)) (fun i209 => ?_)
  refine sim_goto hC (-2275) 23 (by decide +kernel) (by decide) ?_
  exact sim_back (V := V_law) (i209, w)
noncomputable def K_law_2214 (xs : Nat → Int32) (L : Nat) (a4 : Int32) (t0 : Int32) (w : Wld) : Option ((Int32 × Wld) ⊕ Wld) :=
  gd (vp_in (a4 + (1 : Int32)) L) (gd (vp_in (a4 + (2 : Int32)) L) (gd (vp_in (a4 + (3 : Int32)) L) (bd (F_M_years w (xs (Int32.toNatClampNeg (a4 + (1 : Int32)))) (xs (Int32.toNatClampNeg (a4 + (2 : Int32)))) (xs (Int32.toNatClampNeg (a4 + (3 : Int32))))) (fun i206 w207 => bp (F_M_thrown w207) (fun i208 => br (i208 = t0) (br (¬ t0 = 0) (K_law_2268 xs L a4 w207) (gd (vp_in 0 1) (br ((lg_cmp (Int32.toInt64 (w207 41 (Int32.toNatClampNeg 0))) (Int32.toInt64 i206)) = 0) (K_law_2268 xs L a4 w207) (none)))) (none))))))
set_option maxRecDepth 10000 in
theorem s_K_law_2214 {Z : ZT} {l : Launch} {wo : Wld} {Ok OkN : Cfg → Prop} {xs : Nat → Int32} {L : Nat} (hL : CtxL Z l xs L wo Ok OkN) (a4 : Int32) (t0 : Int32) (w : Wld) : SimK OkN (2214, [(0, vS 998), (1, vR 42), (2, vR 0), (3, vR 41), (4, vI a4)], [vI t0], w) (K_law_2214 xs L a4 t0 w) (GLp OkN V_law (GEp OkN E_law)) := by
  unfold K_law_2214
  have hC := hL.2.2.2.1
  have hS := hL.2.2.2.2.1
  refine sim_blk0 hC [(.istore 5, 0, 0, 0, 0), (.aload_n 2, 0, 0, 0, 0), (.aload_n 0, 0, 0, 0, 0), (.iload 4, 0, 0, 0, 0), (.iconst 1, 0, 0, 0, 1), (.iadd, 0, 0, 0, 0)] [(0, vS 998), (1, vR 42), (2, vR 0), (3, vR 41), (4, vI a4), (5, vI t0)] [vI (a4 + (1 : Int32)), vS 998, vR 0] w 2222 (by decide +kernel) rfl rfl ?_
  refine sim_sld hS (by decide +kernel) ?_
  refine sim_blk0 hC [(.aload_n 0, 0, 0, 0, 0), (.iload 4, 0, 0, 0, 0), (.iconst 2, 0, 0, 0, 2), (.iadd, 0, 0, 0, 0)] [(0, vS 998), (1, vR 42), (2, vR 0), (3, vR 41), (4, vI a4), (5, vI t0)] [vI (a4 + (2 : Int32)), vS 998, vI (xs (Int32.toNatClampNeg (a4 + (1 : Int32)))), vR 0] w 2228 (by decide +kernel) rfl rfl ?_
  refine sim_sld hS (by decide +kernel) ?_
  refine sim_blk0 hC [(.aload_n 0, 0, 0, 0, 0), (.iload 4, 0, 0, 0, 0), (.iconst 3, 0, 0, 0, 3), (.iadd, 0, 0, 0, 0)] [(0, vS 998), (1, vR 42), (2, vR 0), (3, vR 41), (4, vI a4), (5, vI t0)] [vI (a4 + (3 : Int32)), vS 998, vI (xs (Int32.toNatClampNeg (a4 + (2 : Int32)))), vI (xs (Int32.toNatClampNeg (a4 + (1 : Int32)))), vR 0] w 2234 (by decide +kernel) rfl rfl ?_
  refine sim_sld hS (by decide +kernel) ?_
  refine sim_vd hC 236 mX11_years 6 111 0 [vI (xs (Int32.toNatClampNeg (a4 + (1 : Int32)))), vI (xs (Int32.toNatClampNeg (a4 + (2 : Int32)))), vI (xs (Int32.toNatClampNeg (a4 + (3 : Int32))))] [] (by decide +kernel) ml_14_236 rfl rfl rfl rfl rfl rfl (fun rz wz hz => c_M_years w (xs (Int32.toNatClampNeg (a4 + (1 : Int32)))) (xs (Int32.toNatClampNeg (a4 + (2 : Int32)))) (xs (Int32.toNatClampNeg (a4 + (3 : Int32)))) rz wz hz) (fun i206 w207 => ?_)
  refine sim_blk0 hC [(.istore 6, 0, 0, 0, 0), (.aload_n 2, 0, 0, 0, 0)] [(0, vS 998), (1, vR 42), (2, vR 0), (3, vR 41), (4, vI a4), (5, vI t0), (6, vI i206)] [vR 0] w207 2241 (by decide +kernel) rfl rfl ?_
  refine sim_vp hC 114 mX11_thrown 1 0 0 [] [] (by decide +kernel) ml_14_114 rfl rfl rfl rfl rfl rfl (fun rz hz => c_M_thrown w207 rz hz) (fun i208 => ?_)
  refine sim_blk0 hC [(.iload 5, 0, 0, 0, 0)] [(0, vS 998), (1, vR 42), (2, vR 0), (3, vR 41), (4, vI a4), (5, vI t0), (6, vI i206)] [vI t0, vI i208] w207 2246 (by decide +kernel) rfl rfl ?_
  refine sim_br hC (.if_icmp .eq 5) 2251 (by decide +kernel) rfl (by decide) ?_ ?_
  · refine sim_blk0 hC [(.iload 5, 0, 0, 0, 0)] [(0, vS 998), (1, vR 42), (2, vR 0), (3, vR 41), (4, vI a4), (5, vI t0), (6, vI i206)] [vI t0] w207 2253 (by decide +kernel) rfl rfl ?_
    refine sim_br hC (.ifCond .ne 15) 2268 (by decide +kernel) rfl (by decide) ?_ ?_
    · refine sim_sub hC [0, 1, 2, 3, 4] ?_
      exact s_K_law_2268 hL a4 w207
    · refine sim_blk1 hC [(.aload_n 3, 0, 0, 0, 0), (.iconst 0, 0, 0, 0, 0), (.laload, 41, 1, 3, 0), (.iload 6, 0, 0, 0, 0), (.i2l, 0, 0, 0, 0), (.lcmp, 0, 0, 0, 0)] [(0, vS 998), (1, vR 42), (2, vR 0), (3, vR 41), (4, vI a4), (5, vI t0), (6, vI i206)] [vI (lg_cmp (Int32.toInt64 (w207 41 (Int32.toNatClampNeg 0))) (Int32.toInt64 i206))] w207 2263 (by decide +kernel) rfl rfl ?_
      refine sim_br hC (.ifCond .eq 5) 2268 (by decide +kernel) rfl (by decide) ?_ ?_
      · refine sim_sub hC [0, 1, 2, 3, 4] ?_
        exact s_K_law_2268 hL a4 w207
      · exact sim_none
  · exact sim_none
noncomputable def Lc_36 (xs : Nat → Int32) (L : Nat) (a4 : Int32) (w : Wld) : Option ((Int32 × Wld) ⊕ Wld) :=
  gd (vp_in (a4 + (1 : Int32)) L) (gd (vp_in (a4 + (2 : Int32)) L) (gd (vp_in (a4 + (3 : Int32)) L) (bd (H_years w (xs (Int32.toNatClampNeg (a4 + (1 : Int32)))) (xs (Int32.toNatClampNeg (a4 + (2 : Int32)))) (xs (Int32.toNatClampNeg (a4 + (3 : Int32))))) (fun i204 w205 => K_law_2214 xs L a4 i204 w205))))
set_option maxRecDepth 10000 in
theorem s_Lc_36 {Z : ZT} {l : Launch} {wo : Wld} {Ok OkN : Cfg → Prop} {xs : Nat → Int32} {L : Nat} (hL : CtxL Z l xs L wo Ok OkN) (a4 : Int32) (w : Wld) : SimK Ok (2191, [(0, vS 998), (1, vR 42), (2, vR 0), (3, vR 41), (4, vI a4)], [], w) (Lc_36 xs L a4 w) (GLp OkN V_law (GEp OkN E_law)) := by
  unfold Lc_36
  have hC := hL.1
  have hS := hL.2.1
  have hH := hL.2.2.1
  have hN := hL.2.2.2.2.2
  refine sim_blk0 hC [(.aload_n 1, 0, 0, 0, 0), (.aload_n 0, 0, 0, 0, 0), (.iload 4, 0, 0, 0, 0), (.iconst 1, 0, 0, 0, 1), (.iadd, 0, 0, 0, 0)] [(0, vS 998), (1, vR 42), (2, vR 0), (3, vR 41), (4, vI a4)] [vI (a4 + (1 : Int32)), vS 998, vR 42] w 2197 (by decide +kernel) rfl rfl ?_
  refine sim_sld hS (by decide +kernel) ?_
  refine sim_blk0 hC [(.aload_n 0, 0, 0, 0, 0), (.iload 4, 0, 0, 0, 0), (.iconst 2, 0, 0, 0, 2), (.iadd, 0, 0, 0, 0)] [(0, vS 998), (1, vR 42), (2, vR 0), (3, vR 41), (4, vI a4)] [vI (a4 + (2 : Int32)), vS 998, vI (xs (Int32.toNatClampNeg (a4 + (1 : Int32)))), vR 42] w 2203 (by decide +kernel) rfl rfl ?_
  refine sim_sld hS (by decide +kernel) ?_
  refine sim_blk0 hC [(.aload_n 0, 0, 0, 0, 0), (.iload 4, 0, 0, 0, 0), (.iconst 3, 0, 0, 0, 3), (.iadd, 0, 0, 0, 0)] [(0, vS 998), (1, vR 42), (2, vR 0), (3, vR 41), (4, vI a4)] [vI (a4 + (3 : Int32)), vS 998, vI (xs (Int32.toNatClampNeg (a4 + (2 : Int32)))), vI (xs (Int32.toNatClampNeg (a4 + (1 : Int32)))), vR 42] w 2209 (by decide +kernel) rfl rfl ?_
  refine sim_sld hS (by decide +kernel) ?_
  refine sim_blk0 hC [(.aload_n 3, 0, 0, 0, 0)] [(0, vS 998), (1, vR 42), (2, vR 0), (3, vR 41), (4, vI a4)] [vR 41, vI (xs (Int32.toNatClampNeg (a4 + (3 : Int32)))), vI (xs (Int32.toNatClampNeg (a4 + (2 : Int32)))), vI (xs (Int32.toNatClampNeg (a4 + (1 : Int32)))), vR 42] w 2211 (by decide +kernel) rfl rfl ?_
  refine sim_help hH 234 hL_years 8 138 [vR 42, vI (xs (Int32.toNatClampNeg (a4 + (1 : Int32)))), vI (xs (Int32.toNatClampNeg (a4 + (2 : Int32)))), vI (xs (Int32.toNatClampNeg (a4 + (3 : Int32)))), vR 41] [] (by decide +kernel) hm_years rfl rfl rfl rfl rfl rfl (fun rz wz hz => h_years w (xs (Int32.toNatClampNeg (a4 + (1 : Int32)))) (xs (Int32.toNatClampNeg (a4 + (2 : Int32)))) (xs (Int32.toNatClampNeg (a4 + (3 : Int32)))) rz wz hz) (fun i204 w205 => ?_)
  exact s_K_law_2214 hL a4 i204 w205
noncomputable def Lc_37 (xs : Nat → Int32) (L : Nat) (a4 : Int32) (w : Wld) : Option ((Int32 × Wld) ⊕ Wld) :=
  bv (F_C_image w) (fun w210 => bv (F_M_image w210) (fun w211 => bi (a4 + 6) (fun i212 => some (.inl (i212, w211)))))
set_option maxRecDepth 10000 in
theorem s_Lc_37 {Z : ZT} {l : Launch} {wo : Wld} {Ok OkN : Cfg → Prop} {xs : Nat → Int32} {L : Nat} (hL : CtxL Z l xs L wo Ok OkN) (a4 : Int32) (w : Wld) : SimK Ok (2271, [(0, vS 998), (1, vR 42), (2, vR 0), (3, vR 41), (4, vI a4)], [], w) (Lc_37 xs L a4 w) (GLp OkN V_law (GEp OkN E_law)) := by
  unfold Lc_37
  have hC := hL.1
  have hS := hL.2.1
  have hH := hL.2.2.1
  have hN := hL.2.2.2.2.2
  refine sim_blk0 hC [(.aload_n 1, 0, 0, 0, 0)] [(0, vS 998), (1, vR 42), (2, vR 0), (3, vR 41), (4, vI a4)] [vR 42] w 2272 (by decide +kernel) rfl rfl ?_
  refine sim_vv hC 237 mX10_image 3 102 42 [] [] (by decide +kernel) ml_14_237 rfl rfl rfl rfl rfl rfl (fun wz hz => c_C_image w wz hz) (fun w210 => ?_)
  refine sim_blk0 hC [(.aload_n 2, 0, 0, 0, 0)] [(0, vS 998), (1, vR 42), (2, vR 0), (3, vR 41), (4, vI a4)] [vR 0] w210 2276 (by decide +kernel) rfl rfl ?_
  refine sim_vv hC 240 mX11_image 2 24 0 [] [] (by decide +kernel) ml_14_240 rfl rfl rfl rfl rfl rfl (fun wz hz => c_M_image w210 wz hz) (fun w211 => ?_)
  refine sim_goto hC 16 2295 (by decide +kernel) (by decide) ?_
  refine sim_blk0 hC [(.iinc 4 6, 0, 0, 0, 6)] [(0, vS 998), (1, vR 42), (2, vR 0), (3, vR 41), (4, vI (a4 + 6))] [] w211 2298 (by decide +kernel) rfl rfl ?_
  refine sim_bi (C := fun i212 => (2298, [(0, vS 998), (1, vR 42), (2, vR 0), (3, vR 41), (4, vI i212)], [], w211)) (fun i212 => ?_)
  refine sim_goto hC (-2275) 23 (by decide +kernel) (by decide) ?_
  exact sim_backN (V := V_law) hN (i212, w211)
noncomputable def Lc_38 (xs : Nat → Int32) (L : Nat) (a4 : Int32) (w : Wld) : Option ((Int32 × Wld) ⊕ Wld) :=
  bd (F_C_restore w) (fun i213 w214 => bd (F_M_restore w214) (fun i215 w216 => br (i213 = i215) (bi (a4 + 6) (fun i217 => some (.inl (i217, w216)))) (none)))
set_option maxRecDepth 10000 in
theorem s_Lc_38 {Z : ZT} {l : Launch} {wo : Wld} {Ok OkN : Cfg → Prop} {xs : Nat → Int32} {L : Nat} (hL : CtxL Z l xs L wo Ok OkN) (a4 : Int32) (w : Wld) : SimK Ok (2282, [(0, vS 998), (1, vR 42), (2, vR 0), (3, vR 41), (4, vI a4)], [], w) (Lc_38 xs L a4 w) (GLp OkN V_law (GEp OkN E_law)) := by
  unfold Lc_38
  have hC := hL.1
  have hS := hL.2.1
  have hH := hL.2.2.1
  have hN := hL.2.2.2.2.2
  refine sim_blk0 hC [(.aload_n 1, 0, 0, 0, 0)] [(0, vS 998), (1, vR 42), (2, vR 0), (3, vR 41), (4, vI a4)] [vR 42] w 2283 (by decide +kernel) rfl rfl ?_
  refine sim_vd hC 241 mX10_restore 3 102 42 [] [] (by decide +kernel) ml_14_241 rfl rfl rfl rfl rfl rfl (fun rz wz hz => c_C_restore w rz wz hz) (fun i213 w214 => ?_)
  refine sim_blk0 hC [(.aload_n 2, 0, 0, 0, 0)] [(0, vS 998), (1, vR 42), (2, vR 0), (3, vR 41), (4, vI a4)] [vR 0, vI i213] w214 2287 (by decide +kernel) rfl rfl ?_
  refine sim_vd hC 245 mX11_restore 2 24 0 [] [vI i213] (by decide +kernel) ml_14_245 rfl rfl rfl rfl rfl rfl (fun rz wz hz => c_M_restore w214 rz wz hz) (fun i215 w216 => ?_)
  refine sim_br hC (.if_icmp .eq 5) 2295 (by decide +kernel) rfl (by decide) ?_ ?_
  · refine sim_blk0 hC [(.iinc 4 6, 0, 0, 0, 6)] [(0, vS 998), (1, vR 42), (2, vR 0), (3, vR 41), (4, vI (a4 + 6))] [] w216 2298 (by decide +kernel) rfl rfl ?_
    refine sim_bi (C := fun i217 => (2298, [(0, vS 998), (1, vR 42), (2, vR 0), (3, vR 41), (4, vI i217)], [], w216)) (fun i217 => ?_)
    refine sim_goto hC (-2275) 23 (by decide +kernel) (by decide) ?_
    exact sim_backN (V := V_law) hN (i217, w216)
  · exact sim_none
noncomputable def B_law (xs : Nat → Int32) (L : Nat) (s : Int32 × Wld) : Option ((Int32 × Wld) ⊕ Wld) :=
  br (((Int32.ofNat L) - (6 : Int32)) < s.1) (some (.inr s.2)) (gd (vp_in s.1 L) (br (((xs (Int32.toNatClampNeg s.1)) &&& (63 : Int32)) = 0) (Lc_0 xs L s.1 s.2) (br (((xs (Int32.toNatClampNeg s.1)) &&& (63 : Int32)) = 1) (Lc_1 xs L s.1 s.2) (br (((xs (Int32.toNatClampNeg s.1)) &&& (63 : Int32)) = 2) (Lc_2 xs L s.1 s.2) (br (((xs (Int32.toNatClampNeg s.1)) &&& (63 : Int32)) = 3) (Lc_3 xs L s.1 s.2) (br (((xs (Int32.toNatClampNeg s.1)) &&& (63 : Int32)) = 4) (Lc_4 xs L s.1 s.2) (br (((xs (Int32.toNatClampNeg s.1)) &&& (63 : Int32)) = 5) (Lc_5 xs L s.1 s.2) (br (((xs (Int32.toNatClampNeg s.1)) &&& (63 : Int32)) = 6) (Lc_6 xs L s.1 s.2) (br (((xs (Int32.toNatClampNeg s.1)) &&& (63 : Int32)) = 7) (Lc_7 xs L s.1 s.2) (br (((xs (Int32.toNatClampNeg s.1)) &&& (63 : Int32)) = 8) (Lc_8 xs L s.1 s.2) (br (((xs (Int32.toNatClampNeg s.1)) &&& (63 : Int32)) = 9) (Lc_9 xs L s.1 s.2) (br (((xs (Int32.toNatClampNeg s.1)) &&& (63 : Int32)) = 10) (Lc_10 xs L s.1 s.2) (br (((xs (Int32.toNatClampNeg s.1)) &&& (63 : Int32)) = 11) (Lc_11 xs L s.1 s.2) (br (((xs (Int32.toNatClampNeg s.1)) &&& (63 : Int32)) = 12) (Lc_12 xs L s.1 s.2) (br (((xs (Int32.toNatClampNeg s.1)) &&& (63 : Int32)) = 13) (Lc_13 xs L s.1 s.2) (br (((xs (Int32.toNatClampNeg s.1)) &&& (63 : Int32)) = 14) (Lc_14 xs L s.1 s.2) (br (((xs (Int32.toNatClampNeg s.1)) &&& (63 : Int32)) = 15) (Lc_15 xs L s.1 s.2) (br (((xs (Int32.toNatClampNeg s.1)) &&& (63 : Int32)) = 16) (Lc_16 xs L s.1 s.2) (br (((xs (Int32.toNatClampNeg s.1)) &&& (63 : Int32)) = 17) (Lc_17 xs L s.1 s.2) (br (((xs (Int32.toNatClampNeg s.1)) &&& (63 : Int32)) = 18) (Lc_18 xs L s.1 s.2) (br (((xs (Int32.toNatClampNeg s.1)) &&& (63 : Int32)) = 19) (Lc_19 xs L s.1 s.2) (br (((xs (Int32.toNatClampNeg s.1)) &&& (63 : Int32)) = 20) (Lc_20 xs L s.1 s.2) (br (((xs (Int32.toNatClampNeg s.1)) &&& (63 : Int32)) = 21) (Lc_21 xs L s.1 s.2) (br (((xs (Int32.toNatClampNeg s.1)) &&& (63 : Int32)) = 22) (Lc_22 xs L s.1 s.2) (br (((xs (Int32.toNatClampNeg s.1)) &&& (63 : Int32)) = 23) (Lc_23 xs L s.1 s.2) (br (((xs (Int32.toNatClampNeg s.1)) &&& (63 : Int32)) = 24) (Lc_24 xs L s.1 s.2) (br (((xs (Int32.toNatClampNeg s.1)) &&& (63 : Int32)) = 25) (Lc_25 xs L s.1 s.2) (br (((xs (Int32.toNatClampNeg s.1)) &&& (63 : Int32)) = 26) (Lc_26 xs L s.1 s.2) (br (((xs (Int32.toNatClampNeg s.1)) &&& (63 : Int32)) = 27) (Lc_27 xs L s.1 s.2) (br (((xs (Int32.toNatClampNeg s.1)) &&& (63 : Int32)) = 28) (Lc_28 xs L s.1 s.2) (br (((xs (Int32.toNatClampNeg s.1)) &&& (63 : Int32)) = 29) (Lc_29 xs L s.1 s.2) (br (((xs (Int32.toNatClampNeg s.1)) &&& (63 : Int32)) = 30) (Lc_30 xs L s.1 s.2) (br (((xs (Int32.toNatClampNeg s.1)) &&& (63 : Int32)) = 31) (Lc_31 xs L s.1 s.2) (br (((xs (Int32.toNatClampNeg s.1)) &&& (63 : Int32)) = 32) (Lc_32 xs L s.1 s.2) (br (((xs (Int32.toNatClampNeg s.1)) &&& (63 : Int32)) = 33) (Lc_33 xs L s.1 s.2) (br (((xs (Int32.toNatClampNeg s.1)) &&& (63 : Int32)) = 34) (Lc_34 xs L s.1 s.2) (br (((xs (Int32.toNatClampNeg s.1)) &&& (63 : Int32)) = 35) (Lc_35 xs L s.1 s.2) (br (((xs (Int32.toNatClampNeg s.1)) &&& (63 : Int32)) = 36) (Lc_36 xs L s.1 s.2) (br (((xs (Int32.toNatClampNeg s.1)) &&& (63 : Int32)) = 37) (Lc_37 xs L s.1 s.2) (br (((xs (Int32.toNatClampNeg s.1)) &&& (63 : Int32)) = 38) (Lc_38 xs L s.1 s.2) (bi (s.1 + 6) (fun i1 => some (.inl (i1, s.2))))))))))))))))))))))))))))))))))))))))))))
set_option maxRecDepth 10000 in
theorem s_B_law {Z : ZT} {l : Launch} {wo : Wld} {Ok OkN : Cfg → Prop} {xs : Nat → Int32} {L : Nat} (hL : CtxL Z l xs L wo Ok OkN) (s : Int32 × Wld) : SimK Ok (V_law s) (B_law xs L s) (GLp OkN V_law (GEp OkN E_law)) := by
  unfold B_law
  show SimK Ok (23, [(0, vS 998), (1, vR 42), (2, vR 0), (3, vR 41), (4, vI s.1)], [], s.2) _ _
  have hC := hL.1
  have hS := hL.2.1
  have hH := hL.2.2.1
  have hN := hL.2.2.2.2.2
  refine sim_blk0 hC [(.iload 4, 0, 0, 0, 0), (.aload_n 0, 0, 0, 0, 0)] [(0, vS 998), (1, vR 42), (2, vR 0), (3, vR 41), (4, vI s.1)] [vS 998, vI s.1] s.2 26 (by decide +kernel) rfl rfl ?_
  refine sim_sll hS (by decide +kernel) ?_
  refine sim_blk0 hC [(.bipush 6, 0, 0, 0, 6), (.isub, 0, 0, 0, 0)] [(0, vS 998), (1, vR 42), (2, vR 0), (3, vR 41), (4, vI s.1)] [vI ((Int32.ofNat L) - (6 : Int32)), vI s.1] s.2 30 (by decide +kernel) rfl rfl ?_
  refine sim_br hC (.if_icmp .gt 2271) 2301 (by decide +kernel) rfl (by decide) ?_ ?_
  · refine sim_sub hC [] ?_
    exact sim_exitN (E := E_law) hN s.2
  · refine sim_blk0 hC [(.aload_n 0, 0, 0, 0, 0), (.iload 4, 0, 0, 0, 0)] [(0, vS 998), (1, vR 42), (2, vR 0), (3, vR 41), (4, vI s.1)] [vI s.1, vS 998] s.2 36 (by decide +kernel) rfl rfl ?_
    refine sim_sld hS (by decide +kernel) ?_
    refine sim_blk0 hC [(.bipush 63, 0, 0, 0, 63), (.iand, 0, 0, 0, 0)] [(0, vS 998), (1, vR 42), (2, vR 0), (3, vR 41), (4, vI s.1)] [vI ((xs (Int32.toNatClampNeg s.1)) &&& (63 : Int32))] s.2 40 (by decide +kernel) rfl rfl ?_
    refine sim_cases (fun h0 => ?_) (fun h0 => ?_)
    · refine sim_case hC 2255 0 38 #[172, 245, 301, 314, 370, 438, 506, 531, 599, 667, 758, 826, 922, 935, 1003, 1083, 1096, 1164, 1232, 1328, 1384, 1440, 1496, 1509, 1522, 1578, 1634, 1702, 1758, 1814, 1870, 1883, 1948, 2004, 2060, 2071, 2151, 2231, 2242] 172 172 212 h0 (by decide +kernel) (by decide) (by decide) (by decide +kernel) (by decide) ?_
      exact s_Lc_0 hL s.1 s.2
    · refine sim_cases (fun h1 => ?_) (fun h1 => ?_)
      · refine sim_case hC 2255 0 38 #[172, 245, 301, 314, 370, 438, 506, 531, 599, 667, 758, 826, 922, 935, 1003, 1083, 1096, 1164, 1232, 1328, 1384, 1440, 1496, 1509, 1522, 1578, 1634, 1702, 1758, 1814, 1870, 1883, 1948, 2004, 2060, 2071, 2151, 2231, 2242] 172 245 285 h1 (by decide +kernel) (by decide) (by decide) (by decide +kernel) (by decide) ?_
        exact s_Lc_1 hL s.1 s.2
      · refine sim_cases (fun h2 => ?_) (fun h2 => ?_)
        · refine sim_case hC 2255 0 38 #[172, 245, 301, 314, 370, 438, 506, 531, 599, 667, 758, 826, 922, 935, 1003, 1083, 1096, 1164, 1232, 1328, 1384, 1440, 1496, 1509, 1522, 1578, 1634, 1702, 1758, 1814, 1870, 1883, 1948, 2004, 2060, 2071, 2151, 2231, 2242] 172 301 341 h2 (by decide +kernel) (by decide) (by decide) (by decide +kernel) (by decide) ?_
          exact s_Lc_2 hL s.1 s.2
        · refine sim_cases (fun h3 => ?_) (fun h3 => ?_)
          · refine sim_case hC 2255 0 38 #[172, 245, 301, 314, 370, 438, 506, 531, 599, 667, 758, 826, 922, 935, 1003, 1083, 1096, 1164, 1232, 1328, 1384, 1440, 1496, 1509, 1522, 1578, 1634, 1702, 1758, 1814, 1870, 1883, 1948, 2004, 2060, 2071, 2151, 2231, 2242] 172 314 354 h3 (by decide +kernel) (by decide) (by decide) (by decide +kernel) (by decide) ?_
            exact s_Lc_3 hL s.1 s.2
          · refine sim_cases (fun h4 => ?_) (fun h4 => ?_)
            · refine sim_case hC 2255 0 38 #[172, 245, 301, 314, 370, 438, 506, 531, 599, 667, 758, 826, 922, 935, 1003, 1083, 1096, 1164, 1232, 1328, 1384, 1440, 1496, 1509, 1522, 1578, 1634, 1702, 1758, 1814, 1870, 1883, 1948, 2004, 2060, 2071, 2151, 2231, 2242] 172 370 410 h4 (by decide +kernel) (by decide) (by decide) (by decide +kernel) (by decide) ?_
              exact s_Lc_4 hL s.1 s.2
            · refine sim_cases (fun h5 => ?_) (fun h5 => ?_)
              · refine sim_case hC 2255 0 38 #[172, 245, 301, 314, 370, 438, 506, 531, 599, 667, 758, 826, 922, 935, 1003, 1083, 1096, 1164, 1232, 1328, 1384, 1440, 1496, 1509, 1522, 1578, 1634, 1702, 1758, 1814, 1870, 1883, 1948, 2004, 2060, 2071, 2151, 2231, 2242] 172 438 478 h5 (by decide +kernel) (by decide) (by decide) (by decide +kernel) (by decide) ?_
                exact s_Lc_5 hL s.1 s.2
              · refine sim_cases (fun h6 => ?_) (fun h6 => ?_)
                · refine sim_case hC 2255 0 38 #[172, 245, 301, 314, 370, 438, 506, 531, 599, 667, 758, 826, 922, 935, 1003, 1083, 1096, 1164, 1232, 1328, 1384, 1440, 1496, 1509, 1522, 1578, 1634, 1702, 1758, 1814, 1870, 1883, 1948, 2004, 2060, 2071, 2151, 2231, 2242] 172 506 546 h6 (by decide +kernel) (by decide) (by decide) (by decide +kernel) (by decide) ?_
                  exact s_Lc_6 hL s.1 s.2
                · refine sim_cases (fun h7 => ?_) (fun h7 => ?_)
                  · refine sim_case hC 2255 0 38 #[172, 245, 301, 314, 370, 438, 506, 531, 599, 667, 758, 826, 922, 935, 1003, 1083, 1096, 1164, 1232, 1328, 1384, 1440, 1496, 1509, 1522, 1578, 1634, 1702, 1758, 1814, 1870, 1883, 1948, 2004, 2060, 2071, 2151, 2231, 2242] 172 531 571 h7 (by decide +kernel) (by decide) (by decide) (by decide +kernel) (by decide) ?_
                    exact s_Lc_7 hL s.1 s.2
                  · refine sim_cases (fun h8 => ?_) (fun h8 => ?_)
                    · refine sim_case hC 2255 0 38 #[172, 245, 301, 314, 370, 438, 506, 531, 599, 667, 758, 826, 922, 935, 1003, 1083, 1096, 1164, 1232, 1328, 1384, 1440, 1496, 1509, 1522, 1578, 1634, 1702, 1758, 1814, 1870, 1883, 1948, 2004, 2060, 2071, 2151, 2231, 2242] 172 599 639 h8 (by decide +kernel) (by decide) (by decide) (by decide +kernel) (by decide) ?_
                      exact s_Lc_8 hL s.1 s.2
                    · refine sim_cases (fun h9 => ?_) (fun h9 => ?_)
                      · refine sim_case hC 2255 0 38 #[172, 245, 301, 314, 370, 438, 506, 531, 599, 667, 758, 826, 922, 935, 1003, 1083, 1096, 1164, 1232, 1328, 1384, 1440, 1496, 1509, 1522, 1578, 1634, 1702, 1758, 1814, 1870, 1883, 1948, 2004, 2060, 2071, 2151, 2231, 2242] 172 667 707 h9 (by decide +kernel) (by decide) (by decide) (by decide +kernel) (by decide) ?_
                        exact s_Lc_9 hL s.1 s.2
                      · refine sim_cases (fun h10 => ?_) (fun h10 => ?_)
                        · refine sim_case hC 2255 0 38 #[172, 245, 301, 314, 370, 438, 506, 531, 599, 667, 758, 826, 922, 935, 1003, 1083, 1096, 1164, 1232, 1328, 1384, 1440, 1496, 1509, 1522, 1578, 1634, 1702, 1758, 1814, 1870, 1883, 1948, 2004, 2060, 2071, 2151, 2231, 2242] 172 758 798 h10 (by decide +kernel) (by decide) (by decide) (by decide +kernel) (by decide) ?_
                          exact s_Lc_10 hL s.1 s.2
                        · refine sim_cases (fun h11 => ?_) (fun h11 => ?_)
                          · refine sim_case hC 2255 0 38 #[172, 245, 301, 314, 370, 438, 506, 531, 599, 667, 758, 826, 922, 935, 1003, 1083, 1096, 1164, 1232, 1328, 1384, 1440, 1496, 1509, 1522, 1578, 1634, 1702, 1758, 1814, 1870, 1883, 1948, 2004, 2060, 2071, 2151, 2231, 2242] 172 826 866 h11 (by decide +kernel) (by decide) (by decide) (by decide +kernel) (by decide) ?_
                            exact s_Lc_11 hL s.1 s.2
                          · refine sim_cases (fun h12 => ?_) (fun h12 => ?_)
                            · refine sim_case hC 2255 0 38 #[172, 245, 301, 314, 370, 438, 506, 531, 599, 667, 758, 826, 922, 935, 1003, 1083, 1096, 1164, 1232, 1328, 1384, 1440, 1496, 1509, 1522, 1578, 1634, 1702, 1758, 1814, 1870, 1883, 1948, 2004, 2060, 2071, 2151, 2231, 2242] 172 922 962 h12 (by decide +kernel) (by decide) (by decide) (by decide +kernel) (by decide) ?_
                              exact s_Lc_12 hL s.1 s.2
                            · refine sim_cases (fun h13 => ?_) (fun h13 => ?_)
                              · refine sim_case hC 2255 0 38 #[172, 245, 301, 314, 370, 438, 506, 531, 599, 667, 758, 826, 922, 935, 1003, 1083, 1096, 1164, 1232, 1328, 1384, 1440, 1496, 1509, 1522, 1578, 1634, 1702, 1758, 1814, 1870, 1883, 1948, 2004, 2060, 2071, 2151, 2231, 2242] 172 935 975 h13 (by decide +kernel) (by decide) (by decide) (by decide +kernel) (by decide) ?_
                                exact s_Lc_13 hL s.1 s.2
                              · refine sim_cases (fun h14 => ?_) (fun h14 => ?_)
                                · refine sim_case hC 2255 0 38 #[172, 245, 301, 314, 370, 438, 506, 531, 599, 667, 758, 826, 922, 935, 1003, 1083, 1096, 1164, 1232, 1328, 1384, 1440, 1496, 1509, 1522, 1578, 1634, 1702, 1758, 1814, 1870, 1883, 1948, 2004, 2060, 2071, 2151, 2231, 2242] 172 1003 1043 h14 (by decide +kernel) (by decide) (by decide) (by decide +kernel) (by decide) ?_
                                  exact s_Lc_14 hL s.1 s.2
                                · refine sim_cases (fun h15 => ?_) (fun h15 => ?_)
                                  · refine sim_case hC 2255 0 38 #[172, 245, 301, 314, 370, 438, 506, 531, 599, 667, 758, 826, 922, 935, 1003, 1083, 1096, 1164, 1232, 1328, 1384, 1440, 1496, 1509, 1522, 1578, 1634, 1702, 1758, 1814, 1870, 1883, 1948, 2004, 2060, 2071, 2151, 2231, 2242] 172 1083 1123 h15 (by decide +kernel) (by decide) (by decide) (by decide +kernel) (by decide) ?_
                                    exact s_Lc_15 hL s.1 s.2
                                  · refine sim_cases (fun h16 => ?_) (fun h16 => ?_)
                                    · refine sim_case hC 2255 0 38 #[172, 245, 301, 314, 370, 438, 506, 531, 599, 667, 758, 826, 922, 935, 1003, 1083, 1096, 1164, 1232, 1328, 1384, 1440, 1496, 1509, 1522, 1578, 1634, 1702, 1758, 1814, 1870, 1883, 1948, 2004, 2060, 2071, 2151, 2231, 2242] 172 1096 1136 h16 (by decide +kernel) (by decide) (by decide) (by decide +kernel) (by decide) ?_
                                      exact s_Lc_16 hL s.1 s.2
                                    · refine sim_cases (fun h17 => ?_) (fun h17 => ?_)
                                      · refine sim_case hC 2255 0 38 #[172, 245, 301, 314, 370, 438, 506, 531, 599, 667, 758, 826, 922, 935, 1003, 1083, 1096, 1164, 1232, 1328, 1384, 1440, 1496, 1509, 1522, 1578, 1634, 1702, 1758, 1814, 1870, 1883, 1948, 2004, 2060, 2071, 2151, 2231, 2242] 172 1164 1204 h17 (by decide +kernel) (by decide) (by decide) (by decide +kernel) (by decide) ?_
                                        exact s_Lc_17 hL s.1 s.2
                                      · refine sim_cases (fun h18 => ?_) (fun h18 => ?_)
                                        · refine sim_case hC 2255 0 38 #[172, 245, 301, 314, 370, 438, 506, 531, 599, 667, 758, 826, 922, 935, 1003, 1083, 1096, 1164, 1232, 1328, 1384, 1440, 1496, 1509, 1522, 1578, 1634, 1702, 1758, 1814, 1870, 1883, 1948, 2004, 2060, 2071, 2151, 2231, 2242] 172 1232 1272 h18 (by decide +kernel) (by decide) (by decide) (by decide +kernel) (by decide) ?_
                                          exact s_Lc_18 hL s.1 s.2
                                        · refine sim_cases (fun h19 => ?_) (fun h19 => ?_)
                                          · refine sim_case hC 2255 0 38 #[172, 245, 301, 314, 370, 438, 506, 531, 599, 667, 758, 826, 922, 935, 1003, 1083, 1096, 1164, 1232, 1328, 1384, 1440, 1496, 1509, 1522, 1578, 1634, 1702, 1758, 1814, 1870, 1883, 1948, 2004, 2060, 2071, 2151, 2231, 2242] 172 1328 1368 h19 (by decide +kernel) (by decide) (by decide) (by decide +kernel) (by decide) ?_
                                            exact s_Lc_19 hL s.1 s.2
                                          · refine sim_cases (fun h20 => ?_) (fun h20 => ?_)
                                            · refine sim_case hC 2255 0 38 #[172, 245, 301, 314, 370, 438, 506, 531, 599, 667, 758, 826, 922, 935, 1003, 1083, 1096, 1164, 1232, 1328, 1384, 1440, 1496, 1509, 1522, 1578, 1634, 1702, 1758, 1814, 1870, 1883, 1948, 2004, 2060, 2071, 2151, 2231, 2242] 172 1384 1424 h20 (by decide +kernel) (by decide) (by decide) (by decide +kernel) (by decide) ?_
                                              exact s_Lc_20 hL s.1 s.2
                                            · refine sim_cases (fun h21 => ?_) (fun h21 => ?_)
                                              · refine sim_case hC 2255 0 38 #[172, 245, 301, 314, 370, 438, 506, 531, 599, 667, 758, 826, 922, 935, 1003, 1083, 1096, 1164, 1232, 1328, 1384, 1440, 1496, 1509, 1522, 1578, 1634, 1702, 1758, 1814, 1870, 1883, 1948, 2004, 2060, 2071, 2151, 2231, 2242] 172 1440 1480 h21 (by decide +kernel) (by decide) (by decide) (by decide +kernel) (by decide) ?_
                                                exact s_Lc_21 hL s.1 s.2
                                              · refine sim_cases (fun h22 => ?_) (fun h22 => ?_)
                                                · refine sim_case hC 2255 0 38 #[172, 245, 301, 314, 370, 438, 506, 531, 599, 667, 758, 826, 922, 935, 1003, 1083, 1096, 1164, 1232, 1328, 1384, 1440, 1496, 1509, 1522, 1578, 1634, 1702, 1758, 1814, 1870, 1883, 1948, 2004, 2060, 2071, 2151, 2231, 2242] 172 1496 1536 h22 (by decide +kernel) (by decide) (by decide) (by decide +kernel) (by decide) ?_
                                                  exact s_Lc_22 hL s.1 s.2
                                                · refine sim_cases (fun h23 => ?_) (fun h23 => ?_)
                                                  · refine sim_case hC 2255 0 38 #[172, 245, 301, 314, 370, 438, 506, 531, 599, 667, 758, 826, 922, 935, 1003, 1083, 1096, 1164, 1232, 1328, 1384, 1440, 1496, 1509, 1522, 1578, 1634, 1702, 1758, 1814, 1870, 1883, 1948, 2004, 2060, 2071, 2151, 2231, 2242] 172 1509 1549 h23 (by decide +kernel) (by decide) (by decide) (by decide +kernel) (by decide) ?_
                                                    exact s_Lc_23 hL s.1 s.2
                                                  · refine sim_cases (fun h24 => ?_) (fun h24 => ?_)
                                                    · refine sim_case hC 2255 0 38 #[172, 245, 301, 314, 370, 438, 506, 531, 599, 667, 758, 826, 922, 935, 1003, 1083, 1096, 1164, 1232, 1328, 1384, 1440, 1496, 1509, 1522, 1578, 1634, 1702, 1758, 1814, 1870, 1883, 1948, 2004, 2060, 2071, 2151, 2231, 2242] 172 1522 1562 h24 (by decide +kernel) (by decide) (by decide) (by decide +kernel) (by decide) ?_
                                                      exact s_Lc_24 hL s.1 s.2
                                                    · refine sim_cases (fun h25 => ?_) (fun h25 => ?_)
                                                      · refine sim_case hC 2255 0 38 #[172, 245, 301, 314, 370, 438, 506, 531, 599, 667, 758, 826, 922, 935, 1003, 1083, 1096, 1164, 1232, 1328, 1384, 1440, 1496, 1509, 1522, 1578, 1634, 1702, 1758, 1814, 1870, 1883, 1948, 2004, 2060, 2071, 2151, 2231, 2242] 172 1578 1618 h25 (by decide +kernel) (by decide) (by decide) (by decide +kernel) (by decide) ?_
                                                        exact s_Lc_25 hL s.1 s.2
                                                      · refine sim_cases (fun h26 => ?_) (fun h26 => ?_)
                                                        · refine sim_case hC 2255 0 38 #[172, 245, 301, 314, 370, 438, 506, 531, 599, 667, 758, 826, 922, 935, 1003, 1083, 1096, 1164, 1232, 1328, 1384, 1440, 1496, 1509, 1522, 1578, 1634, 1702, 1758, 1814, 1870, 1883, 1948, 2004, 2060, 2071, 2151, 2231, 2242] 172 1634 1674 h26 (by decide +kernel) (by decide) (by decide) (by decide +kernel) (by decide) ?_
                                                          exact s_Lc_26 hL s.1 s.2
                                                        · refine sim_cases (fun h27 => ?_) (fun h27 => ?_)
                                                          · refine sim_case hC 2255 0 38 #[172, 245, 301, 314, 370, 438, 506, 531, 599, 667, 758, 826, 922, 935, 1003, 1083, 1096, 1164, 1232, 1328, 1384, 1440, 1496, 1509, 1522, 1578, 1634, 1702, 1758, 1814, 1870, 1883, 1948, 2004, 2060, 2071, 2151, 2231, 2242] 172 1702 1742 h27 (by decide +kernel) (by decide) (by decide) (by decide +kernel) (by decide) ?_
                                                            exact s_Lc_27 hL s.1 s.2
                                                          · refine sim_cases (fun h28 => ?_) (fun h28 => ?_)
                                                            · refine sim_case hC 2255 0 38 #[172, 245, 301, 314, 370, 438, 506, 531, 599, 667, 758, 826, 922, 935, 1003, 1083, 1096, 1164, 1232, 1328, 1384, 1440, 1496, 1509, 1522, 1578, 1634, 1702, 1758, 1814, 1870, 1883, 1948, 2004, 2060, 2071, 2151, 2231, 2242] 172 1758 1798 h28 (by decide +kernel) (by decide) (by decide) (by decide +kernel) (by decide) ?_
                                                              exact s_Lc_28 hL s.1 s.2
                                                            · refine sim_cases (fun h29 => ?_) (fun h29 => ?_)
                                                              · refine sim_case hC 2255 0 38 #[172, 245, 301, 314, 370, 438, 506, 531, 599, 667, 758, 826, 922, 935, 1003, 1083, 1096, 1164, 1232, 1328, 1384, 1440, 1496, 1509, 1522, 1578, 1634, 1702, 1758, 1814, 1870, 1883, 1948, 2004, 2060, 2071, 2151, 2231, 2242] 172 1814 1854 h29 (by decide +kernel) (by decide) (by decide) (by decide +kernel) (by decide) ?_
                                                                exact s_Lc_29 hL s.1 s.2
                                                              · refine sim_cases (fun h30 => ?_) (fun h30 => ?_)
                                                                · refine sim_case hC 2255 0 38 #[172, 245, 301, 314, 370, 438, 506, 531, 599, 667, 758, 826, 922, 935, 1003, 1083, 1096, 1164, 1232, 1328, 1384, 1440, 1496, 1509, 1522, 1578, 1634, 1702, 1758, 1814, 1870, 1883, 1948, 2004, 2060, 2071, 2151, 2231, 2242] 172 1870 1910 h30 (by decide +kernel) (by decide) (by decide) (by decide +kernel) (by decide) ?_
                                                                  exact s_Lc_30 hL s.1 s.2
                                                                · refine sim_cases (fun h31 => ?_) (fun h31 => ?_)
                                                                  · refine sim_case hC 2255 0 38 #[172, 245, 301, 314, 370, 438, 506, 531, 599, 667, 758, 826, 922, 935, 1003, 1083, 1096, 1164, 1232, 1328, 1384, 1440, 1496, 1509, 1522, 1578, 1634, 1702, 1758, 1814, 1870, 1883, 1948, 2004, 2060, 2071, 2151, 2231, 2242] 172 1883 1923 h31 (by decide +kernel) (by decide) (by decide) (by decide +kernel) (by decide) ?_
                                                                    exact s_Lc_31 hL s.1 s.2
                                                                  · refine sim_cases (fun h32 => ?_) (fun h32 => ?_)
                                                                    · refine sim_case hC 2255 0 38 #[172, 245, 301, 314, 370, 438, 506, 531, 599, 667, 758, 826, 922, 935, 1003, 1083, 1096, 1164, 1232, 1328, 1384, 1440, 1496, 1509, 1522, 1578, 1634, 1702, 1758, 1814, 1870, 1883, 1948, 2004, 2060, 2071, 2151, 2231, 2242] 172 1948 1988 h32 (by decide +kernel) (by decide) (by decide) (by decide +kernel) (by decide) ?_
                                                                      exact s_Lc_32 hL s.1 s.2
                                                                    · refine sim_cases (fun h33 => ?_) (fun h33 => ?_)
                                                                      · refine sim_case hC 2255 0 38 #[172, 245, 301, 314, 370, 438, 506, 531, 599, 667, 758, 826, 922, 935, 1003, 1083, 1096, 1164, 1232, 1328, 1384, 1440, 1496, 1509, 1522, 1578, 1634, 1702, 1758, 1814, 1870, 1883, 1948, 2004, 2060, 2071, 2151, 2231, 2242] 172 2004 2044 h33 (by decide +kernel) (by decide) (by decide) (by decide +kernel) (by decide) ?_
                                                                        exact s_Lc_33 hL s.1 s.2
                                                                      · refine sim_cases (fun h34 => ?_) (fun h34 => ?_)
                                                                        · refine sim_case hC 2255 0 38 #[172, 245, 301, 314, 370, 438, 506, 531, 599, 667, 758, 826, 922, 935, 1003, 1083, 1096, 1164, 1232, 1328, 1384, 1440, 1496, 1509, 1522, 1578, 1634, 1702, 1758, 1814, 1870, 1883, 1948, 2004, 2060, 2071, 2151, 2231, 2242] 172 2060 2100 h34 (by decide +kernel) (by decide) (by decide) (by decide +kernel) (by decide) ?_
                                                                          exact s_Lc_34 hL s.1 s.2
                                                                        · refine sim_cases (fun h35 => ?_) (fun h35 => ?_)
                                                                          · refine sim_case hC 2255 0 38 #[172, 245, 301, 314, 370, 438, 506, 531, 599, 667, 758, 826, 922, 935, 1003, 1083, 1096, 1164, 1232, 1328, 1384, 1440, 1496, 1509, 1522, 1578, 1634, 1702, 1758, 1814, 1870, 1883, 1948, 2004, 2060, 2071, 2151, 2231, 2242] 172 2071 2111 h35 (by decide +kernel) (by decide) (by decide) (by decide +kernel) (by decide) ?_
                                                                            exact s_Lc_35 hL s.1 s.2
                                                                          · refine sim_cases (fun h36 => ?_) (fun h36 => ?_)
                                                                            · refine sim_case hC 2255 0 38 #[172, 245, 301, 314, 370, 438, 506, 531, 599, 667, 758, 826, 922, 935, 1003, 1083, 1096, 1164, 1232, 1328, 1384, 1440, 1496, 1509, 1522, 1578, 1634, 1702, 1758, 1814, 1870, 1883, 1948, 2004, 2060, 2071, 2151, 2231, 2242] 172 2151 2191 h36 (by decide +kernel) (by decide) (by decide) (by decide +kernel) (by decide) ?_
                                                                              exact s_Lc_36 hL s.1 s.2
                                                                            · refine sim_cases (fun h37 => ?_) (fun h37 => ?_)
                                                                              · refine sim_case hC 2255 0 38 #[172, 245, 301, 314, 370, 438, 506, 531, 599, 667, 758, 826, 922, 935, 1003, 1083, 1096, 1164, 1232, 1328, 1384, 1440, 1496, 1509, 1522, 1578, 1634, 1702, 1758, 1814, 1870, 1883, 1948, 2004, 2060, 2071, 2151, 2231, 2242] 172 2231 2271 h37 (by decide +kernel) (by decide) (by decide) (by decide +kernel) (by decide) ?_
                                                                                exact s_Lc_37 hL s.1 s.2
                                                                              · refine sim_cases (fun h38 => ?_) (fun h38 => ?_)
                                                                                · refine sim_case hC 2255 0 38 #[172, 245, 301, 314, 370, 438, 506, 531, 599, 667, 758, 826, 922, 935, 1003, 1083, 1096, 1164, 1232, 1328, 1384, 1440, 1496, 1509, 1522, 1578, 1634, 1702, 1758, 1814, 1870, 1883, 1948, 2004, 2060, 2071, 2151, 2231, 2242] 172 2242 2282 h38 (by decide +kernel) (by decide) (by decide) (by decide +kernel) (by decide) ?_
                                                                                  exact s_Lc_38 hL s.1 s.2
                                                                                · refine sim_dflt hC 2255 0 38 #[172, 245, 301, 314, 370, 438, 506, 531, 599, 667, 758, 826, 922, 935, 1003, 1083, 1096, 1164, 1232, 1328, 1384, 1440, 1496, 1509, 1522, 1578, 1634, 1702, 1758, 1814, 1870, 1883, 1948, 2004, 2060, 2071, 2151, 2231, 2242] 172 2295 (by decide +kernel) (sw_out [0, 1, 2, 3, 4, 5, 6, 7, 8, 9, 10, 11, 12, 13, 14, 15, 16, 17, 18, 19, 20, 21, 22, 23, 24, 25, 26, 27, 28, 29, 30, 31, 32, 33, 34, 35, 36, 37, 38] 0 38 (by decide +kernel) (List.forall_mem_cons.mpr ⟨h0, List.forall_mem_cons.mpr ⟨h1, List.forall_mem_cons.mpr ⟨h2, List.forall_mem_cons.mpr ⟨h3, List.forall_mem_cons.mpr ⟨h4, List.forall_mem_cons.mpr ⟨h5, List.forall_mem_cons.mpr ⟨h6, List.forall_mem_cons.mpr ⟨h7, List.forall_mem_cons.mpr ⟨h8, List.forall_mem_cons.mpr ⟨h9, List.forall_mem_cons.mpr ⟨h10, List.forall_mem_cons.mpr ⟨h11, List.forall_mem_cons.mpr ⟨h12, List.forall_mem_cons.mpr ⟨h13, List.forall_mem_cons.mpr ⟨h14, List.forall_mem_cons.mpr ⟨h15, List.forall_mem_cons.mpr ⟨h16, List.forall_mem_cons.mpr ⟨h17, List.forall_mem_cons.mpr ⟨h18, List.forall_mem_cons.mpr ⟨h19, List.forall_mem_cons.mpr ⟨h20, List.forall_mem_cons.mpr ⟨h21, List.forall_mem_cons.mpr ⟨h22, List.forall_mem_cons.mpr ⟨h23, List.forall_mem_cons.mpr ⟨h24, List.forall_mem_cons.mpr ⟨h25, List.forall_mem_cons.mpr ⟨h26, List.forall_mem_cons.mpr ⟨h27, List.forall_mem_cons.mpr ⟨h28, List.forall_mem_cons.mpr ⟨h29, List.forall_mem_cons.mpr ⟨h30, List.forall_mem_cons.mpr ⟨h31, List.forall_mem_cons.mpr ⟨h32, List.forall_mem_cons.mpr ⟨h33, List.forall_mem_cons.mpr ⟨h34, List.forall_mem_cons.mpr ⟨h35, List.forall_mem_cons.mpr ⟨h36, List.forall_mem_cons.mpr ⟨h37, List.forall_mem_cons.mpr ⟨h38, fun _ h => absurd h List.not_mem_nil⟩⟩⟩⟩⟩⟩⟩⟩⟩⟩⟩⟩⟩⟩⟩⟩⟩⟩⟩⟩⟩⟩⟩⟩⟩⟩⟩⟩⟩⟩⟩⟩⟩⟩⟩⟩⟩⟩⟩)) (by decide) ?_
                                                                                  refine sim_blk0 hC [(.iinc 4 6, 0, 0, 0, 6)] [(0, vS 998), (1, vR 42), (2, vR 0), (3, vR 41), (4, vI (s.1 + 6))] [] s.2 2298 (by decide +kernel) rfl rfl ?_
                                                                                  refine sim_bi (C := fun i1 => (2298, [(0, vS 998), (1, vR 42), (2, vR 0), (3, vR 41), (4, vI i1)], [], s.2)) (fun i1 => ?_)
                                                                                  refine sim_goto hC (-2275) 23 (by decide +kernel) (by decide) ?_
                                                                                  exact sim_backN (V := V_law) hN (i1, s.2)
