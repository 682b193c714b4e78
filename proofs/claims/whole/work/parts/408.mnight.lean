/-! ===== the model: who is up ===== -/
/-- the class's codes as the model's -/
def trc (s : Int32) : Int32 := if 0 ≤ s then s else if s = -10 then -28 else if s = -11 then -27 else if s = -12 then -26 else if s = -13 then -24 else if s = -14 then -25 else if s = -15 then -20 else if s = -16 then -21 else if s = -17 then -22 else if s = -18 then -23 else s + 1
def MHs (w : Wld) (h : Hs) : Prop := w 3 0 = jn (hsN h) ∧ w 3 1 = jn (hsM h) ∧ w 3 2 = hsT h ∧ w 3 3 = hsR h ∧ w 3 4 = jn (hsL h) ∧ (∀ r, r < hsN h → w 4 r = hsV h r) ∧ (∀ m, m < hsM h → w 7 m = hsO h m) ∧ (∀ k, k < hsL h → w 11 k = trc (hsC h k))
def MSt (w : Wld) (h : Hs) (c : Sta) : Prop := (∀ m, m < hsM h → w 14 m = c m ∧ w 15 m = c (8 + m) ∧ w 16 m = c (16 + m) ∧ w 17 m = c (24 + m)) ∧ (∀ r, r < hsN h → w 18 r = c (32 + r) ∧ w 19 r = c (41 + r)) ∧ w 0 33 = c 50 ∧ w 0 32 = c 51 ∧ w 0 31 = c 52
theorem MHs_fr {L : List Nat} {K : List (Nat × Nat)} {w w' : Wld} {h : Hs} (hw : MHs w h) (f : Frm L K w w') (hf : frB L K 3 0 = false ∧ frB L K 3 1 = false ∧ frB L K 3 2 = false ∧ frB L K 3 3 = false ∧ frB L K 3 4 = false ∧ (∀ j, frB L K 4 j = false) ∧ (∀ j, frB L K 7 j = false) ∧ ∀ j, frB L K 11 j = false) : MHs w' h := by
  obtain ⟨a0, a1, a2, a3, a4, a5, a6, a7⟩ := hf
  obtain ⟨b0, b1, b2, b3, b4, b5, b6, b7⟩ := hw
  exact ⟨(f _ _ a0).trans b0, (f _ _ a1).trans b1, (f _ _ a2).trans b2, (f _ _ a3).trans b3, (f _ _ a4).trans b4, fun r hr => (f _ _ (a5 r)).trans (b5 r hr), fun r hr => (f _ _ (a6 r)).trans (b6 r hr), fun r hr => (f _ _ (a7 r)).trans (b7 r hr)⟩
theorem MSt_fr {L : List Nat} {K : List (Nat × Nat)} {w w' : Wld} {h : Hs} {c : Sta} (hw : MSt w h c) (f : Frm L K w w') (hf : (∀ j, frB L K 14 j = false) ∧ (∀ j, frB L K 15 j = false) ∧ (∀ j, frB L K 16 j = false) ∧ (∀ j, frB L K 17 j = false) ∧ (∀ j, frB L K 18 j = false) ∧ (∀ j, frB L K 19 j = false) ∧ frB L K 0 33 = false ∧ frB L K 0 32 = false ∧ frB L K 0 31 = false) : MSt w' h c := by
  obtain ⟨a0, a1, a2, a3, a4, a5, a6, a7, a8⟩ := hf
  obtain ⟨b0, b1, b2, b3, b4⟩ := hw
  refine ⟨fun m hm => ?_, fun r hr => ?_, (f _ _ a6).trans b2, (f _ _ a7).trans b3, (f _ _ a8).trans b4⟩
  · obtain ⟨c0, c1, c2, c3⟩ := b0 m hm
    exact ⟨(f _ _ (a0 m)).trans c0, (f _ _ (a1 m)).trans c1, (f _ _ (a2 m)).trans c2, (f _ _ (a3 m)).trans c3⟩
  · obtain ⟨c0, c1⟩ := b1 r hr
    exact ⟨(f _ _ (a4 r)).trans c0, (f _ _ (a5 r)).trans c1⟩
theorem t_those {w : Wld} {n : Nat} (r : Int32) (e1 : w 3 1 = jn n) (hn : n ≤ 8) : F_M_those w r = some (jn (nAll (fun m => decide (w 16 m = r)) n)) := by
  have key : loop (B_M_those_4 r w) (0, 0) = some (jn (nAll (fun m => decide (w 16 m = r)) n)) := by
    refine loop_for (V := fun k => (jn (nAll (fun m => decide (w 16 m = r)) k), jn k)) n (fun k hk => ?_) ?_
    · by_cases hc : w 16 k = r
      · simp (disch := omega) only [B_M_those_4, K_M_those_32, ↓bi_eq, ↓bw_eq, gd_pos, br_pos, br_neg, br_T, br_F, gd_T, bp_some, bd_some, bv_some, bl_some, bx_inl, bx_inr, bn_none, bn_some, bt_inl, bt_inr, not_true_eq_false, not_false_eq_true, eq_self, Bool.false_eq_true, if_true, if_false, jn_clamp, jn_lt, jn_le, jn_inj, jn_add, jn_sub, jn_mul, jn_vp, jn_0a, jn_1a, jn_1b, jn_1s, jn_1m, jn_neg0, jn_le0, jn_0le, jn_0lt, jn_1le, jn_le1, jn_lt1, jn_1lt, jn_e0, jn_e1, jn_em, ↓qB_f, ↓qT_f, cl_0, cl_1, vp_0, vp_1, e1, nAll_s, hc, decide_true, if_true, qB_jn, jn_or]
      · simp (disch := omega) only [B_M_those_4, K_M_those_32, ↓bi_eq, ↓bw_eq, gd_pos, br_pos, br_neg, br_T, br_F, gd_T, bp_some, bd_some, bv_some, bl_some, bx_inl, bx_inr, bn_none, bn_some, bt_inl, bt_inr, not_true_eq_false, not_false_eq_true, eq_self, Bool.false_eq_true, if_true, if_false, jn_clamp, jn_lt, jn_le, jn_inj, jn_add, jn_sub, jn_mul, jn_vp, jn_0a, jn_1a, jn_1b, jn_1s, jn_1m, jn_neg0, jn_le0, jn_0le, jn_0lt, jn_1le, jn_le1, jn_lt1, jn_1lt, jn_e0, jn_e1, jn_em, ↓qB_f, ↓qT_f, cl_0, cl_1, vp_0, vp_1, e1, nAll_s, hc, decide_false, if_false, Bool.false_eq_true, Int32.or_zero]
    · simp (disch := omega) only [B_M_those_4, ↓bi_eq, ↓bw_eq, gd_pos, br_pos, br_neg, br_T, br_F, gd_T, bp_some, bd_some, bv_some, bl_some, bx_inl, bx_inr, bn_none, bn_some, bt_inl, bt_inr, not_true_eq_false, not_false_eq_true, eq_self, Bool.false_eq_true, if_true, if_false, jn_clamp, jn_lt, jn_le, jn_inj, jn_add, jn_sub, jn_mul, jn_vp, jn_0a, jn_1a, jn_1b, jn_1s, jn_1m, jn_neg0, jn_le0, jn_0le, jn_0lt, jn_1le, jn_le1, jn_lt1, jn_1lt, jn_e0, jn_e1, jn_em, ↓qB_f, ↓qT_f, cl_0, cl_1, vp_0, vp_1, e1, br_pos (Nat.le_refl n)]
  rw [F_M_those, key]; rfl
theorem those_s {w : Wld} {h : Hs} {c : Sta} (hs : MSt w h c) (r : Int32) : nAll (fun m => decide (w 16 m = r)) (hsM h) = sThose h c r :=
  nAll_congr (fun m hm => by rw [(hs.1 m hm).2.2.1])
theorem t_isOf (w : Wld) {a m : Nat} (ha : a < 512) (hm : m < 9) : F_M_isOf w (jn a) (jn m) = some (if a.testBit m = true then 1 else 0) := by
  by_cases hc : a.testBit m = true
  · simp (disch := omega) only [F_M_isOf, K_M_isOf_14, ↓bi_eq, ↓bw_eq, gd_pos, br_pos, br_neg, br_T, br_F, gd_T, bp_some, bd_some, bv_some, bl_some, bx_inl, bx_inr, bn_none, bn_some, bt_inl, bt_inr, not_true_eq_false, not_false_eq_true, eq_self, Bool.false_eq_true, if_true, if_false, jn_clamp, jn_lt, jn_le, jn_inj, jn_add, jn_sub, jn_mul, jn_vp, jn_0a, jn_1a, jn_1b, jn_1s, jn_1m, jn_neg0, jn_le0, jn_0le, jn_0lt, jn_1le, jn_le1, jn_lt1, jn_1lt, jn_e0, jn_e1, jn_em, ↓qB_f, ↓qT_f, cl_0, cl_1, vp_0, vp_1, qT_1, hc, if_true, or_true]
  · simp (disch := omega) only [F_M_isOf, K_M_isOf_14, ↓bi_eq, ↓bw_eq, gd_pos, br_pos, br_neg, br_T, br_F, gd_T, bp_some, bd_some, bv_some, bl_some, bx_inl, bx_inr, bn_none, bn_some, bt_inl, bt_inr, not_true_eq_false, not_false_eq_true, eq_self, Bool.false_eq_true, if_true, if_false, jn_clamp, jn_lt, jn_le, jn_inj, jn_add, jn_sub, jn_mul, jn_vp, jn_0a, jn_1a, jn_1b, jn_1s, jn_1m, jn_neg0, jn_le0, jn_0le, jn_0lt, jn_1le, jn_le1, jn_lt1, jn_1lt, jn_e0, jn_e1, jn_em, ↓qB_f, ↓qT_f, cl_0, cl_1, vp_0, vp_1, qT_1, hc, if_false, true_or]
theorem t_bitsOf (w : Wld) {k : Nat} (hk : k < 512) : F_M_bitsOf w (jn k) = some (jn (pcn k)) := by
  have key : Ret (loop (B_M_bitsOf_4 w) (0, jn k)) (fun r => r = jn (pcn k)) := by
    refine loop_ms (I := fun j s => j < 512 ∧ s.2 = jn j ∧ ∃ a, s.1 = jn a ∧ a + pcn j = pcn k) (n := k) ⟨hk, rfl, 0, rfl, by omega⟩ (fun j s hi => ?_)
    obtain ⟨n, v⟩ := s
    obtain ⟨i1, i2, a, i3, i4⟩ := hi
    simp only at i2 i3
    subst i2 i3
    by_cases h0 : j = 0
    · subst h0
      simp (disch := omega) only [B_M_bitsOf_4, ↓bi_eq, ↓bw_eq, gd_pos, br_pos, br_neg, br_T, br_F, gd_T, bp_some, bd_some, bv_some, bl_some, bx_inl, bx_inr, bn_none, bn_some, bt_inl, bt_inr, not_true_eq_false, not_false_eq_true, eq_self, Bool.false_eq_true, if_true, if_false, jn_clamp, jn_lt, jn_le, jn_inj, jn_add, jn_sub, jn_mul, jn_vp, jn_0a, jn_1a, jn_1b, jn_1s, jn_1m, jn_neg0, jn_le0, jn_0le, jn_0lt, jn_1le, jn_le1, jn_lt1, jn_1lt, jn_e0, jn_e1, jn_em, ↓qB_f, ↓qT_f, cl_0, cl_1, vp_0, vp_1, ret_some, LQ_inr]
      rw [← i4]; rfl
    · obtain ⟨d1, d2⟩ := pcn_down j i1 h0
      simp (disch := omega) only [B_M_bitsOf_4, ↓bi_eq, ↓bw_eq, gd_pos, br_pos, br_neg, br_T, br_F, gd_T, bp_some, bd_some, bv_some, bl_some, bx_inl, bx_inr, bn_none, bn_some, bt_inl, bt_inr, not_true_eq_false, not_false_eq_true, eq_self, Bool.false_eq_true, if_true, if_false, jn_clamp, jn_lt, jn_le, jn_inj, jn_add, jn_sub, jn_mul, jn_vp, jn_0a, jn_1a, jn_1b, jn_1s, jn_1m, jn_neg0, jn_le0, jn_0le, jn_0lt, jn_1le, jn_le1, jn_lt1, jn_1lt, jn_e0, jn_e1, jn_em, ↓qB_f, ↓qT_f, cl_0, cl_1, vp_0, vp_1, h0, jn_and, ret_some, LQ_inl]
      exact ⟨_, d2, by omega, rfl, a + 1, rfl, by omega⟩
  rw [F_M_bitsOf, ret_of key]; rfl
theorem t_reckon (w : Wld) {s : Int32} (a b : Int32) (hs : s = -11 ∨ s = -12 ∨ s = -13 ∨ s = -14 ∨ s = -15 ∨ s = -16 ∨ s = -17 ∨ s = -18) : F_M_reckon w (trc s) a b = some (join s a b) := by
  have e11 : trc (-11) = -27 := by decide
  have e12 : trc (-12) = -26 := by decide
  have e13 : trc (-13) = -24 := by decide
  have e14 : trc (-14) = -25 := by decide
  have e15 : trc (-15) = -20 := by decide
  have e16 : trc (-16) = -21 := by decide
  have e17 : trc (-17) = -22 := by decide
  have e18 : trc (-18) = -23 := by decide
  simp only [F_M_reckon, K_M_reckon_117, K_M_reckon_112, K_M_reckon_103, K_M_reckon_102, K_M_reckon_89, K_M_reckon_78, K_M_reckon_67]
  rcases hs with rfl | rfl | rfl | rfl | rfl | rfl | rfl | rfl
  · rw [e11, br_neg (by decide), br_neg (by decide), br_neg (by decide), br_neg (by decide), br_neg (by decide), br_neg (by decide), br_neg (by decide), show join (-11) a b = (if a ≠ 0 ∨ b ≠ 0 then 1 else 0) from rfl]
    by_cases ha : a = 0
    · rw [br_neg (fun z => z ha)]
      by_cases hb : b = 0
      · rw [br_pos hb, if_neg (fun z => z.elim (fun z => z ha) (fun z => z hb))]
      · rw [br_neg hb, if_pos (Or.inr hb)]
    · rw [br_pos ha, if_pos (Or.inl ha)]
  · rw [e12, br_pos rfl, show join (-12) a b = (if a ≠ 0 ∧ b ≠ 0 then 1 else 0) from rfl]
    by_cases ha : a = 0
    · rw [br_pos ha, if_neg (fun z => z.1 ha)]
    · by_cases hb : b = 0
      · rw [br_neg ha, br_pos hb, if_neg (fun z => z.2 hb)]
      · rw [br_neg ha, br_neg hb, if_pos ⟨ha, hb⟩]
  · rw [e13, br_neg (by decide), br_neg (by decide), br_pos rfl, show join (-13) a b = (if a < b then 1 else 0) from rfl]
    by_cases h : a < b
    · rw [br_neg (Int32.not_le.mpr h), if_pos h]
    · rw [br_pos (Int32.not_lt.mp h), if_neg h]
  · rw [e14, br_neg (by decide), br_pos rfl, show join (-14) a b = (if a = b then 1 else 0) from rfl]
    by_cases h : a = b
    · rw [br_neg (fun z => z h), if_pos h]
    · rw [br_pos h, if_neg h]
  · rw [e15, br_neg (by decide), br_neg (by decide), br_neg (by decide), br_neg (by decide), br_neg (by decide), br_neg (by decide), br_pos rfl]; rfl
  · rw [e16, br_neg (by decide), br_neg (by decide), br_neg (by decide), br_neg (by decide), br_neg (by decide), br_pos rfl]; rfl
  · rw [e17, br_neg (by decide), br_neg (by decide), br_neg (by decide), br_neg (by decide), br_pos rfl]; rfl
  · rw [e18, br_neg (by decide), br_neg (by decide), br_neg (by decide), br_pos rfl, show join (-18) a b = (if b = 0 then 0 else a / b) from rfl]
    by_cases hb : b = 0
    · rw [br_neg (fun z => z hb), if_pos hb]
    · rw [br_pos hb, gd_pos hb, if_neg hb]
theorem trc_bin {s : Int32} (hs : s = -11 ∨ s = -12 ∨ s = -13 ∨ s = -14 ∨ s = -15 ∨ s = -16 ∨ s = -17 ∨ s = -18) : trc s ≤ -20 ∧ ¬ trc s = -28 := by
  rcases hs with rfl | rfl | rfl | rfl | rfl | rfl | rfl | rfl <;> decide
theorem trc_val : ∀ v, v < 8 → (¬ trc (-2 - jn v) ≤ -20 ∧ trc (-2 - jn v) < 0 ∧ -1 - trc (-2 - jn v) = jn v) := by decide +kernel
theorem trc_num {s : Int32} (h : pushN s) : trc s = s ∧ ¬ s ≤ -20 := by
  refine ⟨if_pos h.1, fun e => ?_⟩
  have h0 := Int32.le_iff_toInt_le.mp h.1
  have h1 := Int32.le_iff_toInt_le.mp e
  have : (-20 : Int32).toInt = -20 := by decide
  have : (0 : Int32).toInt = 0 := by decide
  omega
def IVaM (cs vs : Nat → Int32) (w : Wld) (k : Nat) (s : Int32 × Int32 × Wld) : Prop := s.1 = jn (dep cs k) ∧ s.2.1 = jn k ∧ Frm [22] [] w s.2.2 ∧ ∀ j, j < dep cs k → s.2.2 22 j = stk cs vs k j
theorem t_valueNow {w : Wld} {h : Hs} {vs : Nat → Int32} (hw : MHs w h) (hh : GdH h) (h0 : hsL h ≠ 0) (hv : ∀ v, v < 8 → w 21 v = vs v) : Ret (F_M_valueNow w) (fun q => q.1 = stk (hsC h) vs (hsL h) 0 ∧ Frm [22] [] w q.2) := by
  have hL := hh.2.2.2.2.1
  have hok := hh.2.2.2.2.2
  have hd := dep_le hok
  rw [F_M_valueNow, ret_bl]
  refine loop_inv (I := IVaM (hsC h) vs w) (hsL h) ⟨rfl, rfl, frm_rf, fun j hj => absurd hj (Nat.not_lt_zero j)⟩ (fun k s hk hi => ?_) (fun s hi => ?_)
  · obtain ⟨top, i, w1⟩ := s
    obtain ⟨i1, i2, i3, i4⟩ := hi
    simp only at i1 i2 i3 i4
    subst i1 i2
    have e59 : w1 3 4 = jn (hsL h) := (i3 3 4 rfl).trans hw.2.2.2.2.1
    have e60 : w1 11 k = trc (hsC h k) := (i3 11 k rfl).trans (hw.2.2.2.2.2.2.2 k hk)
    have hdk := hd k (by omega)
    have hds : dep (hsC h) (k + 1) = if hsC h k ≤ -11 then dep (hsC h) k - 1 else if hsC h k = -10 then dep (hsC h) k else dep (hsC h) k + 1 := rfl
    have hst : stk (hsC h) vs (k + 1) = if hsC h k ≤ -11 then upd (stk (hsC h) vs k) (dep (hsC h) k - 2) (join (hsC h k) (stk (hsC h) vs k (dep (hsC h) k - 2)) (stk (hsC h) vs k (dep (hsC h) k - 1)))
      else if hsC h k = -10 then upd (stk (hsC h) vs k) (dep (hsC h) k - 1) (if stk (hsC h) vs k (dep (hsC h) k - 1) = 0 then 1 else 0)
      else upd (stk (hsC h) vs k) (dep (hsC h) k) (if 0 ≤ hsC h k then hsC h k else vs (-2 - hsC h k).toNatClampNeg) := rfl
    rcases okS_cases (hok k hk) with ⟨hp, hlt⟩ | ⟨hn, h1⟩ | ⟨hb1, hb2, hge, hb3⟩
    · have key : ∀ x : Int32, (x = if 0 ≤ hsC h k then hsC h k else vs (-2 - hsC h k).toNatClampNeg) → ¬ hsC h k ≤ -11 → ¬ hsC h k = -10 → IVaM (hsC h) vs w (k + 1) (jn (dep (hsC h) k + 1), jn (k + 1), wup w1 22 (dep (hsC h) k) x) := by
        intro x hx n1 n2
        refine ⟨?_, rfl, frm_wup i3 _ _ _ rfl, fun j hj => ?_⟩
        · rw [hds, if_neg n1, if_neg n2]
        · rw [hds, if_neg n1, if_neg n2] at hj
          rw [hst, if_neg n1, if_neg n2]
          show wup w1 22 _ x 22 j = _
          rw [wup_s, upd]
          by_cases hj2 : j = dep (hsC h) k
          · rw [if_pos hj2, if_pos hj2, hx]
          · rw [if_neg hj2, if_neg hj2]; exact i4 j (by omega)
      rcases hp with hp | ⟨v, hv8, hp⟩
      · obtain ⟨t1, t2⟩ := trc_num hp
        obtain ⟨p1, p2, p3, p4, p5⟩ := hp
        rw [t1] at e60
        simp (disch := omega) only [B_M_valueNow_4, K_M_valueNow_48, K_M_valueNow_117, ↓bi_eq, ↓bw_eq, gd_pos, br_pos, br_neg, br_T, br_F, gd_T, bp_some, bd_some, bv_some, bl_some, bx_inl, bx_inr, bn_none, bn_some, bt_inl, bt_inr, not_true_eq_false, not_false_eq_true, eq_self, Bool.false_eq_true, if_true, if_false, jn_clamp, jn_lt, jn_le, jn_inj, jn_add, jn_sub, jn_mul, jn_vp, jn_0a, jn_1a, jn_1b, jn_1s, jn_1m, jn_neg0, jn_le0, jn_0le, jn_0lt, jn_1le, jn_le1, jn_lt1, jn_1lt, jn_e0, jn_e1, jn_em, ↓qB_f, ↓qT_f, cl_0, cl_1, vp_0, vp_1, li_4, e59, e60, t2, p5, ret_some, LQ_inl]
        exact key _ (by rw [if_pos p1]) p4 p3
      · have f := pushV_facts v hv8
        have t := trc_val v hv8
        rw [hp] at key e60
        simp (disch := omega) only [B_M_valueNow_4, K_M_valueNow_48, K_M_valueNow_117, ↓bi_eq, ↓bw_eq, gd_pos, br_pos, br_neg, br_T, br_F, gd_T, bp_some, bd_some, bv_some, bl_some, bx_inl, bx_inr, bn_none, bn_some, bt_inl, bt_inr, not_true_eq_false, not_false_eq_true, eq_self, Bool.false_eq_true, if_true, if_false, jn_clamp, jn_lt, jn_le, jn_inj, jn_add, jn_sub, jn_mul, jn_vp, jn_0a, jn_1a, jn_1b, jn_1s, jn_1m, jn_neg0, jn_le0, jn_0le, jn_0lt, jn_1le, jn_le1, jn_lt1, jn_1lt, jn_e0, jn_e1, jn_em, ↓qB_f, ↓qT_f, cl_0, cl_1, vp_0, vp_1, li_4, e59, e60, t.1, t.2.1, t.2.2, ret_some, LQ_inl]
        refine key _ ?_ f.2.2.1 f.2.1
        rw [if_neg f.2.2.2.2.1, f.2.2.2.2.2, jn_clamp (by omega), i3 21 v rfl, hv v hv8]
    · have hb1 : ¬ hsC h k ≤ -11 := by rw [hn]; decide
      have et28 : trc (hsC h k) = -28 := by rw [hn]; decide
      have key : ∀ x : Int32, (x = if stk (hsC h) vs k (dep (hsC h) k - 1) = 0 then 1 else 0) → IVaM (hsC h) vs w (k + 1) (jn (dep (hsC h) k), jn (k + 1), wup w1 22 (dep (hsC h) k - 1) x) := by
        intro x hx
        refine ⟨?_, rfl, frm_wup i3 _ _ _ rfl, fun j hj => ?_⟩
        · rw [hds, if_neg hb1, if_pos hn]
        · rw [hds, if_neg hb1, if_pos hn] at hj
          rw [hst, if_neg hb1, if_pos hn]
          show wup w1 22 _ x 22 j = _
          rw [wup_s, upd]
          by_cases hj2 : j = dep (hsC h) k - 1
          · rw [if_pos hj2, if_pos hj2, hx]
          · rw [if_neg hj2, if_neg hj2]; exact i4 j (by omega)
      have et := i4 (dep (hsC h) k - 1) (by omega)
      by_cases hz : stk (hsC h) vs k (dep (hsC h) k - 1) = 0
      · simp (disch := omega) only [B_M_valueNow_4, K_M_valueNow_84, K_M_valueNow_117, ↓bi_eq, ↓bw_eq, gd_pos, br_pos, br_neg, br_T, br_F, gd_T, bp_some, bd_some, bv_some, bl_some, bx_inl, bx_inr, bn_none, bn_some, bt_inl, bt_inr, not_true_eq_false, not_false_eq_true, eq_self, Bool.false_eq_true, if_true, if_false, jn_clamp, jn_lt, jn_le, jn_inj, jn_add, jn_sub, jn_mul, jn_vp, jn_0a, jn_1a, jn_1b, jn_1s, jn_1m, jn_neg0, jn_le0, jn_0le, jn_0lt, jn_1le, jn_le1, jn_lt1, jn_1lt, jn_e0, jn_e1, jn_em, ↓qB_f, ↓qT_f, cl_0, cl_1, vp_0, vp_1, li_4, e59, e60, et28, et, hz, (by decide : ((-28 : Int32) ≤ -20) = True), ret_some, LQ_inl]
        exact key _ (by rw [if_pos hz])
      · simp (disch := omega) only [B_M_valueNow_4, K_M_valueNow_84, K_M_valueNow_117, ↓bi_eq, ↓bw_eq, gd_pos, br_pos, br_neg, br_T, br_F, gd_T, bp_some, bd_some, bv_some, bl_some, bx_inl, bx_inr, bn_none, bn_some, bt_inl, bt_inr, not_true_eq_false, not_false_eq_true, eq_self, Bool.false_eq_true, if_true, if_false, jn_clamp, jn_lt, jn_le, jn_inj, jn_add, jn_sub, jn_mul, jn_vp, jn_0a, jn_1a, jn_1b, jn_1s, jn_1m, jn_neg0, jn_le0, jn_0le, jn_0lt, jn_1le, jn_le1, jn_lt1, jn_1lt, jn_e0, jn_e1, jn_em, ↓qB_f, ↓qT_f, cl_0, cl_1, vp_0, vp_1, li_4, e59, e60, et28, et, hz, (by decide : ((-28 : Int32) ≤ -20) = True), ret_some, LQ_inl]
        exact key _ (by rw [if_neg hz])
    · have key : IVaM (hsC h) vs w (k + 1) (jn (dep (hsC h) k - 1), jn (k + 1), wup w1 22 (dep (hsC h) k - 2) (join (hsC h k) (stk (hsC h) vs k (dep (hsC h) k - 2)) (stk (hsC h) vs k (dep (hsC h) k - 1)))) := by
        refine ⟨?_, rfl, frm_wup i3 _ _ _ rfl, fun j hj => ?_⟩
        · rw [hds, if_pos hb1]
        · rw [hds, if_pos hb1] at hj
          rw [hst, if_pos hb1]
          show wup w1 22 _ _ 22 j = _
          rw [wup_s, upd]
          by_cases hj2 : j = dep (hsC h) k - 2
          · rw [if_pos hj2, if_pos hj2]
          · rw [if_neg hj2, if_neg hj2]; exact i4 j (by omega)
      have e1 := i4 (dep (hsC h) k - 1) (by omega)
      have e2 := i4 (dep (hsC h) k - 2) (by omega)
      have e3 : dep (hsC h) k - 1 - 1 = dep (hsC h) k - 2 := by omega
      have tb9 := trc_bin hb3
      have tr9 := fun a b => t_reckon w1 a b hb3
      simp (disch := omega) only [B_M_valueNow_4, K_M_valueNow_117, ↓bi_eq, ↓bw_eq, gd_pos, br_pos, br_neg, br_T, br_F, gd_T, bp_some, bd_some, bv_some, bl_some, bx_inl, bx_inr, bn_none, bn_some, bt_inl, bt_inr, not_true_eq_false, not_false_eq_true, eq_self, Bool.false_eq_true, if_true, if_false, jn_clamp, jn_lt, jn_le, jn_inj, jn_add, jn_sub, jn_mul, jn_vp, jn_0a, jn_1a, jn_1b, jn_1s, jn_1m, jn_neg0, jn_le0, jn_0le, jn_0lt, jn_1le, jn_le1, jn_lt1, jn_1lt, jn_e0, jn_e1, jn_em, ↓qB_f, ↓qT_f, cl_0, cl_1, vp_0, vp_1, li_4, e59, e60, tb9.1, tb9.2, tr9, e3, e1, e2, ret_some, LQ_inl]
      exact key
  · obtain ⟨top, i, w1⟩ := s
    obtain ⟨i1, i2, i3, i4⟩ := hi
    simp only at i1 i2 i3 i4
    subst i1 i2
    have e59 : w1 3 4 = jn (hsL h) := (i3 3 4 rfl).trans hw.2.2.2.2.1
    simp (disch := omega) only [B_M_valueNow_4, ↓bi_eq, ↓bw_eq, gd_pos, br_pos, br_neg, br_T, br_F, gd_T, bp_some, bd_some, bv_some, bl_some, bx_inl, bx_inr, bn_none, bn_some, bt_inl, bt_inr, not_true_eq_false, not_false_eq_true, eq_self, Bool.false_eq_true, if_true, if_false, jn_clamp, jn_lt, jn_le, jn_inj, jn_add, jn_sub, jn_mul, jn_vp, jn_0a, jn_1a, jn_1b, jn_1s, jn_1m, jn_neg0, jn_le0, jn_0le, jn_0lt, jn_1le, jn_le1, jn_lt1, jn_1lt, jn_e0, jn_e1, jn_em, ↓qB_f, ↓qT_f, cl_0, cl_1, vp_0, vp_1, li_4, e59, br_pos (Nat.le_refl (hsL h)), ret_some, LQ_inr]
    exact ⟨i4 0 (dep_pos hok _ (Nat.le_refl _) (by omega)), i3⟩
