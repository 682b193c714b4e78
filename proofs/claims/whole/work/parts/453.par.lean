/-! ===== how the reading begins, and what is taken over ===== -/
theorem c_fill54 (w : Wld) : Ret (F_JA_fill_54 w 0) (fun w' => Frm [54] [] w w' ∧ ∀ i, i < 53 → w' 54 i = 0) := by
  rw [F_JA_fill_54, ret_bl]
  refine loop_inv (I := fun j s => s.1 = jn j ∧ Frm [54] [] w s.2 ∧ ∀ i, i < j → s.2 54 i = 0) 53 ⟨rfl, frm_rf, fun i hi => absurd hi (Nat.not_lt_zero i)⟩ (fun j s hj hi => ?_) (fun s hi => ?_)
  · obtain ⟨i, w1⟩ := s
    obtain ⟨i1, i2, i3⟩ := hi
    simp only at i1 i2 i3
    subst i1
    simp (disch := omega) only [B_JA_fill_54_5, ↓bi_eq, ↓bw_eq, gd_pos, br_pos, br_neg, br_T, br_F, gd_T, bq_some, bd_some, bv_some, bl_some, bx_inl, bx_inr, bn_none, bn_some, bt_inl, bt_inr, not_true_eq_false, not_false_eq_true, eq_self, Bool.false_eq_true, if_true, if_false, jn_clamp, jn_lt, jn_le, jn_inj, jn_add, jn_sub, jn_mul, jn_vp, jn_0a, jn_1a, jn_1b, jn_1s, jn_1m, jn_neg0, jn_le0, jn_0le, jn_0lt, jn_1le, jn_le1, jn_lt1, jn_1lt, jn_e0, jn_e1, jn_em, ↓qB_f, ↓qT_f, cl_0, cl_1, vp_0, vp_1, li_53, ret_some, LQ_inl]
    refine ⟨trivial, frm_wup i2 _ _ _ rfl, fun i hi => ?_⟩
    rw [wup_s]
    by_cases e : i = j
    · rw [if_pos e]
    · rw [if_neg e]; exact i3 i (by omega)
  · obtain ⟨i, w1⟩ := s
    obtain ⟨i1, i2, i3⟩ := hi
    simp only at i1 i2 i3
    subst i1
    rw [B_JA_fill_54_5, br_pos (show (53 : Int32) ≤ jn 53 by decide), ret_some, LQ_inr, ret_some]
    exact ⟨i2, i3⟩
theorem fits_sb : ∀ b, b < 256 → Jvm.fits (tyOf 1) (.int (sb b)) = true := by decide +kernel
theorem imax_k {L : Nat} (hL : L ≤ 700) : imax 0 (imin (jn L) (imin 700 700)) = jn L := by
  have e7 : imin (700 : Int32) 700 = 700 := by decide
  have e1 : imin (jn L) 700 = jn L := by
    unfold imin
    rw [if_neg (by rw [li_700, jn_lt (by omega) (by omega)]; omega)]
  rw [e7, e1]
  unfold imax
  by_cases h : L = 0
  · subst h; decide
  · rw [if_pos (by rw [jn_0lt (by omega)]; omega)]
theorem h_begin_c {w : Wld} {tx : Nat → Nat} {L : Nat} (hL : L ≤ 700) (ht : ∀ k, k < L → tx k < 256 ∧ w 43 k = sb (tx k)) : Ret (F_Reader_begin_44_43 w (jn L)) (fun wC => Frm [44, 45, 46, 47, 50, 54] [] w wC ∧ CTx wC tx L ∧ CTk wC tx L (nxt tx L 0) ∧ wC 50 2 = 0 ∧ wC 47 0 = 0 ∧ wC 47 1 = 0 ∧ wC 47 2 = 20 ∧ wC 47 3 = 10 ∧ wC 44 1 = 0 ∧ wC 44 2 = 0 ∧ wC 44 3 = 0 ∧ ∀ i, i < 53 → wC 54 i = 0) := by
  rw [F_Reader_begin_44_43, F_House_clear_47, bw_eq, bw_eq, bw_eq, bw_eq, bw_eq, bv_some, F_State_clear_53]
  have f5 : Frm [47, 50] [] w (wup (wup (wup (wup (wup w 47 0 0) 47 1 0) 47 2 20) 47 3 10) 50 2 0) := frm_wup (frm_wup (frm_wup (frm_wup (frm_wup frm_rf _ _ _ rfl) _ _ _ rfl) _ _ _ rfl) _ _ _ rfl) _ _ _ rfl
  have z1 : (wup (wup (wup (wup (wup w 47 0 0) 47 1 0) 47 2 20) 47 3 10) 50 2 0) 47 0 = 0 := by simp (disch := omega) only [wup_s1, wup_s2, wup_o, wcp_o]
  have z2 : (wup (wup (wup (wup (wup w 47 0 0) 47 1 0) 47 2 20) 47 3 10) 50 2 0) 47 1 = 0 := by simp (disch := omega) only [wup_s1, wup_s2, wup_o, wcp_o]
  have z3 : (wup (wup (wup (wup (wup w 47 0 0) 47 1 0) 47 2 20) 47 3 10) 50 2 0) 47 2 = 20 := by simp (disch := omega) only [wup_s1, wup_s2, wup_o, wcp_o]
  have z4 : (wup (wup (wup (wup (wup w 47 0 0) 47 1 0) 47 2 20) 47 3 10) 50 2 0) 47 3 = 10 := by simp (disch := omega) only [wup_s1, wup_s2, wup_o, wcp_o]
  have z5 : (wup (wup (wup (wup (wup w 47 0 0) 47 1 0) 47 2 20) 47 3 10) 50 2 0) 50 2 = 0 := wup_s1 _ _ _ _
  generalize wup (wup (wup (wup (wup w 47 0 0) 47 1 0) 47 2 20) 47 3 10) 50 2 0 = w5 at f5 z1 z2 z3 z4 z5 ⊢
  obtain ⟨w6, e6, f6, g6⟩ := c_fill54 w5
  rw [e6, bv_some, bv_some, gd_pos (Or.inl rfl), bw_eq, gd_pos (Or.inl rfl), bw_eq, gd_pos (Or.inl rfl), bw_eq, bw_eq, bw_eq, F_Tokens_begin_45_43, imax_k hL, bw_eq, wup_s1]
  have f7 : Frm [44] [(45, 1)] w6 (wup (wup (wup (wup (wup (wup w6 44 1 0) 44 2 0) 44 3 0) 44 5 0) 44 6 (-1)) 45 1 (jn L)) := frm_wup (frm_wup (frm_wup (frm_wup (frm_wup (frm_wup frm_rf _ _ _ rfl) _ _ _ rfl) _ _ _ rfl) _ _ _ rfl) _ _ _ rfl) _ _ _ rfl
  have y1 : (wup (wup (wup (wup (wup (wup w6 44 1 0) 44 2 0) 44 3 0) 44 5 0) 44 6 (-1)) 45 1 (jn L)) 44 1 = 0 := by simp (disch := omega) only [wup_s1, wup_s2, wup_o, wcp_o]
  have y2 : (wup (wup (wup (wup (wup (wup w6 44 1 0) 44 2 0) 44 3 0) 44 5 0) 44 6 (-1)) 45 1 (jn L)) 44 2 = 0 := by simp (disch := omega) only [wup_s1, wup_s2, wup_o, wcp_o]
  have y3 : (wup (wup (wup (wup (wup (wup w6 44 1 0) 44 2 0) 44 3 0) 44 5 0) 44 6 (-1)) 45 1 (jn L)) 44 3 = 0 := by simp (disch := omega) only [wup_s1, wup_s2, wup_o, wcp_o]
  have y4 : (wup (wup (wup (wup (wup (wup w6 44 1 0) 44 2 0) 44 3 0) 44 5 0) 44 6 (-1)) 45 1 (jn L)) 45 1 = jn L := wup_s1 _ _ _ _
  generalize wup (wup (wup (wup (wup (wup w6 44 1 0) 44 2 0) 44 3 0) 44 5 0) 44 6 (-1)) 45 1 (jn L) = w7 at f7 y1 y2 y3 y4 ⊢
  have e43 : w7 43 = w 43 := by rw [frm_cell f7 43 (fun _ => rfl), frm_cell f6 43 (fun _ => rfl), frm_cell f5 43 (fun _ => rfl)]
  have hcp : cpO w7 43 700 700 1 0 0 (jn L) := by
    unfold cpO
    rw [jn_neg0 (by omega), jn_clamp (by omega), cl_0]
    refine ⟨by decide, by decide, id, by omega, by omega, fun i hi => ?_⟩
    rw [e43, Nat.zero_add, (ht i hi).2]
    exact fits_sb _ (ht i hi).1
  rw [gd_pos hcp, bw_eq, bw_eq, jn_clamp (by omega), cl_0]
  have f8 : Frm [46] [(45, 2)] w7 (wup (wcp w7 43 46 0 0 L) 45 2 0) := frm_wup (frm_wcp frm_rf _ _ _ _ _ rfl) _ _ _ rfl
  have x1 : (wup (wcp w7 43 46 0 0 L) 45 2 0) 45 2 = jn 0 := wup_s1 _ _ _ _
  have x2 : ∀ k, k < L → (wup (wcp w7 43 46 0 0 L) 45 2 0) 46 k = sb (tx k) := by
    intro k hk
    rw [wup_o _ _ _ (by decide), wcp_s, if_pos (by omega), e43, show 0 + (k - 0) = k by omega]
    exact (ht k hk).2
  generalize wup (wcp w7 43 46 0 0 L) 45 2 0 = w8 at f8 x1 x2 ⊢
  have ct : CTx w8 tx L := ⟨(f8 45 1 rfl).trans y4, hL, fun k hk => ⟨(ht k hk).1, x2 k hk⟩⟩
  obtain ⟨w9, e9, f9, t9⟩ := c_tstep ct x1 (Nat.zero_le _)
  rw [e9, bv_some, bv_some, ret_some]
  refine ⟨?_, CTx_fr ct f9 ⟨rfl, fun _ => rfl⟩, t9, ?_, ?_, ?_, ?_, ?_, ?_, ?_, ?_, fun i hi => ?_⟩
  · exact frm_tr (frm_up f5 rfl) (frm_tr (frm_up f6 rfl) (frm_tr (frm_up f7 rfl) (frm_tr (frm_up f8 rfl) (frm_up f9 rfl))))
  · rw [f9 50 2 rfl, f8 50 2 rfl, f7 50 2 rfl, f6 50 2 rfl]; exact z5
  · rw [f9 47 0 rfl, f8 47 0 rfl, f7 47 0 rfl, f6 47 0 rfl]; exact z1
  · rw [f9 47 1 rfl, f8 47 1 rfl, f7 47 1 rfl, f6 47 1 rfl]; exact z2
  · rw [f9 47 2 rfl, f8 47 2 rfl, f7 47 2 rfl, f6 47 2 rfl]; exact z3
  · rw [f9 47 3 rfl, f8 47 3 rfl, f7 47 3 rfl, f6 47 3 rfl]; exact z4
  · rw [f9 44 1 rfl, f8 44 1 rfl]; exact y1
  · rw [f9 44 2 rfl, f8 44 2 rfl]; exact y2
  · rw [f9 44 3 rfl, f8 44 3 rfl]; exact y3
  · rw [f9 54 i rfl, f8 54 i rfl, f7 54 i rfl]; exact g6 i hi
theorem m_fill (w : Wld) : loop B_M_house_50 (0, w) = some (wup (wup (wup (wup (wup w 3 5 0) 3 6 0) 3 7 20) 3 8 10) 3 9 0) := by
  have st : ∀ j, j < 5 → ∀ (w : Wld), loop B_M_house_50 (jn j, w) = loop B_M_house_50 (jn (j + 1), wup w 3 (5 + j) (if j = 2 then 20 else if j = 3 then 10 else 0)) := by
    intro j hj w
    have v : vp_in (jn (5 + j)) 10 := vpK (by omega) (by omega)
    have c : Int32.toNatClampNeg (jn (5 + j)) = 5 + j := jn_clamp (by omega)
    have k83 : ∀ t : Int32, K_M_house_83 (jn j) (jn (5 + j)) t w = some (.inl (jn (j + 1), wup w 3 (5 + j) t)) := by
      intro t
      rw [K_M_house_83, gd_pos v, c, bw_eq, bi_eq, jn_1a]
    rw [loop_eq, B_M_house_50]
    simp only
    rw [br_neg (by rw [li_5, jn_le (by omega) (by omega)]; omega), li_5, jn_add, k83, k83, k83]
    by_cases h2 : j = 2
    · subst h2
      rw [br_neg (fun z => z rfl)]
      rfl
    · rw [br_pos (by rw [li_2, jn_inj (by omega) (by omega)]; exact h2), if_neg h2]
      by_cases h3 : j = 3
      · subst h3
        rw [br_neg (fun z => z rfl)]
        rfl
      · rw [br_pos (by rw [li_3, jn_inj (by omega) (by omega)]; exact h3), if_neg h3]
  show loop B_M_house_50 (jn 0, w) = _
  rw [st 0 (by omega), st 1 (by omega), st 2 (by omega), st 3 (by omega), st 4 (by omega), loop_eq, B_M_house_50]
  simp only
  rw [br_pos (by decide)]
  rfl
/-- doors, modulo the rooms -/
def dm (c : Nat → Int32) (nr i : Nat) : Int32 := if (32 ≤ i ∧ i < 32 + nr) ∨ (41 ≤ i ∧ i < 41 + nr) then c i - c i / jn nr * jn nr else c i
theorem c_doors {w : Wld} {nr : Nat} (hn : nr ≤ 9) (e : w 47 0 = jn nr) : Ret (loop B_Reader_readText_44_43_45 (0, w)) (fun a => Frm [54] [] w a ∧ ∀ i, a 54 i = dm (w 54) nr i) := by
  refine loop_inv (I := fun j s => s.1 = jn j ∧ Frm [54] [] w s.2 ∧ ∀ i, s.2 54 i = if (32 ≤ i ∧ i < 32 + j) ∨ (41 ≤ i ∧ i < 41 + j) then w 54 i - w 54 i / jn nr * jn nr else w 54 i) nr ⟨rfl, frm_rf, fun i => by rw [if_neg (by omega)]⟩ (fun j s hj hi => ?_) (fun s hi => ?_)
  · obtain ⟨i, w1⟩ := s
    obtain ⟨i1, i2, i3⟩ := hi
    simp only at i1 i2 i3
    subst i1
    have e1 : w1 47 0 = jn nr := (i2 47 0 rfl).trans e
    have h32 := i3 (32 + j)
    rw [if_neg (by omega)] at h32
    have h41 := i3 (41 + j)
    rw [if_neg (by omega)] at h41
    have hnz : ¬ jn nr = 0 := by rw [jn_e0 (by omega)]; omega
    have v1 : vp_in (jn (32 + j)) 53 := vpK (by omega) (by omega)
    have c1 : Int32.toNatClampNeg (jn (32 + j)) = 32 + j := jn_clamp (by omega)
    have v2 : vp_in (jn (41 + j)) 53 := vpK (by omega) (by omega)
    have c2 : Int32.toNatClampNeg (jn (41 + j)) = 41 + j := jn_clamp (by omega)
    rw [B_Reader_readText_44_43_45]
    simp only
    rw [e1, br_neg (by rw [jn_le (by omega) (by omega)]; omega), li_32, li_41, jn_add, jn_add, gd_pos v1, gd_pos hnz, gd_pos v1, c1, c2, h32, bw_eq, gd_pos v2]
    have e2 : ∀ x : Int32, (wup w1 54 (32 + j) x) 47 0 = jn nr := fun x => by rw [wup_o _ _ _ (by decide)]; exact e1
    have e3 : ∀ x : Int32, (wup w1 54 (32 + j) x) 54 (41 + j) = w 54 (41 + j) := fun x => by rw [wup_s2 _ _ _ (by omega)]; exact h41
    rw [e2, e3, gd_pos hnz, gd_pos v2, bw_eq, bi_eq, jn_1a, ret_some, LQ_inl]
    refine ⟨rfl, frm_wup (frm_wup i2 _ _ _ rfl) _ _ _ rfl, fun i => ?_⟩
    simp only
    rw [wup_s]
    by_cases h1 : i = 41 + j
    · rw [if_pos h1, if_pos (by omega), h1]
    · rw [if_neg h1, wup_s]
      by_cases h2 : i = 32 + j
      · rw [if_pos h2, if_pos (by omega), h2]
      · rw [if_neg h2, i3 i]
        by_cases h3 : (32 ≤ i ∧ i < 32 + j) ∨ (41 ≤ i ∧ i < 41 + j)
        · rw [if_pos h3, if_pos (by omega)]
        · rw [if_neg h3, if_neg (by omega)]
  · obtain ⟨i, w1⟩ := s
    obtain ⟨i1, i2, i3⟩ := hi
    simp only at i1 i2 i3
    subst i1
    have e1 : w1 47 0 = jn nr := (i2 47 0 rfl).trans e
    rw [B_Reader_readText_44_43_45]
    simp only
    rw [e1, br_pos (by rw [jn_le (by omega) (by omega)]; omega), ret_some, LQ_inr]
    exact ⟨i2, i3⟩
theorem th_3 (w : Wld) : Ret (F_M_takeHalf_3 w) (fun w' => Frm [3] [] w w' ∧ ∀ i, i < 5 → w' 3 i = w 3 (5 + i)) := by
  have hd : (10 : Int32) / (2 : Int32) = jn 5 := by decide
  have h2 : ¬ (2 : Int32) = 0 := by decide
  rw [F_M_takeHalf_3, ret_bl]
  refine loop_inv (I := fun j s => s.1 = jn j ∧ Frm [3] [] w s.2 ∧ (∀ i, i < j → s.2 3 i = w 3 (5 + i)) ∧ ∀ i, j ≤ i → s.2 3 i = w 3 i) 5 ⟨rfl, frm_rf, fun i hi => absurd hi (Nat.not_lt_zero i), fun _ _ => rfl⟩ (fun j s hj hi => ?_) (fun s hi => ?_)
  · obtain ⟨i, w1⟩ := s
    obtain ⟨i1, i2, i3, i4⟩ := hi
    simp only at i1 i2 i3 i4
    subst i1
    have e := i4 (5 + j) (by omega)
    rw [B_M_takeHalf_3_2]
    simp only
    rw [gd_pos h2, hd, br_neg (by rw [jn_le (by omega) (by omega)]; omega), gd_pos h2, jn_add, gd_pos (vpK (by omega) (by omega)), gd_pos (vpK (by omega) (by omega)), jn_clamp (by omega), jn_clamp (by omega), e, bw_eq, bi_eq, jn_1a, ret_some, LQ_inl]
    refine ⟨rfl, frm_wup i2 _ _ _ rfl, fun i hi => ?_, fun i hi => ?_⟩
    · simp only
      rw [wup_s]
      by_cases e : i = j
      · rw [if_pos e, e]
      · rw [if_neg e]; exact i3 i (by omega)
    · simp only
      rw [wup_s2 _ _ _ (by omega)]; exact i4 i (by omega)
  · obtain ⟨i, w1⟩ := s
    obtain ⟨i1, i2, i3, i4⟩ := hi
    simp only at i1 i2 i3 i4
    subst i1
    rw [B_M_takeHalf_3_2]
    simp only
    rw [gd_pos h2, hd, br_pos (by rw [jn_le (by omega) (by omega)]; omega), ret_some, LQ_inr, ret_some]
    exact ⟨i2, i3⟩
theorem th_4 (w : Wld) : Ret (F_M_takeHalf_4 w) (fun w' => Frm [4] [] w w' ∧ ∀ i, i < 9 → w' 4 i = w 4 (9 + i)) := by
  have hd : (18 : Int32) / (2 : Int32) = jn 9 := by decide
  have h2 : ¬ (2 : Int32) = 0 := by decide
  rw [F_M_takeHalf_4, ret_bl]
  refine loop_inv (I := fun j s => s.1 = jn j ∧ Frm [4] [] w s.2 ∧ (∀ i, i < j → s.2 4 i = w 4 (9 + i)) ∧ ∀ i, j ≤ i → s.2 4 i = w 4 i) 9 ⟨rfl, frm_rf, fun i hi => absurd hi (Nat.not_lt_zero i), fun _ _ => rfl⟩ (fun j s hj hi => ?_) (fun s hi => ?_)
  · obtain ⟨i, w1⟩ := s
    obtain ⟨i1, i2, i3, i4⟩ := hi
    simp only at i1 i2 i3 i4
    subst i1
    have e := i4 (9 + j) (by omega)
    rw [B_M_takeHalf_4_2]
    simp only
    rw [gd_pos h2, hd, br_neg (by rw [jn_le (by omega) (by omega)]; omega), gd_pos h2, jn_add, gd_pos (vpK (by omega) (by omega)), gd_pos (vpK (by omega) (by omega)), jn_clamp (by omega), jn_clamp (by omega), e, bw_eq, bi_eq, jn_1a, ret_some, LQ_inl]
    refine ⟨rfl, frm_wup i2 _ _ _ rfl, fun i hi => ?_, fun i hi => ?_⟩
    · simp only
      rw [wup_s]
      by_cases e : i = j
      · rw [if_pos e, e]
      · rw [if_neg e]; exact i3 i (by omega)
    · simp only
      rw [wup_s2 _ _ _ (by omega)]; exact i4 i (by omega)
  · obtain ⟨i, w1⟩ := s
    obtain ⟨i1, i2, i3, i4⟩ := hi
    simp only at i1 i2 i3 i4
    subst i1
    rw [B_M_takeHalf_4_2]
    simp only
    rw [gd_pos h2, hd, br_pos (by rw [jn_le (by omega) (by omega)]; omega), ret_some, LQ_inr, ret_some]
    exact ⟨i2, i3⟩
theorem th_5 (w : Wld) : Ret (F_M_takeHalf_5 w) (fun w' => Frm [5] [] w w' ∧ ∀ i, i < 9 → w' 5 i = w 5 (9 + i)) := by
  have hd : (18 : Int32) / (2 : Int32) = jn 9 := by decide
  have h2 : ¬ (2 : Int32) = 0 := by decide
  rw [F_M_takeHalf_5, ret_bl]
  refine loop_inv (I := fun j s => s.1 = jn j ∧ Frm [5] [] w s.2 ∧ (∀ i, i < j → s.2 5 i = w 5 (9 + i)) ∧ ∀ i, j ≤ i → s.2 5 i = w 5 i) 9 ⟨rfl, frm_rf, fun i hi => absurd hi (Nat.not_lt_zero i), fun _ _ => rfl⟩ (fun j s hj hi => ?_) (fun s hi => ?_)
  · obtain ⟨i, w1⟩ := s
    obtain ⟨i1, i2, i3, i4⟩ := hi
    simp only at i1 i2 i3 i4
    subst i1
    have e := i4 (9 + j) (by omega)
    rw [B_M_takeHalf_5_2]
    simp only
    rw [gd_pos h2, hd, br_neg (by rw [jn_le (by omega) (by omega)]; omega), gd_pos h2, jn_add, gd_pos (vpK (by omega) (by omega)), gd_pos (vpK (by omega) (by omega)), jn_clamp (by omega), jn_clamp (by omega), e, bw_eq, bi_eq, jn_1a, ret_some, LQ_inl]
    refine ⟨rfl, frm_wup i2 _ _ _ rfl, fun i hi => ?_, fun i hi => ?_⟩
    · simp only
      rw [wup_s]
      by_cases e : i = j
      · rw [if_pos e, e]
      · rw [if_neg e]; exact i3 i (by omega)
    · simp only
      rw [wup_s2 _ _ _ (by omega)]; exact i4 i (by omega)
  · obtain ⟨i, w1⟩ := s
    obtain ⟨i1, i2, i3, i4⟩ := hi
    simp only at i1 i2 i3 i4
    subst i1
    rw [B_M_takeHalf_5_2]
    simp only
    rw [gd_pos h2, hd, br_pos (by rw [jn_le (by omega) (by omega)]; omega), ret_some, LQ_inr, ret_some]
    exact ⟨i2, i3⟩
theorem th_6 (w : Wld) : Ret (F_M_takeHalf_6 w) (fun w' => Frm [6] [] w w' ∧ ∀ i, i < 9 → w' 6 i = w 6 (9 + i)) := by
  have hd : (18 : Int32) / (2 : Int32) = jn 9 := by decide
  have h2 : ¬ (2 : Int32) = 0 := by decide
  rw [F_M_takeHalf_6, ret_bl]
  refine loop_inv (I := fun j s => s.1 = jn j ∧ Frm [6] [] w s.2 ∧ (∀ i, i < j → s.2 6 i = w 6 (9 + i)) ∧ ∀ i, j ≤ i → s.2 6 i = w 6 i) 9 ⟨rfl, frm_rf, fun i hi => absurd hi (Nat.not_lt_zero i), fun _ _ => rfl⟩ (fun j s hj hi => ?_) (fun s hi => ?_)
  · obtain ⟨i, w1⟩ := s
    obtain ⟨i1, i2, i3, i4⟩ := hi
    simp only at i1 i2 i3 i4
    subst i1
    have e := i4 (9 + j) (by omega)
    rw [B_M_takeHalf_6_2]
    simp only
    rw [gd_pos h2, hd, br_neg (by rw [jn_le (by omega) (by omega)]; omega), gd_pos h2, jn_add, gd_pos (vpK (by omega) (by omega)), gd_pos (vpK (by omega) (by omega)), jn_clamp (by omega), jn_clamp (by omega), e, bw_eq, bi_eq, jn_1a, ret_some, LQ_inl]
    refine ⟨rfl, frm_wup i2 _ _ _ rfl, fun i hi => ?_, fun i hi => ?_⟩
    · simp only
      rw [wup_s]
      by_cases e : i = j
      · rw [if_pos e, e]
      · rw [if_neg e]; exact i3 i (by omega)
    · simp only
      rw [wup_s2 _ _ _ (by omega)]; exact i4 i (by omega)
  · obtain ⟨i, w1⟩ := s
    obtain ⟨i1, i2, i3, i4⟩ := hi
    simp only at i1 i2 i3 i4
    subst i1
    rw [B_M_takeHalf_6_2]
    simp only
    rw [gd_pos h2, hd, br_pos (by rw [jn_le (by omega) (by omega)]; omega), ret_some, LQ_inr, ret_some]
    exact ⟨i2, i3⟩
theorem th_7 (w : Wld) : Ret (F_M_takeHalf_7 w) (fun w' => Frm [7] [] w w' ∧ ∀ i, i < 8 → w' 7 i = w 7 (8 + i)) := by
  have hd : (16 : Int32) / (2 : Int32) = jn 8 := by decide
  have h2 : ¬ (2 : Int32) = 0 := by decide
  rw [F_M_takeHalf_7, ret_bl]
  refine loop_inv (I := fun j s => s.1 = jn j ∧ Frm [7] [] w s.2 ∧ (∀ i, i < j → s.2 7 i = w 7 (8 + i)) ∧ ∀ i, j ≤ i → s.2 7 i = w 7 i) 8 ⟨rfl, frm_rf, fun i hi => absurd hi (Nat.not_lt_zero i), fun _ _ => rfl⟩ (fun j s hj hi => ?_) (fun s hi => ?_)
  · obtain ⟨i, w1⟩ := s
    obtain ⟨i1, i2, i3, i4⟩ := hi
    simp only at i1 i2 i3 i4
    subst i1
    have e := i4 (8 + j) (by omega)
    rw [B_M_takeHalf_7_2]
    simp only
    rw [gd_pos h2, hd, br_neg (by rw [jn_le (by omega) (by omega)]; omega), gd_pos h2, jn_add, gd_pos (vpK (by omega) (by omega)), gd_pos (vpK (by omega) (by omega)), jn_clamp (by omega), jn_clamp (by omega), e, bw_eq, bi_eq, jn_1a, ret_some, LQ_inl]
    refine ⟨rfl, frm_wup i2 _ _ _ rfl, fun i hi => ?_, fun i hi => ?_⟩
    · simp only
      rw [wup_s]
      by_cases e : i = j
      · rw [if_pos e, e]
      · rw [if_neg e]; exact i3 i (by omega)
    · simp only
      rw [wup_s2 _ _ _ (by omega)]; exact i4 i (by omega)
  · obtain ⟨i, w1⟩ := s
    obtain ⟨i1, i2, i3, i4⟩ := hi
    simp only at i1 i2 i3 i4
    subst i1
    rw [B_M_takeHalf_7_2]
    simp only
    rw [gd_pos h2, hd, br_pos (by rw [jn_le (by omega) (by omega)]; omega), ret_some, LQ_inr, ret_some]
    exact ⟨i2, i3⟩
theorem th_8 (w : Wld) : Ret (F_M_takeHalf_8 w) (fun w' => Frm [8] [] w w' ∧ ∀ i, i < 8 → w' 8 i = w 8 (8 + i)) := by
  have hd : (16 : Int32) / (2 : Int32) = jn 8 := by decide
  have h2 : ¬ (2 : Int32) = 0 := by decide
  rw [F_M_takeHalf_8, ret_bl]
  refine loop_inv (I := fun j s => s.1 = jn j ∧ Frm [8] [] w s.2 ∧ (∀ i, i < j → s.2 8 i = w 8 (8 + i)) ∧ ∀ i, j ≤ i → s.2 8 i = w 8 i) 8 ⟨rfl, frm_rf, fun i hi => absurd hi (Nat.not_lt_zero i), fun _ _ => rfl⟩ (fun j s hj hi => ?_) (fun s hi => ?_)
  · obtain ⟨i, w1⟩ := s
    obtain ⟨i1, i2, i3, i4⟩ := hi
    simp only at i1 i2 i3 i4
    subst i1
    have e := i4 (8 + j) (by omega)
    rw [B_M_takeHalf_8_2]
    simp only
    rw [gd_pos h2, hd, br_neg (by rw [jn_le (by omega) (by omega)]; omega), gd_pos h2, jn_add, gd_pos (vpK (by omega) (by omega)), gd_pos (vpK (by omega) (by omega)), jn_clamp (by omega), jn_clamp (by omega), e, bw_eq, bi_eq, jn_1a, ret_some, LQ_inl]
    refine ⟨rfl, frm_wup i2 _ _ _ rfl, fun i hi => ?_, fun i hi => ?_⟩
    · simp only
      rw [wup_s]
      by_cases e : i = j
      · rw [if_pos e, e]
      · rw [if_neg e]; exact i3 i (by omega)
    · simp only
      rw [wup_s2 _ _ _ (by omega)]; exact i4 i (by omega)
  · obtain ⟨i, w1⟩ := s
    obtain ⟨i1, i2, i3, i4⟩ := hi
    simp only at i1 i2 i3 i4
    subst i1
    rw [B_M_takeHalf_8_2]
    simp only
    rw [gd_pos h2, hd, br_pos (by rw [jn_le (by omega) (by omega)]; omega), ret_some, LQ_inr, ret_some]
    exact ⟨i2, i3⟩
theorem th_9 (w : Wld) : Ret (F_M_takeHalf_9 w) (fun w' => Frm [9] [] w w' ∧ ∀ i, i < 8 → w' 9 i = w 9 (8 + i)) := by
  have hd : (16 : Int32) / (2 : Int32) = jn 8 := by decide
  have h2 : ¬ (2 : Int32) = 0 := by decide
  rw [F_M_takeHalf_9, ret_bl]
  refine loop_inv (I := fun j s => s.1 = jn j ∧ Frm [9] [] w s.2 ∧ (∀ i, i < j → s.2 9 i = w 9 (8 + i)) ∧ ∀ i, j ≤ i → s.2 9 i = w 9 i) 8 ⟨rfl, frm_rf, fun i hi => absurd hi (Nat.not_lt_zero i), fun _ _ => rfl⟩ (fun j s hj hi => ?_) (fun s hi => ?_)
  · obtain ⟨i, w1⟩ := s
    obtain ⟨i1, i2, i3, i4⟩ := hi
    simp only at i1 i2 i3 i4
    subst i1
    have e := i4 (8 + j) (by omega)
    rw [B_M_takeHalf_9_2]
    simp only
    rw [gd_pos h2, hd, br_neg (by rw [jn_le (by omega) (by omega)]; omega), gd_pos h2, jn_add, gd_pos (vpK (by omega) (by omega)), gd_pos (vpK (by omega) (by omega)), jn_clamp (by omega), jn_clamp (by omega), e, bw_eq, bi_eq, jn_1a, ret_some, LQ_inl]
    refine ⟨rfl, frm_wup i2 _ _ _ rfl, fun i hi => ?_, fun i hi => ?_⟩
    · simp only
      rw [wup_s]
      by_cases e : i = j
      · rw [if_pos e, e]
      · rw [if_neg e]; exact i3 i (by omega)
    · simp only
      rw [wup_s2 _ _ _ (by omega)]; exact i4 i (by omega)
  · obtain ⟨i, w1⟩ := s
    obtain ⟨i1, i2, i3, i4⟩ := hi
    simp only at i1 i2 i3 i4
    subst i1
    rw [B_M_takeHalf_9_2]
    simp only
    rw [gd_pos h2, hd, br_pos (by rw [jn_le (by omega) (by omega)]; omega), ret_some, LQ_inr, ret_some]
    exact ⟨i2, i3⟩
theorem th_10 (w : Wld) : Ret (F_M_takeHalf_10 w) (fun w' => Frm [10] [] w w' ∧ ∀ i, i < 8 → w' 10 i = w 10 (8 + i)) := by
  have hd : (16 : Int32) / (2 : Int32) = jn 8 := by decide
  have h2 : ¬ (2 : Int32) = 0 := by decide
  rw [F_M_takeHalf_10, ret_bl]
  refine loop_inv (I := fun j s => s.1 = jn j ∧ Frm [10] [] w s.2 ∧ (∀ i, i < j → s.2 10 i = w 10 (8 + i)) ∧ ∀ i, j ≤ i → s.2 10 i = w 10 i) 8 ⟨rfl, frm_rf, fun i hi => absurd hi (Nat.not_lt_zero i), fun _ _ => rfl⟩ (fun j s hj hi => ?_) (fun s hi => ?_)
  · obtain ⟨i, w1⟩ := s
    obtain ⟨i1, i2, i3, i4⟩ := hi
    simp only at i1 i2 i3 i4
    subst i1
    have e := i4 (8 + j) (by omega)
    rw [B_M_takeHalf_10_2]
    simp only
    rw [gd_pos h2, hd, br_neg (by rw [jn_le (by omega) (by omega)]; omega), gd_pos h2, jn_add, gd_pos (vpK (by omega) (by omega)), gd_pos (vpK (by omega) (by omega)), jn_clamp (by omega), jn_clamp (by omega), e, bw_eq, bi_eq, jn_1a, ret_some, LQ_inl]
    refine ⟨rfl, frm_wup i2 _ _ _ rfl, fun i hi => ?_, fun i hi => ?_⟩
    · simp only
      rw [wup_s]
      by_cases e : i = j
      · rw [if_pos e, e]
      · rw [if_neg e]; exact i3 i (by omega)
    · simp only
      rw [wup_s2 _ _ _ (by omega)]; exact i4 i (by omega)
  · obtain ⟨i, w1⟩ := s
    obtain ⟨i1, i2, i3, i4⟩ := hi
    simp only at i1 i2 i3 i4
    subst i1
    rw [B_M_takeHalf_10_2]
    simp only
    rw [gd_pos h2, hd, br_pos (by rw [jn_le (by omega) (by omega)]; omega), ret_some, LQ_inr, ret_some]
    exact ⟨i2, i3⟩
theorem th_11 (w : Wld) : Ret (F_M_takeHalf_11 w) (fun w' => Frm [11] [] w w' ∧ ∀ i, i < 700 → w' 11 i = w 11 (700 + i)) := by
  have hd : (1400 : Int32) / (2 : Int32) = jn 700 := by decide
  have h2 : ¬ (2 : Int32) = 0 := by decide
  rw [F_M_takeHalf_11, ret_bl]
  refine loop_inv (I := fun j s => s.1 = jn j ∧ Frm [11] [] w s.2 ∧ (∀ i, i < j → s.2 11 i = w 11 (700 + i)) ∧ ∀ i, j ≤ i → s.2 11 i = w 11 i) 700 ⟨rfl, frm_rf, fun i hi => absurd hi (Nat.not_lt_zero i), fun _ _ => rfl⟩ (fun j s hj hi => ?_) (fun s hi => ?_)
  · obtain ⟨i, w1⟩ := s
    obtain ⟨i1, i2, i3, i4⟩ := hi
    simp only at i1 i2 i3 i4
    subst i1
    have e := i4 (700 + j) (by omega)
    rw [B_M_takeHalf_11_2]
    simp only
    rw [gd_pos h2, hd, br_neg (by rw [jn_le (by omega) (by omega)]; omega), gd_pos h2, jn_add, gd_pos (vpK (by omega) (by omega)), gd_pos (vpK (by omega) (by omega)), jn_clamp (by omega), jn_clamp (by omega), e, bw_eq, bi_eq, jn_1a, ret_some, LQ_inl]
    refine ⟨rfl, frm_wup i2 _ _ _ rfl, fun i hi => ?_, fun i hi => ?_⟩
    · simp only
      rw [wup_s]
      by_cases e : i = j
      · rw [if_pos e, e]
      · rw [if_neg e]; exact i3 i (by omega)
    · simp only
      rw [wup_s2 _ _ _ (by omega)]; exact i4 i (by omega)
  · obtain ⟨i, w1⟩ := s
    obtain ⟨i1, i2, i3, i4⟩ := hi
    simp only at i1 i2 i3 i4
    subst i1
    rw [B_M_takeHalf_11_2]
    simp only
    rw [gd_pos h2, hd, br_pos (by rw [jn_le (by omega) (by omega)]; omega), ret_some, LQ_inr, ret_some]
    exact ⟨i2, i3⟩
