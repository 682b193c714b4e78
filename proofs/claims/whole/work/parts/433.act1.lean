/-! ===== acts: what is kept ===== -/
def CAct (w : Wld) (n f : Nat) (A : Nat → Sta) : Prop := n ≤ 40 ∧ f < 40 ∧ w 67 2 = jn n ∧ w 67 1 = jn f ∧ ∀ k, k < n → ∀ i, i < 53 → w 68 (((f + k) % 40) * 53 + i) = A k i
def MAct (w : Wld) (h : Hs) (n : Nat) (A : Nat → Sta) : Prop := w 0 34 = jn n ∧ ∀ k, k < n → MRow (fun i => w 20 (53 * k + i)) h (A k)
def actN (w : Wld) : Nat := (w 67 2).toNatClampNeg
def actF (w : Wld) : Nat := (w 67 1).toNatClampNeg
def actA (w : Wld) (k : Nat) : Sta := fun i => w 68 (((actF w + k) % 40) * 53 + i)
theorem act_of {w : Wld} {h : Hs} (hh : GdH h) (r : RA w h) : CAct w (actN w) (actF w) (actA w) ∧ MAct w h (actN w) (actA w) ∧ ∀ k, k < actN w → GdS h (actA w k) := by
  obtain ⟨n, f, h1, h2, e1, e2, e3, hk⟩ := r
  have en : actN w = n := by unfold actN; rw [e1, jn_clamp (by omega)]
  have ef : actF w = f := by unfold actF; rw [e2, jn_clamp (by omega)]
  rw [en, ef]
  refine ⟨⟨h1, h2, e1, e2, fun k hk9 i hi => ?_⟩, ⟨e3, fun k hk9 => ?_⟩, fun k hk9 => ?_⟩
  · unfold actA; rw [ef]
  · obtain ⟨c, c1, c2, c3⟩ := hk k hk9
    refine MRow_congr hh c3 (fun i hi => ?_) (fun _ _ => rfl)
    unfold actA; rw [ef]; exact c2 i hi
  · obtain ⟨c, c1, c2, c3⟩ := hk k hk9
    refine GdS_congr hh c1 (fun i hi => ?_)
    unfold actA; rw [ef]; exact c2 i hi
theorem RA_of {w : Wld} {h : Hs} {n f : Nat} {A : Nat → Sta} (c : CAct w n f A) (m : MAct w h n A) (g : ∀ k, k < n → GdS h (A k)) : RA w h :=
  ⟨n, f, c.1, c.2.1, c.2.2.1, c.2.2.2.1, m.1, fun k hk => ⟨A k, g k hk, c.2.2.2.2 k hk, m.2 k hk⟩⟩
theorem CAct_fr {L : List Nat} {K : List (Nat × Nat)} {w w' : Wld} {n f : Nat} {A : Nat → Sta} (r : CAct w n f A) (fr : Frm L K w w') (b : frB L K 67 2 = false ∧ frB L K 67 1 = false ∧ ∀ j, frB L K 68 j = false) : CAct w' n f A := by
  unfold CAct at r ⊢
  rw [fr _ _ b.1, fr _ _ b.2.1, frm_cell fr 68 b.2.2]
  exact r
theorem MAct_fr {L : List Nat} {K : List (Nat × Nat)} {w w' : Wld} {h : Hs} {n : Nat} {A : Nat → Sta} (r : MAct w h n A) (fr : Frm L K w w') (b : frB L K 0 34 = false ∧ ∀ j, frB L K 20 j = false) : MAct w' h n A := by
  unfold MAct at r ⊢
  rw [fr _ _ b.1, frm_cell fr 20 b.2]
  exact r
def kpN (n : Nat) : Nat := if n = 40 then 40 else n + 1
def kpA (n : Nat) (A : Nat → Sta) (c : Sta) : Nat → Sta := if n = 40 then (fun k => if k = 39 then c else A (k + 1)) else (fun k => if k = n then c else A k)
theorem kp_good {h : Hs} {n : Nat} {A : Nat → Sta} {c : Sta} (hn : n ≤ 40) (g : ∀ k, k < n → GdS h (A k)) (gc : GdS h c) : ∀ k, k < kpN n → GdS h (kpA n A c k) := by
  intro k hk
  unfold kpN at hk
  unfold kpA
  by_cases e : n = 40
  · rw [if_pos e] at hk ⊢
    by_cases e2 : k = 39
    · rw [if_pos e2]; exact gc
    · rw [if_neg e2]; exact g _ (by omega)
  · rw [if_neg e] at hk ⊢
    by_cases e2 : k = n
    · rw [if_pos e2]; exact gc
    · rw [if_neg e2]; exact g _ (by omega)
theorem c_place {w : Wld} {n f : Nat} (e2 : w 67 2 = jn n) (e1 : w 67 1 = jn f) (hn : n ≤ 40) (hf : f < 40) : F_Acts_placeBehind_67 w = some (jn (((f + n) % 40) * 53)) := by
  have h40 : ¬ (40 : Int32) = 0 := by decide
  have hm : jn (f + n) - jn (f + n) / 40 * 40 = jn ((f + n) % 40) := jn_mod (b := 40) (by omega) (by omega)
  rw [F_Acts_placeBehind_67, gd_pos h40, e1, e2, jn_add, hm, li_53, jn_mul]
theorem c_keepB {w : Wld} {n f : Nat} {A : Nat → Sta} (hn : n < 40) (c : CAct w n f A) : Ret (K_Acts_keep_67_65_32 w) (fun w' => Frm [68] [(67, 2)] w w' ∧ CAct w' (n + 1) f (fun k => if k = n then w 66 else A k)) := by
  obtain ⟨c1, c2, c3, c4, c5⟩ := c
  have hP : (f + n) % 40 < 40 := Nat.mod_lt _ (by omega)
  have hcp : cpO w 66 53 2120 0 0 (jn (((f + n) % 40) * 53)) 53 := cpO_int w (a := 0) (b := ((f + n) % 40) * 53) (k := 53) (by omega) (by omega) (by omega) (by omega) (by omega)
  have e67 : ∀ i, (wcp w 66 68 (Int32.toNatClampNeg 0) (Int32.toNatClampNeg (jn (((f + n) % 40) * 53))) (Int32.toNatClampNeg 53)) 67 i = w 67 i := fun i => by rw [wcp_o _ _ _ _ _ (by decide)]
  rw [K_Acts_keep_67_65_32, c_place c3 c4 (by omega) c2, bp_some, gd_pos hcp, bw_eq, bw_eq, e67, c3, jn_1a, ret_some]
  refine ⟨frm_wup (frm_wcp frm_rf _ _ _ _ _ rfl) _ _ _ rfl, by omega, c2, wup_s1 _ _ _ _, ?_, fun k hk i hi => ?_⟩
  · rw [wup_s2 _ _ _ (by decide), e67]; exact c4
  · rw [wup_o _ _ _ (by decide), wcp_s, jn_clamp (by omega), cl_0, show Int32.toNatClampNeg 53 = 53 from rfl]
    by_cases e : k = n
    · subst e
      rw [if_pos (by omega)]
      simp only [if_true]
      congr 1
      omega
    · have hne : (f + k) % 40 ≠ (f + n) % 40 := by omega
      rw [if_neg (by omega)]
      simp only [e, if_false]
      exact c5 k (by omega) i hi
theorem c_keep {w : Wld} {n f : Nat} {A : Nat → Sta} (c : CAct w n f A) : Ret (F_Acts_keep_67_65 w) (fun w' => Frm [68] [(67, 1), (67, 2)] w w' ∧ ∃ f', CAct w' (kpN n) f' (kpA n A (w 66))) := by
  have c' := c
  obtain ⟨c1, c2, c3, c4, c5⟩ := c'
  rw [F_Acts_keep_67_65, c3]
  unfold kpN kpA
  by_cases hn : n = 40
  · rw [if_pos hn, if_pos hn]
    subst hn
    have h40 : ¬ (40 : Int32) = 0 := by decide
    have hm : jn (f + 1) - jn (f + 1) / 40 * 40 = jn ((f + 1) % 40) := jn_mod (b := 40) (by omega) (by omega)
    rw [br_neg (fun z => z rfl), gd_pos h40, bw_eq, bw_eq, c4, jn_1a, hm, wup_s2 _ _ _ (by decide), c3, jn_1s (by omega)]
    have ca : CAct (wup (wup w 67 1 (jn ((f + 1) % 40))) 67 2 (jn (40 - 1))) 39 ((f + 1) % 40) (fun k => A (k + 1)) := by
      refine ⟨by omega, Nat.mod_lt _ (by omega), wup_s1 _ _ _ _, ?_, fun k hk i hi => ?_⟩
      · rw [wup_s2 _ _ _ (by decide), wup_s1]
      · rw [wup_o _ _ _ (by decide), wup_o _ _ _ (by decide), show ((f + 1) % 40 + k) % 40 = (f + (k + 1)) % 40 by omega]
        exact c5 (k + 1) (by omega) i hi
    have e66 : (wup (wup w 67 1 (jn ((f + 1) % 40))) 67 2 (jn (40 - 1))) 66 = w 66 := by rw [wup_o _ _ _ (by decide), wup_o _ _ _ (by decide)]
    have fr : Frm [68] [(67, 1), (67, 2)] w (wup (wup w 67 1 (jn ((f + 1) % 40))) 67 2 (jn (40 - 1))) := frm_wup (frm_wup frm_rf _ _ _ rfl) _ _ _ rfl
    generalize wup (wup w 67 1 (jn ((f + 1) % 40))) 67 2 (jn (40 - 1)) = wa at ca e66 fr ⊢
    refine ret_mono (c_keepB (by omega) ca) (fun w' hq => ?_)
    rw [e66] at hq
    exact ⟨frm_tr fr (frm_up hq.1 rfl), _, hq.2⟩
  · rw [if_neg hn, if_neg hn, br_pos (by rw [li_40, jn_inj (by omega) (by omega)]; exact hn)]
    refine ret_mono (c_keepB (by omega) c) (fun w' hq => ?_)
    exact ⟨frm_up hq.1 rfl, _, hq.2⟩
/-! the model -/
theorem m_keepB {w : Wld} {h : Hs} {c : Sta} {n : Nat} {A : Nat → Sta} (hh : GdH h) (hn : n < 40) (hs : MSt w h c) (a : MAct w h n A) : Ret (K_M_keep_52 w) (fun w' => Frm [20] [(0, 34)] w w' ∧ MAct w' h (n + 1) (fun k => if k = n then c else A k)) := by
  rw [K_M_keep_52, a.1, li_53, jn_mul, ret_bv]
  refine ret_mono (t_pack_20 w (o := 53 * n) (by omega)) (fun w1 hq => ?_)
  obtain ⟨q1, q2, q3⟩ := hq
  have e34 : w1 0 34 = jn n := (q1 0 34 rfl).trans a.1
  rw [bw_eq, e34, jn_1a, ret_some]
  refine ⟨frm_wup (frm_up q1 rfl) _ _ _ rfl, wup_s1 _ _ _ _, fun k hk => ?_⟩
  have e20 : (wup w1 0 34 (jn (n + 1))) 20 = w1 20 := wup_o _ _ _ (by decide)
  rw [e20]
  by_cases e : k = n
  · subst e
    simp only [if_true]
    exact pk_row hs hh (fun i hi => q2 i hi)
  · simp only [e, if_false]
    refine MRow_congr hh (a.2 k (by omega)) (fun _ _ => rfl) (fun i hi => ?_)
    exact q3 _ (Or.inl (by omega))
theorem m_keep {w : Wld} {h : Hs} {c : Sta} {n : Nat} {A : Nat → Sta} (hh : GdH h) (hn : n ≤ 40) (hs : MSt w h c) (a : MAct w h n A) : Ret (F_M_keep w) (fun w' => Frm [20] [(0, 34)] w w' ∧ MAct w' h (kpN n) (kpA n A c)) := by
  rw [F_M_keep, a.1]
  unfold kpN kpA
  by_cases e : n = 40
  · rw [if_pos e, if_pos e]
    subst e
    rw [br_neg (fun z => z rfl), ret_bl]
    refine ret_mono (P := fun w' => Frm [20] [] w w' ∧ ∀ i, i < 2067 → w' 20 i = w 20 (i + 53)) ?_ (fun w' hq => ?_)
    · refine loop_inv (I := fun j s => s.1 = jn (53 + j) ∧ Frm [20] [] w s.2 ∧ (∀ i, i < j → s.2 20 i = w 20 (i + 53)) ∧ ∀ i, j ≤ i → s.2 20 i = w 20 i) 2067 ⟨rfl, frm_rf, fun i hi => absurd hi (Nat.not_lt_zero i), fun _ _ => rfl⟩ (fun j s hj hi => ?_) (fun s hi => ?_)
      · obtain ⟨i, w1⟩ := s
        obtain ⟨i1, i2, i3, i4⟩ := hi
        simp only at i1 i2 i3 i4
        subst i1
        have e20 := i4 (53 + j) (by omega)
        have es : 53 + j - 53 = j := by omega
        simp (disch := omega) only [B_M_keep_12, ↓bi_eq, ↓bw_eq, gd_pos, br_pos, br_neg, br_T, br_F, gd_T, bq_some, bd_some, bv_some, bl_some, bx_inl, bx_inr, bn_none, bn_some, bt_inl, bt_inr, not_true_eq_false, not_false_eq_true, eq_self, Bool.false_eq_true, if_true, if_false, jn_clamp, jn_lt, jn_le, jn_inj, jn_add, jn_sub, jn_mul, jn_vp, jn_0a, jn_1a, jn_1b, jn_1s, jn_1m, jn_neg0, jn_le0, jn_0le, jn_0lt, jn_1le, jn_le1, jn_lt1, jn_1lt, jn_e0, jn_e1, jn_em, ↓qB_f, ↓qT_f, cl_0, cl_1, vp_0, vp_1, li_2120, li_53, e20, es, ret_some, LQ_inl]
        refine ⟨by omega, frm_wup i2 _ _ _ rfl, fun i hi => ?_, fun i hi => ?_⟩
        · rw [wup_s]
          by_cases e : i = j
          · rw [if_pos e, e, Nat.add_comm]
          · rw [if_neg e]; exact i3 i (by omega)
        · rw [wup_s2 _ _ _ (by omega)]; exact i4 i (by omega)
      · obtain ⟨i, w1⟩ := s
        obtain ⟨i1, i2, i3, i4⟩ := hi
        simp only at i1 i2 i3 i4
        subst i1
        rw [B_M_keep_12, br_pos (by rw [li_2120, jn_le (by omega) (by omega)]; omega), ret_some, LQ_inr]
        exact ⟨i2, i3⟩
    · obtain ⟨q1, q2⟩ := hq
      have e34 : w' 0 34 = jn 40 := (q1 0 34 rfl).trans a.1
      rw [bw_eq, e34, jn_1s (by omega)]
      have fr : Frm [20] [(0, 34)] w (wup w' 0 34 (jn (40 - 1))) := frm_wup (frm_up q1 rfl) _ _ _ rfl
      have s2 : MSt (wup w' 0 34 (jn (40 - 1))) h c := MSt_fr hs fr ⟨fun _ => rfl, fun _ => rfl, fun _ => rfl, fun _ => rfl, fun _ => rfl, fun _ => rfl, rfl, rfl, rfl⟩
      have a2 : MAct (wup w' 0 34 (jn (40 - 1))) h 39 (fun k => A (k + 1)) := by
        refine ⟨wup_s1 _ _ _ _, fun k hk => ?_⟩
        have e20 : (wup w' 0 34 (jn (40 - 1))) 20 = w' 20 := wup_o _ _ _ (by decide)
        rw [e20]
        refine MRow_congr hh (a.2 (k + 1) (by omega)) (fun _ _ => rfl) (fun i hi => ?_)
        rw [q2 _ (by omega), show 53 * k + i + 53 = 53 * (k + 1) + i by omega]
      refine ret_mono (m_keepB hh (by omega) s2 a2) (fun w3 hq => ?_)
      exact ⟨frm_tr fr (frm_up hq.1 rfl), hq.2⟩
  · rw [if_neg e, if_neg e, br_pos (by rw [li_40, jn_inj (by omega) (by omega)]; exact e)]
    refine ret_mono (m_keepB hh (by omega) hs a) (fun w' hq => hq)
/-! ===== how an act ends ===== -/
def LAc : List Nat := [14, 15, 16, 17, 18, 19, 20, 21, 22, 23, 41, 61, 62, 63, 66, 68]
def KAc : List (Nat × Nat) := [(0, 2), (0, 31), (0, 32), (0, 33), (0, 34), (0, 38), (0, 39), (0, 40), (55, 3), (67, 1), (67, 2)]
theorem RelH_act {w p : Wld} {h : Hs} {n f : Nat} {A : Nat → Sta} (r : RelH w h) (fr : Frm LAc KAc w p) (g : GdS h (p 66)) (m : MSt p h (p 66)) (ca : CAct p n f A) (ma : MAct p h n A) (ga : ∀ k, k < n → GdS h (A k)) : RelH p h := by
  obtain ⟨r1, r2, r3, r4, r5, r6, r7, r8, r9⟩ := r
  exact ⟨r1, CHs_fr r2 fr ⟨rfl, rfl, rfl, rfl, fun _ => rfl, fun _ => rfl, rfl, fun _ => rfl⟩, MHs_fr r3 fr ⟨rfl, rfl, rfl, rfl, rfl, fun _ => rfl, fun _ => rfl, fun _ => rfl⟩, ⟨g, m⟩, RA_of ca ma ga, RE_fr r6 fr ⟨rfl, fun _ => rfl, fun _ => rfl, fun _ => rfl, rfl, fun _ => rfl, fun _ => rfl, fun _ => rfl⟩, RU_fr r7 fr ⟨fun _ => rfl, fun _ => rfl⟩, RI_fr r8 fr ⟨rfl, rfl, fun _ => rfl, fun _ => rfl, rfl, rfl, fun _ => rfl, rfl, fun _ => rfl, rfl, fun _ => rfl, fun _ => rfl, fun _ => rfl, rfl, fun _ => rfl, fun _ => rfl, fun _ => rfl, fun _ => rfl, fun _ => rfl⟩, RT_fr r9 fr ⟨rfl, rfl, fun _ => rfl, fun _ => rfl, rfl, rfl⟩⟩
theorem RelH_ref {w p : Wld} {h : Hs} (r : RelH w h) (fr : Frm [12, 41, 73] [(0, 2)] w p) (u : RU p) : RelH p h := by
  obtain ⟨r1, r2, r3, r4, r5, r6, r7, r8, r9⟩ := r
  have e66 : p 66 = w 66 := frm_cell fr 66 (fun _ => rfl)
  refine ⟨r1, CHs_fr r2 fr ⟨rfl, rfl, rfl, rfl, fun _ => rfl, fun _ => rfl, rfl, fun _ => rfl⟩, MHs_fr r3 fr ⟨rfl, rfl, rfl, rfl, rfl, fun _ => rfl, fun _ => rfl, fun _ => rfl⟩, ?_, RA_fr r5 fr ⟨rfl, rfl, fun _ => rfl, rfl, fun _ => rfl⟩, RE_fr r6 fr ⟨rfl, fun _ => rfl, fun _ => rfl, fun _ => rfl, rfl, fun _ => rfl, fun _ => rfl, fun _ => rfl⟩, u, RI_fr r8 fr ⟨rfl, rfl, fun _ => rfl, fun _ => rfl, rfl, rfl, fun _ => rfl, rfl, fun _ => rfl, rfl, fun _ => rfl, fun _ => rfl, fun _ => rfl, rfl, fun _ => rfl, fun _ => rfl, fun _ => rfl, fun _ => rfl, fun _ => rfl⟩, RT_fr r9 fr ⟨rfl, rfl, fun _ => rfl, fun _ => rfl, rfl, rfl⟩⟩
  unfold RS
  rw [e66]
  exact ⟨r4.1, MSt_fr r4.2 fr ⟨fun _ => rfl, fun _ => rfl, fun _ => rfl, fun _ => rfl, fun _ => rfl, fun _ => rfl, rfl, rfl, rfl⟩⟩
theorem BothG_of {cd : Nat → Int32} {C : Option (Oc × Wld)} {M : Wld → Option (Int32 × Wld)} (o : Oc) (X : Wld → Prop) (hC : Ret C (fun q => q.1 = o ∧ X q.2)) (hM : ∀ w1 w2, X w1 → Frm [41] [] w1 w2 → Ret (M w2) (fun p => Mat cd o p.1 (p.2 0 2) ∧ Rel p.2 ∧ p.2 41 0 = w2 41 0)) : BothG cd C M :=
  ⟨o, ret_mono hC (fun q hq => ⟨hq.1, fun w2 f2 => hM q.2 w2 hq.2 f2⟩)⟩
theorem c_refused (w : Wld) : F_C_refusedAct w = some (-1, wup w 73 1 (w 73 1 + 1)) := by
  rw [F_C_refusedAct, cl_1, vp_1, gd_pos (by decide), gd_pos (by decide), bw_eq]
theorem m_refuse (w : Wld) {k : Nat} (hk : k < 3) : F_M_refuse w (jn k) = some (-1, wup w 12 k (w 12 k + 1)) := by
  simp (disch := omega) only [F_M_refuse, ↓bi_eq, ↓bw_eq, gd_pos, br_pos, br_neg, br_T, br_F, gd_T, bq_some, bd_some, bv_some, bl_some, bx_inl, bx_inr, bn_none, bn_some, bt_inl, bt_inr, not_true_eq_false, not_false_eq_true, eq_self, Bool.false_eq_true, if_true, if_false, jn_clamp, jn_lt, jn_le, jn_inj, jn_add, jn_sub, jn_mul, jn_vp, jn_0a, jn_1a, jn_1b, jn_1s, jn_1m, jn_neg0, jn_le0, jn_0le, jn_0lt, jn_1le, jn_le1, jn_lt1, jn_1lt, jn_e0, jn_e1, jn_em, ↓qB_f, ↓qT_f, cl_0, cl_1, vp_0, vp_1]
/-- a refused act on both sides: the world behind it -/
theorem ref_rel {w w2 : Wld} {h : Hs} (r : RelH w h) {k : Nat} (hk : k < 3) (f2 : Frm [41] [] (wup w 73 k (w 73 k + 1)) w2) : Rel (wup (wup w2 0 2 0) 12 k ((wup w2 0 2 0) 12 k + 1)) ∧ (wup (wup w2 0 2 0) 12 k ((wup w2 0 2 0) 12 k + 1)) 0 2 = 0 ∧ (wup (wup w2 0 2 0) 12 k ((wup w2 0 2 0) 12 k + 1)) 41 0 = w2 41 0 := by
  have fa : Frm [12, 41, 73] [(0, 2)] w (wup (wup w2 0 2 0) 12 k ((wup w2 0 2 0) 12 k + 1)) := frm_wup (frm_wup (frm_tr (frm_wup frm_rf _ _ _ rfl) (frm_up f2 rfl)) _ _ _ rfl) _ _ _ rfl
  have e12 : (wup w2 0 2 0) 12 = w 12 := by rw [wup_o _ _ _ (by decide), frm_cell f2 12 (fun _ => rfl), wup_o _ _ _ (by decide)]
  refine ⟨⟨h, RelH_ref r fa (fun j hj => ?_)⟩, ?_, ?_⟩
  · have hu := r.2.2.2.2.2.2.1
    have e73 : (wup (wup w2 0 2 0) 12 k ((wup w2 0 2 0) 12 k + 1)) 73 = (wup w 73 k (w 73 k + 1)) 73 := by
      rw [wup_o _ _ _ (by decide), wup_o _ _ _ (by decide), frm_cell f2 73 (fun _ => rfl)]
    rw [e73, wup_s, wup_s, e12]
    by_cases e : j = k
    · rw [if_pos e, if_pos e, hu k hk]
    · rw [if_neg e, if_neg e]; exact hu j hj
  · rw [wup_o _ _ _ (by decide), wup_s1]
  · rw [wup_o _ _ _ (by decide), wup_o _ _ _ (by decide)]
theorem G_ref {cd : Nat → Int32} {w : Wld} {h : Hs} {C : Option (Oc × Wld)} {M : Wld → Option (Int32 × Wld)} (r : RelH w h) (k : Nat) (hk : k < 3) (v : Int32) (hC : C = some (.inr (some v), wup w 73 k (w 73 k + 1))) (hM : ∀ w2, Frm [41] [] (wup w 73 k (w 73 k + 1)) w2 → M w2 = some (v, wup (wup w2 0 2 0) 12 k ((wup w2 0 2 0) 12 k + 1))) : BothG cd C M := by
  refine BothG_of (.inr (some v)) (fun w1 => w1 = wup w 73 k (w 73 k + 1)) (by rw [hC, ret_some]; exact ⟨rfl, rfl⟩) (fun w1 w2 e f2 => ?_)
  subst e
  rw [hM w2 f2, ret_some]
  obtain ⟨y1, y2, y3⟩ := ref_rel r hk f2
  exact ⟨⟨y2, rfl⟩, y1, y3⟩
/-- what a class's act leaves, for the model's -/
def CKp (w : Wld) (c : Sta) (w1 : Wld) : Prop := Frm [61, 62, 63, 66, 68] [(55, 3), (67, 1), (67, 2)] w w1 ∧ w1 66 = c ∧ ∃ f', CAct w1 (kpN (actN w)) f' (kpA (actN w) (actA w) (w 66))
theorem c_changed {w : Wld} {h : Hs} (r : RelH w h) {i : Nat} (hi : i < 53) (v : Int32) : Ret (F_C_changed w (jn i) v) (fun q => q.1 = w 66 i ∧ CKp w (upd (w 66) i v) q.2) := by
  obtain ⟨a1, a2, a3⟩ := act_of r.1 r.2.2.2.2.1
  simp (disch := omega) only [F_C_changed, ↓bi_eq, ↓bw_eq, gd_pos, br_pos, br_neg, br_T, br_F, gd_T, bq_some, bd_some, bv_some, bl_some, bx_inl, bx_inr, bn_none, bn_some, bt_inl, bt_inr, not_true_eq_false, not_false_eq_true, eq_self, Bool.false_eq_true, if_true, if_false, jn_clamp, jn_lt, jn_le, jn_inj, jn_add, jn_sub, jn_mul, jn_vp, jn_0a, jn_1a, jn_1b, jn_1s, jn_1m, jn_neg0, jn_le0, jn_0le, jn_0lt, jn_1le, jn_le1, jn_lt1, jn_1lt, jn_e0, jn_e1, jn_em, ↓qB_f, ↓qT_f, cl_0, cl_1, vp_0, vp_1, ret_bv]
  refine ret_mono (c_keep a1) (fun w2 hq => ?_)
  obtain ⟨q1, f', q2⟩ := hq
  have e66 : w2 66 = w 66 := frm_cell q1 66 (fun _ => rfl)
  rw [ret_some]
  refine ⟨rfl, frm_wup (frm_up q1 rfl) _ _ _ rfl, ?_, f', ?_⟩
  · show wup w2 66 i v 66 = _
    rw [wup_same, e66]
  · exact CAct_fr q2 (frm_wup (L := [66]) (K := []) frm_rf _ _ _ rfl) ⟨rfl, rfl, fun _ => rfl⟩
theorem m_keepE {w w1 w2 : Wld} {h : Hs} {c : Sta} (r : RelH w h) (x : CKp w c w1) (f2 : Frm [41] [] w1 w2) : MHs (wup w2 0 2 0) h ∧ MSt (wup w2 0 2 0) h (w 66) ∧ (wup w2 0 2 0) 0 2 = 0 ∧ Ret (F_M_keep (wup w2 0 2 0)) (fun w3 => Frm [20] [(0, 2), (0, 34)] w2 w3 ∧ MHs w3 h ∧ MSt w3 h (w 66) ∧ MAct w3 h (kpN (actN w)) (kpA (actN w) (actA w) (w 66)) ∧ w3 0 2 = 0) := by
  obtain ⟨a1, a2, a3⟩ := act_of r.1 r.2.2.2.2.1
  have fr : Frm [41, 61, 62, 63, 66, 68] [(0, 2), (55, 3), (67, 1), (67, 2)] w (wup w2 0 2 0) := frm_wup (frm_tr (frm_up x.1 rfl) (frm_up f2 rfl)) _ _ _ rfl
  have fe : Frm [] [(0, 2)] w2 (wup w2 0 2 0) := frm_wup frm_rf _ _ _ rfl
  have h1 : MHs (wup w2 0 2 0) h := MHs_fr r.2.2.1 fr ⟨rfl, rfl, rfl, rfl, rfl, fun _ => rfl, fun _ => rfl, fun _ => rfl⟩
  have s1 : MSt (wup w2 0 2 0) h (w 66) := MSt_fr r.2.2.2.1.2 fr ⟨fun _ => rfl, fun _ => rfl, fun _ => rfl, fun _ => rfl, fun _ => rfl, fun _ => rfl, rfl, rfl, rfl⟩
  refine ⟨h1, s1, wup_s1 _ _ _ _, ?_⟩
  refine ret_mono (m_keep r.1 a1.1 s1 (MAct_fr a2 fr ⟨rfl, fun _ => rfl⟩)) (fun w3 hq => ?_)
  obtain ⟨q1, q2⟩ := hq
  exact ⟨frm_tr (frm_up fe rfl) (frm_up q1 rfl), MHs_fr h1 q1 ⟨rfl, rfl, rfl, rfl, rfl, fun _ => rfl, fun _ => rfl, fun _ => rfl⟩, MSt_fr s1 q1 ⟨fun _ => rfl, fun _ => rfl, fun _ => rfl, fun _ => rfl, fun _ => rfl, fun _ => rfl, rfl, rfl, rfl⟩, q2, (q1 0 2 rfl).trans (wup_s1 _ _ _ _)⟩
def LMa : List Nat := [14, 15, 16, 17, 18, 19, 20, 21, 22, 23]
def KMa : List (Nat × Nat) := [(0, 2), (0, 31), (0, 32), (0, 33), (0, 34), (0, 38), (0, 39), (0, 40)]
theorem act_end {w w1 w2 p : Wld} {h : Hs} {c : Sta} (r : RelH w h) (gc : GdS h c) (x : CKp w c w1) (f2 : Frm [41] [] w1 w2) (fp : Frm LMa KMa w2 p) (sp : MSt p h c) (mp : MAct p h (kpN (actN w)) (kpA (actN w) (actA w) (w 66))) : Rel p ∧ p 41 0 = w2 41 0 := by
  obtain ⟨a1, a2, a3⟩ := act_of r.1 r.2.2.2.2.1
  obtain ⟨x1, x2, f', x3⟩ := x
  have fr : Frm LAc KAc w p := frm_tr (frm_up x1 rfl) (frm_tr (frm_up f2 rfl) (frm_up fp rfl))
  have e66 : p 66 = c := by rw [frm_cell fp 66 (fun _ => rfl), frm_cell f2 66 (fun _ => rfl)]; exact x2
  have cp : CAct p (kpN (actN w)) f' (kpA (actN w) (actA w) (w 66)) := CAct_fr (CAct_fr x3 f2 ⟨rfl, rfl, fun _ => rfl⟩) fp ⟨rfl, rfl, fun _ => rfl⟩
  exact ⟨⟨h, RelH_act r fr (by rw [e66]; exact gc) (by rw [e66]; exact sp) cp mp (kp_good a1.1 a3 r.2.2.2.1.1)⟩, fp 41 0 rfl⟩
