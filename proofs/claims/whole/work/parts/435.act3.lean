/-! ===== acts: tie, nights, undo ===== -/
theorem tie_facts : ∀ x, x < 256 → ∀ m, m < 8 → ((x.testBit m = true → x ||| 2 ^ m = x ∧ clr x m = x ^^^ 2 ^ m ∧ clr x m ≠ x) ∧ (x.testBit m = false → clr x m = x ∧ x ||| 2 ^ m = x ^^^ 2 ^ m ∧ x ||| 2 ^ m ≠ x) ∧ x ^^^ 2 ^ m < 256) := by decide +kernel
theorem g_tie {w : Wld} {h : Hs} (r : RelH w h) (a1 a2 : Int32) (hb2 : a2 = 0 ∨ a2 = 1) : BothG cdN (F_C_tie w a1 a2) (fun w1 => F_M_tie w1 a1 a2) := by
  have hh := r.1
  have hc := r.2.1
  have hM := hh.2.1
  have hg := r.2.2.2.1.1
  rcases idx_cases a1 (hsM h) (by omega) with ⟨m, hm, rfl⟩ | ⟨n1, n2⟩
  rotate_left
  · refine BothQ_G r (q_bad 0 1 ?_ (fun w1 r1 => ?_) rfl)
    · rw [F_C_tie, t_needMonk_n hc.2.1 n1, bn_some]
    · simp only [F_M_tie, bw_eq, t_isMonk_n (m_ent r1).1.2.1 n2, bp_some, eq_self, not_true_eq_false, br_F, F_M_failing, bd_some, true_or, gd_T]
  obtain ⟨x, hx, ex⟩ := hg.2.2.2.2.2.1
  obtain ⟨t1, t2, t3⟩ := tie_facts x hx m (by omega)
  have hx2 := t3
  have gc : GdS h (upd (w 66) 50 (jn (x ^^^ 2 ^ m))) := GdS_tied hh hg t3
  have hcl : clr x m < 256 := Nat.lt_of_le_of_lt (clr_le _ _) hx
  have hor : x ||| 2 ^ m < 256 := Nat.or_lt_two_pow (n := 8) hx (Nat.pow_lt_pow_right (by decide) (by omega))
  have refuse : ∀ (hC : F_C_tie w (jn m) a2 = some (.inr (some 0), wup w 73 1 (w 73 1 + 1))), ((if x.testBit m = true then 1 else 0 : Int32) = a2) → BothG cdN (F_C_tie w (jn m) a2) (fun w1 => F_M_tie w1 (jn m) a2) := by
    intro hC he
    refine G_ref r 1 (by omega) 0 hC (fun w2 f2 => ?_)
    obtain ⟨z1, z2⟩ := m_ent0 r (f_ref f2) rfl
    have e33 : (wup w2 0 2 0) 0 33 = jn x := z2.2.2.1.trans ex
    simp (disch := omega) only [F_M_tie, ↓bi_eq, ↓bw_eq, gd_pos, br_pos, br_neg, br_T, br_F, gd_T, bq_some, bd_some, bv_some, bl_some, bx_inl, bx_inr, bn_none, bn_some, bt_inl, bt_inr, not_true_eq_false, not_false_eq_true, eq_self, Bool.false_eq_true, if_true, if_false, cl_1, vp_1, t_isMonk_y z1.2.1 (show hsM h < 100 by omega) hm, e33, t_isOf, he, (by decide : ((1 : Int32) = 0) = False)]
  have change : ∀ (v : Nat) (hv : v = x ^^^ 2 ^ m) (hC : F_C_tie w (jn m) a2 = K_C_tie_38 (jn x) (jn v) w) (hne : ¬ jn v = jn x), (¬ (if x.testBit m = true then 1 else 0 : Int32) = a2) → BothG cdN (F_C_tie w (jn m) a2) (fun w1 => F_M_tie w1 (jn m) a2) := by
    intro v hv hC hne he
    subst hv
    refine BothG_of (.inr (some 1)) (CKp w (upd (w 66) 50 (jn (x ^^^ 2 ^ m)))) ?_ (fun w1 w2 xx f2 => ?_)
    · rw [hC, K_C_tie_38, br_pos hne, ret_bd]
      refine ret_mono (c_changed r (i := 50) (by omega) _) (fun q hq => ?_)
      rw [ret_some]
      exact ⟨rfl, hq.2⟩
    · obtain ⟨z1, z2, z3, z4⟩ := m_keepE r xx f2
      have e33 : (wup w2 0 2 0) 0 33 = jn x := z2.2.2.1.trans ex
      simp (disch := omega) only [F_M_tie, ↓bi_eq, ↓bw_eq, gd_pos, br_pos, br_neg, br_T, br_F, gd_T, bq_some, bd_some, bv_some, bl_some, bx_inl, bx_inr, bn_none, bn_some, bt_inl, bt_inr, not_true_eq_false, not_false_eq_true, eq_self, Bool.false_eq_true, if_true, if_false, t_isMonk_y z1.2.1 (show hsM h < 100 by omega) hm, e33, t_isOf, he, (by decide : ((1 : Int32) = 0) = False), ret_bv]
      refine ret_mono z4 (fun w3 hq => ?_)
      obtain ⟨q1, q2, q3, q4, q5⟩ := hq
      have e33 : w3 0 33 = jn x := q3.2.2.1.trans ex
      have s4 := MSt_tied hh q3 (jn (x ^^^ 2 ^ m))
      have f4 : Frm [] [(0, 33)] w3 (wup w3 0 33 (jn (x ^^^ 2 ^ m))) := frm_wup frm_rf _ _ _ rfl
      rw [e33, qB_f, qB_jn (by omega), jn_xor, ret_some]
      obtain ⟨y1, y2⟩ := act_end r gc xx f2 (frm_tr (frm_up q1 rfl) (frm_up f4 rfl)) s4 (MAct_fr q4 f4 ⟨rfl, fun _ => rfl⟩)
      exact ⟨⟨(f4 0 2 rfl).trans q5, rfl⟩, y1, y2⟩
  have hne : ∀ a b, a < 256 → b < 256 → a ≠ b → ¬ jn a = jn b := fun a b ha hb hab => by rw [jn_inj (by omega) (by omega)]; exact hab
  rcases hb2 with rfl | rfl
  · have hC : F_C_tie w (jn m) 0 = K_C_tie_38 (jn x) (jn (clr x m)) w := by
      simp (disch := omega) only [F_C_tie, t_needMonk_y hc.2.1 (show hsM h < 100 by omega) hm, ↓bi_eq, ↓bw_eq, gd_pos, br_pos, br_neg, br_T, br_F, gd_T, bq_some, bd_some, bv_some, bl_some, bx_inl, bx_inr, bn_none, bn_some, bt_inl, bt_inr, not_true_eq_false, not_false_eq_true, eq_self, Bool.false_eq_true, if_true, if_false, li_50, jn_vp, jn_clamp, ex, ↓qB_f, jn_clr]
    by_cases hz : x.testBit m = true
    · obtain ⟨b1, b2, b3⟩ := t1 hz
      exact change (clr x m) b2 hC (hne _ _ hcl hx b3) (by rw [if_pos hz]; decide)
    · obtain ⟨b1, b2, b3⟩ := t2 (Bool.eq_false_iff.mpr hz)
      refine refuse ?_ (by rw [if_neg hz])
      rw [hC, K_C_tie_38, b1, br_neg (fun z => z rfl), c_refused, bd_some]
  · have hC : F_C_tie w (jn m) 1 = K_C_tie_38 (jn x) (jn (x ||| 2 ^ m)) w := by
      simp (disch := omega) only [F_C_tie, t_needMonk_y hc.2.1 (show hsM h < 100 by omega) hm, ↓bi_eq, ↓bw_eq, gd_pos, br_pos, br_neg, br_T, br_F, gd_T, bq_some, bd_some, bv_some, bl_some, bx_inl, bx_inr, bn_none, bn_some, bt_inl, bt_inr, not_true_eq_false, not_false_eq_true, eq_self, Bool.false_eq_true, if_true, if_false, li_50, jn_vp, jn_clamp, ex, ↓qB_f, qB_jn, jn_or, (by decide : ((1 : Int32) = 0) = False)]
    by_cases hz : x.testBit m = true
    · obtain ⟨b1, b2, b3⟩ := t1 hz
      refine refuse ?_ (by rw [if_pos hz])
      rw [hC, K_C_tie_38, b1, br_neg (fun z => z rfl), c_refused, bd_some]
    · obtain ⟨b1, b2, b3⟩ := t2 (Bool.eq_false_iff.mpr hz)
      exact change (x ||| 2 ^ m) b2 hC (hne _ _ hor hx b3) (by rw [if_neg hz]; decide)
theorem vp52 : vp_in 52 53 := by rw [li_52, jn_vp (by omega)]; omega
theorem j_nights {w : Wld} {h : Hs} (r : RelH w h) (a1 : Int32) : BothJ (F_C_nights w a1) (fun w1 => F_M_nights w1 a1) := by
  have hh := r.1
  have hc := r.2.1
  have hg := r.2.2.2.1.1
  obtain ⟨a1', a2', a3'⟩ := act_of r.1 r.2.2.2.2.1
  have refuse : F_C_nights w a1 = K_C_nights_34 w → (∀ w2, MSt (wup w2 0 2 0) h (w 66) → F_M_nights w2 a1 = K_M_nights_29 (wup w2 0 2 0)) → BothJ (F_C_nights w a1) (fun w1 => F_M_nights w1 a1) := by
    intro hC hM
    unfold BothJ
    rw [hC, K_C_nights_34, c_refused, bd_some, ret_some]
    simp only
    have z2 := (m_ent0 (w2 := wup w 73 1 (w 73 1 + 1)) r (f_ref frm_rf) rfl).2
    rw [hM _ z2, K_M_nights_29, show F_M_refuse (wup (wup w 73 1 (w 73 1 + 1)) 0 2 0) 1 = _ from m_refuse (wup (wup w 73 1 (w 73 1 + 1)) 0 2 0) (k := 1) (by omega), bd_some, ret_some]
    exact ⟨rfl, (ref_rel r (by omega) frm_rf).1⟩
  rcases rng_cases a1 1 20 (by omega) (by omega) with ⟨n, h1, h2, rfl⟩ | ⟨n1, n2⟩
  rotate_left
  · have n2 : ¬ ((1 : Int32) ≤ a1 ∧ a1 ≤ 20) := n2
    refine refuse ?_ (fun w2 _ => ?_)
    · rw [F_C_nights]
      by_cases h1 : a1 < 1
      · rw [br_pos h1]
      · rw [br_neg h1, br_pos (Int32.not_le.mp (fun z => n2 ⟨Int32.not_lt.mp h1, z⟩))]
    · rw [F_M_nights, bw_eq, t_isIn, if_neg n2, bp_some, br_pos rfl]
  have g1 : (1 : Int32) ≤ jn n ∧ jn n ≤ 20 := g_rng 1 n 20 (by omega) h1 h2
  by_cases hl : w 66 52 + jn n ≤ 999
  · have gN := sGo_good hh hg n
    have hC : Ret (F_C_nights w (jn n)) (fun q => q.1 = sGo h (w 66) n 52 ∧ CKp w (sGo h (w 66) n) q.2) := by
      rw [F_C_nights, br_neg (Int32.not_lt.mpr g1.1), br_neg (Int32.not_lt.mpr g1.2), gd_pos vp52, show Int32.toNatClampNeg 52 = 52 from rfl, br_pos hl, ret_bv]
      refine ret_mono (c_keep a1') (fun w2 hq => ?_)
      obtain ⟨q1, f', q2⟩ := hq
      have e66 : w2 66 = w 66 := frm_cell q1 66 (fun _ => rfl)
      have f2 : Frm [61, 62, 63, 66, 68] [(55, 3), (67, 1), (67, 2)] w w2 := frm_up q1 rfl
      rw [ret_bl]
      refine ret_mono (P := fun w3 => Frm [61, 62, 63, 66] [(55, 3)] w2 w3 ∧ w3 66 = sGo h (w 66) n) ?_ (fun w3 hq => ?_)
      · refine loop_inv (I := fun k s => s.1 = jn k ∧ Frm [61, 62, 63, 66] [(55, 3)] w2 s.2 ∧ s.2 66 = sGo h (w 66) k) n ⟨rfl, frm_rf, e66⟩ (fun k s hk hi => ?_) (fun s hi => ?_)
        · obtain ⟨i, w3⟩ := s
          obtain ⟨i1, i2, i3⟩ := hi
          simp only at i1 i2 i3
          subst i1
          simp (disch := omega) only [B_C_nights_52, ↓bi_eq, ↓bw_eq, gd_pos, br_pos, br_neg, br_T, br_F, gd_T, bq_some, bd_some, bv_some, bl_some, bx_inl, bx_inr, bn_none, bn_some, bt_inl, bt_inr, not_true_eq_false, not_false_eq_true, eq_self, Bool.false_eq_true, if_true, if_false, jn_clamp, jn_lt, jn_le, jn_inj, jn_add, jn_sub, jn_mul, jn_vp, jn_0a, jn_1a, jn_1b, jn_1s, jn_1m, jn_neg0, jn_le0, jn_0le, jn_0lt, jn_1le, jn_le1, jn_lt1, jn_1lt, jn_e0, jn_e1, jn_em, ↓qB_f, ↓qT_f, cl_0, cl_1, vp_0, vp_1, ret_bv]
          have f3 : Frm [61, 62, 63, 66, 68] [(55, 3), (67, 1), (67, 2)] w w3 := frm_tr f2 (frm_up i2 rfl)
          refine ret_mono (t_pass_65 (CHs_fr hc f3 ⟨rfl, rfl, rfl, rfl, fun _ => rfl, fun _ => rfl, rfl, fun _ => rfl⟩) hh (by rw [i3]; exact sGo_good hh hg k)) (fun w4 hp => ?_)
          obtain ⟨p1, p2, p3⟩ := hp
          rw [ret_some, LQ_inl]
          exact ⟨rfl, frm_tr i2 p1, by show w4 66 = _; rw [p2, i3]; rfl⟩
        · obtain ⟨i, w3⟩ := s
          obtain ⟨i1, i2, i3⟩ := hi
          simp only at i1 i2 i3
          subst i1
          simp (disch := omega) only [B_C_nights_52, ↓bi_eq, ↓bw_eq, gd_pos, br_pos, br_neg, br_T, br_F, gd_T, bq_some, bd_some, bv_some, bl_some, bx_inl, bx_inr, bn_none, bn_some, bt_inl, bt_inr, not_true_eq_false, not_false_eq_true, eq_self, Bool.false_eq_true, if_true, if_false, jn_clamp, jn_lt, jn_le, jn_inj, jn_add, jn_sub, jn_mul, jn_vp, jn_0a, jn_1a, jn_1b, jn_1s, jn_1m, jn_neg0, jn_le0, jn_0le, jn_0lt, jn_1le, jn_le1, jn_lt1, jn_1lt, jn_e0, jn_e1, jn_em, ↓qB_f, ↓qT_f, cl_0, cl_1, vp_0, vp_1, br_pos (Nat.le_refl n), ret_some, LQ_inr]
          exact ⟨i2, i3⟩
      · obtain ⟨p1, p2⟩ := hq
        rw [gd_pos vp52, ret_some, p2]
        exact ⟨rfl, frm_tr f2 (frm_up p1 rfl), p2, f', CAct_fr q2 p1 ⟨rfl, rfl, fun _ => rfl⟩⟩
    refine ret_mono hC (fun q hq => ?_)
    obtain ⟨v, w1⟩ := q
    obtain ⟨q1, q2⟩ := hq
    simp only at q1 q2 ⊢
    obtain ⟨z1, z2, z3, z4⟩ := m_keepE r q2 (frm_rf (L := [41]) (K := []))
    have hl2 : (wup w1 0 2 0) 0 31 + jn n ≤ 999 := by rw [z2.2.2.2.2]; exact hl
    rw [F_M_nights, bw_eq, t_isIn, if_pos g1, bp_some, br_neg (by decide), br_pos hl2, ret_bv]
    refine ret_mono z4 (fun w3 hp => ?_)
    obtain ⟨p1, p2, p3, p4, p5⟩ := hp
    rw [ret_bv]
    refine ret_mono (t_goOn p2 p3 hh hg (by omega)) (fun w4 hx => ?_)
    obtain ⟨x1, x2, x3⟩ := hx
    rw [ret_some]
    refine ⟨?_, (act_end r gN q2 (frm_rf (L := [41]) (K := [])) (frm_tr (frm_up p1 rfl) (frm_up x1 rfl)) x2 (MAct_fr p4 x1 ⟨rfl, fun _ => rfl⟩)).1⟩
    simp only
    rw [x2.2.2.2.2, q1]
  · refine refuse ?_ (fun w2 z2 => ?_)
    · rw [F_C_nights, br_neg (Int32.not_lt.mpr g1.1), br_neg (Int32.not_lt.mpr g1.2), gd_pos vp52, show Int32.toNatClampNeg 52 = 52 from rfl, br_neg hl]
    · have hl2 : ¬ (wup w2 0 2 0) 0 31 + jn n ≤ 999 := by rw [z2.2.2.2.2]; exact hl
      rw [F_M_nights, bw_eq, t_isIn, if_pos g1, bp_some, br_neg (by decide), br_neg hl2]
theorem j_undo {w : Wld} {h : Hs} (r : RelH w h) : BothJ (F_C_undo w) F_M_undo := by
  have hh := r.1
  obtain ⟨a1, a2, a3⟩ := act_of r.1 r.2.2.2.2.1
  generalize actN w = n at a1 a2 a3
  generalize actF w = f at a1
  generalize actA w = A at a1 a2 a3
  obtain ⟨c1, c2, c3, c4, c5⟩ := a1
  unfold BothJ
  by_cases h0 : n = 0
  · subst h0
    rw [F_C_undo, c3, br_neg (fun z => z rfl), ret_some]
    simp only
    obtain ⟨z1, z2, z3, z4⟩ := m_ent r
    have e34 : (wup w 0 2 0) 0 34 = jn 0 := by rw [wup_s2 _ _ _ (by decide)]; exact a2.1
    rw [F_M_undo, bw_eq, e34, br_neg (fun z => z rfl), ret_some]
    exact ⟨rfl, h, RelH_p r z3 z2⟩
  · have hne : ¬ jn n = 0 := by rw [jn_e0 (by omega)]; exact h0
    have hle : ¬ jn n ≤ 0 := by rw [jn_le0 (by omega)]; exact h0
    have hP : (f + (n - 1)) % 40 < 40 := Nat.mod_lt _ (by omega)
    have gl := a3 (n - 1) (by omega)
    have fa : Frm [66] [(67, 2)] w (wup w 67 2 (jn (n - 1))) := frm_wup frm_rf _ _ _ rfl
    have ea : (wup w 67 2 (jn (n - 1))) 67 2 = jn (n - 1) := wup_s1 _ _ _ _
    have eb : (wup w 67 2 (jn (n - 1))) 67 1 = jn f := by rw [wup_s2 _ _ _ (by decide)]; exact c4
    have e68 : (wup w 67 2 (jn (n - 1))) 68 = w 68 := wup_o _ _ _ (by decide)
    have hC : Ret (F_C_undo w) (fun q => q.1 = jn (n - 1) ∧ Frm [66] [(67, 2)] w q.2 ∧ Eq53 (q.2 66) (A (n - 1)) ∧ CAct q.2 (n - 1) f A) := by
      rw [F_C_undo, c3, br_pos hne, F_Acts_bringBack_67_65, c3, br_neg hle, bw_eq, jn_1s (by omega), c_place ea eb (by omega) c2, bp_some]
      generalize wup w 67 2 (jn (n - 1)) = wa at fa ea eb e68 ⊢
      have hcp : cpO wa 68 2120 53 0 (jn (((f + (n - 1)) % 40) * 53)) 0 53 := cpO_int wa (a := ((f + (n - 1)) % 40) * 53) (b := 0) (k := 53) (by omega) (by omega) (by omega) (by omega) (by omega)
      rw [gd_pos hcp, bw_eq, K_Acts_bringBack_67_65_35, bv_some, ret_some]
      have fb : Frm [66] [] wa (wcp wa 68 66 (Int32.toNatClampNeg (jn (((f + (n - 1)) % 40) * 53))) (Int32.toNatClampNeg 0) (Int32.toNatClampNeg 53)) := frm_wcp frm_rf _ _ _ _ _ rfl
      refine ⟨?_, frm_tr fa (frm_up fb rfl), fun i hi => ?_, by omega, c2, ?_, ?_, fun k hk i hi => ?_⟩
      · exact (fb 67 2 rfl).trans ea
      · show wcp wa 68 66 _ _ _ 66 i = _
        rw [wcp_s, cl_0, show Int32.toNatClampNeg 53 = 53 from rfl, jn_clamp (by omega), if_pos (by omega), e68, Nat.sub_zero]
        exact c5 (n - 1) (by omega) i hi
      · exact (fb 67 2 rfl).trans ea
      · exact (fb 67 1 rfl).trans eb
      · exact (fb 68 (((f + k) % 40) * 53 + i) rfl).trans (by rw [e68]; exact c5 k (by omega) i hi)
    refine ret_mono hC (fun q hq => ?_)
    obtain ⟨v, w1⟩ := q
    obtain ⟨q1, q2, q3, q4⟩ := hq
    simp only at q1 q2 q3 q4 ⊢
    subst q1
    have e34 : (wup w1 0 2 0) 0 34 = jn n := by rw [wup_s2 _ _ _ (by decide), q2 0 34 rfl]; exact a2.1
    have f2 : Frm [66] [(0, 2), (0, 34), (67, 2)] w (wup (wup w1 0 2 0) 0 34 (jn (n - 1))) := frm_wup (frm_wup (frm_up q2 rfl) _ _ _ rfl) _ _ _ rfl
    have g2 : Frm [] [(0, 2), (0, 34)] w1 (wup (wup w1 0 2 0) 0 34 (jn (n - 1))) := frm_wup (frm_wup frm_rf _ _ _ rfl) _ _ _ rfl
    have ec : (wup (wup w1 0 2 0) 0 34 (jn (n - 1))) 0 34 = jn (n - 1) := wup_s1 _ _ _ _
    rw [F_M_undo, bw_eq, e34, br_pos hne, bw_eq, jn_1s (by omega), ec, li_53, jn_mul, ret_bv]
    generalize wup (wup w1 0 2 0) 0 34 (jn (n - 1)) = wb at f2 g2 ec ⊢
    have row : MRow (fun i => wb 20 (53 * (n - 1) + i)) h (A (n - 1)) := by
      rw [frm_cell f2 20 (fun _ => rfl)]; exact a2.2 (n - 1) (by omega)
    refine ret_mono (t_unpack_20 (o := 53 * (n - 1)) hh (by omega) row) (fun w3 hx => ?_)
    obtain ⟨x1, x2⟩ := hx
    have e66 : w3 66 = w1 66 := by rw [frm_cell x1 66 (fun _ => rfl), frm_cell g2 66 (fun _ => rfl)]
    have fr : Frm LAc KAc w w3 := frm_tr (frm_up f2 rfl) (frm_up x1 rfl)
    rw [ret_some]
    have ma : MAct w3 h (n - 1) A := by
      refine ⟨(x1 0 34 rfl).trans ec, fun k hk => ?_⟩
      rw [frm_cell x1 20 (fun _ => rfl), frm_cell f2 20 (fun _ => rfl)]
      exact a2.2 k (by omega)
    have gg : GdS h (w3 66) := by rw [e66]; exact GdS_congr hh gl q3
    have mm : MSt w3 h (w3 66) := by rw [e66]; exact MSt_congr hh x2 q3
    exact ⟨(x1 0 34 rfl).trans ec, h, RelH_act r fr gg mm (CAct_fr (CAct_fr q4 g2 ⟨rfl, rfl, fun _ => rfl⟩) x1 ⟨rfl, rfl, fun _ => rfl⟩) ma (fun k hk => a3 k (by omega))⟩
