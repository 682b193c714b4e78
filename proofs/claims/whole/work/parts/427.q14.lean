/-! ===== questions: listen, the end ===== -/
theorem m_song1 {w6 : Wld} {h : Hs} {c : Sta} (hw : MHs w6 h) (hs : MSt w6 h c) (hh : GdH h) (hg : GdS h c) {i : Nat} (hi : i < 80) (a1 : Int32) : Ret (loop (B_M_listen_68 a1 (jn i)) (0, w6)) (fun w7 => Frm (33 :: nFrL) nFrK w6 w7 ∧ (∀ n, n < 20 → w7 33 (20 * i + n) = sMat h (sGo h c n)) ∧ ∀ j, j < 20 * i → w7 33 j = w6 33 j) := by
  refine loop_inv (I := fun n s => s.1 = jn n ∧ Frm (33 :: nFrL) nFrK w6 s.2 ∧ MSt s.2 h (sGo h c n) ∧ (∀ n', n' < n → s.2 33 (20 * i + n') = sMat h (sGo h c n')) ∧ ∀ j, j < 20 * i → s.2 33 j = w6 33 j) 20 ⟨rfl, frm_rf, hs, fun n hn => absurd hn (Nat.not_lt_zero n), fun _ _ => rfl⟩ (fun n s hn hi9 => ?_) (fun s hi9 => ?_)
  · obtain ⟨j, w1⟩ := s
    obtain ⟨i1, i2, i3, i4, i5⟩ := hi9
    simp only at i1 i2 i3 i4 i5
    subst i1
    simp (disch := omega) only [B_M_listen_68, ↓bi_eq, ↓bw_eq, gd_pos, br_pos, br_neg, br_T, br_F, gd_T, bq_some, bd_some, bv_some, bl_some, bx_inl, bx_inr, bn_none, bn_some, bt_inl, bt_inr, not_true_eq_false, not_false_eq_true, eq_self, Bool.false_eq_true, if_true, if_false, jn_clamp, jn_lt, jn_le, jn_inj, jn_add, jn_sub, jn_mul, jn_vp, jn_0a, jn_1a, jn_1b, jn_1s, jn_1m, jn_neg0, jn_le0, jn_0le, jn_0lt, jn_1le, jn_le1, jn_lt1, jn_1lt, jn_e0, jn_e1, jn_em, ↓qB_f, ↓qT_f, cl_0, cl_1, vp_0, vp_1, li_20, ret_bv]
    refine ret_mono (t_aNight (MHs_fr hw i2 ⟨rfl, rfl, rfl, rfl, rfl, fun _ => rfl, fun _ => rfl, fun _ => rfl⟩) i3 hh (sGo_good hh hg n)) (fun w2 hp => ?_)
    obtain ⟨p1, p2, p3⟩ := hp
    have e33 : w2 33 = w1 33 := frm_cell p1 33 (fun _ => rfl)
    have f3 : Frm [33] [] w2 (wup w2 33 (20 * i + n) (sMat h (sGo h c n))) := frm_wup frm_rf _ _ _ rfl
    rw [p3.1, ret_some, LQ_inl]
    refine ⟨rfl, frm_tr i2 (frm_tr (frm_up p1 rfl) (frm_up f3 rfl)), MSt_fr p2 f3 ⟨fun _ => rfl, fun _ => rfl, fun _ => rfl, fun _ => rfl, fun _ => rfl, fun _ => rfl, rfl, rfl, rfl⟩, fun n' hn' => ?_, fun j hj => ?_⟩
    · show wup w2 33 (20 * i + n) (sMat h (sGo h c n)) 33 (20 * i + n') = _
      rw [wup_s]
      by_cases e : n' = n
      · rw [if_pos (by omega), e]
      · rw [if_neg (by omega), e33]; exact i4 n' (by omega)
    · show wup w2 33 (20 * i + n) (sMat h (sGo h c n)) 33 j = _
      rw [wup_s2 _ _ _ (by omega), e33]; exact i5 j hj
  · obtain ⟨j, w1⟩ := s
    obtain ⟨i1, i2, i3, i4, i5⟩ := hi9
    simp only at i1 i2 i3 i4 i5
    subst i1
    simp (disch := omega) only [B_M_listen_68, ↓bi_eq, ↓bw_eq, gd_pos, br_pos, br_neg, br_T, br_F, gd_T, bq_some, bd_some, bv_some, bl_some, bx_inl, bx_inr, bn_none, bn_some, bt_inl, bt_inr, not_true_eq_false, not_false_eq_true, eq_self, Bool.false_eq_true, if_true, if_false, jn_clamp, jn_lt, jn_le, jn_inj, jn_add, jn_sub, jn_mul, jn_vp, jn_0a, jn_1a, jn_1b, jn_1s, jn_1m, jn_neg0, jn_le0, jn_0le, jn_0lt, jn_1le, jn_le1, jn_lt1, jn_1lt, jn_e0, jn_e1, jn_em, ↓qB_f, ↓qT_f, cl_0, cl_1, vp_0, vp_1, li_20, br_pos (Nat.le_refl 20), ret_some, LQ_inr]
    exact ⟨i2, i4, i5⟩
def MSg (w : Wld) (h : Hs) (c : Sta) (F : Nat × (Nat → Nat)) (k : Nat) : Prop := ∀ i n, i < k → n < 20 → w 33 (20 * i + n) = sgS h c (F.2 i) n
theorem m_songs {w1 w4 : Wld} {h : Hs} {c : Sta} (r1 : RelH w1 h) (f4 : Frm LPu KPu w1 w4) (s4 : MSt w4 h c) (c4 : w4 0 2 = 0) (hg : GdS h c) {F : Nat × (Nat → Nat)} (m4 : MFit w4 F) (hF : F.1 ≤ 80) (hF2 : ∀ i, i < F.1 → F.2 i < 10 * hsM h) (a1 : Int32) : Ret (loop (B_M_listen_26 a1) (0, w4)) (fun w5 => Frm LPu KPu w1 w5 ∧ MSt w5 h c ∧ w5 0 2 = 0 ∧ MFit w5 F ∧ MSg w5 h c F F.1) := by
  have hh := r1.1
  have hM := hh.2.1
  refine loop_inv (I := fun k s => s.1 = jn k ∧ Frm LPu KPu w1 s.2 ∧ MSt s.2 h c ∧ s.2 0 2 = 0 ∧ MFit s.2 F ∧ MSg s.2 h c F k) F.1 ⟨rfl, f4, s4, c4, m4, fun i n hi => absurd hi (Nat.not_lt_zero i)⟩ (fun k s hk hi => ?_) (fun s hi => ?_)
  · obtain ⟨j, w2⟩ := s
    obtain ⟨i1, i2, i3, i4, i5, i6⟩ := hi
    simp only at i1 i2 i3 i4 i5 i6
    subst i1
    have hT := hF2 k hk
    have hd10 : ¬ (10 : Int32) = 0 := by decide
    have e1 : jn (F.2 k) / 10 = jn (F.2 k / 10) := jn_div (b := 10) (by omega) (by omega)
    have e2 : jn (F.2 k) - jn (F.2 k / 10) * 10 = jn (F.2 k % 10) := by rw [← e1]; exact jn_mod (b := 10) (by omega) (by omega)
    have gk : GdS h (fSt c (F.2 k)) := fSt_good hh hg (by omega)
    simp (disch := omega) only [B_M_listen_26, ↓bi_eq, ↓bw_eq, gd_pos, br_pos, br_neg, br_T, br_F, gd_T, bq_some, bd_some, bv_some, bl_some, bx_inl, bx_inr, bn_none, bn_some, bt_inl, bt_inr, not_true_eq_false, not_false_eq_true, eq_self, Bool.false_eq_true, if_true, if_false, jn_clamp, jn_lt, jn_le, jn_inj, jn_add, jn_sub, jn_mul, jn_vp, jn_0a, jn_1a, jn_1b, jn_1s, jn_1m, jn_neg0, jn_le0, jn_0le, jn_0lt, jn_1le, jn_le1, jn_lt1, jn_1lt, jn_e0, jn_e1, jn_em, ↓qB_f, ↓qT_f, cl_0, cl_1, vp_0, vp_1, i5.1, ret_bv]
    refine ret_mono (m_pack i3 hh) (fun w3 hq => ?_)
    obtain ⟨q1, q2⟩ := hq
    have e32 : w3 32 k = jn (F.2 k) := by rw [frm_cell q1 32 (fun _ => rfl)]; exact i5.2 k hk
    have b3 : MBk w1 h c w3 := ⟨frm_tr i2 (frm_up q1 rfl), MSt_fr i3 q1 ⟨fun _ => rfl, fun _ => rfl, fun _ => rfl, fun _ => rfl, fun _ => rfl, fun _ => rfl, rfl, rfl, rfl⟩, q2, (q1 0 2 rfl).trans i4⟩
    have fa : Frm [15] [] w3 (wup w3 15 (F.2 k / 10) (jn (F.2 k % 10))) := frm_wup frm_rf _ _ _ rfl
    have sa : MSt (wup w3 15 (F.2 k / 10) (jn (F.2 k % 10))) h (fSt c (F.2 k)) := MSt_fish hh b3.2.1 (by omega) _
    simp (disch := omega) only [↓bi_eq, ↓bw_eq, gd_pos, br_pos, br_neg, br_T, br_F, gd_T, bq_some, bd_some, bv_some, bl_some, bx_inl, bx_inr, bn_none, bn_some, bt_inl, bt_inr, not_true_eq_false, not_false_eq_true, eq_self, Bool.false_eq_true, if_true, if_false, jn_clamp, jn_lt, jn_le, jn_inj, jn_add, jn_sub, jn_mul, jn_vp, jn_0a, jn_1a, jn_1b, jn_1s, jn_1m, jn_neg0, jn_le0, jn_0le, jn_0lt, jn_1le, jn_le1, jn_lt1, jn_1lt, jn_e0, jn_e1, jn_em, ↓qB_f, ↓qT_f, cl_0, cl_1, vp_0, vp_1, gd_pos hd10, e32, e1, e2, ret_bl]
    generalize wup w3 15 (F.2 k / 10) (jn (F.2 k % 10)) = wa at fa sa ⊢
    refine ret_mono (m_song1 (MHs_fr (MBk_h r1 b3) fa ⟨rfl, rfl, rfl, rfl, rfl, fun _ => rfl, fun _ => rfl, fun _ => rfl⟩) sa hh gk (by omega) a1) (fun w5 hp => ?_)
    obtain ⟨p1, p2, p3⟩ := hp
    rw [ret_bv]
    refine ret_mono (m_backG hh b3 (frm_tr (frm_up fa rfl) (frm_up p1 rfl))) (fun w6 hx => ?_)
    obtain ⟨x1, x2⟩ := hx
    have e33 : w6 33 = w5 33 := frm_cell x2 33 (fun _ => rfl)
    have a33 : wa 33 = w3 33 := frm_cell fa 33 (fun _ => rfl)
    have b33 : w3 33 = w2 33 := frm_cell q1 33 (fun _ => rfl)
    rw [ret_some, LQ_inl]
    refine ⟨rfl, x1.1, x1.2.1, x1.2.2.2, ?_, fun i n hi hn => ?_⟩
    · exact MFit_fr (MFit_fr (MFit_fr (MFit_fr i5 q1 ⟨rfl, fun _ => rfl⟩) fa ⟨rfl, fun _ => rfl⟩) p1 ⟨rfl, fun _ => rfl⟩) x2 ⟨rfl, fun _ => rfl⟩
    · show w6 33 (20 * i + n) = _
      rw [e33]
      by_cases h9 : i = k
      · rw [h9]; exact p2 n hn
      · rw [p3 _ (by omega), a33, b33]; exact i6 i n (by omega) hn
  · obtain ⟨j, w2⟩ := s
    obtain ⟨i1, i2, i3, i4, i5, i6⟩ := hi
    simp only at i1 i2 i3 i4 i5 i6
    subst i1
    simp (disch := omega) only [B_M_listen_26, ↓bi_eq, ↓bw_eq, gd_pos, br_pos, br_neg, br_T, br_F, gd_T, bq_some, bd_some, bv_some, bl_some, bx_inl, bx_inr, bn_none, bn_some, bt_inl, bt_inr, not_true_eq_false, not_false_eq_true, eq_self, Bool.false_eq_true, if_true, if_false, jn_clamp, jn_lt, jn_le, jn_inj, jn_add, jn_sub, jn_mul, jn_vp, jn_0a, jn_1a, jn_1b, jn_1s, jn_1m, jn_neg0, jn_le0, jn_0le, jn_0lt, jn_1le, jn_le1, jn_lt1, jn_1lt, jn_e0, jn_e1, jn_em, ↓qB_f, ↓qT_f, cl_0, cl_1, vp_0, vp_1, i5.1, br_pos (Nat.le_refl F.1), ret_some, LQ_inr]
    exact ⟨i2, i3, i4, i5, i6⟩
theorem q_listen {w : Wld} {h : Hs} (r : RelH w h) (a1 : Int32) : BothR cdN w h (F_C_listen w a1) (fun w1 => F_M_listen w1 a1) := by
  have hh := r.1
  have hc := r.2.1
  have hM := hh.2.1
  have hg := r.2.2.2.1.1
  obtain ⟨d1, d2, -⟩ := hd_of r.2.2.2.2.2.1
  rcases rng_cases a1 0 1 (by omega) (by omega) with ⟨k, -, hk, rfl⟩ | ⟨n1, n2⟩
  rotate_left
  · have n2 : ¬ ((0 : Int32) ≤ a1 ∧ a1 ≤ 1) := n2
    refine BothQ_R (q_bad 0 1 ?_ (fun w1 r1 => ?_) rfl)
    · rw [F_C_listen, jn_11, t_what_n w n1, bn_some]
    · rw [F_M_listen, bw_eq]
      by_cases h1 : a1 < 0
      · rw [br_pos h1, K_M_listen_14, t_fail, bd_some]
      · rw [br_neg h1, br_neg (fun z => n2 ⟨Int32.not_lt.mp h1, z⟩), K_M_listen_14, t_fail, bd_some]
  have hk0 : ¬ (jn k : Int32) < 0 := by rw [jn_neg0 (by omega)]; exact id
  have hk1 : (jn k : Int32) ≤ 1 := by rw [jn_le1 (by omega)]; exact hk
  have hnine := ft_nine (fitP (theHd w) h (w 66)) (fit_hole hg (theHd w)) (hsM h) (Nat.le_refl _)
  have hflt := ft_lt (fitP (theHd w) h (w 66)) (10 * hsM h)
  have cs := fun a1 => c_songs hc hh hg d1 d2 a1
  have mf : ∀ wa, MHs wa h → MSt wa h (w 66) → MHd wa (theHd w) → Ret (F_M_tellFits wa) (fun w' => Frm LFt KFt wa w' ∧ MSt w' h (w 66) ∧ MFit w' (ftS (fitP (theHd w) h (w 66)) (10 * hsM h))) := fun wa z1 z2 zd => m_fits z1 z2 hh hg d1 zd
  generalize ftS (fitP (theHd w) h (w 66)) (10 * hsM h) = F at hnine hflt cs mf
  refine ⟨.inr (some (if k = 0 then (lsB (fun n => unS (fun i => sgS h (w 66) (F.2 i) n) F.1) 20).1 else (lsB (fun n => unS (fun i => sgS h (w 66) (F.2 i) n) F.1) 20).2)), ?_, fun w1 r1 f1 => ?_⟩
  · rw [F_C_listen, show F_C_needWhat w (jn k) 1 = some none from t_what_y w (b := 1) (by omega) hk, bn_none, ret_bl]
    refine ret_mono (cs (jn k)) (fun q hq => ?_)
    obtain ⟨x, w2⟩ := q
    obtain ⟨p1, p2, p3⟩ := hq
    simp only at p1 p2 p3
    subst p1
    rw [c_best (jn k) (jn F.1) (fun n hn => c_unl (by omega) hn (fun i hi => p3 i n hi hn)), bl_some]
    have hb : k = 0 ∨ k = 1 := by omega
    rcases hb with rfl | rfl
    · simp (disch := omega) only [K_C_listen_120, ↓bi_eq, ↓bw_eq, gd_pos, br_pos, br_neg, br_T, br_F, gd_T, bq_some, bd_some, bv_some, bl_some, bx_inl, bx_inr, bn_none, bn_some, bt_inl, bt_inr, not_true_eq_false, not_false_eq_true, eq_self, Bool.false_eq_true, if_true, if_false, jn_clamp, jn_lt, jn_le, jn_inj, jn_add, jn_sub, jn_mul, jn_vp, jn_0a, jn_1a, jn_1b, jn_1s, jn_1m, jn_neg0, jn_le0, jn_0le, jn_0lt, jn_1le, jn_le1, jn_lt1, jn_1lt, jn_e0, jn_e1, jn_em, ↓qB_f, ↓qT_f, cl_0, cl_1, vp_0, vp_1, ret_some, true_and]
      exact frm_up p2 rfl
    · simp (disch := omega) only [K_C_listen_120, ↓bi_eq, ↓bw_eq, gd_pos, br_pos, br_neg, br_T, br_F, gd_T, bq_some, bd_some, bv_some, bl_some, bx_inl, bx_inr, bn_none, bn_some, bt_inl, bt_inr, not_true_eq_false, not_false_eq_true, eq_self, Bool.false_eq_true, if_true, if_false, jn_clamp, jn_lt, jn_le, jn_inj, jn_add, jn_sub, jn_mul, jn_vp, jn_0a, jn_1a, jn_1b, jn_1s, jn_1m, jn_neg0, jn_le0, jn_0le, jn_0lt, jn_1le, jn_le1, jn_lt1, jn_1lt, jn_e0, jn_e1, jn_em, ↓qB_f, ↓qT_f, cl_0, cl_1, vp_0, vp_1, ret_some, true_and, (by decide : (1 = 0) = False)]
      exact frm_up p2 rfl
  · obtain ⟨-, -, d3⟩ := hd_of r1.2.2.2.2.2.1
    rw [theHd_e f1] at d3
    have e66 : w1 66 = w 66 := frm_cell f1 66 (fun _ => rfl)
    obtain ⟨z1, z2, z3, z4⟩ := m_ent r1
    rw [e66] at z2
    have zd : MHd (wup w1 0 2 0) (theHd w) := MHd_fr d3 (frm_wup (L := []) (K := [(0, 2)]) frm_rf _ _ _ rfl) ⟨rfl, fun _ => rfl, fun _ => rfl, fun _ => rfl⟩
    show Ret (F_M_listen w1 (jn k)) _
    rw [F_M_listen, bw_eq, br_neg hk0, br_pos hk1, ret_bv]
    generalize wup w1 0 2 0 = wa at z1 z2 z3 z4 zd ⊢
    refine ret_mono (mf wa z1 z2 zd) (fun w2 hq => ?_)
    obtain ⟨p1, p2, p3⟩ := hq
    rw [ret_bl]
    refine ret_mono (m_songs r1 (frm_tr z3 (frm_up p1 rfl)) p2 ((p1 0 2 rfl).trans z4) hg p3 (by omega) hflt (jn k)) (fun w3 hq => ?_)
    obtain ⟨x1, x2, x3, x4, x5⟩ := hq
    obtain ⟨y1, y2⟩ := q_ans r1 e66 x1 x2
    rw [m_best (jn k) (fun n hn => m_unl (by omega) hn x4.1 (fun i hi => x5 i n hi hn)), bl_some]
    have hb : k = 0 ∨ k = 1 := by omega
    rcases hb with rfl | rfl
    · simp (disch := omega) only [K_M_listen_168, ↓bi_eq, ↓bw_eq, gd_pos, br_pos, br_neg, br_T, br_F, gd_T, bq_some, bd_some, bv_some, bl_some, bx_inl, bx_inr, bn_none, bn_some, bt_inl, bt_inr, not_true_eq_false, not_false_eq_true, eq_self, Bool.false_eq_true, if_true, if_false, jn_clamp, jn_lt, jn_le, jn_inj, jn_add, jn_sub, jn_mul, jn_vp, jn_0a, jn_1a, jn_1b, jn_1s, jn_1m, jn_neg0, jn_le0, jn_0le, jn_0lt, jn_1le, jn_le1, jn_lt1, jn_1lt, jn_e0, jn_e1, jn_em, ↓qB_f, ↓qT_f, cl_0, cl_1, vp_0, vp_1, ret_some]
      exact ⟨⟨x3, rfl⟩, y1, y2⟩
    · simp (disch := omega) only [K_M_listen_168, ↓bi_eq, ↓bw_eq, gd_pos, br_pos, br_neg, br_T, br_F, gd_T, bq_some, bd_some, bv_some, bl_some, bx_inl, bx_inr, bn_none, bn_some, bt_inl, bt_inr, not_true_eq_false, not_false_eq_true, eq_self, Bool.false_eq_true, if_true, if_false, jn_clamp, jn_lt, jn_le, jn_inj, jn_add, jn_sub, jn_mul, jn_vp, jn_0a, jn_1a, jn_1b, jn_1s, jn_1m, jn_neg0, jn_le0, jn_0le, jn_0lt, jn_1le, jn_le1, jn_lt1, jn_1lt, jn_e0, jn_e1, jn_em, ↓qB_f, ↓qT_f, cl_0, cl_1, vp_0, vp_1, ret_some, (by decide : (1 = 0) = False)]
      exact ⟨⟨x3, rfl⟩, y1, y2⟩
