/-! ===== questions: game ===== -/
def chsS (c : Sta) (m p : Nat) : Sta := if p = 0 then upd c (8 + m) (imin 9 (c (8 + m) + 3)) else upd c m 99
def chsV (p : Nat) : Int32 := if p = 0 then -1 else 0
theorem chsS_good {h : Hs} (hh : GdH h) {c : Sta} (g : GdS h c) {m : Nat} (hm : m < hsM h) (p : Nat) : GdS h (chsS c m p) := by
  have hM := hh.2.1
  unfold chsS
  split
  · obtain ⟨x, hx, ex⟩ := g.2.2.2.1 _ hm
    rw [ex, li_3, addF hx (by omega)]
    exact GdS_fish hh g (by omega) (by omega)
  · exact GdS_other hh g _ (Or.inl (by omega))
theorem c_choose {w : Wld} {c : Sta} (e : Eq53 (w 85) c) {m p : Nat} (hm : m < 8) (hp : p < 2) : Ret (F_C_choose w (jn m) (jn p)) (fun q => q.1 = chsV p ∧ Frm [85] [] w q.2 ∧ Eq53 (q.2 85) (chsS c m p)) := by
  have hb : p = 0 ∨ p = 1 := by omega
  rcases hb with rfl | rfl
  · have e8 := e (8 + m) (by omega)
    simp (disch := omega) only [F_C_choose, F_State_addFish_84, chsS, chsV, ↓bi_eq, ↓bw_eq, gd_pos, br_pos, br_neg, br_T, br_F, gd_T, bp_some, bd_some, bv_some, bl_some, bx_inl, bx_inr, bn_none, bn_some, bt_inl, bt_inr, not_true_eq_false, not_false_eq_true, eq_self, Bool.false_eq_true, if_true, if_false, jn_clamp, jn_lt, jn_le, jn_inj, jn_add, jn_sub, jn_mul, jn_vp, jn_0a, jn_1a, jn_1b, jn_1s, jn_1m, jn_neg0, jn_le0, jn_0le, jn_0lt, jn_1le, jn_le1, jn_lt1, jn_1lt, jn_e0, jn_e1, jn_em, ↓qB_f, ↓qT_f, cl_0, cl_1, vp_0, vp_1, li_8, e8, ret_some]
    refine ⟨trivial, frm_wup frm_rf _ _ _ rfl, ?_⟩
    rw [wup_same]; exact Eq53_upd e _ _
  · simp (disch := omega) only [F_C_choose, chsS, chsV, ↓bi_eq, ↓bw_eq, gd_pos, br_pos, br_neg, br_T, br_F, gd_T, bp_some, bd_some, bv_some, bl_some, bx_inl, bx_inr, bn_none, bn_some, bt_inl, bt_inr, not_true_eq_false, not_false_eq_true, eq_self, Bool.false_eq_true, if_true, if_false, jn_clamp, jn_lt, jn_le, jn_inj, jn_add, jn_sub, jn_mul, jn_vp, jn_0a, jn_1a, jn_1b, jn_1s, jn_1m, jn_neg0, jn_le0, jn_0le, jn_0lt, jn_1le, jn_le1, jn_lt1, jn_1lt, jn_e0, jn_e1, jn_em, ↓qB_f, ↓qT_f, cl_0, cl_1, vp_0, vp_1, (by decide : (1 = 0) = False), ret_some]
    refine ⟨trivial, frm_wup frm_rf _ _ _ rfl, ?_⟩
    rw [wup_same]; exact Eq53_upd e _ _
theorem m_choose {w : Wld} {h : Hs} {c : Sta} (hh : GdH h) (s : MSt w h c) {m p : Nat} (hm : m < hsM h) (hp : p < 2) : Ret (F_M_choose w (jn m) (jn p)) (fun q => q.1 = chsV p ∧ Frm [14, 15] [] w q.2 ∧ MSt q.2 h (chsS c m p)) := by
  have hM := hh.2.1
  have hb : p = 0 ∨ p = 1 := by omega
  rcases hb with rfl | rfl
  · have e8 := (s.1 m hm).2.1
    simp (disch := omega) only [F_M_choose, chsS, chsV, ↓bi_eq, ↓bw_eq, gd_pos, br_pos, br_neg, br_T, br_F, gd_T, bp_some, bd_some, bv_some, bl_some, bx_inl, bx_inr, bn_none, bn_some, bt_inl, bt_inr, not_true_eq_false, not_false_eq_true, eq_self, Bool.false_eq_true, if_true, if_false, jn_clamp, jn_lt, jn_le, jn_inj, jn_add, jn_sub, jn_mul, jn_vp, jn_0a, jn_1a, jn_1b, jn_1s, jn_1m, jn_neg0, jn_le0, jn_0le, jn_0lt, jn_1le, jn_le1, jn_lt1, jn_1lt, jn_e0, jn_e1, jn_em, ↓qB_f, ↓qT_f, cl_0, cl_1, vp_0, vp_1, (by decide : (0 = 1) = False), e8, ret_some]
    exact ⟨trivial, frm_wup frm_rf _ _ _ rfl, MSt_fish hh s (by omega) _⟩
  · have s3 := MSt_sleep hh s (m := m) (by omega) 99
    rw [Nat.zero_add] at s3
    simp (disch := omega) only [F_M_choose, chsS, chsV, ↓bi_eq, ↓bw_eq, gd_pos, br_pos, br_neg, br_T, br_F, gd_T, bp_some, bd_some, bv_some, bl_some, bx_inl, bx_inr, bn_none, bn_some, bt_inl, bt_inr, not_true_eq_false, not_false_eq_true, eq_self, Bool.false_eq_true, if_true, if_false, jn_clamp, jn_lt, jn_le, jn_inj, jn_add, jn_sub, jn_mul, jn_vp, jn_0a, jn_1a, jn_1b, jn_1s, jn_1m, jn_neg0, jn_le0, jn_0le, jn_0lt, jn_1le, jn_le1, jn_lt1, jn_1lt, jn_e0, jn_e1, jn_em, ↓qB_f, ↓qT_f, cl_0, cl_1, vp_0, vp_1, (by decide : (1 = 0) = False), ret_some]
    exact ⟨trivial, frm_wup frm_rf _ _ _ rfl, s3⟩
/-- both are up in one room -/
def gBo (h : Hs) (c : Sta) (m o : Nat) : Bool := (sRis h c).testBit m && (sRis h c).testBit o && decide (c (16 + m) = c (16 + o))
theorem both_bits {R m o : Nat} (hm : m < 8) (ho : o < 8) (hR : R < 256) : ((jn R &&& (qB m ||| qB o)) = (qB m ||| qB o)) = (R.testBit m = true ∧ R.testBit o = true) := by
  have hx : 2 ^ m ||| 2 ^ o < 256 := Nat.or_lt_two_pow (n := 8) (Nat.pow_lt_pow_right (by decide) hm) (Nat.pow_lt_pow_right (by decide) ho)
  have hy : R &&& (2 ^ m ||| 2 ^ o) ≤ 2 ^ m ||| 2 ^ o := Nat.and_le_right
  rw [qB_jn (by omega), qB_jn (by omega), jn_or, jn_and, jn_inj (by omega) (by omega)]
  refine propext ⟨fun e => ?_, fun e => ?_⟩
  · have b : ∀ i, (R &&& (2 ^ m ||| 2 ^ o)).testBit i = (2 ^ m ||| 2 ^ o).testBit i := fun i => by rw [e]
    constructor
    · have := b m
      simp only [Nat.testBit_and, Nat.testBit_or, Nat.testBit_two_pow, decide_true, Bool.true_or, Bool.and_true] at this
      exact this
    · have := b o
      simp only [Nat.testBit_and, Nat.testBit_or, Nat.testBit_two_pow, decide_true, Bool.or_true, Bool.and_true] at this
      exact this
  · apply Nat.eq_of_testBit_eq
    intro i
    rw [Nat.testBit_and, Nat.testBit_or, Nat.testBit_two_pow, Nat.testBit_two_pow]
    by_cases h1 : m = i
    · subst h1; rw [e.1]; simp
    · by_cases h2 : o = i
      · subst h2; rw [e.2]; simp
      · simp [h1, h2]
theorem t_sang {w : Wld} {h : Hs} {c : Sta} (hh : GdH h) (hs : CSeen w h c) {m o : Nat} (hm : m < hsM h) (ho : o < hsM h) : F_Night_sangTogether_55 w (jn m) (jn o) = some (if gBo h c m o = true then 1 else 0) := by
  have hM := hh.2.1
  have hR := sRis_lt hh c
  have e1 := hs.2 m hm
  have e2 := hs.2 o ho
  have hbb := both_bits (R := sRis h c) (m := m) (o := o) (by omega) (by omega) hR
  unfold gBo
  rw [F_Night_sangTogether_55, bi_eq, hs.1, qB_f, qB_f]
  by_cases h1 : (sRis h c).testBit m = true ∧ (sRis h c).testBit o = true
  · rw [br_neg (by rw [hbb]; exact fun z => z h1), h1.1, h1.2]
    by_cases h2 : c (16 + m) = c (16 + o)
    · simp (disch := omega) only [K_Night_sangTogether_55_38, ↓bi_eq, ↓bw_eq, gd_pos, br_pos, br_neg, br_T, br_F, gd_T, bp_some, bd_some, bv_some, bl_some, bx_inl, bx_inr, bn_none, bn_some, bt_inl, bt_inr, not_true_eq_false, not_false_eq_true, eq_self, Bool.false_eq_true, if_true, if_false, jn_clamp, jn_lt, jn_le, jn_inj, jn_add, jn_sub, jn_mul, jn_vp, jn_0a, jn_1a, jn_1b, jn_1s, jn_1m, jn_neg0, jn_le0, jn_0le, jn_0lt, jn_1le, jn_le1, jn_lt1, jn_1lt, jn_e0, jn_e1, jn_em, ↓qB_f, ↓qT_f, cl_0, cl_1, vp_0, vp_1, e1, e2, h2, decide_true, Bool.and_true, or_true]
    · simp (disch := omega) only [K_Night_sangTogether_55_37, K_Night_sangTogether_55_38, ↓bi_eq, ↓bw_eq, gd_pos, br_pos, br_neg, br_T, br_F, gd_T, bp_some, bd_some, bv_some, bl_some, bx_inl, bx_inr, bn_none, bn_some, bt_inl, bt_inr, not_true_eq_false, not_false_eq_true, eq_self, Bool.false_eq_true, if_true, if_false, jn_clamp, jn_lt, jn_le, jn_inj, jn_add, jn_sub, jn_mul, jn_vp, jn_0a, jn_1a, jn_1b, jn_1s, jn_1m, jn_neg0, jn_le0, jn_0le, jn_0lt, jn_1le, jn_le1, jn_lt1, jn_1lt, jn_e0, jn_e1, jn_em, ↓qB_f, ↓qT_f, cl_0, cl_1, vp_0, vp_1, e1, e2, h2, decide_false, Bool.and_false, true_or]
  · rw [br_pos (by rw [hbb]; exact h1)]
    have h2 : ((sRis h c).testBit m && (sRis h c).testBit o && decide (c (16 + m) = c (16 + o))) = false := by
      rcases Bool.eq_false_or_eq_true ((sRis h c).testBit m) with h3 | h3
      · rcases Bool.eq_false_or_eq_true ((sRis h c).testBit o) with h4 | h4
        · exact absurd ⟨h3, h4⟩ h1
        · rw [h4]; simp
      · rw [h3]; simp
    rw [h2]
    simp only [K_Night_sangTogether_55_37, K_Night_sangTogether_55_38, eq_self, true_or, gd_T, Bool.false_eq_true, if_false]
/-- what p gains -/
def sGn (h : Hs) (c : Sta) (m o p : Nat) (g0 : Int32) : Nat → Int32 := fl (fun k a => a + (qT (jn (sRis h (sGo h c k))) p + (if gBo h (sGo h c k) m o = true then 3 else 0))) g0
theorem sGn_s (h : Hs) (c : Sta) (m o p : Nat) (g0 : Int32) (k : Nat) : sGn h c m o p g0 (k + 1) = sGn h c m o p g0 k + (qT (jn (sRis h (sGo h c k))) p + (if gBo h (sGo h c k) m o = true then 3 else 0)) := rfl
/-- the state behind both choices -/
def gSt (c : Sta) (m o ch : Nat) : Sta := chsS (chsS c m (ch / 2)) o (ch % 2)
def gV (h : Hs) (c : Sta) (m o i : Nat) : Int32 := if i % 2 = 0 then sGn h (gSt c m o (i / 2)) m o m (chsV (i / 2 / 2)) 10 else sGn h (gSt c m o (i / 2)) m o o (chsV (i / 2 % 2)) 10
theorem gV_0 (h : Hs) (c : Sta) (m o ch : Nat) : gV h c m o (2 * ch) = sGn h (gSt c m o ch) m o m (chsV (ch / 2)) 10 := by
  unfold gV
  rw [if_pos (by omega), show 2 * ch / 2 = ch by omega]
theorem gV_1 (h : Hs) (c : Sta) (m o ch : Nat) : gV h c m o (2 * ch + 1) = sGn h (gSt c m o ch) m o o (chsV (ch % 2)) 10 := by
  unfold gV
  rw [if_neg (by omega), show (2 * ch + 1) / 2 = ch by omega]
theorem ch_facts : ∀ k, k < 4 → (jn k >>> ((1 : Int32) &&& 31) = jn (k / 2) ∧ jn k &&& 1 = jn (k % 2) ∧ jn k / 2 = jn (k / 2) ∧ jn k - jn k / 2 * 2 = jn (k % 2) ∧ jn k ^^^ 2 = jn (k ^^^ 2) ∧ jn k ^^^ 1 = jn (k ^^^ 1) ∧ k ^^^ 2 < 4 ∧ k ^^^ 1 < 4) := by decide +kernel
theorem c_play {w : Wld} {h : Hs} (hc : CHs w h) (hh : GdH h) (hg : GdS h (w 66)) {m o ch : Nat} (hm : m < hsM h) (ho : o < hsM h) (hch : ch < 4) : Ret (F_C_play w (jn m) (jn o) (jn ch)) (fun w' => Frm [61, 62, 63, 85, 88] [(55, 3)] w w' ∧ w' 88 (2 * ch) = gV h (w 66) m o (2 * ch) ∧ w' 88 (2 * ch + 1) = gV h (w 66) m o (2 * ch + 1) ∧ ∀ i, i < 2 * ch → w' 88 i = w 88 i) := by
  have hM := hh.2.1
  obtain ⟨k1, k2, -⟩ := ch_facts ch hch
  have g1 := chsS_good hh hg hm (ch / 2)
  have g2 : GdS h (gSt (w 66) m o ch) := chsS_good hh g1 ho (ch % 2)
  rw [F_C_play, ret_bv]
  refine ret_mono (t_begin w) (fun w1 hq => ?_)
  obtain ⟨q1, q2⟩ := hq
  rw [k1, k2, ret_bd]
  refine ret_mono (c_choose q2 (by omega) (by omega)) (fun q hq => ?_)
  obtain ⟨v, w2⟩ := q
  obtain ⟨x1, x2, x3⟩ := hq
  simp only at x1 x2 x3
  subst x1
  rw [ret_bd]
  refine ret_mono (c_choose x3 (by omega) (by omega)) (fun q hq => ?_)
  obtain ⟨v, w3⟩ := q
  obtain ⟨y1, y2, y3⟩ := hq
  simp only at y1 y2 y3
  subst y1
  have f3 : Frm [61, 62, 63, 85] [(55, 3)] w w3 := frm_up (frm_tr q1 (frm_tr x2 y2)) rfl
  have y3 : Eq53 (w3 85) (gSt (w 66) m o ch) := y3
  rw [gV_0, gV_1, ret_bl]
  generalize gSt (w 66) m o ch = c at g2 y3 ⊢
  refine ret_mono (P := fun q => q.1 = sGn h c m o m (chsV (ch / 2)) 10 ∧ q.2.1 = sGn h c m o o (chsV (ch % 2)) 10 ∧ Frm [61, 62, 63, 85] [(55, 3)] w q.2.2) ?_ (fun q hq => ?_)
  · refine loop_inv (I := fun k s => s.1 = sGn h c m o m (chsV (ch / 2)) k ∧ s.2.1 = sGn h c m o o (chsV (ch % 2)) k ∧ s.2.2.1 = jn k ∧ Frm [61, 62, 63, 85] [(55, 3)] w s.2.2.2 ∧ Eq53 (s.2.2.2 85) (sGo h c k)) 10 ⟨rfl, rfl, rfl, f3, y3⟩ (fun k s hk hi => ?_) (fun s hi => ?_)
    · obtain ⟨a, b, i, w4⟩ := s
      obtain ⟨i0, i1, i2, i3, i4⟩ := hi
      simp only at i0 i1 i2 i3 i4
      subst i0 i1 i2
      simp (disch := omega) only [B_C_play_27, ↓bi_eq, ↓bw_eq, gd_pos, br_pos, br_neg, br_T, br_F, gd_T, bp_some, bd_some, bv_some, bl_some, bx_inl, bx_inr, bn_none, bn_some, bt_inl, bt_inr, not_true_eq_false, not_false_eq_true, eq_self, Bool.false_eq_true, if_true, if_false, jn_clamp, jn_lt, jn_le, jn_inj, jn_add, jn_sub, jn_mul, jn_vp, jn_0a, jn_1a, jn_1b, jn_1s, jn_1m, jn_neg0, jn_le0, jn_0le, jn_0lt, jn_1le, jn_le1, jn_lt1, jn_1lt, jn_e0, jn_e1, jn_em, ↓qB_f, ↓qT_f, cl_0, cl_1, vp_0, vp_1, li_10, ret_bv]
      refine ret_mono (t_passT (CHs_fr hc i3 ⟨rfl, rfl, rfl, rfl, fun _ => rfl, fun _ => rfl, rfl, fun _ => rfl⟩) hh (sGo_good hh g2 k) i4) (fun w5 hq => ?_)
      obtain ⟨p1, p2, p3⟩ := hq
      have f5 := frm_tr i3 p1
      rw [t_sang hh p3 hm ho, bp_some, sGn_s, sGn_s]
      by_cases hz : gBo h (sGo h c k) m o = true
      · simp only [hz, if_true, (by decide : ((1 : Int32) = 0) = False), br_F, K_C_play_79, K_C_play_106, bi_eq, p3.1, qT_f, jn_1a, ret_some, LQ_inl]
        exact ⟨trivial, trivial, trivial, f5, p2⟩
      · simp only [hz, if_false, eq_self, br_T, K_C_play_79, K_C_play_106, bi_eq, p3.1, qT_f, jn_1a, ret_some, LQ_inl, Bool.false_eq_true]
        exact ⟨trivial, trivial, trivial, f5, p2⟩
    · obtain ⟨a, b, i, w4⟩ := s
      obtain ⟨i0, i1, i2, i3, i4⟩ := hi
      simp only at i0 i1 i2 i3 i4
      subst i0 i1 i2
      simp (disch := omega) only [B_C_play_27, ↓bi_eq, ↓bw_eq, gd_pos, br_pos, br_neg, br_T, br_F, gd_T, bp_some, bd_some, bv_some, bl_some, bx_inl, bx_inr, bn_none, bn_some, bt_inl, bt_inr, not_true_eq_false, not_false_eq_true, eq_self, Bool.false_eq_true, if_true, if_false, jn_clamp, jn_lt, jn_le, jn_inj, jn_add, jn_sub, jn_mul, jn_vp, jn_0a, jn_1a, jn_1b, jn_1s, jn_1m, jn_neg0, jn_le0, jn_0le, jn_0lt, jn_1le, jn_le1, jn_lt1, jn_1lt, jn_e0, jn_e1, jn_em, ↓qB_f, ↓qT_f, cl_0, cl_1, vp_0, vp_1, li_10, br_pos (Nat.le_refl 10), ret_some, LQ_inr]
      exact ⟨trivial, trivial, i3⟩
  · obtain ⟨a, b, w4⟩ := q
    obtain ⟨z0, z1, z2⟩ := hq
    simp only at z0 z1 z2
    subst z0 z1
    simp (disch := omega) only [↓bi_eq, ↓bw_eq, gd_pos, br_pos, br_neg, br_T, br_F, gd_T, bp_some, bd_some, bv_some, bl_some, bx_inl, bx_inr, bn_none, bn_some, bt_inl, bt_inr, not_true_eq_false, not_false_eq_true, eq_self, Bool.false_eq_true, if_true, if_false, jn_clamp, jn_lt, jn_le, jn_inj, jn_add, jn_sub, jn_mul, jn_vp, jn_0a, jn_1a, jn_1b, jn_1s, jn_1m, jn_neg0, jn_le0, jn_0le, jn_0lt, jn_1le, jn_le1, jn_lt1, jn_1lt, jn_e0, jn_e1, jn_em, ↓qB_f, ↓qT_f, cl_0, cl_1, vp_0, vp_1, li_2, ret_some]
    refine ⟨frm_wup (frm_wup (frm_up z2 rfl) _ _ _ rfl) _ _ _ rfl, ?_, ?_, fun i hi => ?_⟩
    · rw [wup_s2 _ _ _ (by omega), wup_s1]
    · rw [wup_s1]
    · rw [wup_s2 _ _ _ (by omega), wup_s2 _ _ _ (by omega)]; exact z2 88 i rfl
/-- rests -/
def gRst (g : Nat → Int32) (k : Nat) : Bool := decide (g (2 * (k ^^^ 2)) ≤ g (2 * k)) && decide (g (2 * (k ^^^ 1) + 1) ≤ g (2 * k + 1))
def gRes (g : Nat → Int32) : Nat → Nat × Int32 := fl (fun k p => if gRst g k = true then (p.1 + 1, if p.1 = 0 then jn (10 * (k / 2) + k % 2) else p.2) else p) (0, -1)
theorem gRes_s (g : Nat → Int32) (k : Nat) : gRes g (k + 1) = if gRst g k = true then ((gRes g k).1 + 1, if (gRes g k).1 = 0 then jn (10 * (k / 2) + k % 2) else (gRes g k).2) else gRes g k := rfl
theorem gRes_ok (g : Nat → Int32) (k : Nat) (hk : k ≤ 4) : (gRes g k).1 ≤ k ∧ ((gRes g k).1 = 0 ↔ (gRes g k).2 = -1) := by
  induction k with
  | zero => exact ⟨Nat.le_refl _, Iff.intro (fun _ => rfl) (fun _ => rfl)⟩
  | succ k ih =>
    obtain ⟨a, b⟩ := ih (by omega)
    rw [gRes_s]
    split
    · refine ⟨by simp only; omega, ?_⟩
      simp only
      constructor
      · intro z; omega
      · intro z
        exfalso
        split at z
        · have h9 : (jn (10 * (k / 2) + k % 2) = -1) = False := jn_em (by omega)
          rw [h9] at z; exact z
        · rename_i hne
          exact hne (b.mpr z)
    · exact ⟨by omega, b⟩
theorem c_rests {w : Wld} {g : Nat → Int32} (e : ∀ i, i < 8 → w 88 i = g i) (a3 : Int32) : loop (B_C_game_60 a3 w) (0, -1, 0) = some (jn (gRes g 4).1, (gRes g 4).2) := by
  refine loop_for (V := fun k => (jn (gRes g k).1, (gRes g k).2, jn k)) 4 (fun k hk => ?_) ?_
  · obtain ⟨k1, k2, k3, k4, k5, k6, k7, k8⟩ := ch_facts k hk
    obtain ⟨o1, o2⟩ := gRes_ok g k (by omega)
    have k5' : jn k ^^^ jn 2 = jn (k ^^^ 2) := k5
    have k3' : jn k / jn 2 = jn (k / 2) := k3
    have k4' : jn k - jn (k / 2) * jn 2 = jn (k % 2) := by rw [← k3']; exact k4
    have e0 := e (2 * k) (by omega)
    have e1 := e (2 * k + 1) (by omega)
    have e2 := e (2 * (k ^^^ 2)) (by omega)
    have e3 := e (2 * (k ^^^ 1) + 1) (by omega)
    have hat : F_C_atRest w (jn k) = some (if gRst g k = true then 1 else 0) := by
      unfold gRst
      by_cases h1 : g (2 * k) < g (2 * (k ^^^ 2))
      · have h1' : ¬ g (2 * (k ^^^ 2)) ≤ g (2 * k) := Int32.not_le.mpr h1
        simp (disch := omega) only [F_C_atRest, K_C_atRest_50, K_C_atRest_51, k5', k6, li_2, ↓bi_eq, ↓bw_eq, gd_pos, br_pos, br_neg, br_T, br_F, gd_T, bp_some, bd_some, bv_some, bl_some, bx_inl, bx_inr, bn_none, bn_some, bt_inl, bt_inr, not_true_eq_false, not_false_eq_true, eq_self, Bool.false_eq_true, if_true, if_false, jn_clamp, jn_lt, jn_le, jn_inj, jn_add, jn_sub, jn_mul, jn_vp, jn_0a, jn_1a, jn_1b, jn_1s, jn_1m, jn_neg0, jn_le0, jn_0le, jn_0lt, jn_1le, jn_le1, jn_lt1, jn_1lt, jn_e0, jn_e1, jn_em, ↓qB_f, ↓qT_f, cl_0, cl_1, vp_0, vp_1, e0, e1, e2, e3, h1, h1', decide_false, Bool.false_and, true_or]
      · have h1' : g (2 * (k ^^^ 2)) ≤ g (2 * k) := Int32.not_lt.mp h1
        by_cases h2 : g (2 * k + 1) < g (2 * (k ^^^ 1) + 1)
        · have h2' : ¬ g (2 * (k ^^^ 1) + 1) ≤ g (2 * k + 1) := Int32.not_le.mpr h2
          simp (disch := omega) only [F_C_atRest, K_C_atRest_50, K_C_atRest_51, k5', k6, li_2, ↓bi_eq, ↓bw_eq, gd_pos, br_pos, br_neg, br_T, br_F, gd_T, bp_some, bd_some, bv_some, bl_some, bx_inl, bx_inr, bn_none, bn_some, bt_inl, bt_inr, not_true_eq_false, not_false_eq_true, eq_self, Bool.false_eq_true, if_true, if_false, jn_clamp, jn_lt, jn_le, jn_inj, jn_add, jn_sub, jn_mul, jn_vp, jn_0a, jn_1a, jn_1b, jn_1s, jn_1m, jn_neg0, jn_le0, jn_0le, jn_0lt, jn_1le, jn_le1, jn_lt1, jn_1lt, jn_e0, jn_e1, jn_em, ↓qB_f, ↓qT_f, cl_0, cl_1, vp_0, vp_1, e0, e1, e2, e3, h1, h1', h2, h2', decide_false, decide_true, Bool.true_and, true_or]
        · have h2' : g (2 * (k ^^^ 1) + 1) ≤ g (2 * k + 1) := Int32.not_lt.mp h2
          simp (disch := omega) only [F_C_atRest, K_C_atRest_50, K_C_atRest_51, k5', k6, li_2, ↓bi_eq, ↓bw_eq, gd_pos, br_pos, br_neg, br_T, br_F, gd_T, bp_some, bd_some, bv_some, bl_some, bx_inl, bx_inr, bn_none, bn_some, bt_inl, bt_inr, not_true_eq_false, not_false_eq_true, eq_self, Bool.false_eq_true, if_true, if_false, jn_clamp, jn_lt, jn_le, jn_inj, jn_add, jn_sub, jn_mul, jn_vp, jn_0a, jn_1a, jn_1b, jn_1s, jn_1m, jn_neg0, jn_le0, jn_0le, jn_0lt, jn_1le, jn_le1, jn_lt1, jn_1lt, jn_e0, jn_e1, jn_em, ↓qB_f, ↓qT_f, cl_0, cl_1, vp_0, vp_1, e0, e1, e2, e3, h1, h1', h2, h2', decide_false, decide_true, Bool.true_and, or_true]
    rw [gRes_s]
    by_cases hr : gRst g k = true
    · by_cases h0 : (gRes g k).1 = 0
      · simp (disch := omega) only [B_C_game_60, K_C_game_97, K_C_game_102, hat, hr, h0, k1, k2, li_4, li_10, ↓bi_eq, ↓bw_eq, gd_pos, br_pos, br_neg, br_T, br_F, gd_T, bp_some, bd_some, bv_some, bl_some, bx_inl, bx_inr, bn_none, bn_some, bt_inl, bt_inr, not_true_eq_false, not_false_eq_true, eq_self, Bool.false_eq_true, if_true, if_false, jn_clamp, jn_lt, jn_le, jn_inj, jn_add, jn_sub, jn_mul, jn_vp, jn_0a, jn_1a, jn_1b, jn_1s, jn_1m, jn_neg0, jn_le0, jn_0le, jn_0lt, jn_1le, jn_le1, jn_lt1, jn_1lt, jn_e0, jn_e1, jn_em, ↓qB_f, ↓qT_f, cl_0, cl_1, vp_0, vp_1, (by decide : ((1 : Int32) = 0) = False)]
      · simp (disch := omega) only [B_C_game_60, K_C_game_97, K_C_game_102, hat, hr, h0, k1, k2, li_4, li_10, ↓bi_eq, ↓bw_eq, gd_pos, br_pos, br_neg, br_T, br_F, gd_T, bp_some, bd_some, bv_some, bl_some, bx_inl, bx_inr, bn_none, bn_some, bt_inl, bt_inr, not_true_eq_false, not_false_eq_true, eq_self, Bool.false_eq_true, if_true, if_false, jn_clamp, jn_lt, jn_le, jn_inj, jn_add, jn_sub, jn_mul, jn_vp, jn_0a, jn_1a, jn_1b, jn_1s, jn_1m, jn_neg0, jn_le0, jn_0le, jn_0lt, jn_1le, jn_le1, jn_lt1, jn_1lt, jn_e0, jn_e1, jn_em, ↓qB_f, ↓qT_f, cl_0, cl_1, vp_0, vp_1, (by decide : ((1 : Int32) = 0) = False)]
    · simp (disch := omega) only [B_C_game_60, K_C_game_97, K_C_game_102, hat, hr, li_4, ↓bi_eq, ↓bw_eq, gd_pos, br_pos, br_neg, br_T, br_F, gd_T, bp_some, bd_some, bv_some, bl_some, bx_inl, bx_inr, bn_none, bn_some, bt_inl, bt_inr, not_true_eq_false, not_false_eq_true, eq_self, Bool.false_eq_true, if_true, if_false, jn_clamp, jn_lt, jn_le, jn_inj, jn_add, jn_sub, jn_mul, jn_vp, jn_0a, jn_1a, jn_1b, jn_1s, jn_1m, jn_neg0, jn_le0, jn_0le, jn_0lt, jn_1le, jn_le1, jn_lt1, jn_1lt, jn_e0, jn_e1, jn_em, ↓qB_f, ↓qT_f, cl_0, cl_1, vp_0, vp_1]
  · simp (disch := omega) only [B_C_game_60, ↓bi_eq, ↓bw_eq, gd_pos, br_pos, br_neg, br_T, br_F, gd_T, bp_some, bd_some, bv_some, bl_some, bx_inl, bx_inr, bn_none, bn_some, bt_inl, bt_inr, not_true_eq_false, not_false_eq_true, eq_self, Bool.false_eq_true, if_true, if_false, jn_clamp, jn_lt, jn_le, jn_inj, jn_add, jn_sub, jn_mul, jn_vp, jn_0a, jn_1a, jn_1b, jn_1s, jn_1m, jn_neg0, jn_le0, jn_0le, jn_0lt, jn_1le, jn_le1, jn_lt1, jn_1lt, jn_e0, jn_e1, jn_em, ↓qB_f, ↓qT_f, cl_0, cl_1, vp_0, vp_1, li_4, br_pos (Nat.le_refl 4)]
theorem m_rests {w : Wld} {g : Nat → Int32} (e : ∀ i, i < 8 → w 34 i = g i) (a3 : Int32) : loop (B_M_game_62 a3 w) (0, -1, 0) = some (jn (gRes g 4).1, (gRes g 4).2) := by
  refine loop_for (V := fun k => (jn (gRes g k).1, (gRes g k).2, jn k)) 4 (fun k hk => ?_) ?_
  · obtain ⟨k1, k2, k3, k4, k5, k6, k7, k8⟩ := ch_facts k hk
    obtain ⟨o1, o2⟩ := gRes_ok g k (by omega)
    have k5' : jn k ^^^ jn 2 = jn (k ^^^ 2) := k5
    have k3' : jn k / jn 2 = jn (k / 2) := k3
    have k4' : jn k - jn (k / 2) * jn 2 = jn (k % 2) := by rw [← k3']; exact k4
    have e0 := e (2 * k) (by omega)
    have e1 := e (2 * k + 1) (by omega)
    have e2 := e (2 * (k ^^^ 2)) (by omega)
    have e3 := e (2 * (k ^^^ 1) + 1) (by omega)
    rw [k3] at k4
    rw [gRes_s]
    have hd2 : ¬ (2 : Int32) = 0 := by decide
    by_cases h1 : g (2 * k) < g (2 * (k ^^^ 2))
    · have h1' : ¬ g (2 * (k ^^^ 2)) ≤ g (2 * k) := Int32.not_le.mpr h1
      have hr : ¬ gRst g k = true := by unfold gRst; simp [h1']
      simp (disch := omega) only [B_M_game_62, K_M_game_149, k5', k6, k3', k4', gd_pos hd2, li_4, li_2, ↓bi_eq, ↓bw_eq, gd_pos, br_pos, br_neg, br_T, br_F, gd_T, bp_some, bd_some, bv_some, bl_some, bx_inl, bx_inr, bn_none, bn_some, bt_inl, bt_inr, not_true_eq_false, not_false_eq_true, eq_self, Bool.false_eq_true, if_true, if_false, jn_clamp, jn_lt, jn_le, jn_inj, jn_add, jn_sub, jn_mul, jn_vp, jn_0a, jn_1a, jn_1b, jn_1s, jn_1m, jn_neg0, jn_le0, jn_0le, jn_0lt, jn_1le, jn_le1, jn_lt1, jn_1lt, jn_e0, jn_e1, jn_em, ↓qB_f, ↓qT_f, cl_0, cl_1, vp_0, vp_1, e0, e1, e2, e3, h1, hr]
    · have h1' : g (2 * (k ^^^ 2)) ≤ g (2 * k) := Int32.not_lt.mp h1
      by_cases h2 : g (2 * (k ^^^ 1) + 1) ≤ g (2 * k + 1)
      · have hr : gRst g k = true := by unfold gRst; simp [h1', h2]
        by_cases h0 : (gRes g k).1 = 0
        · have h0' := o2.mp h0
          simp (disch := omega) only [B_M_game_62, K_M_game_147, K_M_game_149, k5, k6, k3, k4, gd_pos hd2, li_4, li_10, ↓bi_eq, ↓bw_eq, gd_pos, br_pos, br_neg, br_T, br_F, gd_T, bp_some, bd_some, bv_some, bl_some, bx_inl, bx_inr, bn_none, bn_some, bt_inl, bt_inr, not_true_eq_false, not_false_eq_true, eq_self, Bool.false_eq_true, if_true, if_false, jn_clamp, jn_lt, jn_le, jn_inj, jn_add, jn_sub, jn_mul, jn_vp, jn_0a, jn_1a, jn_1b, jn_1s, jn_1m, jn_neg0, jn_le0, jn_0le, jn_0lt, jn_1le, jn_le1, jn_lt1, jn_1lt, jn_e0, jn_e1, jn_em, ↓qB_f, ↓qT_f, cl_0, cl_1, vp_0, vp_1, h0', h0, hr]
          simp (disch := omega) only [li_2, ↓bi_eq, ↓bw_eq, gd_pos, br_pos, br_neg, br_T, br_F, gd_T, bp_some, bd_some, bv_some, bl_some, bx_inl, bx_inr, bn_none, bn_some, bt_inl, bt_inr, not_true_eq_false, not_false_eq_true, eq_self, Bool.false_eq_true, if_true, if_false, jn_clamp, jn_lt, jn_le, jn_inj, jn_add, jn_sub, jn_mul, jn_vp, jn_0a, jn_1a, jn_1b, jn_1s, jn_1m, jn_neg0, jn_le0, jn_0le, jn_0lt, jn_1le, jn_le1, jn_lt1, jn_1lt, jn_e0, jn_e1, jn_em, ↓qB_f, ↓qT_f, cl_0, cl_1, vp_0, vp_1, e0, e1, e2, e3, h1, h2]
        · have h0' : ¬ (gRes g k).2 = -1 := fun z => h0 (o2.mpr z)
          simp (disch := omega) only [B_M_game_62, K_M_game_147, K_M_game_149, k5, k6, k3, k4, gd_pos hd2, li_4, li_10, ↓bi_eq, ↓bw_eq, gd_pos, br_pos, br_neg, br_T, br_F, gd_T, bp_some, bd_some, bv_some, bl_some, bx_inl, bx_inr, bn_none, bn_some, bt_inl, bt_inr, not_true_eq_false, not_false_eq_true, eq_self, Bool.false_eq_true, if_true, if_false, jn_clamp, jn_lt, jn_le, jn_inj, jn_add, jn_sub, jn_mul, jn_vp, jn_0a, jn_1a, jn_1b, jn_1s, jn_1m, jn_neg0, jn_le0, jn_0le, jn_0lt, jn_1le, jn_le1, jn_lt1, jn_1lt, jn_e0, jn_e1, jn_em, ↓qB_f, ↓qT_f, cl_0, cl_1, vp_0, vp_1, h0', h0, hr]
          simp (disch := omega) only [li_2, ↓bi_eq, ↓bw_eq, gd_pos, br_pos, br_neg, br_T, br_F, gd_T, bp_some, bd_some, bv_some, bl_some, bx_inl, bx_inr, bn_none, bn_some, bt_inl, bt_inr, not_true_eq_false, not_false_eq_true, eq_self, Bool.false_eq_true, if_true, if_false, jn_clamp, jn_lt, jn_le, jn_inj, jn_add, jn_sub, jn_mul, jn_vp, jn_0a, jn_1a, jn_1b, jn_1s, jn_1m, jn_neg0, jn_le0, jn_0le, jn_0lt, jn_1le, jn_le1, jn_lt1, jn_1lt, jn_e0, jn_e1, jn_em, ↓qB_f, ↓qT_f, cl_0, cl_1, vp_0, vp_1, e0, e1, e2, e3, h1, h2]
      · have hr : ¬ gRst g k = true := by unfold gRst; simp [h2]
        simp (disch := omega) only [B_M_game_62, K_M_game_149, k5', k6, k3', k4', gd_pos hd2, li_4, li_2, ↓bi_eq, ↓bw_eq, gd_pos, br_pos, br_neg, br_T, br_F, gd_T, bp_some, bd_some, bv_some, bl_some, bx_inl, bx_inr, bn_none, bn_some, bt_inl, bt_inr, not_true_eq_false, not_false_eq_true, eq_self, Bool.false_eq_true, if_true, if_false, jn_clamp, jn_lt, jn_le, jn_inj, jn_add, jn_sub, jn_mul, jn_vp, jn_0a, jn_1a, jn_1b, jn_1s, jn_1m, jn_neg0, jn_le0, jn_0le, jn_0lt, jn_1le, jn_le1, jn_lt1, jn_1lt, jn_e0, jn_e1, jn_em, ↓qB_f, ↓qT_f, cl_0, cl_1, vp_0, vp_1, e0, e1, e2, e3, h1, h2, hr]
  · simp (disch := omega) only [B_M_game_62, ↓bi_eq, ↓bw_eq, gd_pos, br_pos, br_neg, br_T, br_F, gd_T, bp_some, bd_some, bv_some, bl_some, bx_inl, bx_inr, bn_none, bn_some, bt_inl, bt_inr, not_true_eq_false, not_false_eq_true, eq_self, Bool.false_eq_true, if_true, if_false, jn_clamp, jn_lt, jn_le, jn_inj, jn_add, jn_sub, jn_mul, jn_vp, jn_0a, jn_1a, jn_1b, jn_1s, jn_1m, jn_neg0, jn_le0, jn_0le, jn_0lt, jn_1le, jn_le1, jn_lt1, jn_1lt, jn_e0, jn_e1, jn_em, ↓qB_f, ↓qT_f, cl_0, cl_1, vp_0, vp_1, li_4, br_pos (Nat.le_refl 4)]
theorem m_tellIn {w7 : Wld} {h : Hs} {c : Sta} (hw : MHs w7 h) (hs : MSt w7 h c) (hh : GdH h) (hg : GdS h c) {m o ch : Nat} (hm : m < hsM h) (ho : o < hsM h) (hch : ch < 4) {g0 g1 : Int32} (e0 : w7 34 (2 * ch) = g0) (e1 : w7 34 (2 * ch + 1) = g1) : Ret (loop (B_M_tellGains_53 (jn m) (jn o) (jn ch)) (0, w7)) (fun w8 => Frm (34 :: nFrL) nFrK w7 w8 ∧ w8 34 (2 * ch) = sGn h c m o m g0 10 ∧ w8 34 (2 * ch + 1) = sGn h c m o o g1 10 ∧ ∀ i, i < 2 * ch → w8 34 i = w7 34 i) := by
  have hM := hh.2.1
  refine loop_inv (I := fun k s => s.1 = jn k ∧ Frm (34 :: nFrL) nFrK w7 s.2 ∧ MSt s.2 h (sGo h c k) ∧ s.2 34 (2 * ch) = sGn h c m o m g0 k ∧ s.2 34 (2 * ch + 1) = sGn h c m o o g1 k ∧ ∀ i, i < 2 * ch → s.2 34 i = w7 34 i) 10 ⟨rfl, frm_rf, hs, e0, e1, fun _ _ => rfl⟩ (fun k s hk hi => ?_) (fun s hi => ?_)
  · obtain ⟨i, w1⟩ := s
    obtain ⟨i0, i1, i2, i3, i4, i5⟩ := hi
    simp only at i0 i1 i2 i3 i4 i5
    subst i0
    have gk := sGo_good hh hg k
    have hR := sRis_lt hh (sGo h c k)
    have em := (i2.1 m hm).2.2.1
    have eo := (i2.1 o ho).2.2.1
    have fin : ∀ (t : Int32) (w2 : Wld), Frm nFrL nFrK w1 w2 → MSt w2 h (sPass h (sGo h c k)) → t = (if gBo h (sGo h c k) m o = true then 1 else 0) → Ret (K_M_tellGains_118 (jn m) (jn o) (jn ch) (jn k) t w2) (LQ (fun s => s.1 = jn (k + 1) ∧ Frm (34 :: nFrL) nFrK w7 s.2 ∧ MSt s.2 h (sGo h c (k + 1)) ∧ s.2 34 (2 * ch) = sGn h c m o m g0 (k + 1) ∧ s.2 34 (2 * ch + 1) = sGn h c m o o g1 (k + 1) ∧ ∀ i, i < 2 * ch → s.2 34 i = w7 34 i) (fun w8 => Frm (34 :: nFrL) nFrK w7 w8 ∧ w8 34 (2 * ch) = sGn h c m o m g0 10 ∧ w8 34 (2 * ch + 1) = sGn h c m o o g1 10 ∧ ∀ i, i < 2 * ch → w8 34 i = w7 34 i)) := by
      intro t w2 f2 s2 ht
      have l2 := MSt_last s2
      have a0 : w2 34 (2 * ch) = sGn h c m o m g0 k := by rw [frm_cell f2 34 (fun _ => rfl)]; exact i3
      have a1 : w2 34 (2 * ch + 1) = sGn h c m o o g1 k := by rw [frm_cell f2 34 (fun _ => rfl)]; exact i4
      have key : ∀ v0 v1 : Int32, v0 = sGn h c m o m g0 (k + 1) → v1 = sGn h c m o o g1 (k + 1) → (fun s : Int32 × Wld => s.1 = jn (k + 1) ∧ Frm (34 :: nFrL) nFrK w7 s.2 ∧ MSt s.2 h (sGo h c (k + 1)) ∧ s.2 34 (2 * ch) = sGn h c m o m g0 (k + 1) ∧ s.2 34 (2 * ch + 1) = sGn h c m o o g1 (k + 1) ∧ ∀ i, i < 2 * ch → s.2 34 i = w7 34 i) (jn (k + 1), wup (wup w2 34 (2 * ch) v0) 34 (2 * ch + 1) v1) := by
        intro v0 v1 h0 h1
        have f3 : Frm [34] [] w2 (wup (wup w2 34 (2 * ch) v0) 34 (2 * ch + 1) v1) := frm_wup (frm_wup frm_rf _ _ _ rfl) _ _ _ rfl
        refine ⟨rfl, frm_tr i1 (frm_tr (frm_up f2 rfl) (frm_up f3 rfl)), MSt_fr s2 f3 ⟨fun _ => rfl, fun _ => rfl, fun _ => rfl, fun _ => rfl, fun _ => rfl, fun _ => rfl, rfl, rfl, rfl⟩, ?_, ?_, fun i hi => ?_⟩
        · show wup (wup w2 34 (2 * ch) v0) 34 (2 * ch + 1) v1 34 (2 * ch) = _
          rw [wup_s2 _ _ _ (by omega), wup_s1]; exact h0
        · show wup (wup w2 34 (2 * ch) v0) 34 (2 * ch + 1) v1 34 (2 * ch + 1) = _
          rw [wup_s1]; exact h1
        · show wup (wup w2 34 (2 * ch) v0) 34 (2 * ch + 1) v1 34 i = _
          rw [wup_s2 _ _ _ (by omega), wup_s2 _ _ _ (by omega), frm_cell f2 34 (fun _ => rfl)]; exact i5 i hi
      by_cases hz : gBo h (sGo h c k) m o = true
      · have ht : t = 1 := by rw [ht, if_pos hz]
        subst ht
        have l2' : ∀ (j : Nat) (v : Int32), (wup w2 34 j v) 0 32 = jn (sRis h (sGo h c k)) := fun j v => by rw [wup_o _ _ _ (by decide)]; exact l2
        have a1' : ∀ v : Int32, (wup w2 34 (2 * ch) v) 34 (2 * ch + 1) = sGn h c m o o g1 k := fun v => by rw [wup_s2 _ _ _ (by omega)]; exact a1
        simp (disch := omega) only [K_M_tellGains_118, K_M_tellGains_147, K_M_tellGains_179, ↓bi_eq, ↓bw_eq, gd_pos, br_pos, br_neg, br_T, br_F, gd_T, bp_some, bd_some, bv_some, bl_some, bx_inl, bx_inr, bn_none, bn_some, bt_inl, bt_inr, not_true_eq_false, not_false_eq_true, eq_self, Bool.false_eq_true, if_true, if_false, jn_clamp, jn_lt, jn_le, jn_inj, jn_add, jn_sub, jn_mul, jn_vp, jn_0a, jn_1a, jn_1b, jn_1s, jn_1m, jn_neg0, jn_le0, jn_0le, jn_0lt, jn_1le, jn_le1, jn_lt1, jn_1lt, jn_e0, jn_e1, jn_em, ↓qB_f, ↓qT_f, cl_0, cl_1, vp_0, vp_1, li_2, a0, a1', l2, l2', (by decide : ((1 : Int32) = 0) = False), ret_some, LQ_inl]
        exact ⟨trivial, (key _ _ (by rw [sGn_s, if_pos hz]) (by rw [sGn_s, if_pos hz])).2⟩
      · have ht : t = 0 := by rw [ht, if_neg hz]
        subst ht
        have l2' : ∀ (j : Nat) (v : Int32), (wup w2 34 j v) 0 32 = jn (sRis h (sGo h c k)) := fun j v => by rw [wup_o _ _ _ (by decide)]; exact l2
        have a1' : ∀ v : Int32, (wup w2 34 (2 * ch) v) 34 (2 * ch + 1) = sGn h c m o o g1 k := fun v => by rw [wup_s2 _ _ _ (by omega)]; exact a1
        simp (disch := omega) only [K_M_tellGains_118, K_M_tellGains_147, K_M_tellGains_179, ↓bi_eq, ↓bw_eq, gd_pos, br_pos, br_neg, br_T, br_F, gd_T, bp_some, bd_some, bv_some, bl_some, bx_inl, bx_inr, bn_none, bn_some, bt_inl, bt_inr, not_true_eq_false, not_false_eq_true, eq_self, Bool.false_eq_true, if_true, if_false, jn_clamp, jn_lt, jn_le, jn_inj, jn_add, jn_sub, jn_mul, jn_vp, jn_0a, jn_1a, jn_1b, jn_1s, jn_1m, jn_neg0, jn_le0, jn_0le, jn_0lt, jn_1le, jn_le1, jn_lt1, jn_1lt, jn_e0, jn_e1, jn_em, ↓qB_f, ↓qT_f, cl_0, cl_1, vp_0, vp_1, li_2, a0, a1', l2, l2', ret_some, LQ_inl]
        exact ⟨trivial, (key _ _ (by rw [sGn_s, if_neg hz]) (by rw [sGn_s, if_neg hz])).2⟩
    by_cases he : sGo h c k (16 + m) = sGo h c k (16 + o)
    · simp (disch := omega) only [B_M_tellGains_53, K_M_tellGains_80, ↓bi_eq, ↓bw_eq, gd_pos, br_pos, br_neg, br_T, br_F, gd_T, bp_some, bd_some, bv_some, bl_some, bx_inl, bx_inr, bn_none, bn_some, bt_inl, bt_inr, not_true_eq_false, not_false_eq_true, eq_self, Bool.false_eq_true, if_true, if_false, jn_clamp, jn_lt, jn_le, jn_inj, jn_add, jn_sub, jn_mul, jn_vp, jn_0a, jn_1a, jn_1b, jn_1s, jn_1m, jn_neg0, jn_le0, jn_0le, jn_0lt, jn_1le, jn_le1, jn_lt1, jn_1lt, jn_e0, jn_e1, jn_em, ↓qB_f, ↓qT_f, cl_0, cl_1, vp_0, vp_1, li_10, em, eo, he, ret_bv]
      refine ret_mono (t_aNight (MHs_fr hw i1 ⟨rfl, rfl, rfl, rfl, rfl, fun _ => rfl, fun _ => rfl, fun _ => rfl⟩) i2 hh gk) (fun w2 hq => ?_)
      obtain ⟨p1, p2, p3⟩ := hq
      have p1 : Frm nFrL nFrK w1 w2 := p1
      have l2 := MSt_last p2
      rw [br_neg (by decide), l2, t_isOf w2 (by omega) (by omega), bp_some]
      by_cases b1 : (sRis h (sGo h c k)).testBit m = true
      · rw [if_pos b1, br_neg (by decide), t_isOf w2 (by omega) (by omega), bp_some]
        by_cases b2 : (sRis h (sGo h c k)).testBit o = true
        · rw [if_pos b2, br_neg (by decide)]
          exact fin 1 w2 p1 p2 (by unfold gBo; rw [b1, b2, he]; simp)
        · rw [if_neg b2, br_pos rfl, K_M_tellGains_117]
          exact fin 0 w2 p1 p2 (by unfold gBo; rw [Bool.eq_false_iff.mpr b2]; simp)
      · rw [if_neg b1, br_pos rfl, K_M_tellGains_117]
        exact fin 0 w2 p1 p2 (by unfold gBo; rw [Bool.eq_false_iff.mpr b1]; simp)
    · simp (disch := omega) only [B_M_tellGains_53, K_M_tellGains_80, ↓bi_eq, ↓bw_eq, gd_pos, br_pos, br_neg, br_T, br_F, gd_T, bp_some, bd_some, bv_some, bl_some, bx_inl, bx_inr, bn_none, bn_some, bt_inl, bt_inr, not_true_eq_false, not_false_eq_true, eq_self, Bool.false_eq_true, if_true, if_false, jn_clamp, jn_lt, jn_le, jn_inj, jn_add, jn_sub, jn_mul, jn_vp, jn_0a, jn_1a, jn_1b, jn_1s, jn_1m, jn_neg0, jn_le0, jn_0le, jn_0lt, jn_1le, jn_le1, jn_lt1, jn_1lt, jn_e0, jn_e1, jn_em, ↓qB_f, ↓qT_f, cl_0, cl_1, vp_0, vp_1, li_10, em, eo, he, ret_bv]
      refine ret_mono (t_aNight (MHs_fr hw i1 ⟨rfl, rfl, rfl, rfl, rfl, fun _ => rfl, fun _ => rfl, fun _ => rfl⟩) i2 hh gk) (fun w2 hq => ?_)
      obtain ⟨p1, p2, p3⟩ := hq
      have p1 : Frm nFrL nFrK w1 w2 := p1
      rw [K_M_tellGains_117]
      exact fin 0 w2 p1 p2 (by unfold gBo; simp [he])
  · obtain ⟨i, w1⟩ := s
    obtain ⟨i0, i1, i2, i3, i4, i5⟩ := hi
    simp only at i0 i1 i2 i3 i4 i5
    subst i0
    simp (disch := omega) only [B_M_tellGains_53, ↓bi_eq, ↓bw_eq, gd_pos, br_pos, br_neg, br_T, br_F, gd_T, bp_some, bd_some, bv_some, bl_some, bx_inl, bx_inr, bn_none, bn_some, bt_inl, bt_inr, not_true_eq_false, not_false_eq_true, eq_self, Bool.false_eq_true, if_true, if_false, jn_clamp, jn_lt, jn_le, jn_inj, jn_add, jn_sub, jn_mul, jn_vp, jn_0a, jn_1a, jn_1b, jn_1s, jn_1m, jn_neg0, jn_le0, jn_0le, jn_0lt, jn_1le, jn_le1, jn_lt1, jn_1lt, jn_e0, jn_e1, jn_em, ↓qB_f, ↓qT_f, cl_0, cl_1, vp_0, vp_1, li_10, br_pos (Nat.le_refl 10), ret_some, LQ_inr]
    exact ⟨i1, i3, i4, i5⟩
