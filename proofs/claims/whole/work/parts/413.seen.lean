/-! ===== the class: what was seen, more of it ===== -/
theorem sing_single {h : Hs} (hh : GdH h) {c : Sta} {m : Nat} (hm : m < hsM h) : (sSing h c (c (16 + m)) = 2 ^ m) ↔ (sUp h c m = true ∧ clr (sSing h c (c (16 + m))) m = 0) := by
  have hM := hh.2.1
  have hlt := sSing_lt hh c (c (16 + m))
  have hb : (sSing h c (c (16 + m))).testBit m = sUp h c m := by rw [sSing, nAll_bit]; simp [hm]
  constructor
  · intro e
    refine ⟨?_, ?_⟩
    · rw [← hb, e, Nat.testBit_two_pow]; simp
    · apply Nat.eq_of_testBit_eq
      intro i
      rw [clr_bit (by omega), e, Nat.testBit_two_pow]
      by_cases hi : m = i <;> simp [hi]
  · intro ⟨hu, hc⟩
    apply Nat.eq_of_testBit_eq
    intro i
    rw [Nat.testBit_two_pow]
    by_cases hi : m = i
    · subst hi; rw [hb, hu]; simp
    · have h2 : (clr (sSing h c (c (16 + m))) m).testBit i = false := by rw [hc]; simp
      rw [clr_bit (by omega)] at h2
      simp [hi] at h2
      simp [hi, h2]
theorem t_single {w : Wld} {h : Hs} {c : Sta} (hw : CHs w h) (hh : GdH h) (hs : CSeen w h c) : F_Night_singleSingers_55 w = some (jn (sLon h c)) := by
  have hM := hh.2.1
  have e1 := hw.2.1
  have hR := sRis_lt hh c
  have key : loop (B_Night_singleSingers_55_4 w) (0, 0) = some (jn (nAll (sLonP h c) (hsM h))) := by
    refine loop_for (V := fun k => (jn (nAll (sLonP h c) k), jn k)) (hsM h) (fun k hk => ?_) ?_
    · have e63 : w 63 k = c (16 + k) := hs.2 k hk
      have hsg := t_singersIn (w := w) (c (16 + k)) e1 hM hs.1 hR
      have hs2 : nAll (fun m => (sRis h c).testBit m && decide (w 63 m = c (16 + k))) (hsM h) = sSing h c (c (16 + k)) := by
        refine nAll_congr (fun m hm => ?_)
        rw [ris_bit c hm, hs.2 m hm]
      rw [hs2] at hsg
      have hlt := sSing_lt hh c (c (16 + k))
      have hpw : 2 ^ k < 512 := Nat.lt_of_lt_of_le (Nat.pow_lt_pow_right (by decide) (by omega : k < 9)) (Nat.le_refl _)
      have hx := sing_single hh (c := c) hk
      by_cases hc : sSing h c (c (16 + k)) = 2 ^ k
      · obtain ⟨h1, h2⟩ := hx.mp hc
        have hl : sLonP h c k = true := by unfold sLonP; rw [h1, h2]; rfl
        simp (disch := omega) only [B_Night_singleSingers_55_4, K_Night_singleSingers_55_37, ↓bi_eq, ↓bw_eq, gd_pos, br_pos, br_neg, br_T, br_F, gd_T, bp_some, bd_some, bv_some, bl_some, bx_inl, bx_inr, bn_none, bn_some, bt_inl, bt_inr, not_true_eq_false, not_false_eq_true, eq_self, Bool.false_eq_true, if_true, if_false, jn_clamp, jn_lt, jn_le, jn_inj, jn_add, jn_sub, jn_mul, jn_vp, jn_0a, jn_1a, jn_1b, jn_1s, jn_1m, jn_neg0, jn_le0, jn_0le, jn_0lt, jn_1le, jn_le1, jn_lt1, jn_1lt, jn_e0, jn_e1, jn_em, ↓qB_f, ↓qT_f, cl_0, cl_1, vp_0, vp_1, e1, e63, hsg, hc, qB_jn, nAll_s, hl, jn_or]
      · have hl : ¬ sLonP h c k = true := fun z => by
          unfold sLonP at z
          rw [Bool.and_eq_true, decide_eq_true_eq] at z
          exact hc (hx.mpr z)
        simp (disch := omega) only [B_Night_singleSingers_55_4, K_Night_singleSingers_55_37, ↓bi_eq, ↓bw_eq, gd_pos, br_pos, br_neg, br_T, br_F, gd_T, bp_some, bd_some, bv_some, bl_some, bx_inl, bx_inr, bn_none, bn_some, bt_inl, bt_inr, not_true_eq_false, not_false_eq_true, eq_self, Bool.false_eq_true, if_true, if_false, jn_clamp, jn_lt, jn_le, jn_inj, jn_add, jn_sub, jn_mul, jn_vp, jn_0a, jn_1a, jn_1b, jn_1s, jn_1m, jn_neg0, jn_le0, jn_0le, jn_0lt, jn_1le, jn_le1, jn_lt1, jn_1lt, jn_e0, jn_e1, jn_em, ↓qB_f, ↓qT_f, cl_0, cl_1, vp_0, vp_1, e1, e63, hsg, hc, qB_jn, nAll_s, hl]
    · simp (disch := omega) only [B_Night_singleSingers_55_4, ↓bi_eq, ↓bw_eq, gd_pos, br_pos, br_neg, br_T, br_F, gd_T, bp_some, bd_some, bv_some, bl_some, bx_inl, bx_inr, bn_none, bn_some, bt_inl, bt_inr, not_true_eq_false, not_false_eq_true, eq_self, Bool.false_eq_true, if_true, if_false, jn_clamp, jn_lt, jn_le, jn_inj, jn_add, jn_sub, jn_mul, jn_vp, jn_0a, jn_1a, jn_1b, jn_1s, jn_1m, jn_neg0, jn_le0, jn_0le, jn_0lt, jn_1le, jn_le1, jn_lt1, jn_1lt, jn_e0, jn_e1, jn_em, ↓qB_f, ↓qT_f, cl_0, cl_1, vp_0, vp_1, e1, br_pos (Nat.le_refl (hsM h))]
  rw [F_Night_singleSingers_55, key]; rfl
/-- how many sing a verse, as a natural number -/
def nSung (h : Hs) (c : Sta) (v : Nat) : Nat → Nat := fl (fun m a => if sUp h c m = true ∧ hsV h (c (16 + m)).toNatClampNeg = jn v then a + 1 else a) 0
theorem nSung_s (h : Hs) (c : Sta) (v k : Nat) : nSung h c v (k + 1) = if sUp h c k = true ∧ hsV h (c (16 + k)).toNatClampNeg = jn v then nSung h c v k + 1 else nSung h c v k := rfl
theorem sSungJ_s (h : Hs) (c : Sta) (v k : Nat) : sSungJ h c v (k + 1) = if sUp h c k = true ∧ hsV h (c (16 + k)).toNatClampNeg = jn v then sSungJ h c v k + 1 else sSungJ h c v k := rfl
theorem nSung_le (h : Hs) (c : Sta) (v k : Nat) : nSung h c v k ≤ k := by
  induction k with
  | zero => exact Nat.le_refl _
  | succ k ih => rw [nSung_s]; split <;> omega
theorem sSungJ_n (h : Hs) (c : Sta) (v k : Nat) : sSungJ h c v k = jn (nSung h c v k) := by
  induction k with
  | zero => rfl
  | succ k ih =>
    rw [nSung_s, sSungJ_s, ih]
    split
    · exact jn_1a _
    · rfl
theorem t_wasSung {w : Wld} {h : Hs} {c : Sta} (hw : CHs w h) (hh : GdH h) (hg : GdS h c) (hs : CSeen w h c) {v : Nat} (hv : v < 100) : F_Night_wasSung_55 w (jn v) = some (if 0 < sSung h c v then 1 else 0) := by
  have hM := hh.2.1
  have hN := hh.1
  have e1 := hw.2.1
  have hR := sRis_lt hh c
  have key : loop (B_Night_wasSung_55_4 (jn v) w) (0, 0) = some (if 0 < nSung h c v (hsM h) then 1 else 0) := by
    refine loop_for (V := fun k => ((if 0 < nSung h c v k then 1 else 0 : Int32), jn k)) (hsM h) (fun k hk => ?_) ?_
    · obtain ⟨x, hx, ex⟩ := hg.1 k hk
      have e63 : w 63 k = jn x := (hs.2 k hk).trans ex
      have e57 := hw.2.2.2.2.1 x hx
      rw [nSung_s, ex, jn_clamp (by omega)]
      have hb := ris_bit c hk
      have h01 : ((if 0 < nSung h c v k then 1 else 0 : Int32)) ||| 1 = 1 := by split <;> decide
      by_cases hu : sUp h c k = true
      · rw [hu] at hb
        by_cases hq : hsV h x = jn v
        · simp (disch := omega) only [B_Night_wasSung_55_4, K_Night_wasSung_55_51, ↓bi_eq, ↓bw_eq, gd_pos, br_pos, br_neg, br_T, br_F, gd_T, bp_some, bd_some, bv_some, bl_some, bx_inl, bx_inr, bn_none, bn_some, bt_inl, bt_inr, not_true_eq_false, not_false_eq_true, eq_self, Bool.false_eq_true, if_true, if_false, jn_clamp, jn_lt, jn_le, jn_inj, jn_add, jn_sub, jn_mul, jn_vp, jn_0a, jn_1a, jn_1b, jn_1s, jn_1m, jn_neg0, jn_le0, jn_0le, jn_0lt, jn_1le, jn_le1, jn_lt1, jn_1lt, jn_e0, jn_e1, jn_em, ↓qB_f, ↓qT_f, cl_0, cl_1, vp_0, vp_1, e1, hs.1, qT_1, hb, hu, e63, e57, hq, h01, true_and, Nat.zero_lt_succ]
        · simp (disch := omega) only [B_Night_wasSung_55_4, K_Night_wasSung_55_51, K_Night_wasSung_55_50, ↓bi_eq, ↓bw_eq, gd_pos, br_pos, br_neg, br_T, br_F, gd_T, bp_some, bd_some, bv_some, bl_some, bx_inl, bx_inr, bn_none, bn_some, bt_inl, bt_inr, not_true_eq_false, not_false_eq_true, eq_self, Bool.false_eq_true, if_true, if_false, jn_clamp, jn_lt, jn_le, jn_inj, jn_add, jn_sub, jn_mul, jn_vp, jn_0a, jn_1a, jn_1b, jn_1s, jn_1m, jn_neg0, jn_le0, jn_0le, jn_0lt, jn_1le, jn_le1, jn_lt1, jn_1lt, jn_e0, jn_e1, jn_em, ↓qB_f, ↓qT_f, cl_0, cl_1, vp_0, vp_1, e1, hs.1, qT_1, hb, hu, e63, e57, hq, Int32.or_zero, and_false]
      · have hb2 : (sRis h c).testBit k = false := by rw [hb]; exact Bool.eq_false_iff.mpr hu
        simp (disch := omega) only [B_Night_wasSung_55_4, K_Night_wasSung_55_51, K_Night_wasSung_55_50, ↓bi_eq, ↓bw_eq, gd_pos, br_pos, br_neg, br_T, br_F, gd_T, bp_some, bd_some, bv_some, bl_some, bx_inl, bx_inr, bn_none, bn_some, bt_inl, bt_inr, not_true_eq_false, not_false_eq_true, eq_self, Bool.false_eq_true, if_true, if_false, jn_clamp, jn_lt, jn_le, jn_inj, jn_add, jn_sub, jn_mul, jn_vp, jn_0a, jn_1a, jn_1b, jn_1s, jn_1m, jn_neg0, jn_le0, jn_0le, jn_0lt, jn_1le, jn_le1, jn_lt1, jn_1lt, jn_e0, jn_e1, jn_em, ↓qB_f, ↓qT_f, cl_0, cl_1, vp_0, vp_1, e1, hs.1, qT_1, hb2, hu, Int32.or_zero, false_and]
    · simp (disch := omega) only [B_Night_wasSung_55_4, ↓bi_eq, ↓bw_eq, gd_pos, br_pos, br_neg, br_T, br_F, gd_T, bp_some, bd_some, bv_some, bl_some, bx_inl, bx_inr, bn_none, bn_some, bt_inl, bt_inr, not_true_eq_false, not_false_eq_true, eq_self, Bool.false_eq_true, if_true, if_false, jn_clamp, jn_lt, jn_le, jn_inj, jn_add, jn_sub, jn_mul, jn_vp, jn_0a, jn_1a, jn_1b, jn_1s, jn_1m, jn_neg0, jn_le0, jn_0le, jn_0lt, jn_1le, jn_le1, jn_lt1, jn_1lt, jn_e0, jn_e1, jn_em, ↓qB_f, ↓qT_f, cl_0, cl_1, vp_0, vp_1, e1, br_pos (Nat.le_refl (hsM h))]
  have h2 : (0 < sSung h c v) = (0 < nSung h c v (hsM h)) := by
    have hle := nSung_le h c v (hsM h)
    rw [sSung, sSungJ_n, jn_0lt (by omega)]
  rw [F_Night_wasSung_55, key, bl_some]
  simp only [h2]
  by_cases hp : 0 < nSung h c v (hsM h)
  · simp only [if_pos hp]; rw [gd_pos (by simp)]
  · simp only [if_neg hp]; rw [gd_pos (by simp)]
theorem t_countVerses {w : Wld} {h : Hs} {c : Sta} (hw : CHs w h) (hh : GdH h) (hg : GdS h c) (hs : CSeen w h c) : Ret (F_Night_countVerses_55_86 w) (fun w' => Frm [86] [] w w' ∧ ∀ v, v < 100 → w' 86 v = w 86 v + sSung h c v) := by
  have hM := hh.2.1
  have hN := hh.1
  have hR := sRis_lt hh c
  rw [F_Night_countVerses_55_86, ret_bl]
  refine loop_inv (I := fun k s => s.1 = jn k ∧ Frm [86] [] w s.2 ∧ ∀ v, v < 100 → s.2 86 v = w 86 v + sSungJ h c v k) (hsM h) ⟨rfl, frm_rf, fun v hv => (Int32.add_zero _).symm⟩ (fun k s hk hi => ?_) (fun s hi => ?_)
  · obtain ⟨i, w1⟩ := s
    obtain ⟨i1, i2, i3⟩ := hi
    simp only at i1 i2 i3
    subst i1
    obtain ⟨x, hx, ex⟩ := hg.1 k hk
    obtain ⟨v, hv, ev⟩ := hh.2.2.1 x hx
    have e1 : w1 56 1 = jn (hsM h) := (i2 56 1 rfl).trans hw.2.1
    have e63 : w1 63 k = jn x := (i2 63 k rfl).trans ((hs.2 k hk).trans ex)
    have e57 : w1 57 x = jn v := (i2 57 x rfl).trans ((hw.2.2.2.2.1 x hx).trans ev)
    have e55 : w1 55 3 = jn (sRis h c) := (i2 55 3 rfl).trans hs.1
    have hb := ris_bit c hk
    have hq : qT (jn (sRis h c)) k = if sUp h c k = true then 1 else 0 := by rw [qT_jn (by omega) (by omega), hb]
    simp (disch := omega) only [B_Night_countVerses_55_86_2, ↓bi_eq, ↓bw_eq, gd_pos, br_pos, br_neg, br_T, br_F, gd_T, bp_some, bd_some, bv_some, bl_some, bx_inl, bx_inr, bn_none, bn_some, bt_inl, bt_inr, not_true_eq_false, not_false_eq_true, eq_self, Bool.false_eq_true, if_true, if_false, jn_clamp, jn_lt, jn_le, jn_inj, jn_add, jn_sub, jn_mul, jn_vp, jn_0a, jn_1a, jn_1b, jn_1s, jn_1m, jn_neg0, jn_le0, jn_0le, jn_0lt, jn_1le, jn_le1, jn_lt1, jn_1lt, jn_e0, jn_e1, jn_em, ↓qB_f, ↓qT_f, cl_0, cl_1, vp_0, vp_1, e1, e63, e57, e55, hq, ret_some, LQ_inl]
    refine ⟨trivial, frm_wup i2 _ _ _ rfl, fun u hu => ?_⟩
    rw [sSungJ_s, ex, jn_clamp (by omega), ev, wup_s]
    simp only [jn_inj (show v < 2147483648 by omega) (show u < 2147483648 by omega)]
    by_cases huv : u = v
    · subst huv
      rw [if_pos rfl, i3 u hu]
      by_cases hup : sUp h c k = true
      · simp only [hup, if_true, true_and]; rw [Int32.add_assoc]
      · simp only [hup, if_false, false_and, Int32.add_zero, Bool.false_eq_true]
    · rw [if_neg huv, if_neg (fun z => huv z.2.symm), i3 u hu]
  · obtain ⟨i, w1⟩ := s
    obtain ⟨i1, i2, i3⟩ := hi
    simp only at i1 i2 i3
    subst i1
    have e1 : w1 56 1 = jn (hsM h) := (i2 56 1 rfl).trans hw.2.1
    simp (disch := omega) only [B_Night_countVerses_55_86_2, ↓bi_eq, ↓bw_eq, gd_pos, br_pos, br_neg, br_T, br_F, gd_T, bp_some, bd_some, bv_some, bl_some, bx_inl, bx_inr, bn_none, bn_some, bt_inl, bt_inr, not_true_eq_false, not_false_eq_true, eq_self, Bool.false_eq_true, if_true, if_false, jn_clamp, jn_lt, jn_le, jn_inj, jn_add, jn_sub, jn_mul, jn_vp, jn_0a, jn_1a, jn_1b, jn_1s, jn_1m, jn_neg0, jn_le0, jn_0le, jn_0lt, jn_1le, jn_le1, jn_lt1, jn_1lt, jn_e0, jn_e1, jn_em, ↓qB_f, ↓qT_f, cl_0, cl_1, vp_0, vp_1, e1, br_pos (Nat.le_refl (hsM h)), ret_some, LQ_inr]
    exact ⟨i2, i3⟩
/-! ===== the model: so many nights ===== -/
theorem t_goOn {w : Wld} {h : Hs} {c : Sta} (hw : MHs w h) (hs : MSt w h c) (hh : GdH h) (hg : GdS h c) {n : Nat} (hn : n < 1000) : Ret (F_M_goOn w (jn n)) (fun w' => Frm [14, 15, 16, 17, 21, 22, 23] [(0, 31), (0, 32), (0, 38), (0, 39), (0, 40)] w w' ∧ MSt w' h (sGo h c n) ∧ (0 < n → MSeen w' h (sGo h c (n - 1)))) := by
  rw [F_M_goOn, ret_bl]
  refine loop_inv (I := fun k s => s.1 = jn k ∧ Frm [14, 15, 16, 17, 21, 22, 23] [(0, 31), (0, 32), (0, 38), (0, 39), (0, 40)] w s.2 ∧ MSt s.2 h (sGo h c k) ∧ (0 < k → MSeen s.2 h (sGo h c (k - 1)))) n ⟨rfl, frm_rf, hs, fun z => absurd z (Nat.lt_irrefl 0)⟩ (fun k s hk hi => ?_) (fun s hi => ?_)
  · obtain ⟨i, w1⟩ := s
    obtain ⟨i1, i2, i3, i4⟩ := hi
    simp only at i1 i2 i3 i4
    subst i1
    simp (disch := omega) only [B_M_goOn_2, ↓bi_eq, ↓bw_eq, gd_pos, br_pos, br_neg, br_T, br_F, gd_T, bp_some, bd_some, bv_some, bl_some, bx_inl, bx_inr, bn_none, bn_some, bt_inl, bt_inr, not_true_eq_false, not_false_eq_true, eq_self, Bool.false_eq_true, if_true, if_false, jn_clamp, jn_lt, jn_le, jn_inj, jn_add, jn_sub, jn_mul, jn_vp, jn_0a, jn_1a, jn_1b, jn_1s, jn_1m, jn_neg0, jn_le0, jn_0le, jn_0lt, jn_1le, jn_le1, jn_lt1, jn_1lt, jn_e0, jn_e1, jn_em, ↓qB_f, ↓qT_f, cl_0, cl_1, vp_0, vp_1, ret_bv]
    refine ret_mono (t_aNight (MHs_fr hw i2 ⟨rfl, rfl, rfl, rfl, rfl, fun _ => rfl, fun _ => rfl, fun _ => rfl⟩) i3 hh (sGo_good hh hg k)) (fun w2 hq => ?_)
    obtain ⟨q1, q2, q3⟩ := hq
    rw [ret_some, LQ_inl]
    exact ⟨rfl, frm_tr i2 q1, q2, fun _ => q3⟩
  · obtain ⟨i, w1⟩ := s
    obtain ⟨i1, i2, i3, i4⟩ := hi
    simp only at i1 i2 i3 i4
    subst i1
    simp (disch := omega) only [B_M_goOn_2, ↓bi_eq, ↓bw_eq, gd_pos, br_pos, br_neg, br_T, br_F, gd_T, bp_some, bd_some, bv_some, bl_some, bx_inl, bx_inr, bn_none, bn_some, bt_inl, bt_inr, not_true_eq_false, not_false_eq_true, eq_self, Bool.false_eq_true, if_true, if_false, jn_clamp, jn_lt, jn_le, jn_inj, jn_add, jn_sub, jn_mul, jn_vp, jn_0a, jn_1a, jn_1b, jn_1s, jn_1m, jn_neg0, jn_le0, jn_0le, jn_0lt, jn_1le, jn_le1, jn_lt1, jn_1lt, jn_e0, jn_e1, jn_em, ↓qB_f, ↓qT_f, cl_0, cl_1, vp_0, vp_1, br_pos (Nat.le_refl n), ret_some, LQ_inr]
    exact ⟨i2, i3, i4⟩
/-! ===== a call on both sides ===== -/
/-- the model's answer v and code are as the class's outcome -/
def Mat (cd : Nat → Int32) (o : Oc) (v code : Int32) : Prop := match o with
  | .inl k => code = cd k ∧ ¬ cd k = 9
  | .inr (some r) => code = 0 ∧ v = r
  | .inr none => False
/-- any call: the class, then the model -/
def BothG (cd : Nat → Int32) (C : Option (Oc × Wld)) (M : Wld → Option (Int32 × Wld)) : Prop := ∃ o, Ret C (fun q => q.1 = o ∧ ∀ w2, Frm [41] [] q.2 w2 → Ret (M w2) (fun p => Mat cd o p.1 (p.2 0 2) ∧ Rel p.2 ∧ p.2 41 0 = w2 41 0))
/-- a question -/
def BothQ (cd : Nat → Int32) (w : Wld) (h : Hs) (C : Option (Oc × Wld)) (M : Wld → Option (Int32 × Wld)) : Prop := ∃ o, Ret C (fun q => q.1 = o ∧ Frm LQc KQc w q.2) ∧ ∀ w1, RelH w1 h → w1 66 = w 66 → Ret (M w1) (fun p => Mat cd o p.1 (p.2 0 2) ∧ RelH p.2 h ∧ p.2 41 0 = w1 41 0)
theorem BothQ_G {cd : Nat → Int32} {w : Wld} {h : Hs} {C : Option (Oc × Wld)} {M : Wld → Option (Int32 × Wld)} (r : RelH w h) (b : BothQ cd w h C M) : BothG cd C M := by
  obtain ⟨o, b1, b2⟩ := b
  refine ⟨o, ret_mono b1 (fun q hq => ⟨hq.1, fun w2 f2 => ?_⟩)⟩
  have f : Frm LQc KQc w w2 := frm_tr hq.2 (frm_up f2 rfl)
  refine ret_mono (b2 w2 (RelH_c r f) (frm_cell f 66 (fun _ => rfl))) (fun p hp => ?_)
  exact ⟨hp.1, ⟨h, hp.2.1⟩, hp.2.2⟩
/-- the two kinds of exceptions: NoSuchElement alone, IllegalArgument alone, both -/
def cdN : Nat → Int32 := fun k => if k = 0 then 1 else 9
def cdI : Nat → Int32 := fun k => if k = 1 then 1 else 9
def cdB : Nat → Int32 := fun k => if k = 0 then 1 else if k = 1 then 2 else 9
/-- a question that the model answers out of a state that it packs and unpacks: the frame -/
def LPu : List Nat := [14, 15, 16, 17, 18, 19, 21, 22, 23, 24, 25, 26, 27, 30, 32, 33, 34]
def KPu : List (Nat × Nat) := [(0, 2), (0, 31), (0, 32), (0, 33), (0, 38), (0, 39), (0, 40), (0, 52), (0, 54)]
theorem RelH_p {w w' : Wld} {h : Hs} (r : RelH w h) (f : Frm LPu KPu w w') (hm : MSt w' h (w 66)) : RelH w' h := RelH_q r (frm_up f rfl) hm
