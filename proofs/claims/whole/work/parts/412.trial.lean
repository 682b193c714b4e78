/-! ===== states that agree where it counts ===== -/
def Eq53 (c d : Sta) : Prop := ∀ i, i < 53 → c i = d i
theorem Eq53.rf (c : Sta) : Eq53 c c := fun _ _ => rfl
theorem Eq53.tr {a b c : Sta} (h : Eq53 a b) (k : Eq53 b c) : Eq53 a c := fun i hi => (h i hi).trans (k i hi)
theorem Eq53.sy {a b : Sta} (h : Eq53 a b) : Eq53 b a := fun i hi => (h i hi).symm
section EqS
variable {h : Hs} {c d : Sta}
theorem sThose_e (hh : GdH h) (e : Eq53 c d) (r : Int32) : sThose h c r = sThose h d r :=
  nAll_congr (fun m hm => by rw [e (16 + m) (by have := hh.2.1; omega)])
theorem sVals_e (hh : GdH h) (e : Eq53 c d) {m : Nat} (hm : m < hsM h) : sVals h c m = sVals h d m := by
  have hM := hh.2.1
  funext v
  unfold sVals
  rw [e m (by omega), e (8 + m) (by omega), e (16 + m) (by omega), e 52 (by omega), e 51 (by omega), sThose_e hh e]
theorem sUp_e (hh : GdH h) (e : Eq53 c d) {m : Nat} (hm : m < hsM h) : sUp h c m = sUp h d m := by
  have hM := hh.2.1
  unfold sUp
  rw [e 50 (by omega), e m (by omega), sVals_e hh e hm]
theorem sRis_e (hh : GdH h) (e : Eq53 c d) : sRis h c = sRis h d := nAll_congr (fun m hm => sUp_e hh e hm)
theorem sSing_e (hh : GdH h) (e : Eq53 c d) (r : Int32) : sSing h c r = sSing h d r :=
  nAll_congr (fun m hm => by rw [sUp_e hh e hm, e (16 + m) (by have := hh.2.1; omega)])
theorem sMat_e (hh : GdH h) (e : Eq53 c d) : sMat h c = sMat h d :=
  fl_congr (fun m a hm => by rw [sUp_e hh e hm, e (16 + m) (by have := hh.2.1; omega)])
theorem sShort_e (hh : GdH h) (e : Eq53 c d) : sShort h c = sShort h d := by
  unfold sShort
  rw [sVoi_congr (fun m hm => sUp_e hh e hm)]
theorem sLon_e (hh : GdH h) (e : Eq53 c d) : sLon h c = sLon h d :=
  nAll_congr (fun m hm => by unfold sLonP; rw [sUp_e hh e hm, e (16 + m) (by have := hh.2.1; omega), sSing_e hh e])
theorem sSung_e (hh : GdH h) (e : Eq53 c d) (v : Nat) : sSung h c v = sSung h d v :=
  fl_congr (fun m a hm => by rw [sUp_e hh e hm, e (16 + m) (by have := hh.2.1; omega)])
theorem sPass_e (hh : GdH h) (g : GdS h d) (e : Eq53 c d) : Eq53 (sPass h c) (sPass h d) := by
  have hM := hh.2.1
  have hN := hh.1
  intro i hi
  unfold sPass
  by_cases i1 : i = 51
  · rw [if_pos i1, if_pos i1, sRis_e hh e]
  rw [if_neg i1, if_neg i1]
  by_cases i2 : i = 52
  · rw [if_pos i2, if_pos i2, e 52 (by omega)]
  rw [if_neg i2, if_neg i2]
  unfold sPasJ
  by_cases a1 : i < 8
  · rw [if_pos a1, if_pos a1]
    by_cases a : i < hsM h
    · rw [if_pos a, if_pos a, sUp_e hh e a, e i hi]
    · rw [if_neg a, if_neg a, e i hi]
  rw [if_neg a1, if_neg a1]
  by_cases a2 : i < 16
  · rw [if_pos a2, if_pos a2]
    by_cases a : i - 8 < hsM h
    · rw [if_pos a, if_pos a, e i hi]
    · rw [if_neg a, if_neg a, e i hi]
  rw [if_neg a2, if_neg a2]
  by_cases a3 : i < 24
  · rw [if_pos a3, if_pos a3]
    by_cases a : i - 16 < hsM h
    · obtain ⟨x, hx, ex⟩ := g.1 _ a
      rw [show 16 + (i - 16) = i by omega] at ex
      rw [if_pos a, if_pos a, sUp_e hh e a, e i hi, e (8 + (i - 16)) (by omega), ex, jn_clamp (by omega), e (41 + x) (by omega), e (32 + x) (by omega)]
    · rw [if_neg a, if_neg a, e i hi]
  rw [if_neg a3, if_neg a3]
  by_cases a4 : i < 32
  · rw [if_pos a4, if_pos a4]
    by_cases a : i - 24 < hsM h
    · rw [if_pos a, if_pos a, sUp_e hh e a, e i hi, e (16 + (i - 24)) (by omega), sSing_e hh e]
    · rw [if_neg a, if_neg a, e i hi]
  rw [if_neg a4, if_neg a4, e i hi]
theorem sGo_e (hh : GdH h) (g : GdS h d) (e : Eq53 c d) (n : Nat) : Eq53 (sGo h c n) (sGo h d n) := by
  induction n with
  | zero => exact e
  | succ n ih => exact sPass_e hh (sGo_good hh g n) ih
end EqS
/-! ===== the class: the trial ===== -/
theorem cpO_int (w : Wld) {A na nb a b k : Nat} (h1 : a + k ≤ na) (h2 : b + k ≤ nb) (ha : a < 1000000) (hb : b < 1000000) (hk : k < 1000000) : cpO w A na nb 0 (jn a) (jn b) (jn k) := by
  unfold cpO
  rw [jn_neg0 (by omega), jn_neg0 (by omega), jn_neg0 (by omega), jn_clamp (by omega), jn_clamp (by omega), jn_clamp (by omega)]
  exact ⟨id, id, id, h1, h2, fun i hi => rfl⟩
theorem t_begin (w : Wld) : Ret (F_C_beginTrial w) (fun w' => Frm [85] [] w w' ∧ Eq53 (w' 85) (w 66)) := by
  have hc : cpO w 66 53 53 0 0 0 53 := cpO_int w (a := 0) (b := 0) (k := 53) (by omega) (by omega) (by omega) (by omega) (by omega)
  simp only [F_C_beginTrial, F_State_takeOver_84_65, gd_pos hc, bw_eq, bv_some, ret_some]
  refine ⟨frm_wcp frm_rf _ _ _ _ _ rfl, fun i hi => ?_⟩
  rw [wcp_s, if_pos ⟨Nat.zero_le _, by simpa using hi⟩]
  simp
theorem t_passT {w : Wld} {h : Hs} {c : Sta} (hw : CHs w h) (hh : GdH h) (hg : GdS h c) (e : Eq53 (w 85) c) : Ret (F_Night_pass_55_84 w) (fun w' => Frm [61, 62, 63, 85] [(55, 3)] w w' ∧ Eq53 (w' 85) (sPass h c) ∧ CSeen w' h c) := by
  have hM := hh.2.1
  refine ret_mono (t_pass_84 hw hh (GdS_congr hh hg e)) (fun w' hq => ?_)
  obtain ⟨q1, q2, q3, q4⟩ := hq
  refine ⟨q1, ?_, ?_, fun m hm => ?_⟩
  · rw [q2]; exact sPass_e hh hg e
  · rw [q3, sRis_e hh e]
  · rw [q4 m hm, e (16 + m) (by omega)]
theorem t_passN {w : Wld} {h : Hs} {c : Sta} (hw : CHs w h) (hh : GdH h) (hg : GdS h c) (e : Eq53 (w 85) c) {n : Nat} (hn : n < 1000) : Ret (F_C_passNights w (jn n)) (fun w' => Frm [61, 62, 63, 85] [(55, 3)] w w' ∧ Eq53 (w' 85) (sGo h c n) ∧ (0 < n → CSeen w' h (sGo h c (n - 1)))) := by
  rw [F_C_passNights, ret_bl]
  refine loop_inv (I := fun k s => s.1 = jn k ∧ Frm [61, 62, 63, 85] [(55, 3)] w s.2 ∧ Eq53 (s.2 85) (sGo h c k) ∧ (0 < k → CSeen s.2 h (sGo h c (k - 1)))) n ⟨rfl, frm_rf, e, fun z => absurd z (Nat.lt_irrefl 0)⟩ (fun k s hk hi => ?_) (fun s hi => ?_)
  · obtain ⟨i, w1⟩ := s
    obtain ⟨i1, i2, i3, i4⟩ := hi
    simp only at i1 i2 i3 i4
    subst i1
    simp (disch := omega) only [B_C_passNights_2, ↓bi_eq, ↓bw_eq, gd_pos, br_pos, br_neg, br_T, br_F, gd_T, bp_some, bd_some, bv_some, bl_some, bx_inl, bx_inr, bn_none, bn_some, bt_inl, bt_inr, not_true_eq_false, not_false_eq_true, eq_self, Bool.false_eq_true, if_true, if_false, jn_clamp, jn_lt, jn_le, jn_inj, jn_add, jn_sub, jn_mul, jn_vp, jn_0a, jn_1a, jn_1b, jn_1s, jn_1m, jn_neg0, jn_le0, jn_0le, jn_0lt, jn_1le, jn_le1, jn_lt1, jn_1lt, jn_e0, jn_e1, jn_em, ↓qB_f, ↓qT_f, cl_0, cl_1, vp_0, vp_1, ret_bv]
    refine ret_mono (t_passT (CHs_fr hw i2 ⟨rfl, rfl, rfl, rfl, fun _ => rfl, fun _ => rfl, rfl, fun _ => rfl⟩) hh (sGo_good hh hg k) i3) (fun w2 hq => ?_)
    obtain ⟨q1, q2, q3⟩ := hq
    rw [ret_some, LQ_inl]
    exact ⟨rfl, frm_tr i2 q1, q2, fun _ => q3⟩
  · obtain ⟨i, w1⟩ := s
    obtain ⟨i1, i2, i3, i4⟩ := hi
    simp only at i1 i2 i3 i4
    subst i1
    simp (disch := omega) only [B_C_passNights_2, ↓bi_eq, ↓bw_eq, gd_pos, br_pos, br_neg, br_T, br_F, gd_T, bp_some, bd_some, bv_some, bl_some, bx_inl, bx_inr, bn_none, bn_some, bt_inl, bt_inr, not_true_eq_false, not_false_eq_true, eq_self, Bool.false_eq_true, if_true, if_false, jn_clamp, jn_lt, jn_le, jn_inj, jn_add, jn_sub, jn_mul, jn_vp, jn_0a, jn_1a, jn_1b, jn_1s, jn_1m, jn_neg0, jn_le0, jn_0le, jn_0lt, jn_1le, jn_le1, jn_lt1, jn_1lt, jn_e0, jn_e1, jn_em, ↓qB_f, ↓qT_f, cl_0, cl_1, vp_0, vp_1, br_pos (Nat.le_refl n), ret_some, LQ_inr]
    exact ⟨i2, i3, i4⟩
theorem t_goAhead {w : Wld} {h : Hs} (hw : CHs w h) (hh : GdH h) (hg : GdS h (w 66)) {n : Nat} (hn : n < 1000) : Ret (F_C_goAhead w (jn n)) (fun w' => Frm [61, 62, 63, 85] [(55, 3)] w w' ∧ Eq53 (w' 85) (sGo h (w 66) n) ∧ (0 < n → CSeen w' h (sGo h (w 66) (n - 1)))) := by
  rw [F_C_goAhead, ret_bv]
  refine ret_mono (t_begin w) (fun w1 hq => ?_)
  obtain ⟨q1, q2⟩ := hq
  rw [ret_bv]
  refine ret_mono (t_passN (CHs_fr hw q1 ⟨rfl, rfl, rfl, rfl, fun _ => rfl, fun _ => rfl, rfl, fun _ => rfl⟩) hh hg q2 hn) (fun w2 hq => ?_)
  obtain ⟨p1, p2, p3⟩ := hq
  rw [ret_some]
  exact ⟨frm_tr (frm_up q1 rfl) p1, p2, p3⟩
/-! what was seen -/
theorem ris_bit {h : Hs} (c : Sta) {m : Nat} (hm : m < hsM h) : (sRis h c).testBit m = sUp h c m := by
  rw [sRis, nAll_bit]; simp [hm]
theorem t_matins {w : Wld} {h : Hs} {c : Sta} (hw : CHs w h) (hh : GdH h) (hg : GdS h c) (hs : CSeen w h c) : F_Night_matins_55 w = some (sMat h c) := by
  have hM := hh.2.1
  have hN := hh.1
  have e1 := hw.2.1
  have hR := sRis_lt hh c
  have key : loop (B_Night_matins_55_4 w) (0, 0) = some (sMatJ h c (hsM h)) := by
    refine loop_for (V := fun k => (sMatJ h c k, jn k)) (hsM h) (fun k hk => ?_) ?_
    · obtain ⟨x, hx, ex⟩ := hg.1 k hk
      have e63 : w 63 k = jn x := (hs.2 k hk).trans ex
      have e57 := hw.2.2.2.2.1 x hx
      have es : sMatJ h c (k + 1) = if sUp h c k = true then sMatJ h c k + hsV h (c (16 + k)).toNatClampNeg else sMatJ h c k := rfl
      rw [es, ex, jn_clamp (by omega)]
      have hb := ris_bit c hk
      by_cases hu : sUp h c k = true
      · rw [hu] at hb
        have hq : qT (jn (sRis h c)) k = 1 := by rw [qT_1 (by omega) (by omega)]; exact hb
        simp (disch := omega) only [B_Night_matins_55_4, ↓bi_eq, ↓bw_eq, gd_pos, br_pos, br_neg, br_T, br_F, gd_T, bp_some, bd_some, bv_some, bl_some, bx_inl, bx_inr, bn_none, bn_some, bt_inl, bt_inr, not_true_eq_false, not_false_eq_true, eq_self, Bool.false_eq_true, if_true, if_false, jn_clamp, jn_lt, jn_le, jn_inj, jn_add, jn_sub, jn_mul, jn_vp, jn_0a, jn_1a, jn_1b, jn_1s, jn_1m, jn_neg0, jn_le0, jn_0le, jn_0lt, jn_1le, jn_le1, jn_lt1, jn_1lt, jn_e0, jn_e1, jn_em, ↓qB_f, ↓qT_f, cl_0, cl_1, vp_0, vp_1, e1, hs.1, e63, e57, hq, Int32.one_mul, hu]
      · have hb2 : (sRis h c).testBit k = false := by rw [hb]; exact Bool.eq_false_iff.mpr hu
        have hq : qT (jn (sRis h c)) k = 0 := by rw [qT_0 (by omega) (by omega)]; exact hb2
        simp (disch := omega) only [B_Night_matins_55_4, ↓bi_eq, ↓bw_eq, gd_pos, br_pos, br_neg, br_T, br_F, gd_T, bp_some, bd_some, bv_some, bl_some, bx_inl, bx_inr, bn_none, bn_some, bt_inl, bt_inr, not_true_eq_false, not_false_eq_true, eq_self, Bool.false_eq_true, if_true, if_false, jn_clamp, jn_lt, jn_le, jn_inj, jn_add, jn_sub, jn_mul, jn_vp, jn_0a, jn_1a, jn_1b, jn_1s, jn_1m, jn_neg0, jn_le0, jn_0le, jn_0lt, jn_1le, jn_le1, jn_lt1, jn_1lt, jn_e0, jn_e1, jn_em, ↓qB_f, ↓qT_f, cl_0, cl_1, vp_0, vp_1, e1, hs.1, e63, e57, hq, Int32.zero_mul, Int32.add_zero, hu]
    · simp (disch := omega) only [B_Night_matins_55_4, ↓bi_eq, ↓bw_eq, gd_pos, br_pos, br_neg, br_T, br_F, gd_T, bp_some, bd_some, bv_some, bl_some, bx_inl, bx_inr, bn_none, bn_some, bt_inl, bt_inr, not_true_eq_false, not_false_eq_true, eq_self, Bool.false_eq_true, if_true, if_false, jn_clamp, jn_lt, jn_le, jn_inj, jn_add, jn_sub, jn_mul, jn_vp, jn_0a, jn_1a, jn_1b, jn_1s, jn_1m, jn_neg0, jn_le0, jn_0le, jn_0lt, jn_1le, jn_le1, jn_lt1, jn_1lt, jn_e0, jn_e1, jn_em, ↓qB_f, ↓qT_f, cl_0, cl_1, vp_0, vp_1, e1, br_pos (Nat.le_refl (hsM h))]
  rw [F_Night_matins_55, key]; rfl
theorem t_voices {w : Wld} {h : Hs} (hw : CHs w h) (hh : GdH h) : F_House_voices_56 w = some (jn (sAllV h)) := by
  have hM := hh.2.1
  have e1 := hw.2.1
  have key : loop (B_House_voices_56_4 w) (0, 0) = some (jn (sVoiJ h (fun _ => true) (hsM h))) := by
    refine loop_for (V := fun k => (jn (sVoiJ h (fun _ => true) k), jn k)) (hsM h) (fun k hk => ?_) ?_
    · obtain ⟨x, hx, ex⟩ := hh.2.2.2.1 k hk
      have e58 := (hw.2.2.2.2.2.1 k hk).trans ex
      have es : sVoiJ h (fun _ => true) (k + 1) = sVoiJ h (fun _ => true) k ||| 2 ^ (hsO h k).toNatClampNeg := rfl
      rw [es, ex, jn_clamp (by omega)]
      simp (disch := omega) only [B_House_voices_56_4, ↓bi_eq, ↓bw_eq, gd_pos, br_pos, br_neg, br_T, br_F, gd_T, bp_some, bd_some, bv_some, bl_some, bx_inl, bx_inr, bn_none, bn_some, bt_inl, bt_inr, not_true_eq_false, not_false_eq_true, eq_self, Bool.false_eq_true, if_true, if_false, jn_clamp, jn_lt, jn_le, jn_inj, jn_add, jn_sub, jn_mul, jn_vp, jn_0a, jn_1a, jn_1b, jn_1s, jn_1m, jn_neg0, jn_le0, jn_0le, jn_0lt, jn_1le, jn_le1, jn_lt1, jn_1lt, jn_e0, jn_e1, jn_em, ↓qB_f, ↓qT_f, cl_0, cl_1, vp_0, vp_1, e1, e58, qB_jn, jn_or]
    · simp (disch := omega) only [B_House_voices_56_4, ↓bi_eq, ↓bw_eq, gd_pos, br_pos, br_neg, br_T, br_F, gd_T, bp_some, bd_some, bv_some, bl_some, bx_inl, bx_inr, bn_none, bn_some, bt_inl, bt_inr, not_true_eq_false, not_false_eq_true, eq_self, Bool.false_eq_true, if_true, if_false, jn_clamp, jn_lt, jn_le, jn_inj, jn_add, jn_sub, jn_mul, jn_vp, jn_0a, jn_1a, jn_1b, jn_1s, jn_1m, jn_neg0, jn_le0, jn_0le, jn_0lt, jn_1le, jn_le1, jn_lt1, jn_1lt, jn_e0, jn_e1, jn_em, ↓qB_f, ↓qT_f, cl_0, cl_1, vp_0, vp_1, e1, br_pos (Nat.le_refl (hsM h))]
  rw [F_House_voices_56, key]; rfl
theorem shl_0 (k : Nat) (hk : k < 32) : (0 : Int32) <<< (jn k &&& 31) = 0 := by
  have : ∀ k, k < 32 → (0 : Int32) <<< (jn k &&& 31) = 0 := by decide +kernel
  exact this k hk
theorem t_missing {w : Wld} {h : Hs} {c : Sta} (hw : CHs w h) (hh : GdH h) (hs : CSeen w h c) : F_Night_missing_55 w = some (jn (sShort h c)) := by
  have hM := hh.2.1
  have e1 := hw.2.1
  have hR := sRis_lt hh c
  have key : loop (B_Night_missing_55_4 w) (0, 0) = some (jn (sVoiJ h (sUp h c) (hsM h))) := by
    refine loop_for (V := fun k => (jn (sVoiJ h (sUp h c) k), jn k)) (hsM h) (fun k hk => ?_) ?_
    · obtain ⟨x, hx, ex⟩ := hh.2.2.2.1 k hk
      have e58 := (hw.2.2.2.2.2.1 k hk).trans ex
      have es : sVoiJ h (sUp h c) (k + 1) = if sUp h c k = true then sVoiJ h (sUp h c) k ||| 2 ^ (hsO h k).toNatClampNeg else sVoiJ h (sUp h c) k := rfl
      rw [es, ex, jn_clamp (by omega)]
      have hb := ris_bit c hk
      by_cases hu : sUp h c k = true
      · rw [hu] at hb
        have hq : qT (jn (sRis h c)) k = 1 := by rw [qT_1 (by omega) (by omega)]; exact hb
        simp (disch := omega) only [B_Night_missing_55_4, ↓bi_eq, ↓bw_eq, gd_pos, br_pos, br_neg, br_T, br_F, gd_T, bp_some, bd_some, bv_some, bl_some, bx_inl, bx_inr, bn_none, bn_some, bt_inl, bt_inr, not_true_eq_false, not_false_eq_true, eq_self, Bool.false_eq_true, if_true, if_false, jn_clamp, jn_lt, jn_le, jn_inj, jn_add, jn_sub, jn_mul, jn_vp, jn_0a, jn_1a, jn_1b, jn_1s, jn_1m, jn_neg0, jn_le0, jn_0le, jn_0lt, jn_1le, jn_le1, jn_lt1, jn_1lt, jn_e0, jn_e1, jn_em, ↓qB_f, ↓qT_f, cl_0, cl_1, vp_0, vp_1, e1, hs.1, e58, hq, hu, qB_jn, jn_or]
      · have hb2 : (sRis h c).testBit k = false := by rw [hb]; exact Bool.eq_false_iff.mpr hu
        have hq : qT (jn (sRis h c)) k = 0 := by rw [qT_0 (by omega) (by omega)]; exact hb2
        simp (disch := omega) only [B_Night_missing_55_4, ↓bi_eq, ↓bw_eq, gd_pos, br_pos, br_neg, br_T, br_F, gd_T, bp_some, bd_some, bv_some, bl_some, bx_inl, bx_inr, bn_none, bn_some, bt_inl, bt_inr, not_true_eq_false, not_false_eq_true, eq_self, Bool.false_eq_true, if_true, if_false, jn_clamp, jn_lt, jn_le, jn_inj, jn_add, jn_sub, jn_mul, jn_vp, jn_0a, jn_1a, jn_1b, jn_1s, jn_1m, jn_neg0, jn_le0, jn_0le, jn_0lt, jn_1le, jn_le1, jn_lt1, jn_1lt, jn_e0, jn_e1, jn_em, ↓qB_f, ↓qT_f, cl_0, cl_1, vp_0, vp_1, e1, hs.1, e58, hq, hu, shl_0, Int32.or_zero]
    · simp (disch := omega) only [B_Night_missing_55_4, ↓bi_eq, ↓bw_eq, gd_pos, br_pos, br_neg, br_T, br_F, gd_T, bp_some, bd_some, bv_some, bl_some, bx_inl, bx_inr, bn_none, bn_some, bt_inl, bt_inr, not_true_eq_false, not_false_eq_true, eq_self, Bool.false_eq_true, if_true, if_false, jn_clamp, jn_lt, jn_le, jn_inj, jn_add, jn_sub, jn_mul, jn_vp, jn_0a, jn_1a, jn_1b, jn_1s, jn_1m, jn_neg0, jn_le0, jn_0le, jn_0lt, jn_1le, jn_le1, jn_lt1, jn_1lt, jn_e0, jn_e1, jn_em, ↓qB_f, ↓qT_f, cl_0, cl_1, vp_0, vp_1, e1, br_pos (Nat.le_refl (hsM h))]
  rw [F_Night_missing_55, key, bl_some, t_voices hw hh, bp_some, jn_m1, jn_xor, jn_and]; rfl
