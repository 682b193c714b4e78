/-! ===== questions: psalm ===== -/
def IsB (f : Nat → Int32) (r : Int32) : Prop := (r = -1 ∧ ∀ u, u < 100 → f u ≤ 0) ∨ ∃ v, v < 100 ∧ r = jn v ∧ 0 < f v ∧ (∀ u, u < 100 → f u ≤ f v) ∧ ∀ u, u < v → f u < f v
theorem IsB_u {f : Nat → Int32} {a b : Int32} (ha : IsB f a) (hb : IsB f b) : a = b := by
  rcases ha with ⟨rfl, ha⟩ | ⟨v, hv, rfl, v1, v2, v3⟩
  · rcases hb with ⟨rfl, hb⟩ | ⟨u, hu, rfl, u1, u2, u3⟩
    · rfl
    · exact absurd u1 (Int32.not_lt.mpr (ha u hu))
  · rcases hb with ⟨rfl, hb⟩ | ⟨u, hu, rfl, u1, u2, u3⟩
    · exact absurd v1 (Int32.not_lt.mpr (hb v hv))
    · rcases Nat.lt_trichotomy u v with h | h | h
      · exact absurd (v3 u h) (Int32.not_lt.mpr (u2 v hv))
      · rw [h]
      · exact absurd (u3 v h) (Int32.not_lt.mpr (v2 u hu))
/-- so far, from below -/
def IsBu (f : Nat → Int32) (k : Nat) (r mo : Int32) : Prop := (r = -1 ∧ mo = 0 ∧ ∀ u, u < k → f u ≤ 0) ∨ ∃ v, v < k ∧ r = jn v ∧ mo = f v ∧ 0 < f v ∧ (∀ u, u < k → f u ≤ f v) ∧ ∀ u, u < v → f u < f v
theorem IsBu_y {f : Nat → Int32} {k : Nat} {r mo : Int32} (h : IsBu f k r mo) (hk : mo < f k) : IsBu f (k + 1) (jn k) (f k) := by
  refine Or.inr ⟨k, by omega, rfl, rfl, ?_, fun u hu => ?_, fun u hu => ?_⟩
  · rcases h with ⟨h1, h2, h3⟩ | ⟨v, hv, h1, h2, h3, h4, h5⟩
    · rw [h2] at hk; exact hk
    · rw [h2] at hk; exact Int32.lt_trans h3 hk
  · rcases h with ⟨h1, h2, h3⟩ | ⟨v, hv, h1, h2, h3, h4, h5⟩
    · by_cases e : u = k
      · rw [e]; exact Int32.le_refl _
      · rw [h2] at hk
        exact Int32.le_of_lt (Int32.lt_of_le_of_lt (h3 u (by omega)) hk)
    · by_cases e : u = k
      · rw [e]; exact Int32.le_refl _
      · rw [h2] at hk
        exact Int32.le_of_lt (Int32.lt_of_le_of_lt (h4 u (by omega)) hk)
  · rcases h with ⟨h1, h2, h3⟩ | ⟨v, hv, h1, h2, h3, h4, h5⟩
    · rw [h2] at hk; exact Int32.lt_of_le_of_lt (h3 u hu) hk
    · rw [h2] at hk; exact Int32.lt_of_le_of_lt (h4 u hu) hk
theorem IsBu_n {f : Nat → Int32} {k : Nat} {r mo : Int32} (h : IsBu f k r mo) (hk : f k ≤ mo) : IsBu f (k + 1) r mo := by
  rcases h with ⟨h1, h2, h3⟩ | ⟨v, hv, h1, h2, h3, h4, h5⟩
  · refine Or.inl ⟨h1, h2, fun u hu => ?_⟩
    by_cases e : u = k
    · rw [e, ← h2]; exact hk
    · exact h3 u (by omega)
  · refine Or.inr ⟨v, by omega, h1, h2, h3, fun u hu => ?_, h5⟩
    by_cases e : u = k
    · rw [e, ← h2]; exact hk
    · exact h4 u (by omega)
theorem IsBu_e {f : Nat → Int32} {r mo : Int32} (h : IsBu f 100 r mo) : IsB f r := by
  rcases h with ⟨h1, h2, h3⟩ | ⟨v, hv, h1, h2, h3, h4, h5⟩
  · exact Or.inl ⟨h1, h3⟩
  · exact Or.inr ⟨v, hv, h1, h3, h4, h5⟩
/-- so far, from above -/
def IsBd (f : Nat → Int32) (k : Nat) (r : Int32) : Prop := (r = -1 ∧ ∀ u, 100 - k ≤ u → u < 100 → f u ≤ 0) ∨ ∃ v, 100 - k ≤ v ∧ v < 100 ∧ r = jn v ∧ 0 < f v ∧ (∀ u, 100 - k ≤ u → u < 100 → f u ≤ f v) ∧ ∀ u, 100 - k ≤ u → u < v → f u < f v
theorem IsBd_e {f : Nat → Int32} {r : Int32} (h : IsBd f 100 r) : IsB f r := by
  rcases h with ⟨h1, h3⟩ | ⟨v, hv, hv2, h1, h3, h4, h5⟩
  · exact Or.inl ⟨h1, fun u hu => h3 u (by omega) hu⟩
  · exact Or.inr ⟨v, hv2, h1, h3, fun u hu => h4 u (by omega) hu, fun u hu => h5 u (by omega) hu⟩
theorem IsBd_n {f : Nat → Int32} {k : Nat} {r : Int32} (hk : k < 100) (h : IsBd f k r) (h0 : (∃ v, r = jn v ∧ v < 100 ∧ f (99 - k) < f v) ∨ f (99 - k) ≤ 0) : IsBd f (k + 1) r := by
  rcases h with ⟨h1, h3⟩ | ⟨v, hv, hv2, h1, h3, h4, h5⟩
  · rcases h0 with ⟨v, e, e2, _⟩ | h0
    · rw [h1] at e
      have h9 : (jn v = -1) = False := jn_em (by omega)
      rw [← e] at h9
      simp at h9
    · refine Or.inl ⟨h1, fun u hu hu2 => ?_⟩
      by_cases e : u = 99 - k
      · rw [e]; exact h0
      · exact h3 u (by omega) hu2
  · have hlt : f (99 - k) < f v := by
      rcases h0 with ⟨v', e, e2, h0⟩ | h0
      · rw [h1, jn_inj (by omega) (by omega)] at e
        rw [e]; exact h0
      · exact Int32.lt_of_le_of_lt h0 h3
    refine Or.inr ⟨v, by omega, hv2, h1, h3, fun u hu hu2 => ?_, fun u hu hu2 => ?_⟩
    · by_cases e : u = 99 - k
      · rw [e]; exact Int32.le_of_lt hlt
      · exact h4 u (by omega) hu2
    · by_cases e : u = 99 - k
      · rw [e]; exact hlt
      · exact h5 u (by omega) hu2
theorem IsBd_y {f : Nat → Int32} {k : Nat} {r : Int32} (hk : k < 100) (h : IsBd f k r) (h0 : 0 < f (99 - k)) (h9 : r = -1 ∨ ∃ v, r = jn v ∧ v < 100 ∧ f v ≤ f (99 - k)) : IsBd f (k + 1) (jn (99 - k)) := by
  have hle : ∀ u, 100 - k ≤ u → u < 100 → f u ≤ f (99 - k) := by
    intro u hu hu2
    rcases h with ⟨h1, h3⟩ | ⟨v, hv, hv2, h1, h3, h4, h5⟩
    · exact Int32.le_of_lt (Int32.lt_of_le_of_lt (h3 u hu hu2) h0)
    · rcases h9 with h9 | ⟨v', e, e2, h9⟩
      · rw [h1] at h9
        have h10 : (jn v = -1) = False := jn_em (by omega)
        rw [h9] at h10
        simp at h10
      · rw [h1, jn_inj (by omega) (by omega)] at e
        rw [← e] at h9
        exact Int32.le_trans (h4 u hu hu2) h9
  refine Or.inr ⟨99 - k, by omega, by omega, rfl, h0, fun u hu hu2 => ?_, fun u hu hu2 => ?_⟩
  · by_cases e : u = 99 - k
    · rw [e]; exact Int32.le_refl _
    · exact hle u (by omega) hu2
  · omega
def dn9 (k : Nat) : Int32 := if k ≤ 99 then jn (99 - k) else -1
theorem dn9_s {k : Nat} (hk : k < 100) : jn (99 - k) + (-1) = dn9 (k + 1) := by
  have : ∀ k, k < 100 → jn (99 - k) + (-1) = dn9 (k + 1) := by decide +kernel
  exact this k hk
def sPsm (h : Hs) (c : Sta) (n v : Nat) : Int32 := fl (fun k a => a + sSung h (sGo h c k) v) 0 n
theorem sPsm_s (h : Hs) (c : Sta) (n v : Nat) : sPsm h c (n + 1) v = sPsm h c n v + sSung h (sGo h c n) v := rfl
theorem c_fill {w : Wld} : Ret (F_JA_fill_86 w 0) (fun w' => Frm [86] [] w w' ∧ ∀ v, v < 100 → w' 86 v = 0) := by
  rw [F_JA_fill_86, ret_bl]
  refine loop_inv (I := fun k s => s.1 = jn k ∧ Frm [86] [] w s.2 ∧ ∀ v, v < k → s.2 86 v = 0) 100 ⟨rfl, frm_rf, fun v hv => absurd hv (Nat.not_lt_zero v)⟩ (fun k s hk hi => ?_) (fun s hi => ?_)
  · obtain ⟨i, w1⟩ := s
    obtain ⟨i1, i2, i3⟩ := hi
    simp only at i1 i2 i3
    subst i1
    simp (disch := omega) only [B_JA_fill_86_5, ↓bi_eq, ↓bw_eq, gd_pos, br_pos, br_neg, br_T, br_F, gd_T, bp_some, bd_some, bv_some, bl_some, bx_inl, bx_inr, bn_none, bn_some, bt_inl, bt_inr, not_true_eq_false, not_false_eq_true, eq_self, Bool.false_eq_true, if_true, if_false, jn_clamp, jn_lt, jn_le, jn_inj, jn_add, jn_sub, jn_mul, jn_vp, jn_0a, jn_1a, jn_1b, jn_1s, jn_1m, jn_neg0, jn_le0, jn_0le, jn_0lt, jn_1le, jn_le1, jn_lt1, jn_1lt, jn_e0, jn_e1, jn_em, ↓qB_f, ↓qT_f, cl_0, cl_1, vp_0, vp_1, li_100, ret_some, LQ_inl]
    refine ⟨trivial, frm_wup i2 _ _ _ rfl, fun v hv => ?_⟩
    rw [wup_s]
    by_cases e : v = k
    · rw [if_pos e]
    · rw [if_neg e]; exact i3 v (by omega)
  · obtain ⟨i, w1⟩ := s
    obtain ⟨i1, i2, i3⟩ := hi
    simp only at i1 i2 i3
    subst i1
    simp (disch := omega) only [B_JA_fill_86_5, ↓bi_eq, ↓bw_eq, gd_pos, br_pos, br_neg, br_T, br_F, gd_T, bp_some, bd_some, bv_some, bl_some, bx_inl, bx_inr, bn_none, bn_some, bt_inl, bt_inr, not_true_eq_false, not_false_eq_true, eq_self, Bool.false_eq_true, if_true, if_false, jn_clamp, jn_lt, jn_le, jn_inj, jn_add, jn_sub, jn_mul, jn_vp, jn_0a, jn_1a, jn_1b, jn_1s, jn_1m, jn_neg0, jn_le0, jn_0le, jn_0lt, jn_1le, jn_le1, jn_lt1, jn_1lt, jn_e0, jn_e1, jn_em, ↓qB_f, ↓qT_f, cl_0, cl_1, vp_0, vp_1, li_100, br_pos (Nat.le_refl 100), ret_some, LQ_inr]
    exact ⟨i2, i3⟩
theorem c_psalm {w : Wld} {h : Hs} (r : RelH w h) {n : Nat} (h1 : n ≤ 60) : Ret (F_C_psalm w (jn n)) (fun q => (∃ v, q.1 = .inr (some v) ∧ IsB (sPsm h (w 66) n) v) ∧ Frm LQc KQc w q.2) := by
  have hh := r.1
  have hc := r.2.1
  have hg := r.2.2.2.1.1
  rw [F_C_psalm, jn_00, li_60, t_need_y w (by omega) (Nat.zero_le _) h1, bn_none, ret_bv]
  refine ret_mono (t_begin w) (fun w1 hq => ?_)
  obtain ⟨q1, q2⟩ := hq
  rw [ret_bv]
  refine ret_mono c_fill (fun w2 hp => ?_)
  obtain ⟨p1, p2⟩ := hp
  have f2 : Frm [61, 62, 63, 85, 86] [(55, 3)] w w2 := frm_tr (frm_up q1 rfl) (frm_up p1 rfl)
  have e85 : Eq53 (w2 85) (w 66) := by rw [frm_cell p1 85 (fun _ => rfl)]; exact q2
  rw [ret_bl]
  refine ret_mono (P := fun w3 => Frm [61, 62, 63, 85, 86] [(55, 3)] w w3 ∧ ∀ v, v < 100 → w3 86 v = sPsm h (w 66) n v) ?_ (fun w3 h3 => ?_)
  · refine loop_inv (I := fun k s => s.1 = jn k ∧ Frm [61, 62, 63, 85, 86] [(55, 3)] w s.2 ∧ Eq53 (s.2 85) (sGo h (w 66) k) ∧ ∀ v, v < 100 → s.2 86 v = sPsm h (w 66) k v) n ⟨rfl, f2, e85, p2⟩ (fun k s hk hi => ?_) (fun s hi => ?_)
    · obtain ⟨i, w3⟩ := s
      obtain ⟨i1, i2, i3, i4⟩ := hi
      simp only at i1 i2 i3 i4
      subst i1
      simp (disch := omega) only [B_C_psalm_21, ↓bi_eq, ↓bw_eq, gd_pos, br_pos, br_neg, br_T, br_F, gd_T, bp_some, bd_some, bv_some, bl_some, bx_inl, bx_inr, bn_none, bn_some, bt_inl, bt_inr, not_true_eq_false, not_false_eq_true, eq_self, Bool.false_eq_true, if_true, if_false, jn_clamp, jn_lt, jn_le, jn_inj, jn_add, jn_sub, jn_mul, jn_vp, jn_0a, jn_1a, jn_1b, jn_1s, jn_1m, jn_neg0, jn_le0, jn_0le, jn_0lt, jn_1le, jn_le1, jn_lt1, jn_1lt, jn_e0, jn_e1, jn_em, ↓qB_f, ↓qT_f, cl_0, cl_1, vp_0, vp_1, ret_bv]
      refine ret_mono (t_passT (CHs_fr hc i2 ⟨rfl, rfl, rfl, rfl, fun _ => rfl, fun _ => rfl, rfl, fun _ => rfl⟩) hh (sGo_good hh hg k) i3) (fun w4 hq => ?_)
      obtain ⟨x1, x2, x3⟩ := hq
      have f4 : Frm [61, 62, 63, 85, 86] [(55, 3)] w w4 := frm_tr i2 (frm_up x1 rfl)
      refine ret_mono (t_countVerses (CHs_fr hc f4 ⟨rfl, rfl, rfl, rfl, fun _ => rfl, fun _ => rfl, rfl, fun _ => rfl⟩) hh (sGo_good hh hg k) x3) (fun w5 hy => ?_)
      obtain ⟨y1, y2⟩ := hy
      rw [ret_some, LQ_inl]
      refine ⟨rfl, frm_tr f4 (frm_up y1 rfl), ?_, fun v hv => ?_⟩
      · show Eq53 (w5 85) _
        rw [frm_cell y1 85 (fun _ => rfl)]; exact x2
      · show w5 86 v = _
        rw [y2 v hv, frm_cell x1 86 (fun _ => rfl), i4 v hv, sPsm_s]
    · obtain ⟨i, w3⟩ := s
      obtain ⟨i1, i2, i3, i4⟩ := hi
      simp only at i1 i2 i3 i4
      subst i1
      simp (disch := omega) only [B_C_psalm_21, ↓bi_eq, ↓bw_eq, gd_pos, br_pos, br_neg, br_T, br_F, gd_T, bp_some, bd_some, bv_some, bl_some, bx_inl, bx_inr, bn_none, bn_some, bt_inl, bt_inr, not_true_eq_false, not_false_eq_true, eq_self, Bool.false_eq_true, if_true, if_false, jn_clamp, jn_lt, jn_le, jn_inj, jn_add, jn_sub, jn_mul, jn_vp, jn_0a, jn_1a, jn_1b, jn_1s, jn_1m, jn_neg0, jn_le0, jn_0le, jn_0lt, jn_1le, jn_le1, jn_lt1, jn_1lt, jn_e0, jn_e1, jn_em, ↓qB_f, ↓qT_f, cl_0, cl_1, vp_0, vp_1, br_pos (Nat.le_refl n), ret_some, LQ_inr]
      exact ⟨i2, i4⟩
  · obtain ⟨f3, e3⟩ := h3
    rw [ret_bl]
    refine ret_mono (P := fun v => IsB (sPsm h (w 66) n) v) ?_ (fun v hv => ?_)
    · refine loop_inv (I := fun k s => s.2.2 = jn k ∧ IsBu (sPsm h (w 66) n) k s.1 s.2.1) 100 ⟨rfl, Or.inl ⟨rfl, rfl, fun u hu => absurd hu (Nat.not_lt_zero u)⟩⟩ (fun k s hk hi => ?_) (fun s hi => ?_)
      · obtain ⟨b, mo, i⟩ := s
        obtain ⟨i1, i2⟩ := hi
        simp only at i1 i2
        subst i1
        have ek := e3 k hk
        by_cases hl : sPsm h (w 66) n k ≤ mo
        · simp (disch := omega) only [B_C_psalm_61, K_C_psalm_90, ↓bi_eq, ↓bw_eq, gd_pos, br_pos, br_neg, br_T, br_F, gd_T, bp_some, bd_some, bv_some, bl_some, bx_inl, bx_inr, bn_none, bn_some, bt_inl, bt_inr, not_true_eq_false, not_false_eq_true, eq_self, Bool.false_eq_true, if_true, if_false, jn_clamp, jn_lt, jn_le, jn_inj, jn_add, jn_sub, jn_mul, jn_vp, jn_0a, jn_1a, jn_1b, jn_1s, jn_1m, jn_neg0, jn_le0, jn_0le, jn_0lt, jn_1le, jn_le1, jn_lt1, jn_1lt, jn_e0, jn_e1, jn_em, ↓qB_f, ↓qT_f, cl_0, cl_1, vp_0, vp_1, li_99, ek, hl, ret_some, LQ_inl]
          exact ⟨trivial, IsBu_n i2 hl⟩
        · simp (disch := omega) only [B_C_psalm_61, K_C_psalm_90, ↓bi_eq, ↓bw_eq, gd_pos, br_pos, br_neg, br_T, br_F, gd_T, bp_some, bd_some, bv_some, bl_some, bx_inl, bx_inr, bn_none, bn_some, bt_inl, bt_inr, not_true_eq_false, not_false_eq_true, eq_self, Bool.false_eq_true, if_true, if_false, jn_clamp, jn_lt, jn_le, jn_inj, jn_add, jn_sub, jn_mul, jn_vp, jn_0a, jn_1a, jn_1b, jn_1s, jn_1m, jn_neg0, jn_le0, jn_0le, jn_0lt, jn_1le, jn_le1, jn_lt1, jn_1lt, jn_e0, jn_e1, jn_em, ↓qB_f, ↓qT_f, cl_0, cl_1, vp_0, vp_1, li_99, ek, hl, ret_some, LQ_inl]
          exact ⟨trivial, IsBu_y i2 (Int32.not_le.mp hl)⟩
      · obtain ⟨b, mo, i⟩ := s
        obtain ⟨i1, i2⟩ := hi
        simp only at i1 i2
        subst i1
        simp (disch := omega) only [B_C_psalm_61, ↓bi_eq, ↓bw_eq, gd_pos, br_pos, br_neg, br_T, br_F, gd_T, bp_some, bd_some, bv_some, bl_some, bx_inl, bx_inr, bn_none, bn_some, bt_inl, bt_inr, not_true_eq_false, not_false_eq_true, eq_self, Bool.false_eq_true, if_true, if_false, jn_clamp, jn_lt, jn_le, jn_inj, jn_add, jn_sub, jn_mul, jn_vp, jn_0a, jn_1a, jn_1b, jn_1s, jn_1m, jn_neg0, jn_le0, jn_0le, jn_0lt, jn_1le, jn_le1, jn_lt1, jn_1lt, jn_e0, jn_e1, jn_em, ↓qB_f, ↓qT_f, cl_0, cl_1, vp_0, vp_1, li_99, ret_some, LQ_inr]
        exact IsBu_e i2
    · rw [ret_some]
      exact ⟨⟨v, rfl, hv⟩, frm_up f3 rfl⟩
theorem m_psalm {w1 : Wld} {h : Hs} {c : Sta} (r1 : RelH w1 h) (e66 : w1 66 = c) (hg : GdS h c) {n : Nat} (h1 : n ≤ 60) : Ret (F_M_psalm w1 (jn n)) (fun p => IsB (sPsm h c n) p.1 ∧ p.2 0 2 = 0 ∧ RelH p.2 h ∧ p.2 41 0 = w1 41 0) := by
  have hh := r1.1
  have g1 : (0 : Int32) ≤ jn n ∧ jn n ≤ 60 := g_what n 60 (by omega) h1
  obtain ⟨z1, z2, z3, z4⟩ := m_ent r1
  rw [e66] at z2
  simp only [F_M_psalm, bw_eq, t_isIn, g1, and_self, if_true, bp_some, br_T, not_false_eq_true, (by decide : ((1 : Int32) = 0) = False), ret_bl]
  generalize wup w1 0 2 0 = wa at z1 z2 z3 z4
  refine ret_mono (P := fun w2 => Frm [25] [] wa w2 ∧ ∀ v, v < 100 → w2 25 v = 0) ?_ (fun w2 hq => ?_)
  · refine loop_inv (I := fun k s => s.1 = jn k ∧ Frm [25] [] wa s.2 ∧ ∀ v, v < k → s.2 25 v = 0) 100 ⟨rfl, frm_rf, fun v hv => absurd hv (Nat.not_lt_zero v)⟩ (fun k s hk hi => ?_) (fun s hi => ?_)
    · obtain ⟨i, w2⟩ := s
      obtain ⟨i1, i2, i3⟩ := hi
      simp only at i1 i2 i3
      subst i1
      simp (disch := omega) only [B_M_psalm_25, ↓bi_eq, ↓bw_eq, gd_pos, br_pos, br_neg, br_T, br_F, gd_T, bp_some, bd_some, bv_some, bl_some, bx_inl, bx_inr, bn_none, bn_some, bt_inl, bt_inr, not_true_eq_false, not_false_eq_true, eq_self, Bool.false_eq_true, if_true, if_false, jn_clamp, jn_lt, jn_le, jn_inj, jn_add, jn_sub, jn_mul, jn_vp, jn_0a, jn_1a, jn_1b, jn_1s, jn_1m, jn_neg0, jn_le0, jn_0le, jn_0lt, jn_1le, jn_le1, jn_lt1, jn_1lt, jn_e0, jn_e1, jn_em, ↓qB_f, ↓qT_f, cl_0, cl_1, vp_0, vp_1, li_99, ret_some, LQ_inl]
      refine ⟨trivial, frm_wup i2 _ _ _ rfl, fun v hv => ?_⟩
      rw [wup_s]
      by_cases e : v = k
      · rw [if_pos e]
      · rw [if_neg e]; exact i3 v (by omega)
    · obtain ⟨i, w2⟩ := s
      obtain ⟨i1, i2, i3⟩ := hi
      simp only at i1 i2 i3
      subst i1
      simp (disch := omega) only [B_M_psalm_25, ↓bi_eq, ↓bw_eq, gd_pos, br_pos, br_neg, br_T, br_F, gd_T, bp_some, bd_some, bv_some, bl_some, bx_inl, bx_inr, bn_none, bn_some, bt_inl, bt_inr, not_true_eq_false, not_false_eq_true, eq_self, Bool.false_eq_true, if_true, if_false, jn_clamp, jn_lt, jn_le, jn_inj, jn_add, jn_sub, jn_mul, jn_vp, jn_0a, jn_1a, jn_1b, jn_1s, jn_1m, jn_neg0, jn_le0, jn_0le, jn_0lt, jn_1le, jn_le1, jn_lt1, jn_1lt, jn_e0, jn_e1, jn_em, ↓qB_f, ↓qT_f, cl_0, cl_1, vp_0, vp_1, li_99, ret_some, LQ_inr]
      exact ⟨i2, i3⟩
  · obtain ⟨q1, q2⟩ := hq
    rw [ret_bv]
    refine ret_mono (m_pack (MSt_fr z2 q1 ⟨fun _ => rfl, fun _ => rfl, fun _ => rfl, fun _ => rfl, fun _ => rfl, fun _ => rfl, rfl, rfl, rfl⟩) hh) (fun w3 hp => ?_)
    obtain ⟨p1, p2⟩ := hp
    have h3 : MHs w3 h := MHs_fr (MHs_fr z1 q1 ⟨rfl, rfl, rfl, rfl, rfl, fun _ => rfl, fun _ => rfl, fun _ => rfl⟩) p1 ⟨rfl, rfl, rfl, rfl, rfl, fun _ => rfl, fun _ => rfl, fun _ => rfl⟩
    have s3 : MSt w3 h c := MSt_fr (MSt_fr z2 q1 ⟨fun _ => rfl, fun _ => rfl, fun _ => rfl, fun _ => rfl, fun _ => rfl, fun _ => rfl, rfl, rfl, rfl⟩) p1 ⟨fun _ => rfl, fun _ => rfl, fun _ => rfl, fun _ => rfl, fun _ => rfl, fun _ => rfl, rfl, rfl, rfl⟩
    have f3 : Frm LPu KPu w1 w3 := frm_tr z3 (frm_tr (frm_up q1 rfl) (frm_up p1 rfl))
    have e25 : ∀ v, v < 100 → w3 25 v = 0 := fun v hv => by rw [frm_cell p1 25 (fun _ => rfl)]; exact q2 v hv
    have c3 : w3 0 2 = 0 := by rw [p1 0 2 rfl, q1 0 2 rfl]; exact z4
    rw [ret_bl]
    refine ret_mono (P := fun w4 => Frm (25 :: nFrL) nFrK w3 w4 ∧ ∀ v, v < 100 → w4 25 v = sPsm h c n v) ?_ (fun w4 hq => ?_)
    · refine loop_inv (I := fun k s => s.1 = jn k ∧ Frm (25 :: nFrL) nFrK w3 s.2 ∧ MSt s.2 h (sGo h c k) ∧ ∀ v, v < 100 → s.2 25 v = sPsm h c k v) n ⟨rfl, frm_rf, s3, e25⟩ (fun k s hk hi => ?_) (fun s hi => ?_)
      · obtain ⟨i, w4⟩ := s
        obtain ⟨i1, i2, i3, i4⟩ := hi
        simp only at i1 i2 i3 i4
        subst i1
        simp (disch := omega) only [B_M_psalm_55, ↓bi_eq, ↓bw_eq, gd_pos, br_pos, br_neg, br_T, br_F, gd_T, bp_some, bd_some, bv_some, bl_some, bx_inl, bx_inr, bn_none, bn_some, bt_inl, bt_inr, not_true_eq_false, not_false_eq_true, eq_self, Bool.false_eq_true, if_true, if_false, jn_clamp, jn_lt, jn_le, jn_inj, jn_add, jn_sub, jn_mul, jn_vp, jn_0a, jn_1a, jn_1b, jn_1s, jn_1m, jn_neg0, jn_le0, jn_0le, jn_0lt, jn_1le, jn_le1, jn_lt1, jn_1lt, jn_e0, jn_e1, jn_em, ↓qB_f, ↓qT_f, cl_0, cl_1, vp_0, vp_1, ret_bv, ret_bl]
        refine ret_mono (t_aNight (MHs_fr h3 i2 ⟨rfl, rfl, rfl, rfl, rfl, fun _ => rfl, fun _ => rfl, fun _ => rfl⟩) i3 hh (sGo_good hh hg k)) (fun w5 hx => ?_)
        obtain ⟨x1, x2, x3⟩ := hx
        refine ret_mono (P := fun w6 => Frm [25] [] w5 w6 ∧ ∀ v, v < 100 → w6 25 v = sPsm h c (k + 1) v) ?_ (fun w6 hy => ?_)
        · refine loop_inv (I := fun j s => s.1 = jn j ∧ Frm [25] [] w5 s.2 ∧ (∀ v, v < j → s.2 25 v = sPsm h c (k + 1) v) ∧ ∀ v, j ≤ v → v < 100 → s.2 25 v = sPsm h c k v) 100 ⟨rfl, frm_rf, fun v hv => absurd hv (Nat.not_lt_zero v), fun v _ hv => ?_⟩ (fun j s hj hi => ?_) (fun s hi => ?_)
          · show w5 25 v = _
            rw [frm_cell x1 25 (fun _ => rfl)]; exact i4 v hv
          · obtain ⟨i, w6⟩ := s
            obtain ⟨j1, j2, j3, j4⟩ := hi
            simp only at j1 j2 j3 j4
            subst j1
            have e23 : w6 23 j = sSung h (sGo h c k) j := by rw [frm_cell j2 23 (fun _ => rfl)]; exact x3.2.2.2 j hj
            have e25 := j4 j (Nat.le_refl _) hj
            simp (disch := omega) only [B_M_psalm_66, ↓bi_eq, ↓bw_eq, gd_pos, br_pos, br_neg, br_T, br_F, gd_T, bp_some, bd_some, bv_some, bl_some, bx_inl, bx_inr, bn_none, bn_some, bt_inl, bt_inr, not_true_eq_false, not_false_eq_true, eq_self, Bool.false_eq_true, if_true, if_false, jn_clamp, jn_lt, jn_le, jn_inj, jn_add, jn_sub, jn_mul, jn_vp, jn_0a, jn_1a, jn_1b, jn_1s, jn_1m, jn_neg0, jn_le0, jn_0le, jn_0lt, jn_1le, jn_le1, jn_lt1, jn_1lt, jn_e0, jn_e1, jn_em, ↓qB_f, ↓qT_f, cl_0, cl_1, vp_0, vp_1, li_99, e23, e25, ret_some, LQ_inl]
            refine ⟨trivial, frm_wup j2 _ _ _ rfl, fun v hv => ?_, fun v hv hv2 => ?_⟩
            · rw [wup_s]
              by_cases e : v = j
              · rw [if_pos e, e]; rfl
              · rw [if_neg e]; exact j3 v (by omega)
            · rw [wup_s, if_neg (by omega)]; exact j4 v (by omega) hv2
          · obtain ⟨i, w6⟩ := s
            obtain ⟨j1, j2, j3, j4⟩ := hi
            simp only at j1 j2 j3 j4
            subst j1
            simp (disch := omega) only [B_M_psalm_66, ↓bi_eq, ↓bw_eq, gd_pos, br_pos, br_neg, br_T, br_F, gd_T, bp_some, bd_some, bv_some, bl_some, bx_inl, bx_inr, bn_none, bn_some, bt_inl, bt_inr, not_true_eq_false, not_false_eq_true, eq_self, Bool.false_eq_true, if_true, if_false, jn_clamp, jn_lt, jn_le, jn_inj, jn_add, jn_sub, jn_mul, jn_vp, jn_0a, jn_1a, jn_1b, jn_1s, jn_1m, jn_neg0, jn_le0, jn_0le, jn_0lt, jn_1le, jn_le1, jn_lt1, jn_1lt, jn_e0, jn_e1, jn_em, ↓qB_f, ↓qT_f, cl_0, cl_1, vp_0, vp_1, li_99, ret_some, LQ_inr]
            exact ⟨j2, j3⟩
        · obtain ⟨y1, y2⟩ := hy
          rw [ret_some, LQ_inl]
          exact ⟨rfl, frm_tr i2 (frm_tr (frm_up x1 rfl) (frm_up y1 rfl)), MSt_fr x2 y1 ⟨fun _ => rfl, fun _ => rfl, fun _ => rfl, fun _ => rfl, fun _ => rfl, fun _ => rfl, rfl, rfl, rfl⟩, y2⟩
      · obtain ⟨i, w4⟩ := s
        obtain ⟨i1, i2, i3, i4⟩ := hi
        simp only at i1 i2 i3 i4
        subst i1
        simp (disch := omega) only [B_M_psalm_55, ↓bi_eq, ↓bw_eq, gd_pos, br_pos, br_neg, br_T, br_F, gd_T, bp_some, bd_some, bv_some, bl_some, bx_inl, bx_inr, bn_none, bn_some, bt_inl, bt_inr, not_true_eq_false, not_false_eq_true, eq_self, Bool.false_eq_true, if_true, if_false, jn_clamp, jn_lt, jn_le, jn_inj, jn_add, jn_sub, jn_mul, jn_vp, jn_0a, jn_1a, jn_1b, jn_1s, jn_1m, jn_neg0, jn_le0, jn_0le, jn_0lt, jn_1le, jn_le1, jn_lt1, jn_1lt, jn_e0, jn_e1, jn_em, ↓qB_f, ↓qT_f, cl_0, cl_1, vp_0, vp_1, br_pos (Nat.le_refl n), ret_some, LQ_inr]
        exact ⟨i2, i4⟩
    · obtain ⟨y1, y2⟩ := hq
      have hrow : MRow (w4 24) h c := by rw [frm_cell y1 24 (fun _ => rfl)]; exact p2
      rw [ret_bv]
      refine ret_mono (m_close r1 e66 (frm_tr f3 (frm_up y1 rfl)) hrow ((y1 0 2 rfl).trans c3)) (fun w5 hx => ?_)
      obtain ⟨x1, x2, x3, x4⟩ := hx
      have e25 : ∀ v, v < 100 → w5 25 v = sPsm h c n v := fun v hv => by rw [frm_cell x4 25 (fun _ => rfl)]; exact y2 v hv
      rw [ret_bl]
      refine ret_mono (P := fun v => IsB (sPsm h c n) v) ?_ (fun v hv => ?_)
      · refine loop_inv (I := fun k s => s.2 = dn9 k ∧ IsBd (sPsm h c n) k s.1) 100 ⟨rfl, Or.inl ⟨rfl, fun u hu hu2 => absurd hu2 (by omega)⟩⟩ (fun k s hk hi => ?_) (fun s hi => ?_)
        · obtain ⟨b, i⟩ := s
          obtain ⟨i1, i2⟩ := hi
          simp only at i1 i2
          have i1 : i = jn (99 - k) := by rw [i1, dn9, if_pos (by omega)]
          subst i1
          have ek := e25 (99 - k) (by omega)
          by_cases h0 : sPsm h c n (99 - k) ≤ 0
          · simp (disch := omega) only [B_M_psalm_113, K_M_psalm_148, ↓bi_eq, gd_pos, jn_neg0, br_F, jn_vp, jn_clamp, ek, h0, br_T, dn9_s, ret_some, LQ_inl]
            exact ⟨trivial, IsBd_n hk i2 (Or.inr h0)⟩
          · have h0' := Int32.not_le.mp h0
            have i2' := i2
            rcases i2' with ⟨rfl, _⟩ | ⟨v, hv, hv2, rfl, _⟩
            · simp (disch := omega) only [B_M_psalm_113, K_M_psalm_146, K_M_psalm_148, ↓bi_eq, gd_pos, jn_neg0, br_F, jn_vp, jn_clamp, ek, h0, br_T, eq_self, dn9_s, ret_some, LQ_inl]
              exact ⟨trivial, IsBd_y hk i2 h0' (Or.inl rfl)⟩
            · have ev := e25 v hv2
              by_cases hl : sPsm h c n (99 - k) < sPsm h c n v
              · simp (disch := omega) only [B_M_psalm_113, K_M_psalm_146, K_M_psalm_148, ↓bi_eq, gd_pos, jn_neg0, jn_em, br_F, jn_vp, jn_clamp, ek, ev, h0, hl, br_T, eq_self, dn9_s, ret_some, LQ_inl]
                exact ⟨trivial, IsBd_n hk i2 (Or.inl ⟨v, rfl, hv2, hl⟩)⟩
              · simp (disch := omega) only [B_M_psalm_113, K_M_psalm_146, K_M_psalm_148, ↓bi_eq, gd_pos, jn_neg0, jn_em, br_F, jn_vp, jn_clamp, ek, ev, h0, hl, br_T, eq_self, dn9_s, ret_some, LQ_inl]
                exact ⟨trivial, IsBd_y hk i2 h0' (Or.inr ⟨v, rfl, hv2, Int32.not_lt.mp hl⟩)⟩
        · obtain ⟨b, i⟩ := s
          obtain ⟨i1, i2⟩ := hi
          simp only at i1 i2
          have i1 : i = -1 := i1
          subst i1
          simp only [B_M_psalm_113, br_pos (by decide : (-1 : Int32) < 0), ret_some, LQ_inr]
          exact IsBd_e i2
      · rw [ret_some]
        exact ⟨hv, x1, x2, x3⟩
theorem q_psalm {w : Wld} {h : Hs} (r : RelH w h) (a1 : Int32) : BothQ cdI w h (F_C_psalm w a1) (fun w1 => F_M_psalm w1 a1) := by
  have hg := r.2.2.2.1.1
  rcases rng_cases a1 0 60 (by omega) (by omega) with ⟨n, l1, h1, rfl⟩ | ⟨n1, n2⟩
  rotate_left
  · refine q_bad 1 1 ?_ (fun w1 r1 => ?_) rfl
    · rw [F_C_psalm, jn_00, li_60, t_need_n w n1, bn_some]
    · have n2 : ¬ ((0 : Int32) ≤ a1 ∧ a1 ≤ 60) := n2
      simp only [F_M_psalm, bw_eq, t_isIn, n2, if_false, bp_some, eq_self, not_true_eq_false, br_F, t_fail, bd_some]
  obtain ⟨q, e, ⟨v, q1, q2⟩, q3⟩ := c_psalm r h1
  refine ⟨.inr (some v), ⟨q, e, q1, q3⟩, fun w1 r1 e66 => ?_⟩
  refine ret_mono (m_psalm r1 e66 hg h1) (fun p hp => ?_)
  exact ⟨⟨hp.2.1, IsB_u hp.1 q2⟩, hp.2.2⟩
