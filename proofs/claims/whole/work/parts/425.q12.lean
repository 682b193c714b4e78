/-! ===== questions: listen ===== -/
theorem ft_add (P : Nat → Bool) (a b : Nat) : (ftS P a).1 ≤ (ftS P (a + b)).1 ∧ (ftS P (a + b)).1 ≤ (ftS P a).1 + b := by
  induction b with
  | zero => exact ⟨Nat.le_refl _, Nat.le_refl _⟩
  | succ b ih =>
    rw [← Nat.add_assoc, ftS_s]
    split
    · simp only; omega
    · omega
theorem ft_skip (P : Nat → Bool) {a b x : Nat} (hx : x < b) (hP : ¬ P (a + x) = true) : (ftS P (a + b)).1 + 1 ≤ (ftS P a).1 + b := by
  have h1 := (ft_add P a x).2
  have h2 := ftS_n P hP
  have h3 := (ft_add P (a + x + 1) (b - x - 1)).2
  rw [show a + x + 1 + (b - x - 1) = a + b by omega, h2] at h3
  omega
theorem ft_nine (P : Nat → Bool) {M : Nat} (hP : ∀ m, m < M → ∃ x, x < 10 ∧ ¬ P (10 * m + x) = true) : ∀ m, m ≤ M → (ftS P (10 * m)).1 ≤ 9 * m := by
  intro m
  induction m with
  | zero => intro _; exact Nat.le_refl _
  | succ m ih =>
    intro hm
    obtain ⟨x, hx, hn⟩ := hP m (by omega)
    have h1 := ft_skip P hx hn
    have h2 := ih (by omega)
    rw [show 10 * (m + 1) = 10 * m + 10 by omega]
    omega
theorem ft_room (P : Nat → Bool) {M : Nat} (hM : M ≤ 8) (hP : ∀ m, m < M → ∃ x, x < 10 ∧ ¬ P (10 * m + x) = true) {m v : Nat} (hm : m < M) (hv : v < 10) (h : P (10 * m + v) = true) : (ftS P (10 * m + v)).1 ≤ 71 := by
  have h1 := ftS_y P h
  have h2 := (ft_add P (10 * m + v + 1) (10 - v - 1)).1
  have h3 := ft_nine P hP (m + 1) (by omega)
  rw [show 10 * m + v + 1 + (10 - v - 1) = 10 * (m + 1) by omega] at h2
  omega
theorem ft_lt (P : Nat → Bool) (T : Nat) : ∀ i, i < (ftS P T).1 → (ftS P T).2 i < T := by
  induction T with
  | zero => intro i hi; exact absurd hi (Nat.not_lt_zero i)
  | succ T ih =>
    intro i hi
    by_cases h : P T = true
    · rw [ftS_y P h] at hi
      rw [ftS_yf P h]
      split
      · omega
      · have := ih i (by omega); omega
    · rw [ftS_n P h] at hi ⊢
      have := ih i hi; omega
theorem ft_old (P : Nat → Bool) {T i : Nat} (hi : i < (ftS P T).1) : (ftS P (T + 1)).2 i = (ftS P T).2 i := by
  by_cases h : P T = true
  · rw [ftS_yf P h, if_neg (by omega)]
  · rw [ftS_n P h]
theorem ft_new (P : Nat → Bool) {T : Nat} (h : P T = true) : (ftS P (T + 1)).2 (ftS P T).1 = T := by
  rw [ftS_yf P h, if_pos rfl]
theorem fit_hole {h : Hs} {c : Sta} (g : GdS h c) (d : Hd) : ∀ m, m < hsM h → ∃ x, x < 10 ∧ ¬ fitP d h c (10 * m + x) = true := by
  intro m hm
  obtain ⟨x, hx, ex⟩ := g.2.2.2.1 m hm
  refine ⟨x, hx, ?_⟩
  rw [fitP_e d h c hx, ex]
  simp
def fSt (c : Sta) (t : Nat) : Sta := upd c (8 + t / 10) (jn (t % 10))
def sgS (h : Hs) (c : Sta) (t n : Nat) : Int32 := sMat h (sGo h (fSt c t) n)
theorem fSt_e (c : Sta) {m v : Nat} (hv : v < 10) : fSt c (10 * m + v) = upd c (8 + m) (jn v) := by
  unfold fSt
  rw [show (10 * m + v) / 10 = m by omega, show (10 * m + v) % 10 = v by omega]
theorem fSt_good {h : Hs} (hh : GdH h) {c : Sta} (g : GdS h c) {t : Nat} (ht : t < 80) : GdS h (fSt c t) := GdS_fish hh g (by omega) (by omega)
theorem c_note {w : Wld} {h : Hs} (hc : CHs w h) (hh : GdH h) (hg : GdS h (w 66)) {m v p : Nat} (hm : m < hsM h) (hv : v < 10) (hp : p ≤ 71) : Ret (F_C_noteSongs w (jn m) (jn v) (jn (p * 20))) (fun w' => Frm [61, 62, 63, 85, 89] [(55, 3)] w w' ∧ (∀ n, n < 20 → w' 89 (p * 20 + n) = sgS h (w 66) (10 * m + v) n) ∧ ∀ i, i < p * 20 → w' 89 i = w 89 i) := by
  have hM := hh.2.1
  have gv : GdS h (upd (w 66) (8 + m) (jn v)) := GdS_fish hh hg (by omega) hv
  simp (disch := omega) only [F_C_noteSongs, ↓bi_eq, ↓bw_eq, gd_pos, br_pos, br_neg, br_T, br_F, gd_T, bq_some, bd_some, bv_some, bl_some, bx_inl, bx_inr, bn_none, bn_some, bt_inl, bt_inr, not_true_eq_false, not_false_eq_true, eq_self, Bool.false_eq_true, if_true, if_false, jn_clamp, jn_lt, jn_le, jn_inj, jn_add, jn_sub, jn_mul, jn_vp, jn_0a, jn_1a, jn_1b, jn_1s, jn_1m, jn_neg0, jn_le0, jn_0le, jn_0lt, jn_1le, jn_le1, jn_lt1, jn_1lt, jn_e0, jn_e1, jn_em, ↓qB_f, ↓qT_f, cl_0, cl_1, vp_0, vp_1, li_8, ret_bv, ret_bl]
  refine ret_mono (t_begin w) (fun w1 hq => ?_)
  obtain ⟨q1, q2⟩ := hq
  have f2 : Frm [61, 62, 63, 85, 89] [(55, 3)] w (wup w1 85 (8 + m) (jn v)) := frm_wup (frm_up q1 rfl) _ _ _ rfl
  have e2 : Eq53 ((wup w1 85 (8 + m) (jn v)) 85) (upd (w 66) (8 + m) (jn v)) := by rw [wup_same]; exact Eq53_upd q2 _ _
  have e0 : ∀ i, i < p * 20 → (wup w1 85 (8 + m) (jn v)) 89 i = w 89 i := fun i hi => by rw [wup_o _ _ _ (by decide)]; exact q1 89 i rfl
  have e9 : ∀ n, sgS h (w 66) (10 * m + v) n = sMat h (sGo h (upd (w 66) (8 + m) (jn v)) n) := fun n => by unfold sgS; rw [fSt_e _ hv]
  simp only [e9]
  generalize upd (w 66) (8 + m) (jn v) = c at gv e2 ⊢
  generalize wup w1 85 (8 + m) (jn v) = w2 at f2 e2 e0 ⊢
  refine ret_mono (P := fun w' => Frm [61, 62, 63, 85, 89] [(55, 3)] w w' ∧ (∀ n, n < 20 → w' 89 (p * 20 + n) = sMat h (sGo h c n)) ∧ ∀ i, i < p * 20 → w' 89 i = w 89 i) ?_ (fun w' hq => by rw [ret_some]; exact hq)
  refine loop_inv (I := fun n s => s.1 = jn n ∧ Frm [61, 62, 63, 85, 89] [(55, 3)] w s.2 ∧ Eq53 (s.2 85) (sGo h c n) ∧ (∀ n', n' < n → s.2 89 (p * 20 + n') = sMat h (sGo h c n')) ∧ ∀ i, i < p * 20 → s.2 89 i = w 89 i) 20 ⟨rfl, f2, e2, fun n hn => absurd hn (Nat.not_lt_zero n), fun i hi => e0 i hi⟩ (fun n s hn hi => ?_) (fun s hi => ?_)
  · obtain ⟨i, w3⟩ := s
    obtain ⟨i1, i2, i3, i4, i5⟩ := hi
    simp only at i1 i2 i3 i4 i5
    subst i1
    simp (disch := omega) only [B_C_noteSongs_20, ↓bi_eq, ↓bw_eq, gd_pos, br_pos, br_neg, br_T, br_F, gd_T, bq_some, bd_some, bv_some, bl_some, bx_inl, bx_inr, bn_none, bn_some, bt_inl, bt_inr, not_true_eq_false, not_false_eq_true, eq_self, Bool.false_eq_true, if_true, if_false, jn_clamp, jn_lt, jn_le, jn_inj, jn_add, jn_sub, jn_mul, jn_vp, jn_0a, jn_1a, jn_1b, jn_1s, jn_1m, jn_neg0, jn_le0, jn_0le, jn_0lt, jn_1le, jn_le1, jn_lt1, jn_1lt, jn_e0, jn_e1, jn_em, ↓qB_f, ↓qT_f, cl_0, cl_1, vp_0, vp_1, li_20, li_1440, ret_bv]
    refine ret_mono (t_passT (CHs_fr hc i2 ⟨rfl, rfl, rfl, rfl, fun _ => rfl, fun _ => rfl, rfl, fun _ => rfl⟩) hh (sGo_good hh gv n) i3) (fun w4 hq => ?_)
    obtain ⟨p1, p2, p3⟩ := hq
    have f4 : Frm [61, 62, 63, 85, 89] [(55, 3)] w w4 := frm_tr i2 (frm_up p1 rfl)
    have e89 : w4 89 = w3 89 := frm_cell p1 89 (fun _ => rfl)
    rw [t_matins (CHs_fr hc f4 ⟨rfl, rfl, rfl, rfl, fun _ => rfl, fun _ => rfl, rfl, fun _ => rfl⟩) hh (sGo_good hh gv n) p3, bp_some]
    simp (disch := omega) only [↓bi_eq, ↓bw_eq, gd_pos, br_pos, br_neg, br_T, br_F, gd_T, bq_some, bd_some, bv_some, bl_some, bx_inl, bx_inr, bn_none, bn_some, bt_inl, bt_inr, not_true_eq_false, not_false_eq_true, eq_self, Bool.false_eq_true, if_true, if_false, jn_clamp, jn_lt, jn_le, jn_inj, jn_add, jn_sub, jn_mul, jn_vp, jn_0a, jn_1a, jn_1b, jn_1s, jn_1m, jn_neg0, jn_le0, jn_0le, jn_0lt, jn_1le, jn_le1, jn_lt1, jn_1lt, jn_e0, jn_e1, jn_em, ↓qB_f, ↓qT_f, cl_0, cl_1, vp_0, vp_1, ret_some, LQ_inl]
    refine ⟨trivial, frm_wup f4 _ _ _ rfl, ?_, fun n' hn' => ?_, fun i hi => ?_⟩
    · rw [wup_o _ _ _ (by decide)]; exact p2
    · rw [wup_s]
      by_cases e : n' = n
      · rw [if_pos (by omega), e]
      · rw [if_neg (by omega), e89]; exact i4 n' (by omega)
    · rw [wup_s2 _ _ _ (by omega), e89]; exact i5 i hi
  · obtain ⟨i, w3⟩ := s
    obtain ⟨i1, i2, i3, i4, i5⟩ := hi
    simp only at i1 i2 i3 i4 i5
    subst i1
    simp (disch := omega) only [B_C_noteSongs_20, ↓bi_eq, ↓bw_eq, gd_pos, br_pos, br_neg, br_T, br_F, gd_T, bq_some, bd_some, bv_some, bl_some, bx_inl, bx_inr, bn_none, bn_some, bt_inl, bt_inr, not_true_eq_false, not_false_eq_true, eq_self, Bool.false_eq_true, if_true, if_false, jn_clamp, jn_lt, jn_le, jn_inj, jn_add, jn_sub, jn_mul, jn_vp, jn_0a, jn_1a, jn_1b, jn_1s, jn_1m, jn_neg0, jn_le0, jn_0le, jn_0lt, jn_1le, jn_le1, jn_lt1, jn_1lt, jn_e0, jn_e1, jn_em, ↓qB_f, ↓qT_f, cl_0, cl_1, vp_0, vp_1, li_20, br_pos (Nat.le_refl 20), ret_some, LQ_inr]
    exact ⟨i2, i4, i5⟩
