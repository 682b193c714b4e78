/-! ===== questions: listen, the rest ===== -/
/-- what the class has of the songs of those that fit -/
def CSg (w : Wld) (h : Hs) (c : Sta) (F : Nat × (Nat → Nat)) : Prop := ∀ i n, i < F.1 → n < 20 → w 89 (i * 20 + n) = sgS h c (F.2 i) n
theorem CSg_n {w w' : Wld} {h : Hs} {c : Sta} {P : Nat → Bool} {T : Nat} (s : CSg w h c (ftS P T)) (e : w' 89 = w 89) (hn : ¬ P T = true) : CSg w' h c (ftS P (T + 1)) := by
  unfold CSg at s ⊢
  rw [ftS_n P hn, e]
  exact s
theorem c_songs {w : Wld} {h : Hs} {d : Hd} (hc : CHs w h) (hh : GdH h) (hg : GdS h (w 66)) (hd : GdD d) (hr : CHd w d) (a1 : Int32) : Ret (loop (B_C_listen_9 a1) (0, 0, w)) (fun q => q.1 = jn (ftS (fitP d h (w 66)) (10 * hsM h)).1 ∧ Frm [61, 62, 63, 85, 89] [(55, 3)] w q.2 ∧ CSg q.2 h (w 66) (ftS (fitP d h (w 66)) (10 * hsM h))) := by
  have hM := hh.2.1
  have hole := fit_hole hg d
  refine loop_inv (I := fun m s => s.1 = jn (ftS (fitP d h (w 66)) (10 * m)).1 ∧ s.2.1 = jn m ∧ Frm [61, 62, 63, 85, 89] [(55, 3)] w s.2.2 ∧ CSg s.2.2 h (w 66) (ftS (fitP d h (w 66)) (10 * m))) (hsM h) ⟨rfl, rfl, frm_rf, fun i n hi => absurd hi (Nat.not_lt_zero i)⟩ (fun m s hm hi => ?_) (fun s hi => ?_)
  · obtain ⟨ma, i, w1⟩ := s
    obtain ⟨i0, i2, i3, i9⟩ := hi
    simp only at i0 i2 i3 i9
    subst i0 i2
    have e1 : w1 56 1 = jn (hsM h) := (i3 56 1 rfl).trans hc.2.1
    simp (disch := omega) only [B_C_listen_9, ↓bi_eq, ↓bw_eq, gd_pos, br_pos, br_neg, br_T, br_F, gd_T, bq_some, bd_some, bv_some, bl_some, bx_inl, bx_inr, bn_none, bn_some, bt_inl, bt_inr, not_true_eq_false, not_false_eq_true, eq_self, Bool.false_eq_true, if_true, if_false, jn_clamp, jn_lt, jn_le, jn_inj, jn_add, jn_sub, jn_mul, jn_vp, jn_0a, jn_1a, jn_1b, jn_1s, jn_1m, jn_neg0, jn_le0, jn_0le, jn_0lt, jn_1le, jn_le1, jn_lt1, jn_1lt, jn_e0, jn_e1, jn_em, ↓qB_f, ↓qT_f, cl_0, cl_1, vp_0, vp_1, e1, ret_bl]
    refine ret_mono (P := fun q => q.1 = jn (ftS (fitP d h (w 66)) (10 * m + 10)).1 ∧ Frm [61, 62, 63, 85, 89] [(55, 3)] w q.2 ∧ CSg q.2 h (w 66) (ftS (fitP d h (w 66)) (10 * m + 10))) ?_ (fun q hq => ?_)
    · refine loop_inv (I := fun v s => s.1 = jn (ftS (fitP d h (w 66)) (10 * m + v)).1 ∧ s.2.1 = jn v ∧ Frm [61, 62, 63, 85, 89] [(55, 3)] w s.2.2 ∧ CSg s.2.2 h (w 66) (ftS (fitP d h (w 66)) (10 * m + v))) 10 ⟨rfl, rfl, i3, i9⟩ (fun v s hv hi => ?_) (fun s hi => ?_)
      · obtain ⟨ma, i, w2⟩ := s
        obtain ⟨i0, i2, i4, i5⟩ := hi
        simp only at i0 i2 i4 i5
        subst i0 i2
        have e66 : w2 66 = w 66 := frm_cell i4 66 (fun _ => rfl)
        have hcl := ftS_le (fitP d h (w 66)) (10 * m + v)
        rw [B_C_listen_23, li_9, br_neg (by rw [jn_lt (by omega) (by omega)]; omega), ret_bd]
        refine ret_mono (c_could (CHs_fr hc i4 ⟨rfl, rfl, rfl, rfl, fun _ => rfl, fun _ => rfl, rfl, fun _ => rfl⟩) hh (by rw [e66]; exact hg) hd (CHd_fr hr i4 ⟨rfl, fun _ => rfl, fun _ => rfl, fun _ => rfl⟩) hm hv) (fun q hq => ?_)
        obtain ⟨x, w3⟩ := q
        obtain ⟨p1, p2⟩ := hq
        simp only at p1 p2
        rw [e66] at p1
        subst p1
        have f3 : Frm [61, 62, 63, 85, 89] [(55, 3)] w w3 := frm_tr i4 (frm_up p2 rfl)
        have e89 : w3 89 = w2 89 := frm_cell p2 89 (fun _ => rfl)
        by_cases hz : fitP d h (w 66) (10 * m + v) = true
        · have h71 := ft_room (fitP d h (w 66)) hM hole hm hv hz
          have e66' : w3 66 = w 66 := frm_cell f3 66 (fun _ => rfl)
          simp (disch := omega) only [↓bi_eq, ↓bw_eq, gd_pos, br_pos, br_neg, br_T, br_F, gd_T, bq_some, bd_some, bv_some, bl_some, bx_inl, bx_inr, bn_none, bn_some, bt_inl, bt_inr, not_true_eq_false, not_false_eq_true, eq_self, Bool.false_eq_true, if_true, if_false, jn_clamp, jn_lt, jn_le, jn_inj, jn_add, jn_sub, jn_mul, jn_vp, jn_0a, jn_1a, jn_1b, jn_1s, jn_1m, jn_neg0, jn_le0, jn_0le, jn_0lt, jn_1le, jn_le1, jn_lt1, jn_1lt, jn_e0, jn_e1, jn_em, ↓qB_f, ↓qT_f, cl_0, cl_1, vp_0, vp_1, li_20, hz, (by decide : ((1 : Int32) = 0) = False), ret_bv]
          refine ret_mono (c_note (CHs_fr hc f3 ⟨rfl, rfl, rfl, rfl, fun _ => rfl, fun _ => rfl, rfl, fun _ => rfl⟩) hh (by rw [e66']; exact hg) hm hv h71) (fun w4 hq => ?_)
          obtain ⟨y1, y2, y3⟩ := hq
          rw [e66'] at y2
          simp (disch := omega) only [K_C_listen_54, ↓bi_eq, ↓bw_eq, gd_pos, br_pos, br_neg, br_T, br_F, gd_T, bq_some, bd_some, bv_some, bl_some, bx_inl, bx_inr, bn_none, bn_some, bt_inl, bt_inr, not_true_eq_false, not_false_eq_true, eq_self, Bool.false_eq_true, if_true, if_false, jn_clamp, jn_lt, jn_le, jn_inj, jn_add, jn_sub, jn_mul, jn_vp, jn_0a, jn_1a, jn_1b, jn_1s, jn_1m, jn_neg0, jn_le0, jn_0le, jn_0lt, jn_1le, jn_le1, jn_lt1, jn_1lt, jn_e0, jn_e1, jn_em, ↓qB_f, ↓qT_f, cl_0, cl_1, vp_0, vp_1, ret_some, LQ_inl]
          refine ⟨?_, trivial, frm_tr f3 y1, fun i n hi hn => ?_⟩
          · rw [← Nat.add_assoc, ftS_y _ hz]
          · rw [← Nat.add_assoc] at hi ⊢
            rw [ftS_y _ hz] at hi
            by_cases h9 : i = (ftS (fitP d h (w 66)) (10 * m + v)).1
            · rw [h9, ft_new _ hz]; exact y2 n hn
            · rw [ft_old _ (by omega), y3 _ (by omega), e89]; exact i5 i n (by omega) hn
        · simp (disch := omega) only [K_C_listen_54, ↓bi_eq, ↓bw_eq, gd_pos, br_pos, br_neg, br_T, br_F, gd_T, bq_some, bd_some, bv_some, bl_some, bx_inl, bx_inr, bn_none, bn_some, bt_inl, bt_inr, not_true_eq_false, not_false_eq_true, eq_self, Bool.false_eq_true, if_true, if_false, jn_clamp, jn_lt, jn_le, jn_inj, jn_add, jn_sub, jn_mul, jn_vp, jn_0a, jn_1a, jn_1b, jn_1s, jn_1m, jn_neg0, jn_le0, jn_0le, jn_0lt, jn_1le, jn_le1, jn_lt1, jn_1lt, jn_e0, jn_e1, jn_em, ↓qB_f, ↓qT_f, cl_0, cl_1, vp_0, vp_1, hz, ret_some, LQ_inl]
          refine ⟨?_, trivial, f3, CSg_n i5 e89 hz⟩
          rw [← Nat.add_assoc, ftS_n _ hz]
      · obtain ⟨ma, i, w2⟩ := s
        obtain ⟨i0, i2, i4, i5⟩ := hi
        simp only at i0 i2 i4 i5
        subst i0 i2
        simp (disch := omega) only [B_C_listen_23, ↓bi_eq, ↓bw_eq, gd_pos, br_pos, br_neg, br_T, br_F, gd_T, bq_some, bd_some, bv_some, bl_some, bx_inl, bx_inr, bn_none, bn_some, bt_inl, bt_inr, not_true_eq_false, not_false_eq_true, eq_self, Bool.false_eq_true, if_true, if_false, jn_clamp, jn_lt, jn_le, jn_inj, jn_add, jn_sub, jn_mul, jn_vp, jn_0a, jn_1a, jn_1b, jn_1s, jn_1m, jn_neg0, jn_le0, jn_0le, jn_0lt, jn_1le, jn_le1, jn_lt1, jn_1lt, jn_e0, jn_e1, jn_em, ↓qB_f, ↓qT_f, cl_0, cl_1, vp_0, vp_1, li_9, ret_some, LQ_inr]
        exact ⟨trivial, i4, i5⟩
    · obtain ⟨x0, x1, x2⟩ := hq
      rw [ret_some, LQ_inl]
      exact ⟨x0, rfl, x1, x2⟩
  · obtain ⟨ma, i, w1⟩ := s
    obtain ⟨i0, i2, i3, i9⟩ := hi
    simp only at i0 i2 i3 i9
    subst i0 i2
    have e1 : w1 56 1 = jn (hsM h) := (i3 56 1 rfl).trans hc.2.1
    simp (disch := omega) only [B_C_listen_9, ↓bi_eq, ↓bw_eq, gd_pos, br_pos, br_neg, br_T, br_F, gd_T, bq_some, bd_some, bv_some, bl_some, bx_inl, bx_inr, bn_none, bn_some, bt_inl, bt_inr, not_true_eq_false, not_false_eq_true, eq_self, Bool.false_eq_true, if_true, if_false, jn_clamp, jn_lt, jn_le, jn_inj, jn_add, jn_sub, jn_mul, jn_vp, jn_0a, jn_1a, jn_1b, jn_1s, jn_1m, jn_neg0, jn_le0, jn_0le, jn_0lt, jn_1le, jn_le1, jn_lt1, jn_1lt, jn_e0, jn_e1, jn_em, ↓qB_f, ↓qT_f, cl_0, cl_1, vp_0, vp_1, e1, br_pos (Nat.le_refl (hsM h)), ret_some, LQ_inr]
    exact ⟨trivial, i3, i9⟩
/-! how many are unlike -/
def nwS (g : Nat → Int32) (i : Nat) : Nat → Bool := fl (fun k a => a && decide (g k ≠ g i)) true
theorem nwS_s (g : Nat → Int32) (i k : Nat) : nwS g i (k + 1) = (nwS g i k && decide (g k ≠ g i)) := rfl
theorem nwS_f {g : Nat → Int32} {i k : Nat} (e : nwS g i k = false) : ∀ j, k ≤ j → nwS g i j = false := by
  intro j
  induction j with
  | zero => intro hj; rw [show (0 : Nat) = k by omega]; exact e
  | succ j ih =>
    intro hj
    by_cases hi : k = j + 1
    · rw [← hi]; exact e
    · rw [nwS_s, ih (by omega)]; rfl
def unS (g : Nat → Int32) : Nat → Int32 := fl (fun i a => a + (if nwS g i i = true then 1 else 0)) 0
theorem unS_s (g : Nat → Int32) (i : Nat) : unS g (i + 1) = unS g i + (if nwS g i i = true then 1 else 0) := rfl
theorem c_unl {w : Wld} {g : Nat → Int32} {n many : Nat} (hm : many ≤ 72) (hn : n < 20) (e : ∀ i, i < many → w 89 (i * 20 + n) = g i) : F_C_unlikeSongs w (jn (n + 1)) (jn many) = some (unS g many) := by
  have key : loop (B_C_unlikeSongs_5 (jn (n + 1)) (jn many) w) (0, 0) = some (unS g many) := by
    refine loop_for (V := fun i => (unS g i, jn i)) many (fun i hi => ?_) ?_
    · have ei : w 89 (i * 20 + (n + 1) - 1) = g i := by rw [show i * 20 + (n + 1) - 1 = i * 20 + n by omega]; exact e i hi
      have inn : loop (B_C_unlikeSongs_17 (jn (n + 1)) (jn many) (unS g i) (jn i) w) (1, 0) = some (if nwS g i i = true then 1 else 0) := by
        apply ret_of
        refine loop_inv (I := fun k s => s.2 = jn k ∧ s.1 = (if nwS g i k = true then 1 else 0)) i ⟨rfl, rfl⟩ (fun k s hk hs => ?_) (fun s hs => ?_)
        · obtain ⟨b, j⟩ := s
          obtain ⟨s1, s2⟩ := hs
          simp only at s1 s2
          subst s1 s2
          have ek : w 89 (k * 20 + (n + 1) - 1) = g k := by rw [show k * 20 + (n + 1) - 1 = k * 20 + n by omega]; exact e k (by omega)
          by_cases hz : nwS g i k = true
          · by_cases hq : g k = g i
            · simp (disch := omega) only [B_C_unlikeSongs_17, K_C_unlikeSongs_65, ↓bi_eq, ↓bw_eq, gd_pos, br_pos, br_neg, br_T, br_F, gd_T, bq_some, bd_some, bv_some, bl_some, bx_inl, bx_inr, bn_none, bn_some, bt_inl, bt_inr, not_true_eq_false, not_false_eq_true, eq_self, Bool.false_eq_true, if_true, if_false, jn_clamp, jn_lt, jn_le, jn_inj, jn_add, jn_sub, jn_mul, jn_vp, jn_0a, jn_1a, jn_1b, jn_1s, jn_1m, jn_neg0, jn_le0, jn_0le, jn_0lt, jn_1le, jn_le1, jn_lt1, jn_1lt, jn_e0, jn_e1, jn_em, ↓qB_f, ↓qT_f, cl_0, cl_1, vp_0, vp_1, li_20, hz, ek, ei, hq, (by decide : ((1 : Int32) = 0) = False), ret_some, LQ_inl]
              refine ⟨trivial, ?_⟩
              rw [nwS_s]; simp [hq]
            · simp (disch := omega) only [B_C_unlikeSongs_17, K_C_unlikeSongs_65, ↓bi_eq, ↓bw_eq, gd_pos, br_pos, br_neg, br_T, br_F, gd_T, bq_some, bd_some, bv_some, bl_some, bx_inl, bx_inr, bn_none, bn_some, bt_inl, bt_inr, not_true_eq_false, not_false_eq_true, eq_self, Bool.false_eq_true, if_true, if_false, jn_clamp, jn_lt, jn_le, jn_inj, jn_add, jn_sub, jn_mul, jn_vp, jn_0a, jn_1a, jn_1b, jn_1s, jn_1m, jn_neg0, jn_le0, jn_0le, jn_0lt, jn_1le, jn_le1, jn_lt1, jn_1lt, jn_e0, jn_e1, jn_em, ↓qB_f, ↓qT_f, cl_0, cl_1, vp_0, vp_1, li_20, hz, ek, ei, hq, (by decide : ((1 : Int32) = 0) = False), ret_some, LQ_inl]
              refine ⟨trivial, ?_⟩
              rw [nwS_s, hz]; simp [hq]
          · have hf := nwS_f (Bool.eq_false_iff.mpr hz) i (by omega)
            simp (disch := omega) only [B_C_unlikeSongs_17, ↓bi_eq, ↓bw_eq, gd_pos, br_pos, br_neg, br_T, br_F, gd_T, bq_some, bd_some, bv_some, bl_some, bx_inl, bx_inr, bn_none, bn_some, bt_inl, bt_inr, not_true_eq_false, not_false_eq_true, eq_self, Bool.false_eq_true, if_true, if_false, jn_clamp, jn_lt, jn_le, jn_inj, jn_add, jn_sub, jn_mul, jn_vp, jn_0a, jn_1a, jn_1b, jn_1s, jn_1m, jn_neg0, jn_le0, jn_0le, jn_0lt, jn_1le, jn_le1, jn_lt1, jn_1lt, jn_e0, jn_e1, jn_em, ↓qB_f, ↓qT_f, cl_0, cl_1, vp_0, vp_1, Bool.eq_false_iff.mpr hz, ret_some, LQ_inr, hf]
        · obtain ⟨b, j⟩ := s
          obtain ⟨s1, s2⟩ := hs
          simp only at s1 s2
          subst s1 s2
          simp (disch := omega) only [B_C_unlikeSongs_17, ↓bi_eq, ↓bw_eq, gd_pos, br_pos, br_neg, br_T, br_F, gd_T, bq_some, bd_some, bv_some, bl_some, bx_inl, bx_inr, bn_none, bn_some, bt_inl, bt_inr, not_true_eq_false, not_false_eq_true, eq_self, Bool.false_eq_true, if_true, if_false, jn_clamp, jn_lt, jn_le, jn_inj, jn_add, jn_sub, jn_mul, jn_vp, jn_0a, jn_1a, jn_1b, jn_1s, jn_1m, jn_neg0, jn_le0, jn_0le, jn_0lt, jn_1le, jn_le1, jn_lt1, jn_1lt, jn_e0, jn_e1, jn_em, ↓qB_f, ↓qT_f, cl_0, cl_1, vp_0, vp_1, br_pos (Nat.le_refl i), ret_some, LQ_inr]
      rw [unS_s]
      by_cases hz : nwS g i i = true
      · simp (disch := omega) only [B_C_unlikeSongs_5, K_C_unlikeSongs_84, ↓bi_eq, ↓bw_eq, gd_pos, br_pos, br_neg, br_T, br_F, gd_T, bq_some, bd_some, bv_some, bl_some, bx_inl, bx_inr, bn_none, bn_some, bt_inl, bt_inr, not_true_eq_false, not_false_eq_true, eq_self, Bool.false_eq_true, if_true, if_false, jn_clamp, jn_lt, jn_le, jn_inj, jn_add, jn_sub, jn_mul, jn_vp, jn_0a, jn_1a, jn_1b, jn_1s, jn_1m, jn_neg0, jn_le0, jn_0le, jn_0lt, jn_1le, jn_le1, jn_lt1, jn_1lt, jn_e0, jn_e1, jn_em, ↓qB_f, ↓qT_f, cl_0, cl_1, vp_0, vp_1, inn, hz, (by decide : ((1 : Int32) = 0) = False)]
      · simp (disch := omega) only [B_C_unlikeSongs_5, K_C_unlikeSongs_84, ↓bi_eq, ↓bw_eq, gd_pos, br_pos, br_neg, br_T, br_F, gd_T, bq_some, bd_some, bv_some, bl_some, bx_inl, bx_inr, bn_none, bn_some, bt_inl, bt_inr, not_true_eq_false, not_false_eq_true, eq_self, Bool.false_eq_true, if_true, if_false, jn_clamp, jn_lt, jn_le, jn_inj, jn_add, jn_sub, jn_mul, jn_vp, jn_0a, jn_1a, jn_1b, jn_1s, jn_1m, jn_neg0, jn_le0, jn_0le, jn_0lt, jn_1le, jn_le1, jn_lt1, jn_1lt, jn_e0, jn_e1, jn_em, ↓qB_f, ↓qT_f, cl_0, cl_1, vp_0, vp_1, inn, hz]
    · simp (disch := omega) only [B_C_unlikeSongs_5, ↓bi_eq, ↓bw_eq, gd_pos, br_pos, br_neg, br_T, br_F, gd_T, bq_some, bd_some, bv_some, bl_some, bx_inl, bx_inr, bn_none, bn_some, bt_inl, bt_inr, not_true_eq_false, not_false_eq_true, eq_self, Bool.false_eq_true, if_true, if_false, jn_clamp, jn_lt, jn_le, jn_inj, jn_add, jn_sub, jn_mul, jn_vp, jn_0a, jn_1a, jn_1b, jn_1s, jn_1m, jn_neg0, jn_le0, jn_0le, jn_0lt, jn_1le, jn_le1, jn_lt1, jn_1lt, jn_e0, jn_e1, jn_em, ↓qB_f, ↓qT_f, cl_0, cl_1, vp_0, vp_1, br_pos (Nat.le_refl many)]
  rw [F_C_unlikeSongs, key]; rfl
theorem m_unl {w : Wld} {g : Nat → Int32} {n many : Nat} (hm : many ≤ 80) (hn : n < 20) (em : w 0 52 = jn many) (e : ∀ i, i < many → w 33 (20 * i + n) = g i) : F_M_unlike w (jn n) = some (unS g many) := by
  have key : loop (B_M_unlike_4 (jn n) w) (0, 0) = some (unS g many) := by
    refine loop_for (V := fun i => (unS g i, jn i)) many (fun i hi => ?_) ?_
    · have ei := e i hi
      have inn : loop (B_M_unlike_18 (jn n) (unS g i) (jn i) w) (1, 0) = some (if nwS g i i = true then 1 else 0) := by
        apply ret_of
        refine loop_inv (I := fun k s => s.2 = jn k ∧ s.1 = (if nwS g i k = true then 1 else 0)) i ⟨rfl, rfl⟩ (fun k s hk hs => ?_) (fun s hs => ?_)
        · obtain ⟨b, j⟩ := s
          obtain ⟨s1, s2⟩ := hs
          simp only at s1 s2
          subst s1 s2
          have ek := e k (by omega)
          by_cases hz : nwS g i k = true
          · by_cases hq : g k = g i
            · simp (disch := omega) only [B_M_unlike_18, K_M_unlike_60, ↓bi_eq, ↓bw_eq, gd_pos, br_pos, br_neg, br_T, br_F, gd_T, bq_some, bd_some, bv_some, bl_some, bx_inl, bx_inr, bn_none, bn_some, bt_inl, bt_inr, not_true_eq_false, not_false_eq_true, eq_self, Bool.false_eq_true, if_true, if_false, jn_clamp, jn_lt, jn_le, jn_inj, jn_add, jn_sub, jn_mul, jn_vp, jn_0a, jn_1a, jn_1b, jn_1s, jn_1m, jn_neg0, jn_le0, jn_0le, jn_0lt, jn_1le, jn_le1, jn_lt1, jn_1lt, jn_e0, jn_e1, jn_em, ↓qB_f, ↓qT_f, cl_0, cl_1, vp_0, vp_1, li_20, hz, ek, ei, hq, (by decide : ((1 : Int32) = 0) = False), ret_some, LQ_inl]
              refine ⟨trivial, ?_⟩
              rw [nwS_s]; simp [hq]
            · simp (disch := omega) only [B_M_unlike_18, K_M_unlike_60, ↓bi_eq, ↓bw_eq, gd_pos, br_pos, br_neg, br_T, br_F, gd_T, bq_some, bd_some, bv_some, bl_some, bx_inl, bx_inr, bn_none, bn_some, bt_inl, bt_inr, not_true_eq_false, not_false_eq_true, eq_self, Bool.false_eq_true, if_true, if_false, jn_clamp, jn_lt, jn_le, jn_inj, jn_add, jn_sub, jn_mul, jn_vp, jn_0a, jn_1a, jn_1b, jn_1s, jn_1m, jn_neg0, jn_le0, jn_0le, jn_0lt, jn_1le, jn_le1, jn_lt1, jn_1lt, jn_e0, jn_e1, jn_em, ↓qB_f, ↓qT_f, cl_0, cl_1, vp_0, vp_1, li_20, hz, ek, ei, hq, (by decide : ((1 : Int32) = 0) = False), ret_some, LQ_inl]
              refine ⟨trivial, ?_⟩
              rw [nwS_s, hz]; simp [hq]
          · have hf := nwS_f (Bool.eq_false_iff.mpr hz) i (by omega)
            simp (disch := omega) only [B_M_unlike_18, ↓bi_eq, ↓bw_eq, gd_pos, br_pos, br_neg, br_T, br_F, gd_T, bq_some, bd_some, bv_some, bl_some, bx_inl, bx_inr, bn_none, bn_some, bt_inl, bt_inr, not_true_eq_false, not_false_eq_true, eq_self, Bool.false_eq_true, if_true, if_false, jn_clamp, jn_lt, jn_le, jn_inj, jn_add, jn_sub, jn_mul, jn_vp, jn_0a, jn_1a, jn_1b, jn_1s, jn_1m, jn_neg0, jn_le0, jn_0le, jn_0lt, jn_1le, jn_le1, jn_lt1, jn_1lt, jn_e0, jn_e1, jn_em, ↓qB_f, ↓qT_f, cl_0, cl_1, vp_0, vp_1, Bool.eq_false_iff.mpr hz, ret_some, LQ_inr, hf]
        · obtain ⟨b, j⟩ := s
          obtain ⟨s1, s2⟩ := hs
          simp only at s1 s2
          subst s1 s2
          simp (disch := omega) only [B_M_unlike_18, ↓bi_eq, ↓bw_eq, gd_pos, br_pos, br_neg, br_T, br_F, gd_T, bq_some, bd_some, bv_some, bl_some, bx_inl, bx_inr, bn_none, bn_some, bt_inl, bt_inr, not_true_eq_false, not_false_eq_true, eq_self, Bool.false_eq_true, if_true, if_false, jn_clamp, jn_lt, jn_le, jn_inj, jn_add, jn_sub, jn_mul, jn_vp, jn_0a, jn_1a, jn_1b, jn_1s, jn_1m, jn_neg0, jn_le0, jn_0le, jn_0lt, jn_1le, jn_le1, jn_lt1, jn_1lt, jn_e0, jn_e1, jn_em, ↓qB_f, ↓qT_f, cl_0, cl_1, vp_0, vp_1, br_pos (Nat.le_refl i), ret_some, LQ_inr]
      rw [unS_s]
      by_cases hz : nwS g i i = true
      · simp (disch := omega) only [B_M_unlike_4, K_M_unlike_79, ↓bi_eq, ↓bw_eq, gd_pos, br_pos, br_neg, br_T, br_F, gd_T, bq_some, bd_some, bv_some, bl_some, bx_inl, bx_inr, bn_none, bn_some, bt_inl, bt_inr, not_true_eq_false, not_false_eq_true, eq_self, Bool.false_eq_true, if_true, if_false, jn_clamp, jn_lt, jn_le, jn_inj, jn_add, jn_sub, jn_mul, jn_vp, jn_0a, jn_1a, jn_1b, jn_1s, jn_1m, jn_neg0, jn_le0, jn_0le, jn_0lt, jn_1le, jn_le1, jn_lt1, jn_1lt, jn_e0, jn_e1, jn_em, ↓qB_f, ↓qT_f, cl_0, cl_1, vp_0, vp_1, em, inn, hz, (by decide : ((1 : Int32) = 0) = False)]
      · simp (disch := omega) only [B_M_unlike_4, K_M_unlike_79, ↓bi_eq, ↓bw_eq, gd_pos, br_pos, br_neg, br_T, br_F, gd_T, bq_some, bd_some, bv_some, bl_some, bx_inl, bx_inr, bn_none, bn_some, bt_inl, bt_inr, not_true_eq_false, not_false_eq_true, eq_self, Bool.false_eq_true, if_true, if_false, jn_clamp, jn_lt, jn_le, jn_inj, jn_add, jn_sub, jn_mul, jn_vp, jn_0a, jn_1a, jn_1b, jn_1s, jn_1m, jn_neg0, jn_le0, jn_0le, jn_0lt, jn_1le, jn_le1, jn_lt1, jn_1lt, jn_e0, jn_e1, jn_em, ↓qB_f, ↓qT_f, cl_0, cl_1, vp_0, vp_1, em, inn, hz]
    · simp (disch := omega) only [B_M_unlike_4, ↓bi_eq, ↓bw_eq, gd_pos, br_pos, br_neg, br_T, br_F, gd_T, bq_some, bd_some, bv_some, bl_some, bx_inl, bx_inr, bn_none, bn_some, bt_inl, bt_inr, not_true_eq_false, not_false_eq_true, eq_self, Bool.false_eq_true, if_true, if_false, jn_clamp, jn_lt, jn_le, jn_inj, jn_add, jn_sub, jn_mul, jn_vp, jn_0a, jn_1a, jn_1b, jn_1s, jn_1m, jn_neg0, jn_le0, jn_0le, jn_0lt, jn_1le, jn_le1, jn_lt1, jn_1lt, jn_e0, jn_e1, jn_em, ↓qB_f, ↓qT_f, cl_0, cl_1, vp_0, vp_1, em, br_pos (Nat.le_refl many)]
  rw [F_M_unlike, key]; rfl
/-- the best night, with its number -/
def lsB (u : Nat → Int32) : Nat → Int32 × Int32 := fl (fun n a => if a.2 < u n then (jn (n + 1), u n) else a) (-1, 0)
theorem lsB_s (u : Nat → Int32) (n : Nat) : lsB u (n + 1) = if (lsB u n).2 < u n then (jn (n + 1), u n) else lsB u n := rfl
theorem lsB_0 (u : Nat → Int32) : lsB u 0 = (-1, 0) := rfl
theorem c_best {w : Wld} {u : Nat → Int32} (a1 a2 : Int32) (hu : ∀ n, n < 20 → F_C_unlikeSongs w (jn (n + 1)) a2 = some (u n)) : loop (B_C_listen_74 a1 a2 w) (-1, 0, 1) = some (lsB u 20) := by
  apply ret_of
  refine loop_inv (I := fun n s => (s.1, s.2.1) = lsB u n ∧ s.2.2 = jn (n + 1)) 20 ⟨(lsB_0 u).symm, rfl⟩ (fun n s hn hs => ?_) (fun s hs => ?_)
  · obtain ⟨b, mo, i⟩ := s
    obtain ⟨s1, s2⟩ := hs
    simp only at s1 s2
    subst s2
    have s1' : (lsB u n).2 = mo := by rw [← s1]
    rw [lsB_s, s1', ← s1]
    by_cases hp : mo < u n
    · have hp' : ¬ u n ≤ mo := Int32.not_le.mpr hp
      rw [if_pos hp]
      simp (disch := omega) only [B_C_listen_74, K_C_listen_104, ↓bi_eq, ↓bw_eq, gd_pos, br_pos, br_neg, br_T, br_F, gd_T, bq_some, bd_some, bv_some, bl_some, bx_inl, bx_inr, bn_none, bn_some, bt_inl, bt_inr, not_true_eq_false, not_false_eq_true, eq_self, Bool.false_eq_true, if_true, if_false, jn_clamp, jn_lt, jn_le, jn_inj, jn_add, jn_sub, jn_mul, jn_vp, jn_0a, jn_1a, jn_1b, jn_1s, jn_1m, jn_neg0, jn_le0, jn_0le, jn_0lt, jn_1le, jn_le1, jn_lt1, jn_1lt, jn_e0, jn_e1, jn_em, ↓qB_f, ↓qT_f, cl_0, cl_1, vp_0, vp_1, li_20, hu n hn, hp', ret_some, LQ_inl]
      exact ⟨trivial, trivial⟩
    · have hp' : u n ≤ mo := Int32.not_lt.mp hp
      rw [if_neg hp]
      simp (disch := omega) only [B_C_listen_74, K_C_listen_104, ↓bi_eq, ↓bw_eq, gd_pos, br_pos, br_neg, br_T, br_F, gd_T, bq_some, bd_some, bv_some, bl_some, bx_inl, bx_inr, bn_none, bn_some, bt_inl, bt_inr, not_true_eq_false, not_false_eq_true, eq_self, Bool.false_eq_true, if_true, if_false, jn_clamp, jn_lt, jn_le, jn_inj, jn_add, jn_sub, jn_mul, jn_vp, jn_0a, jn_1a, jn_1b, jn_1s, jn_1m, jn_neg0, jn_le0, jn_0le, jn_0lt, jn_1le, jn_le1, jn_lt1, jn_1lt, jn_e0, jn_e1, jn_em, ↓qB_f, ↓qT_f, cl_0, cl_1, vp_0, vp_1, li_20, hu n hn, hp', ret_some, LQ_inl]
      exact ⟨trivial, trivial⟩
  · obtain ⟨b, mo, i⟩ := s
    obtain ⟨s1, s2⟩ := hs
    simp only at s1 s2
    subst s2
    simp (disch := omega) only [B_C_listen_74, ↓bi_eq, ↓bw_eq, gd_pos, br_pos, br_neg, br_T, br_F, gd_T, bq_some, bd_some, bv_some, bl_some, bx_inl, bx_inr, bn_none, bn_some, bt_inl, bt_inr, not_true_eq_false, not_false_eq_true, eq_self, Bool.false_eq_true, if_true, if_false, jn_clamp, jn_lt, jn_le, jn_inj, jn_add, jn_sub, jn_mul, jn_vp, jn_0a, jn_1a, jn_1b, jn_1s, jn_1m, jn_neg0, jn_le0, jn_0le, jn_0lt, jn_1le, jn_le1, jn_lt1, jn_1lt, jn_e0, jn_e1, jn_em, ↓qB_f, ↓qT_f, cl_0, cl_1, vp_0, vp_1, li_20, ret_some, LQ_inr]
    exact s1
theorem m_best {w : Wld} {u : Nat → Int32} (a1 : Int32) (hu : ∀ n, n < 20 → F_M_unlike w (jn n) = some (u n)) : loop (B_M_listen_121 a1 w) (-1, 0, 0) = some (lsB u 20) := by
  apply ret_of
  refine loop_inv (I := fun n s => (s.1, s.2.1) = lsB u n ∧ s.2.2 = jn n) 20 ⟨(lsB_0 u).symm, rfl⟩ (fun n s hn hs => ?_) (fun s hs => ?_)
  · obtain ⟨b, mo, i⟩ := s
    obtain ⟨s1, s2⟩ := hs
    simp only at s1 s2
    subst s2
    have s1' : (lsB u n).2 = mo := by rw [← s1]
    rw [lsB_s, s1', ← s1]
    by_cases hp : mo < u n
    · rw [if_pos hp]
      simp (disch := omega) only [B_M_listen_121, K_M_listen_153, ↓bi_eq, ↓bw_eq, gd_pos, br_pos, br_neg, br_T, br_F, gd_T, bq_some, bd_some, bv_some, bl_some, bx_inl, bx_inr, bn_none, bn_some, bt_inl, bt_inr, not_true_eq_false, not_false_eq_true, eq_self, Bool.false_eq_true, if_true, if_false, jn_clamp, jn_lt, jn_le, jn_inj, jn_add, jn_sub, jn_mul, jn_vp, jn_0a, jn_1a, jn_1b, jn_1s, jn_1m, jn_neg0, jn_le0, jn_0le, jn_0lt, jn_1le, jn_le1, jn_lt1, jn_1lt, jn_e0, jn_e1, jn_em, ↓qB_f, ↓qT_f, cl_0, cl_1, vp_0, vp_1, li_20, hu n hn, hp, ret_some, LQ_inl]
      exact ⟨trivial, trivial⟩
    · rw [if_neg hp]
      simp (disch := omega) only [B_M_listen_121, K_M_listen_153, ↓bi_eq, ↓bw_eq, gd_pos, br_pos, br_neg, br_T, br_F, gd_T, bq_some, bd_some, bv_some, bl_some, bx_inl, bx_inr, bn_none, bn_some, bt_inl, bt_inr, not_true_eq_false, not_false_eq_true, eq_self, Bool.false_eq_true, if_true, if_false, jn_clamp, jn_lt, jn_le, jn_inj, jn_add, jn_sub, jn_mul, jn_vp, jn_0a, jn_1a, jn_1b, jn_1s, jn_1m, jn_neg0, jn_le0, jn_0le, jn_0lt, jn_1le, jn_le1, jn_lt1, jn_1lt, jn_e0, jn_e1, jn_em, ↓qB_f, ↓qT_f, cl_0, cl_1, vp_0, vp_1, li_20, hu n hn, hp, ret_some, LQ_inl]
      exact ⟨trivial, trivial⟩
  · obtain ⟨b, mo, i⟩ := s
    obtain ⟨s1, s2⟩ := hs
    simp only at s1 s2
    subst s2
    simp (disch := omega) only [B_M_listen_121, ↓bi_eq, ↓bw_eq, gd_pos, br_pos, br_neg, br_T, br_F, gd_T, bq_some, bd_some, bv_some, bl_some, bx_inl, bx_inr, bn_none, bn_some, bt_inl, bt_inr, not_true_eq_false, not_false_eq_true, eq_self, Bool.false_eq_true, if_true, if_false, jn_clamp, jn_lt, jn_le, jn_inj, jn_add, jn_sub, jn_mul, jn_vp, jn_0a, jn_1a, jn_1b, jn_1s, jn_1m, jn_neg0, jn_le0, jn_0le, jn_0lt, jn_1le, jn_le1, jn_lt1, jn_1lt, jn_e0, jn_e1, jn_em, ↓qB_f, ↓qT_f, cl_0, cl_1, vp_0, vp_1, li_20, br_pos (Nat.le_refl 20), ret_some, LQ_inr]
    exact s1
