/-! ===== image, restore ===== -/
def LIm : List Nat := [35, 36, 37, 38, 39, 40, 41, 76, 78, 80, 81, 82, 83]
def KIm : List (Nat × Nat) := [(0, 2), (0, 55), (0, 56), (0, 57), (42, 8), (77, 1), (77, 2), (79, 3)]
theorem RelH_im {w p : Wld} {h : Hs} (r : RelH w h) (fr : Frm LIm KIm w p) (i : RI p h) : RelH p h := by
  obtain ⟨r1, r2, r3, r4, r5, r6, r7, r8, r9⟩ := r
  have e66 : p 66 = w 66 := frm_cell fr 66 (fun _ => rfl)
  refine ⟨r1, CHs_fr r2 fr ⟨rfl, rfl, rfl, rfl, fun _ => rfl, fun _ => rfl, rfl, fun _ => rfl⟩, MHs_fr r3 fr ⟨rfl, rfl, rfl, rfl, rfl, fun _ => rfl, fun _ => rfl, fun _ => rfl⟩, ?_, RA_fr r5 fr ⟨rfl, rfl, fun _ => rfl, rfl, fun _ => rfl⟩, RE_fr r6 fr ⟨rfl, fun _ => rfl, fun _ => rfl, fun _ => rfl, rfl, fun _ => rfl, fun _ => rfl, fun _ => rfl⟩, RU_fr r7 fr ⟨fun _ => rfl, fun _ => rfl⟩, i, RT_fr r9 fr ⟨rfl, rfl, fun _ => rfl, fun _ => rfl, rfl, rfl⟩⟩
  unfold RS
  rw [e66]
  exact ⟨r4.1, MSt_fr r4.2 fr ⟨fun _ => rfl, fun _ => rfl, fun _ => rfl, fun _ => rfl, fun _ => rfl, fun _ => rfl, rfl, rfl, rfl⟩⟩
theorem t_cpb_40 {w : Wld} {n : Nat} (hn : n ≤ 8) (hb : ∀ k, k < n → w 31 k = 0 ∨ w 31 k = 1) : Ret (loop (B_M_image_70) (0, w)) (fun w' => Frm [40] [] w w' ∧ ∀ k, k < n → w' 40 k = w 31 k) := by
  refine loop_inv (I := fun k s => s.1 = jn k ∧ Frm [40] [] w s.2 ∧ ∀ i, i < k → i < n → s.2 40 i = w 31 i) 8 ⟨rfl, frm_rf, fun i hi => absurd hi (Nat.not_lt_zero i)⟩ (fun k s hk hi => ?_) (fun s hi => ?_)
  · obtain ⟨i, w1⟩ := s
    obtain ⟨i1, i2, i3⟩ := hi
    simp only at i1 i2 i3
    subst i1
    have es : w1 31 k = w 31 k := i2 31 k rfl
    simp (disch := omega) only [B_M_image_70, ↓bi_eq, ↓bw_eq, gd_pos, br_pos, br_neg, br_T, br_F, gd_T, bq_some, bd_some, bv_some, bl_some, bx_inl, bx_inr, bn_none, bn_some, bt_inl, bt_inr, not_true_eq_false, not_false_eq_true, eq_self, Bool.false_eq_true, if_true, if_false, jn_clamp, jn_lt, jn_le, jn_inj, jn_add, jn_sub, jn_mul, jn_vp, jn_0a, jn_1a, jn_1b, jn_1s, jn_1m, jn_neg0, jn_le0, jn_0le, jn_0lt, jn_1le, jn_le1, jn_lt1, jn_1lt, jn_e0, jn_e1, jn_em, ↓qB_f, ↓qT_f, cl_0, cl_1, vp_0, vp_1, li_8, es, ret_some, LQ_inl]
    refine ⟨trivial, frm_wup i2 _ _ _ rfl, fun i hi hin => ?_⟩
    rw [wup_s]
    by_cases e : i = k
    · rw [if_pos e, e, nar_b (hb k (by omega))]
    · rw [if_neg e]; exact i3 i (by omega) hin
  · obtain ⟨i, w1⟩ := s
    obtain ⟨i1, i2, i3⟩ := hi
    simp only at i1 i2 i3
    subst i1
    simp (disch := omega) only [B_M_image_70, ↓bi_eq, ↓bw_eq, gd_pos, br_pos, br_neg, br_T, br_F, gd_T, bq_some, bd_some, bv_some, bl_some, bx_inl, bx_inr, bn_none, bn_some, bt_inl, bt_inr, not_true_eq_false, not_false_eq_true, eq_self, Bool.false_eq_true, if_true, if_false, jn_clamp, jn_lt, jn_le, jn_inj, jn_add, jn_sub, jn_mul, jn_vp, jn_0a, jn_1a, jn_1b, jn_1s, jn_1m, jn_neg0, jn_le0, jn_0le, jn_0lt, jn_1le, jn_le1, jn_lt1, jn_1lt, jn_e0, jn_e1, jn_em, ↓qB_f, ↓qT_f, cl_0, cl_1, vp_0, vp_1, li_8, br_pos (Nat.le_refl 8), ret_some, LQ_inr]
    exact ⟨i2, fun k hk => i3 k (by omega) hk⟩
theorem t_cpb_31 {w : Wld} {n : Nat} (hn : n ≤ 8) (hb : ∀ k, k < n → w 40 k = 0 ∨ w 40 k = 1) : Ret (loop (B_M_restore_74) (0, w)) (fun w' => Frm [31] [] w w' ∧ ∀ k, k < n → w' 31 k = w 40 k) := by
  refine loop_inv (I := fun k s => s.1 = jn k ∧ Frm [31] [] w s.2 ∧ ∀ i, i < k → i < n → s.2 31 i = w 40 i) 8 ⟨rfl, frm_rf, fun i hi => absurd hi (Nat.not_lt_zero i)⟩ (fun k s hk hi => ?_) (fun s hi => ?_)
  · obtain ⟨i, w1⟩ := s
    obtain ⟨i1, i2, i3⟩ := hi
    simp only at i1 i2 i3
    subst i1
    have es : w1 40 k = w 40 k := i2 40 k rfl
    simp (disch := omega) only [B_M_restore_74, ↓bi_eq, ↓bw_eq, gd_pos, br_pos, br_neg, br_T, br_F, gd_T, bq_some, bd_some, bv_some, bl_some, bx_inl, bx_inr, bn_none, bn_some, bt_inl, bt_inr, not_true_eq_false, not_false_eq_true, eq_self, Bool.false_eq_true, if_true, if_false, jn_clamp, jn_lt, jn_le, jn_inj, jn_add, jn_sub, jn_mul, jn_vp, jn_0a, jn_1a, jn_1b, jn_1s, jn_1m, jn_neg0, jn_le0, jn_0le, jn_0lt, jn_1le, jn_le1, jn_lt1, jn_1lt, jn_e0, jn_e1, jn_em, ↓qB_f, ↓qT_f, cl_0, cl_1, vp_0, vp_1, li_8, es, ret_some, LQ_inl]
    refine ⟨trivial, frm_wup i2 _ _ _ rfl, fun i hi hin => ?_⟩
    rw [wup_s]
    by_cases e : i = k
    · rw [if_pos e, e, nar_b (hb k (by omega))]
    · rw [if_neg e]; exact i3 i (by omega) hin
  · obtain ⟨i, w1⟩ := s
    obtain ⟨i1, i2, i3⟩ := hi
    simp only at i1 i2 i3
    subst i1
    simp (disch := omega) only [B_M_restore_74, ↓bi_eq, ↓bw_eq, gd_pos, br_pos, br_neg, br_T, br_F, gd_T, bq_some, bd_some, bv_some, bl_some, bx_inl, bx_inr, bn_none, bn_some, bt_inl, bt_inr, not_true_eq_false, not_false_eq_true, eq_self, Bool.false_eq_true, if_true, if_false, jn_clamp, jn_lt, jn_le, jn_inj, jn_add, jn_sub, jn_mul, jn_vp, jn_0a, jn_1a, jn_1b, jn_1s, jn_1m, jn_neg0, jn_le0, jn_0le, jn_0lt, jn_1le, jn_le1, jn_lt1, jn_1lt, jn_e0, jn_e1, jn_em, ↓qB_f, ↓qT_f, cl_0, cl_1, vp_0, vp_1, li_8, br_pos (Nat.le_refl 8), ret_some, LQ_inr]
    exact ⟨i2, fun k hk => i3 k (by omega) hk⟩
theorem REg_m {cz mz : Int32} {cn cv cs mn mv ms cn' cv' cs' mn' mv' ms' : Nat → Int32} {cz' mz' : Int32} (r : REg cz cn cv cs mz mn mv ms) (hc : cz' = cz) (hm : mz' = mz) (e : ∀ n, cz = jn n → n ≤ 8 → ∀ k, k < n → (cn' k = cn k ∧ cv' k = cv k ∧ cs' k = cs k) ∧ mn' k = mn k ∧ mv' k = mv k ∧ ms' k = ms k) : REg cz' cn' cv' cs' mz' mn' mv' ms' := by
  obtain ⟨m, h1, h2, h3, hk⟩ := r
  refine ⟨m, h1, hc.trans h2, hm.trans h3, fun k hk9 => ?_⟩
  obtain ⟨⟨a1, a2, a3⟩, b1, b2, b3⟩ := e m h2 h1 k hk9
  rw [a1, a2, a3, b1, b2, b3]
  exact hk k hk9
theorem j_image {w : Wld} {h : Hs} (r : RelH w h) : Ret (F_C_image w) (fun w1 => Ret (F_M_image w1) (fun w2 => Rel w2)) := by
  have hh := r.1
  have hg := r.2.2.2.1.1
  have r5 := r.2.2.2.2.1
  have r6 := r.2.2.2.2.2.1
  have r7 := r.2.2.2.2.2.2.1
  have r6' := r6
  obtain ⟨n, hn, n1, n2, nk⟩ := r6'
  have hb72 : ∀ k, k < n → w 72 k = 0 ∨ w 72 k = 1 := fun k hk => by obtain ⟨_, _, b, hb, e, _⟩ := nk k hk; rw [e]; exact hb
  have hb31 : ∀ k, k < n → w 31 k = 0 ∨ w 31 k = 1 := fun k hk => by obtain ⟨_, _, b, hb, _, e⟩ := nk k hk; rw [e]; exact hb
  rw [F_C_image, ret_bv]
  refine ret_mono (t_book_74_64 hn n1 hb72) (fun w1 hq => ?_)
  obtain ⟨c0, c1, c2, c3, c4, c5, c6, c7⟩ := hq
  rw [gd_pos (Or.inr rfl), bw_eq, ret_some]
  have fa : Frm LIm KIm w (wup w1 42 8 1) := frm_wup (frm_up c0 rfl) _ _ _ rfl
  have fb : Frm [] [(42, 8)] w1 (wup w1 42 8 1) := frm_wup frm_rf _ _ _ rfl
  have ea : (wup w1 42 8 1) 42 8 = 1 := wup_s1 _ _ _ _
  generalize wup w1 42 8 1 = w2 at fa fb ea ⊢
  have g1 : Frm [] [(0, 2), (0, 55), (0, 56), (0, 57)] w2 (wup (wup (wup (wup w2 0 2 0) 0 55 1) 0 56 (w2 0 34)) 0 57 (w2 0 35)) := frm_wup (frm_wup (frm_wup (frm_wup frm_rf _ _ _ rfl) _ _ _ rfl) _ _ _ rfl) _ _ _ rfl
  have x55 : (wup (wup (wup (wup w2 0 2 0) 0 55 1) 0 56 (w2 0 34)) 0 57 (w2 0 35)) 0 55 = 1 := by rw [wup_s2 _ _ _ (by decide), wup_s2 _ _ _ (by decide), wup_s1]
  have x56 : (wup (wup (wup (wup w2 0 2 0) 0 55 1) 0 56 (w2 0 34)) 0 57 (w2 0 35)) 0 56 = w 0 34 := by rw [wup_s2 _ _ _ (by decide), wup_s1, fa 0 34 rfl]
  have x57 : (wup (wup (wup (wup w2 0 2 0) 0 55 1) 0 56 (w2 0 34)) 0 57 (w2 0 35)) 0 57 = w 0 35 := by rw [wup_s1, fa 0 35 rfl]
  have y34 : (wup (wup w2 0 2 0) 0 55 1) 0 34 = w2 0 34 := by rw [wup_s2 _ _ _ (by decide), wup_s2 _ _ _ (by decide)]
  have y35 : (wup (wup (wup w2 0 2 0) 0 55 1) 0 56 (w2 0 34)) 0 35 = w2 0 35 := by rw [wup_s2 _ _ _ (by decide), wup_s2 _ _ _ (by decide), wup_s2 _ _ _ (by decide)]
  rw [F_M_image, bw_eq, gd_pos (Or.inr rfl), bw_eq, bw_eq, bw_eq, y34, y35, ret_bv]
  generalize wup (wup (wup (wup w2 0 2 0) 0 55 1) 0 56 (w2 0 34)) 0 57 (w2 0 35) = w3 at g1 x55 x56 x57 ⊢
  have F3 : Frm LIm KIm w w3 := frm_tr fa (frm_up g1 rfl)
  have s3 : MSt w3 h (w 66) := MSt_fr r.2.2.2.1.2 F3 ⟨fun _ => rfl, fun _ => rfl, fun _ => rfl, fun _ => rfl, fun _ => rfl, fun _ => rfl, rfl, rfl, rfl⟩
  refine ret_mono (t_pack_35 w3 (o := 0) (by omega)) (fun w4 hq => ?_)
  obtain ⟨q1, q2, -⟩ := hq
  have row : MRow (w4 35) h (w 66) := pk_row s3 hh (fun i hi => by rw [← q2 i hi, Nat.zero_add])
  rw [ret_bv]
  refine ret_mono (t_copy_36_20 w4) (fun w5 hq => ?_)
  obtain ⟨p1, p2⟩ := hq
  rw [ret_bv]
  refine ret_mono (t_copy_37_28 w5) (fun w6 hq => ?_)
  obtain ⟨o1, o2⟩ := hq
  rw [ret_bv]
  refine ret_mono (t_copy_38_29 w6) (fun w7 hq => ?_)
  obtain ⟨u1, u2⟩ := hq
  rw [ret_bl]
  have F7 : Frm LIm KIm w w7 := frm_tr F3 (frm_tr (frm_up q1 rfl) (frm_tr (frm_up p1 rfl) (frm_tr (frm_up o1 rfl) (frm_up u1 rfl))))
  refine ret_mono (t_cpb_40 (w := w7) hn (fun k hk => by rw [frm_cell F7 31 (fun _ => rfl)]; exact hb31 k hk)) (fun w8 hq => ?_)
  obtain ⟨v1, v2⟩ := hq
  rw [ret_bv]
  refine ret_mono (t_copy_39_12 w8) (fun w9 hq => ?_)
  obtain ⟨z1, z2⟩ := hq
  rw [ret_some]
  have F8 : Frm LIm KIm w w8 := frm_tr F7 (frm_up v1 rfl)
  have F9 : Frm LIm KIm w w9 := frm_tr F8 (frm_up z1 rfl)
  have T : Frm [35, 36, 37, 38, 39, 40] [] w3 w9 := frm_tr (frm_up q1 rfl) (frm_tr (frm_up p1 rfl) (frm_tr (frm_up o1 rfl) (frm_tr (frm_up u1 rfl) (frm_tr (frm_up v1 rfl) (frm_up z1 rfl)))))
  have C : ∀ n j, frB [35, 36, 37, 38, 39, 40] [(0, 2), (0, 55), (0, 56), (0, 57), (42, 8)] n j = false → w9 n j = w1 n j := fun n j hf => (frm_tr (frm_up fb rfl) (frm_tr (frm_up g1 rfl) (frm_up T rfl)) : Frm [35, 36, 37, 38, 39, 40] [(0, 2), (0, 55), (0, 56), (0, 57), (42, 8)] w1 w9) n j hf
  have k76 : ∀ i, i < 53 → w9 76 i = w 66 i := fun i hi => (C 76 i rfl).trans (c1 i hi)
  have k35 : w9 35 = w4 35 := by rw [frm_cell z1 35 (fun _ => rfl), frm_cell v1 35 (fun _ => rfl), frm_cell u1 35 (fun _ => rfl), frm_cell o1 35 (fun _ => rfl), frm_cell p1 35 (fun _ => rfl)]
  have k36 : ∀ i, i < 2120 → w9 36 i = w 20 i := fun i hi => by
    rw [frm_cell z1 36 (fun _ => rfl), frm_cell v1 36 (fun _ => rfl), frm_cell u1 36 (fun _ => rfl), frm_cell o1 36 (fun _ => rfl), p2 i hi, frm_cell q1 20 (fun _ => rfl)]; exact F3 20 i rfl
  refine ⟨h, RelH_im r F9 (Or.inr ⟨?_, ?_, ?_, ?_, ?_, ?_, ?_⟩)⟩
  · rw [T 42 8 rfl, g1 42 8 rfl]; exact ea
  · rw [T 0 55 rfl]; exact x55
  · exact GdS_congr hh hg k76
  · rw [k35]; exact MRow_congr hh row k76 (fun _ _ => rfl)
  · have := RAg_congr (rows' := w9 78) (past' := w9 36) hh r5 (fun j hj => (C 78 j rfl).trans (c2 j hj)) k36
    rw [C 77 2 rfl, C 77 1 rfl, c4, c3, T 0 56 rfl, x56]
    exact this
  · refine REg_m r6 ((C 79 3 rfl).trans (c5.trans n1.symm)) ((T 0 57 rfl).trans x57) (fun m hm hm8 k hk => ?_)
    have : m = n := by rw [n1, jn_inj (by omega) (by omega)] at hm; exact hm.symm
    subst this
    obtain ⟨y1, y2, y3⟩ := c6 k hk
    refine ⟨⟨(C 80 k rfl).trans y1, (C 81 k rfl).trans y2, (C 82 k rfl).trans y3⟩, ?_, ?_, ?_⟩
    · rw [frm_cell z1 37 (fun _ => rfl), frm_cell v1 37 (fun _ => rfl), frm_cell u1 37 (fun _ => rfl), o2 k (by omega), frm_cell p1 28 (fun _ => rfl), frm_cell q1 28 (fun _ => rfl)]; exact F3 28 k rfl
    · rw [frm_cell z1 38 (fun _ => rfl), frm_cell v1 38 (fun _ => rfl), u2 k (by omega), frm_cell o1 29 (fun _ => rfl), frm_cell p1 29 (fun _ => rfl), frm_cell q1 29 (fun _ => rfl)]; exact F3 29 k rfl
    · rw [frm_cell z1 40 (fun _ => rfl), v2 k hk]; exact F7 31 k rfl
  · intro k hk
    rw [C 83 k rfl, c7 k hk, z2 k hk]
    exact (r7 k hk).trans (F8 12 k rfl).symm
def LRs : List Nat := [12, 14, 15, 16, 17, 18, 19, 20, 28, 29, 31, 41, 66, 68, 70, 71, 72, 73]
def KRs : List (Nat × Nat) := [(0, 2), (0, 31), (0, 32), (0, 33), (0, 34), (0, 35), (67, 1), (67, 2), (69, 3)]
theorem j_restore {w : Wld} {h : Hs} (r : RelH w h) : BothJ (F_C_restore w) F_M_restore := by
  have r0 := r
  obtain ⟨r1, r2, r3, r4, r5, r6, r7, r8, r9⟩ := r0
  have hh := r1
  unfold BothJ
  rcases r8 with ⟨i1, i2⟩ | ⟨i1, i2, i3, i4, i5, i6, i7⟩
  · rw [F_C_restore, i1, br_pos rfl, K_C_restore_18, i1, gd_pos (Or.inl rfl), ret_some]
    simp only
    obtain ⟨z1, z2, z3, z4⟩ := m_ent r
    have e55 : (wup w 0 2 0) 0 55 = 0 := by rw [wup_s2 _ _ _ (by decide)]; exact i2
    rw [F_M_restore, bw_eq, e55, br_neg (fun z => z rfl), ret_some]
    exact ⟨rfl, h, RelH_p r z3 z2⟩
  · have i6' := i6
    obtain ⟨n, hn, n1, n2, nk⟩ := i6'
    have hb82 : ∀ k, k < n → w 82 k = 0 ∨ w 82 k = 1 := fun k hk => by obtain ⟨_, _, b, hb, e, _⟩ := nk k hk; rw [e]; exact hb
    have hb40 : ∀ k, k < n → w 40 k = 0 ∨ w 40 k = 1 := fun k hk => by obtain ⟨_, _, b, hb, _, e⟩ := nk k hk; rw [e]; exact hb
    rw [F_C_restore, i1, br_neg (by decide), ret_bv]
    refine ret_mono (t_book_64_74 hn n1 hb82) (fun w1 hq => ?_)
    obtain ⟨c0, c1, c2, c3, c4, c5, c6, c7⟩ := hq
    have e428 : w1 42 8 = 1 := (c0 42 8 rfl).trans i1
    rw [K_C_restore_18, e428, gd_pos (Or.inr rfl), ret_some]
    simp only
    have e55 : (wup w1 0 2 0) 0 55 = 1 := by rw [wup_s2 _ _ _ (by decide), c0 0 55 rfl]; exact i2
    have y56 : (wup w1 0 2 0) 0 56 = w1 0 56 := wup_s2 _ _ _ (by decide)
    have y57 : (wup (wup w1 0 2 0) 0 34 (w1 0 56)) 0 57 = w1 0 57 := by rw [wup_s2 _ _ _ (by decide), wup_s2 _ _ _ (by decide)]
    have g1 : Frm [] [(0, 2), (0, 34), (0, 35)] w1 (wup (wup (wup w1 0 2 0) 0 34 (w1 0 56)) 0 35 (w1 0 57)) := frm_wup (frm_wup (frm_wup frm_rf _ _ _ rfl) _ _ _ rfl) _ _ _ rfl
    have x34 : (wup (wup (wup w1 0 2 0) 0 34 (w1 0 56)) 0 35 (w1 0 57)) 0 34 = w 0 56 := by rw [wup_s2 _ _ _ (by decide), wup_s1, c0 0 56 rfl]
    have x35 : (wup (wup (wup w1 0 2 0) 0 34 (w1 0 56)) 0 35 (w1 0 57)) 0 35 = w 0 57 := by rw [wup_s1, c0 0 57 rfl]
    rw [F_M_restore, bw_eq, e55, br_pos (by decide), bw_eq, bw_eq, y56, y57, ret_bv]
    generalize wup (wup (wup w1 0 2 0) 0 34 (w1 0 56)) 0 35 (w1 0 57) = w2 at g1 x34 x35 ⊢
    have F2 : Frm LRs KRs w w2 := frm_tr (frm_up c0 rfl) (frm_up g1 rfl)
    have row : MRow (fun i => w2 35 (0 + i)) h (w 76) := by
      have e : (fun i => w2 35 (0 + i)) = w 35 := by funext i; rw [Nat.zero_add]; exact F2 35 i rfl
      rw [e]; exact i4
    refine ret_mono (t_unpack_35 (o := 0) hh (by omega) row) (fun w3 hq => ?_)
    obtain ⟨q1, q2⟩ := hq
    rw [ret_bv]
    refine ret_mono (t_copy_20_36 w3) (fun w4 hq => ?_)
    obtain ⟨p1, p2⟩ := hq
    rw [ret_bv]
    refine ret_mono (t_copy_28_37 w4) (fun w5 hq => ?_)
    obtain ⟨o1, o2⟩ := hq
    rw [ret_bv]
    refine ret_mono (t_copy_29_38 w5) (fun w6 hq => ?_)
    obtain ⟨u1, u2⟩ := hq
    rw [ret_bl]
    have F3 : Frm LRs KRs w w3 := frm_tr F2 (frm_up q1 rfl)
    have F4 : Frm LRs KRs w w4 := frm_tr F3 (frm_up p1 rfl)
    have F5 : Frm LRs KRs w w5 := frm_tr F4 (frm_up o1 rfl)
    have F6 : Frm LRs KRs w w6 := frm_tr F5 (frm_up u1 rfl)
    refine ret_mono (t_cpb_31 (w := w6) hn (fun k hk => by rw [frm_cell F6 40 (fun _ => rfl)]; exact hb40 k hk)) (fun w7 hq => ?_)
    obtain ⟨v1, v2⟩ := hq
    have F7 : Frm LRs KRs w w7 := frm_tr F6 (frm_up v1 rfl)
    rw [ret_bv]
    refine ret_mono (t_copy_12_39 w7) (fun w8 hq => ?_)
    obtain ⟨z1, z2⟩ := hq
    rw [ret_some]
    have F8 : Frm LRs KRs w w8 := frm_tr F7 (frm_up z1 rfl)
    have T : Frm [12, 20, 28, 29, 31] [] w3 w8 := frm_tr (frm_up p1 rfl) (frm_tr (frm_up o1 rfl) (frm_tr (frm_up u1 rfl) (frm_tr (frm_up v1 rfl) (frm_up z1 rfl))))
    have C : Frm [12, 14, 15, 16, 17, 18, 19, 20, 28, 29, 31] [(0, 2), (0, 31), (0, 32), (0, 33), (0, 34), (0, 35)] w1 w8 := frm_tr (frm_up g1 rfl) (frm_tr (frm_up q1 rfl) (frm_up T rfl))
    have k66 : ∀ i, i < 53 → w8 66 i = w 76 i := fun i hi => (C 66 i rfl).trans (c1 i hi)
    have s8 : MSt w8 h (w 76) := MSt_fr q2 T ⟨fun _ => rfl, fun _ => rfl, fun _ => rfl, fun _ => rfl, fun _ => rfl, fun _ => rfl, rfl, rfl, rfl⟩
    have k20 : ∀ i, i < 2120 → w8 20 i = w 36 i := fun i hi => by
      rw [frm_cell z1 20 (fun _ => rfl), frm_cell v1 20 (fun _ => rfl), frm_cell u1 20 (fun _ => rfl), frm_cell o1 20 (fun _ => rfl), p2 i hi]; exact F3 36 i rfl
    have eA : RA w8 h := by
      unfold RA
      have := RAg_congr (rows' := w8 68) (past' := w8 20) hh i5 (fun j hj => (C 68 j rfl).trans (c2 j hj)) k20
      rw [C 67 2 rfl, C 67 1 rfl, c4, c3, T 0 34 rfl, q1 0 34 rfl, x34]
      exact this
    have eE : RE w8 := by
      unfold RE
      refine REg_m i6 ((C 69 3 rfl).trans (c5.trans n1.symm)) ((T 0 35 rfl).trans ((q1 0 35 rfl).trans x35)) (fun m hm hm8 k hk => ?_)
      have : m = n := by rw [n1, jn_inj (by omega) (by omega)] at hm; exact hm.symm
      subst this
      obtain ⟨y1, y2, y3⟩ := c6 k hk
      refine ⟨⟨(C 70 k rfl).trans y1, (C 71 k rfl).trans y2, (C 72 k rfl).trans y3⟩, ?_, ?_, ?_⟩
      · rw [frm_cell z1 28 (fun _ => rfl), frm_cell v1 28 (fun _ => rfl), frm_cell u1 28 (fun _ => rfl), o2 k (by omega)]; exact F4 37 k rfl
      · rw [frm_cell z1 29 (fun _ => rfl), frm_cell v1 29 (fun _ => rfl), u2 k (by omega)]; exact F5 38 k rfl
      · rw [frm_cell z1 31 (fun _ => rfl), v2 k hk]; exact F6 40 k rfl
    have eU : RU w8 := by
      intro k hk
      rw [C 73 k rfl, c7 k hk, z2 k hk]
      exact (i7 k hk).trans (F7 39 k rfl).symm
    exact ⟨rfl, h, hh, CHs_fr r2 F8 ⟨rfl, rfl, rfl, rfl, fun _ => rfl, fun _ => rfl, rfl, fun _ => rfl⟩, MHs_fr r3 F8 ⟨rfl, rfl, rfl, rfl, rfl, fun _ => rfl, fun _ => rfl, fun _ => rfl⟩, ⟨GdS_congr hh i3 k66, MSt_congr hh s8 k66⟩, eA, eE, eU, RI_fr (Or.inr ⟨i1, i2, i3, i4, i5, i6, i7⟩) F8 ⟨rfl, rfl, fun _ => rfl, fun _ => rfl, rfl, rfl, fun _ => rfl, rfl, fun _ => rfl, rfl, fun _ => rfl, fun _ => rfl, fun _ => rfl, rfl, fun _ => rfl, fun _ => rfl, fun _ => rfl, fun _ => rfl, fun _ => rfl⟩, RT_fr r9 F8 ⟨rfl, rfl, fun _ => rfl, fun _ => rfl, rfl, rfl⟩⟩
