/-! ===== questions: eaten ===== -/
def fitP (d : Hd) (h : Hs) (c : Sta) (t : Nat) : Bool := decide (c (8 + t / 10) ≠ jn (t % 10)) && asH d h (upd c (8 + t / 10) (jn (t % 10))) 20
theorem fitP_e (d : Hd) (h : Hs) (c : Sta) {m v : Nat} (hv : v < 10) : fitP d h c (10 * m + v) = (decide (c (8 + m) ≠ jn v) && asH d h (upd c (8 + m) (jn v)) 20) := by
  unfold fitP
  rw [show (10 * m + v) / 10 = m by omega, show (10 * m + v) % 10 = v by omega]
def ftS (P : Nat → Bool) : Nat → Nat × (Nat → Nat) := fl (fun t a => if P t = true then (a.1 + 1, fun i => if i = a.1 then t else a.2 i) else a) (0, fun _ => 0)
theorem ftS_s (P : Nat → Bool) (t : Nat) : ftS P (t + 1) = if P t = true then ((ftS P t).1 + 1, fun i => if i = (ftS P t).1 then t else (ftS P t).2 i) else ftS P t := rfl
theorem ftS_le (P : Nat → Bool) (t : Nat) : (ftS P t).1 ≤ t := by
  induction t with
  | zero => exact Nat.le_refl _
  | succ t ih =>
    rw [ftS_s]
    split
    · simp only; omega
    · omega
def fstI (a : Nat × (Nat → Nat)) : Int32 := if a.1 = 0 then -1 else jn (a.2 0)
theorem fstI_s (P : Nat → Bool) {t : Nat} (h : P t = true) : fstI (ftS P (t + 1)) = if (ftS P t).1 = 0 then jn t else fstI (ftS P t) := by
  rw [ftS_s, if_pos h]
  unfold fstI
  simp only
  rw [if_neg (by omega)]
  by_cases h0 : (ftS P t).1 = 0
  · rw [if_pos h0, if_pos h0.symm]
  · rw [if_neg h0, if_neg (fun z => h0 z.symm), if_neg h0]
theorem ftS_y (P : Nat → Bool) {t : Nat} (h : P t = true) : (ftS P (t + 1)).1 = (ftS P t).1 + 1 := by rw [ftS_s, if_pos h]
theorem ftS_yf (P : Nat → Bool) {t : Nat} (h : P t = true) (i : Nat) : (ftS P (t + 1)).2 i = if i = (ftS P t).1 then t else (ftS P t).2 i := by rw [ftS_s, if_pos h]
theorem ftS_n (P : Nat → Bool) {t : Nat} (h : ¬ P t = true) : ftS P (t + 1) = ftS P t := by rw [ftS_s, if_neg h]
theorem c_could {w : Wld} {h : Hs} {d : Hd} (hw : CHs w h) (hh : GdH h) (hg : GdS h (w 66)) (hd : GdD d) (hr : CHd w d) {m v : Nat} (hm : m < hsM h) (hv : v < 10) : Ret (F_C_couldHaveEaten w (jn m) (jn v)) (fun q => q.1 = (if fitP d h (w 66) (10 * m + v) = true then 1 else 0) ∧ Frm [61, 62, 63, 85] [(55, 3)] w q.2) := by
  have hM := hh.2.1
  rw [fitP_e d h (w 66) hv]
  by_cases he : w 66 (8 + m) = jn v
  · simp (disch := omega) only [F_C_couldHaveEaten, ↓bi_eq, ↓bw_eq, gd_pos, br_pos, br_neg, br_T, br_F, gd_T, bp_some, bd_some, bv_some, bl_some, bx_inl, bx_inr, bn_none, bn_some, bt_inl, bt_inr, not_true_eq_false, not_false_eq_true, eq_self, Bool.false_eq_true, if_true, if_false, jn_clamp, jn_lt, jn_le, jn_inj, jn_add, jn_sub, jn_mul, jn_vp, jn_0a, jn_1a, jn_1b, jn_1s, jn_1m, jn_neg0, jn_le0, jn_0le, jn_0lt, jn_1le, jn_le1, jn_lt1, jn_1lt, jn_e0, jn_e1, jn_em, ↓qB_f, ↓qT_f, cl_0, cl_1, vp_0, vp_1, li_8, he, ret_some]
    refine ⟨?_, frm_rf⟩
    simp
  · simp (disch := omega) only [F_C_couldHaveEaten, ↓bi_eq, ↓bw_eq, gd_pos, br_pos, br_neg, br_T, br_F, gd_T, bp_some, bd_some, bv_some, bl_some, bx_inl, bx_inr, bn_none, bn_some, bt_inl, bt_inr, not_true_eq_false, not_false_eq_true, eq_self, Bool.false_eq_true, if_true, if_false, jn_clamp, jn_lt, jn_le, jn_inj, jn_add, jn_sub, jn_mul, jn_vp, jn_0a, jn_1a, jn_1b, jn_1s, jn_1m, jn_neg0, jn_le0, jn_0le, jn_0lt, jn_1le, jn_le1, jn_lt1, jn_1lt, jn_e0, jn_e1, jn_em, ↓qB_f, ↓qT_f, cl_0, cl_1, vp_0, vp_1, li_8, he, ret_bv]
    refine ret_mono (t_begin w) (fun w1 hq => ?_)
    obtain ⟨q1, q2⟩ := hq
    have f2 : Frm [61, 62, 63, 85] [(55, 3)] w (wup w1 85 (8 + m) (jn v)) := frm_wup (frm_up q1 rfl) _ _ _ rfl
    have e2 : Eq53 ((wup w1 85 (8 + m) (jn v)) 85) (upd (w 66) (8 + m) (jn v)) := by rw [wup_same]; exact Eq53_upd q2 _ _
    rw [ret_bd]
    refine ret_mono (c_heardT (CHs_fr hw f2 ⟨rfl, rfl, rfl, rfl, fun _ => rfl, fun _ => rfl, rfl, fun _ => rfl⟩) hh (GdS_fish hh hg (by omega) hv) e2 hd (CHd_fr hr f2 ⟨rfl, fun _ => rfl, fun _ => rfl, fun _ => rfl⟩)) (fun q hq => ?_)
    obtain ⟨x, w3⟩ := q
    obtain ⟨p1, p2⟩ := hq
    simp only at p1 p2
    have hx : x = 0 ∨ x = 1 := by
      rw [p1]; split
      · exact Or.inr rfl
      · exact Or.inl rfl
    simp only
    rw [gd_pos hx, ret_some]
    refine ⟨?_, frm_tr f2 p2⟩
    simp only
    rw [p1]
    simp [he]
theorem c_fits {w : Wld} {h : Hs} {d : Hd} (hc : CHs w h) (hh : GdH h) (hg : GdS h (w 66)) (hd : GdD d) (hr : CHd w d) (a1 : Int32) : Ret (loop (B_C_eaten_34 a1) (0, -1, 0, w)) (fun q => q.1 = jn (ftS (fitP d h (w 66)) (10 * hsM h)).1 ∧ q.2.1 = fstI (ftS (fitP d h (w 66)) (10 * hsM h)) ∧ Frm [61, 62, 63, 85] [(55, 3)] w q.2.2) := by
  have hM := hh.2.1
  refine loop_inv (I := fun m s => s.1 = jn (ftS (fitP d h (w 66)) (10 * m)).1 ∧ s.2.1 = fstI (ftS (fitP d h (w 66)) (10 * m)) ∧ s.2.2.1 = jn m ∧ Frm [61, 62, 63, 85] [(55, 3)] w s.2.2.2) (hsM h) ⟨rfl, rfl, rfl, frm_rf⟩ (fun m s hm hi => ?_) (fun s hi => ?_)
  · obtain ⟨ma, fi, i, w1⟩ := s
    obtain ⟨i0, i1, i2, i3⟩ := hi
    simp only at i0 i1 i2 i3
    subst i0 i1 i2
    have e1 : w1 56 1 = jn (hsM h) := (i3 56 1 rfl).trans hc.2.1
    simp (disch := omega) only [B_C_eaten_34, ↓bi_eq, ↓bw_eq, gd_pos, br_pos, br_neg, br_T, br_F, gd_T, bp_some, bd_some, bv_some, bl_some, bx_inl, bx_inr, bn_none, bn_some, bt_inl, bt_inr, not_true_eq_false, not_false_eq_true, eq_self, Bool.false_eq_true, if_true, if_false, jn_clamp, jn_lt, jn_le, jn_inj, jn_add, jn_sub, jn_mul, jn_vp, jn_0a, jn_1a, jn_1b, jn_1s, jn_1m, jn_neg0, jn_le0, jn_0le, jn_0lt, jn_1le, jn_le1, jn_lt1, jn_1lt, jn_e0, jn_e1, jn_em, ↓qB_f, ↓qT_f, cl_0, cl_1, vp_0, vp_1, e1, ret_bl]
    refine ret_mono (P := fun q => q.1 = jn (ftS (fitP d h (w 66)) (10 * m + 10)).1 ∧ q.2.1 = fstI (ftS (fitP d h (w 66)) (10 * m + 10)) ∧ Frm [61, 62, 63, 85] [(55, 3)] w q.2.2) ?_ (fun q hq => ?_)
    · refine loop_inv (I := fun v s => s.1 = jn (ftS (fitP d h (w 66)) (10 * m + v)).1 ∧ s.2.1 = fstI (ftS (fitP d h (w 66)) (10 * m + v)) ∧ s.2.2.1 = jn v ∧ Frm [61, 62, 63, 85] [(55, 3)] w s.2.2.2) 10 ⟨rfl, rfl, rfl, i3⟩ (fun v s hv hi => ?_) (fun s hi => ?_)
      · obtain ⟨ma, fi, i, w2⟩ := s
        obtain ⟨i0, i1, i2, i4⟩ := hi
        simp only at i0 i1 i2 i4
        subst i0 i1 i2
        have e66 : w2 66 = w 66 := frm_cell i4 66 (fun _ => rfl)
        have hcl := ftS_le (fitP d h (w 66)) (10 * m + v)
        rw [B_C_eaten_49, li_9, br_neg (by rw [jn_lt (by omega) (by omega)]; omega), ret_bd]
        refine ret_mono (c_could (CHs_fr hc i4 ⟨rfl, rfl, rfl, rfl, fun _ => rfl, fun _ => rfl, rfl, fun _ => rfl⟩) hh (by rw [e66]; exact hg) hd (CHd_fr hr i4 ⟨rfl, fun _ => rfl, fun _ => rfl, fun _ => rfl⟩) hm hv) (fun q hq => ?_)
        obtain ⟨x, w3⟩ := q
        obtain ⟨p1, p2⟩ := hq
        simp only at p1 p2
        rw [e66] at p1
        subst p1
        have f3 := frm_tr i4 p2
        by_cases hz : fitP d h (w 66) (10 * m + v) = true
        · rw [← Nat.add_assoc, fstI_s _ hz, ftS_y _ hz]
          by_cases h0 : (ftS (fitP d h (w 66)) (10 * m + v)).1 = 0
          · simp (disch := omega) only [K_C_eaten_83, K_C_eaten_87, ↓bi_eq, ↓bw_eq, gd_pos, br_pos, br_neg, br_T, br_F, gd_T, bp_some, bd_some, bv_some, bl_some, bx_inl, bx_inr, bn_none, bn_some, bt_inl, bt_inr, not_true_eq_false, not_false_eq_true, eq_self, Bool.false_eq_true, if_true, if_false, jn_clamp, jn_lt, jn_le, jn_inj, jn_add, jn_sub, jn_mul, jn_vp, jn_0a, jn_1a, jn_1b, jn_1s, jn_1m, jn_neg0, jn_le0, jn_0le, jn_0lt, jn_1le, jn_le1, jn_lt1, jn_1lt, jn_e0, jn_e1, jn_em, ↓qB_f, ↓qT_f, cl_0, cl_1, vp_0, vp_1, li_10, hz, h0, (by decide : ((1 : Int32) = 0) = False), ret_some, LQ_inl]
            exact ⟨trivial, trivial, trivial, f3⟩
          · simp (disch := omega) only [K_C_eaten_83, K_C_eaten_87, ↓bi_eq, ↓bw_eq, gd_pos, br_pos, br_neg, br_T, br_F, gd_T, bp_some, bd_some, bv_some, bl_some, bx_inl, bx_inr, bn_none, bn_some, bt_inl, bt_inr, not_true_eq_false, not_false_eq_true, eq_self, Bool.false_eq_true, if_true, if_false, jn_clamp, jn_lt, jn_le, jn_inj, jn_add, jn_sub, jn_mul, jn_vp, jn_0a, jn_1a, jn_1b, jn_1s, jn_1m, jn_neg0, jn_le0, jn_0le, jn_0lt, jn_1le, jn_le1, jn_lt1, jn_1lt, jn_e0, jn_e1, jn_em, ↓qB_f, ↓qT_f, cl_0, cl_1, vp_0, vp_1, li_10, hz, h0, (by decide : ((1 : Int32) = 0) = False), ret_some, LQ_inl]
            exact ⟨trivial, trivial, trivial, f3⟩
        · rw [← Nat.add_assoc, ftS_n _ hz]
          simp (disch := omega) only [K_C_eaten_87, ↓bi_eq, ↓bw_eq, gd_pos, br_pos, br_neg, br_T, br_F, gd_T, bp_some, bd_some, bv_some, bl_some, bx_inl, bx_inr, bn_none, bn_some, bt_inl, bt_inr, not_true_eq_false, not_false_eq_true, eq_self, Bool.false_eq_true, if_true, if_false, jn_clamp, jn_lt, jn_le, jn_inj, jn_add, jn_sub, jn_mul, jn_vp, jn_0a, jn_1a, jn_1b, jn_1s, jn_1m, jn_neg0, jn_le0, jn_0le, jn_0lt, jn_1le, jn_le1, jn_lt1, jn_1lt, jn_e0, jn_e1, jn_em, ↓qB_f, ↓qT_f, cl_0, cl_1, vp_0, vp_1, hz, ret_some, LQ_inl]
          exact ⟨trivial, trivial, trivial, f3⟩
      · obtain ⟨ma, fi, i, w2⟩ := s
        obtain ⟨i0, i1, i2, i4⟩ := hi
        simp only at i0 i1 i2 i4
        subst i0 i1 i2
        simp (disch := omega) only [B_C_eaten_49, ↓bi_eq, ↓bw_eq, gd_pos, br_pos, br_neg, br_T, br_F, gd_T, bp_some, bd_some, bv_some, bl_some, bx_inl, bx_inr, bn_none, bn_some, bt_inl, bt_inr, not_true_eq_false, not_false_eq_true, eq_self, Bool.false_eq_true, if_true, if_false, jn_clamp, jn_lt, jn_le, jn_inj, jn_add, jn_sub, jn_mul, jn_vp, jn_0a, jn_1a, jn_1b, jn_1s, jn_1m, jn_neg0, jn_le0, jn_0le, jn_0lt, jn_1le, jn_le1, jn_lt1, jn_1lt, jn_e0, jn_e1, jn_em, ↓qB_f, ↓qT_f, cl_0, cl_1, vp_0, vp_1, li_9, ret_some, LQ_inr]
        exact ⟨trivial, trivial, i4⟩
    · obtain ⟨x0, x1, x2⟩ := hq
      rw [ret_some, LQ_inl]
      exact ⟨x0, x1, rfl, x2⟩
  · obtain ⟨ma, fi, i, w1⟩ := s
    obtain ⟨i0, i1, i2, i3⟩ := hi
    simp only at i0 i1 i2 i3
    subst i0 i1 i2
    have e1 : w1 56 1 = jn (hsM h) := (i3 56 1 rfl).trans hc.2.1
    simp (disch := omega) only [B_C_eaten_34, ↓bi_eq, ↓bw_eq, gd_pos, br_pos, br_neg, br_T, br_F, gd_T, bp_some, bd_some, bv_some, bl_some, bx_inl, bx_inr, bn_none, bn_some, bt_inl, bt_inr, not_true_eq_false, not_false_eq_true, eq_self, Bool.false_eq_true, if_true, if_false, jn_clamp, jn_lt, jn_le, jn_inj, jn_add, jn_sub, jn_mul, jn_vp, jn_0a, jn_1a, jn_1b, jn_1s, jn_1m, jn_neg0, jn_le0, jn_0le, jn_0lt, jn_1le, jn_le1, jn_lt1, jn_1lt, jn_e0, jn_e1, jn_em, ↓qB_f, ↓qT_f, cl_0, cl_1, vp_0, vp_1, e1, br_pos (Nat.le_refl (hsM h)), ret_some, LQ_inr]
    exact ⟨trivial, trivial, i3⟩
def LFt : List Nat := [14, 15, 16, 17, 18, 19, 21, 22, 23, 30, 32]
def KFt : List (Nat × Nat) := [(0, 31), (0, 32), (0, 33), (0, 38), (0, 39), (0, 40), (0, 52)]
theorem upd_upd (c : Sta) (i : Nat) (a b : Int32) : upd (upd c i a) i b = upd c i b := by
  funext j
  unfold upd
  by_cases h : j = i
  · rw [if_pos h, if_pos h]
  · rw [if_neg h, if_neg h, if_neg h]
/-- the model's row of those that fit -/
def MFit (w : Wld) (a : Nat × (Nat → Nat)) : Prop := w 0 52 = jn a.1 ∧ ∀ i, i < a.1 → w 32 i = jn (a.2 i)
theorem MFit_fr {L : List Nat} {K : List (Nat × Nat)} {w w' : Wld} {a : Nat × (Nat → Nat)} (r : MFit w a) (f : Frm L K w w') (b : frB L K 0 52 = false ∧ ∀ j, frB L K 32 j = false) : MFit w' a := by
  unfold MFit at r ⊢
  rw [f _ _ b.1, frm_cell f 32 b.2]
  exact r
theorem m_fits {w : Wld} {h : Hs} {c : Sta} {d : Hd} (hw : MHs w h) (hs : MSt w h c) (hh : GdH h) (hg : GdS h c) (hd : GdD d) (hr : MHd w d) : Ret (F_M_tellFits w) (fun w' => Frm LFt KFt w w' ∧ MSt w' h c ∧ MFit w' (ftS (fitP d h c) (10 * hsM h))) := by
  have hM := hh.2.1
  have fa : Frm [] [(0, 52)] w (wup w 0 52 0) := frm_wup frm_rf _ _ _ rfl
  have ea : (wup w 0 52 0) 0 52 = 0 := wup_s1 _ _ _ _
  rw [F_M_tellFits, bw_eq, ret_bl]
  generalize wup w 0 52 0 = wa at fa ea ⊢
  refine ret_mono (P := fun w' => Frm LFt KFt w w' ∧ MSt w' h c ∧ MFit w' (ftS (fitP d h c) (10 * hsM h))) ?_ (fun w' hq => by rw [ret_some]; exact hq)
  refine loop_inv (I := fun m s => s.1 = jn m ∧ Frm LFt KFt w s.2 ∧ MSt s.2 h c ∧ MFit s.2 (ftS (fitP d h c) (10 * m))) (hsM h) ⟨rfl, frm_up fa rfl, MSt_fr hs fa ⟨fun _ => rfl, fun _ => rfl, fun _ => rfl, fun _ => rfl, fun _ => rfl, fun _ => rfl, rfl, rfl, rfl⟩, ea, fun i hi => absurd hi (Nat.not_lt_zero i)⟩ (fun m s hm hi => ?_) (fun s hi => ?_)
  · obtain ⟨i, w1⟩ := s
    obtain ⟨i0, i1, i2, i3⟩ := hi
    simp only at i0 i1 i2 i3
    subst i0
    have e1 : w1 3 1 = jn (hsM h) := (i1 3 1 rfl).trans hw.2.1
    have e15 := (i2.1 m hm).2.1
    simp (disch := omega) only [B_M_tellFits_7, ↓bi_eq, ↓bw_eq, gd_pos, br_pos, br_neg, br_T, br_F, gd_T, bp_some, bd_some, bv_some, bl_some, bx_inl, bx_inr, bn_none, bn_some, bt_inl, bt_inr, not_true_eq_false, not_false_eq_true, eq_self, Bool.false_eq_true, if_true, if_false, jn_clamp, jn_lt, jn_le, jn_inj, jn_add, jn_sub, jn_mul, jn_vp, jn_0a, jn_1a, jn_1b, jn_1s, jn_1m, jn_neg0, jn_le0, jn_0le, jn_0lt, jn_1le, jn_le1, jn_lt1, jn_1lt, jn_e0, jn_e1, jn_em, ↓qB_f, ↓qT_f, cl_0, cl_1, vp_0, vp_1, e1, e15, ret_bl]
    refine ret_mono (P := fun w' => Frm LFt KFt w w' ∧ (∃ y, MSt w' h (upd c (8 + m) y)) ∧ MFit w' (ftS (fitP d h c) (10 * m + 10))) ?_ (fun w' hq => ?_)
    · refine loop_inv (I := fun v s => s.1 = jn v ∧ Frm LFt KFt w s.2 ∧ (∃ y, MSt s.2 h (upd c (8 + m) y)) ∧ MFit s.2 (ftS (fitP d h c) (10 * m + v))) 10 ⟨rfl, i1, ⟨c (8 + m), by rw [upd_id]; exact i2⟩, i3⟩ (fun v s hv hi => ?_) (fun s hi => ?_)
      · obtain ⟨i, w2⟩ := s
        obtain ⟨j0, j1, ⟨y, j2⟩, j3⟩ := hi
        simp only at j0 j1 j2 j3
        subst j0
        have hcl := ftS_le (fitP d h c) (10 * m + v)
        have f3 : Frm [15] [] w2 (wup w2 15 m (jn v)) := frm_wup frm_rf _ _ _ rfl
        have s3 := MSt_fish hh j2 (m := m) (by omega) (jn v)
        rw [upd_upd] at s3
        have n3 : MFit (wup w2 15 m (jn v)) (ftS (fitP d h c) (10 * m + v)) := MFit_fr j3 f3 ⟨rfl, fun _ => rfl⟩
        have g3 : Frm LFt KFt w (wup w2 15 m (jn v)) := frm_tr j1 (frm_up f3 rfl)
        by_cases he : c (8 + m) = jn v
        · have hz : ¬ fitP d h c (10 * m + v) = true := by rw [fitP_e d h c hv]; simp [he]
          rw [← Nat.add_assoc, ftS_n _ hz]
          simp (disch := omega) only [B_M_tellFits_26, K_M_tellFits_79, ↓bi_eq, ↓bw_eq, gd_pos, br_pos, br_neg, br_T, br_F, gd_T, bp_some, bd_some, bv_some, bl_some, bx_inl, bx_inr, bn_none, bn_some, bt_inl, bt_inr, not_true_eq_false, not_false_eq_true, eq_self, Bool.false_eq_true, if_true, if_false, jn_clamp, jn_lt, jn_le, jn_inj, jn_add, jn_sub, jn_mul, jn_vp, jn_0a, jn_1a, jn_1b, jn_1s, jn_1m, jn_neg0, jn_le0, jn_0le, jn_0lt, jn_1le, jn_le1, jn_lt1, jn_1lt, jn_e0, jn_e1, jn_em, ↓qB_f, ↓qT_f, cl_0, cl_1, vp_0, vp_1, li_10, he, ret_some, LQ_inl]
          exact ⟨trivial, g3, ⟨_, s3⟩, n3⟩
        · have he' : ¬ jn v = c (8 + m) := fun z => he z.symm
          have hz9 : fitP d h c (10 * m + v) = asH d h (upd c (8 + m) (jn v)) 20 := by rw [fitP_e d h c hv]; simp [he]
          simp (disch := omega) only [B_M_tellFits_26, ↓bi_eq, ↓bw_eq, gd_pos, br_pos, br_neg, br_T, br_F, gd_T, bp_some, bd_some, bv_some, bl_some, bx_inl, bx_inr, bn_none, bn_some, bt_inl, bt_inr, not_true_eq_false, not_false_eq_true, eq_self, Bool.false_eq_true, if_true, if_false, jn_clamp, jn_lt, jn_le, jn_inj, jn_add, jn_sub, jn_mul, jn_vp, jn_0a, jn_1a, jn_1b, jn_1s, jn_1m, jn_neg0, jn_le0, jn_0le, jn_0lt, jn_1le, jn_le1, jn_lt1, jn_1lt, jn_e0, jn_e1, jn_em, ↓qB_f, ↓qT_f, cl_0, cl_1, vp_0, vp_1, li_10, he', ret_bd]
          generalize wup w2 15 m (jn v) = w3 at f3 s3 n3 g3 ⊢
          refine ret_mono (m_asH (MHs_fr hw g3 ⟨rfl, rfl, rfl, rfl, rfl, fun _ => rfl, fun _ => rfl, fun _ => rfl⟩) s3 hh (GdS_fish hh hg (by omega) hv) hd (MHd_fr hr g3 ⟨rfl, fun _ => rfl, fun _ => rfl, fun _ => rfl⟩)) (fun q hq => ?_)
          obtain ⟨x, w4⟩ := q
          obtain ⟨p1, p2, p3⟩ := hq
          simp only at p1 p2 p3
          rw [← hz9] at p1
          subst p1
          have n4 : MFit w4 (ftS (fitP d h c) (10 * m + v)) := MFit_fr n3 p2 ⟨rfl, fun _ => rfl⟩
          have g4 : Frm LFt KFt w w4 := frm_tr g3 (frm_up p2 rfl)
          by_cases hz : fitP d h c (10 * m + v) = true
          · have e52 := n4.1
            have f5 : Frm [32] [(0, 52)] w4 (wup (wup w4 32 (ftS (fitP d h c) (10 * m + v)).1 (jn (10 * m + v))) 0 52 (jn ((ftS (fitP d h c) (10 * m + v)).1 + 1))) := frm_wup (frm_wup frm_rf _ _ _ rfl) _ _ _ rfl
            simp (disch := omega) only [K_M_tellFits_79, ↓bi_eq, ↓bw_eq, gd_pos, br_pos, br_neg, br_T, br_F, gd_T, bp_some, bd_some, bv_some, bl_some, bx_inl, bx_inr, bn_none, bn_some, bt_inl, bt_inr, not_true_eq_false, not_false_eq_true, eq_self, Bool.false_eq_true, if_true, if_false, jn_clamp, jn_lt, jn_le, jn_inj, jn_add, jn_sub, jn_mul, jn_vp, jn_0a, jn_1a, jn_1b, jn_1s, jn_1m, jn_neg0, jn_le0, jn_0le, jn_0lt, jn_1le, jn_le1, jn_lt1, jn_1lt, jn_e0, jn_e1, jn_em, ↓qB_f, ↓qT_f, cl_0, cl_1, vp_0, vp_1, hz, e52, wup_o, (by decide : ((1 : Int32) = 0) = False), ret_some, LQ_inl]
            refine ⟨trivial, frm_tr g4 (frm_up f5 rfl), ⟨_, MSt_fr p3 f5 ⟨fun _ => rfl, fun _ => rfl, fun _ => rfl, fun _ => rfl, fun _ => rfl, fun _ => rfl, rfl, rfl, rfl⟩⟩, ?_, fun i hi => ?_⟩
            · rw [← Nat.add_assoc, ftS_y _ hz, wup_s1]
            · rw [← Nat.add_assoc, ftS_y _ hz] at hi
              rw [← Nat.add_assoc, ftS_yf _ hz, wup_o _ _ _ (by decide), wup_s]
              by_cases h9 : i = (ftS (fitP d h c) (10 * m + v)).1
              · rw [if_pos h9, if_pos h9]
              · rw [if_neg h9, if_neg h9]; exact n4.2 i (by omega)
          · rw [← Nat.add_assoc, ftS_n _ hz]
            simp (disch := omega) only [K_M_tellFits_79, ↓bi_eq, ↓bw_eq, gd_pos, br_pos, br_neg, br_T, br_F, gd_T, bp_some, bd_some, bv_some, bl_some, bx_inl, bx_inr, bn_none, bn_some, bt_inl, bt_inr, not_true_eq_false, not_false_eq_true, eq_self, Bool.false_eq_true, if_true, if_false, jn_clamp, jn_lt, jn_le, jn_inj, jn_add, jn_sub, jn_mul, jn_vp, jn_0a, jn_1a, jn_1b, jn_1s, jn_1m, jn_neg0, jn_le0, jn_0le, jn_0lt, jn_1le, jn_le1, jn_lt1, jn_1lt, jn_e0, jn_e1, jn_em, ↓qB_f, ↓qT_f, cl_0, cl_1, vp_0, vp_1, hz, ret_some, LQ_inl]
            exact ⟨trivial, g4, ⟨_, p3⟩, n4⟩
      · obtain ⟨i, w2⟩ := s
        obtain ⟨j0, j1, j2, j3⟩ := hi
        simp only at j0 j1 j2 j3
        subst j0
        simp (disch := omega) only [B_M_tellFits_26, ↓bi_eq, ↓bw_eq, gd_pos, br_pos, br_neg, br_T, br_F, gd_T, bp_some, bd_some, bv_some, bl_some, bx_inl, bx_inr, bn_none, bn_some, bt_inl, bt_inr, not_true_eq_false, not_false_eq_true, eq_self, Bool.false_eq_true, if_true, if_false, jn_clamp, jn_lt, jn_le, jn_inj, jn_add, jn_sub, jn_mul, jn_vp, jn_0a, jn_1a, jn_1b, jn_1s, jn_1m, jn_neg0, jn_le0, jn_0le, jn_0lt, jn_1le, jn_le1, jn_lt1, jn_1lt, jn_e0, jn_e1, jn_em, ↓qB_f, ↓qT_f, cl_0, cl_1, vp_0, vp_1, li_10, br_pos (Nat.le_refl 10), ret_some, LQ_inr]
        exact ⟨j1, j2, j3⟩
    · obtain ⟨q1, ⟨y, q2⟩, q3⟩ := hq
      have f3 : Frm [15] [] w' (wup w' 15 m (c (8 + m))) := frm_wup frm_rf _ _ _ rfl
      have s3 := MSt_fish hh q2 (m := m) (by omega) (c (8 + m))
      rw [upd_upd, upd_id] at s3
      simp (disch := omega) only [↓bi_eq, ↓bw_eq, gd_pos, br_pos, br_neg, br_T, br_F, gd_T, bp_some, bd_some, bv_some, bl_some, bx_inl, bx_inr, bn_none, bn_some, bt_inl, bt_inr, not_true_eq_false, not_false_eq_true, eq_self, Bool.false_eq_true, if_true, if_false, jn_clamp, jn_lt, jn_le, jn_inj, jn_add, jn_sub, jn_mul, jn_vp, jn_0a, jn_1a, jn_1b, jn_1s, jn_1m, jn_neg0, jn_le0, jn_0le, jn_0lt, jn_1le, jn_le1, jn_lt1, jn_1lt, jn_e0, jn_e1, jn_em, ↓qB_f, ↓qT_f, cl_0, cl_1, vp_0, vp_1, ret_some, LQ_inl]
      exact ⟨trivial, frm_tr q1 (frm_up f3 rfl), s3, MFit_fr q3 f3 ⟨rfl, fun _ => rfl⟩⟩
  · obtain ⟨i, w1⟩ := s
    obtain ⟨i0, i1, i2, i3⟩ := hi
    simp only at i0 i1 i2 i3
    subst i0
    have e1 : w1 3 1 = jn (hsM h) := (i1 3 1 rfl).trans hw.2.1
    simp (disch := omega) only [B_M_tellFits_7, ↓bi_eq, ↓bw_eq, gd_pos, br_pos, br_neg, br_T, br_F, gd_T, bp_some, bd_some, bv_some, bl_some, bx_inl, bx_inr, bn_none, bn_some, bt_inl, bt_inr, not_true_eq_false, not_false_eq_true, eq_self, Bool.false_eq_true, if_true, if_false, jn_clamp, jn_lt, jn_le, jn_inj, jn_add, jn_sub, jn_mul, jn_vp, jn_0a, jn_1a, jn_1b, jn_1s, jn_1m, jn_neg0, jn_le0, jn_0le, jn_0lt, jn_1le, jn_le1, jn_lt1, jn_1lt, jn_e0, jn_e1, jn_em, ↓qB_f, ↓qT_f, cl_0, cl_1, vp_0, vp_1, e1, br_pos (Nat.le_refl (hsM h)), ret_some, LQ_inr]
    exact ⟨i1, i2, i3⟩
theorem q_eaten {w : Wld} {h : Hs} (r : RelH w h) (a1 : Int32) : BothR cdN w h (F_C_eaten w a1) (fun w1 => F_M_eaten w1 a1) := by
  have hh := r.1
  have hc := r.2.1
  have hM := hh.2.1
  have hg := r.2.2.2.1.1
  obtain ⟨d1, d2, -⟩ := hd_of r.2.2.2.2.2.1
  rcases rng_cases a1 0 2 (by omega) (by omega) with ⟨k, -, hk, rfl⟩ | ⟨n1, n2⟩
  rotate_left
  · have n2 : ¬ ((0 : Int32) ≤ a1 ∧ a1 ≤ 2) := n2
    refine BothQ_R (q_bad 0 1 ?_ (fun w1 r1 => ?_) rfl)
    · rw [F_C_eaten, li_2, t_what_n w n1, bn_some]
    · simp only [F_M_eaten, bw_eq, t_isIn, n2, if_false, bp_some, eq_self, not_true_eq_false, br_F, t_fail, bd_some]
  have g1 : (0 : Int32) ≤ jn k ∧ jn k ≤ 2 := g_what k 2 (by omega) hk
  have hcl := ftS_le (fitP (theHd w) h (w 66)) (10 * hsM h)
  refine ⟨.inr (some (if k = 2 then (if asH (theHd w) h (w 66) 20 = true then 1 else 0) else if k = 0 then jn (ftS (fitP (theHd w) h (w 66)) (10 * hsM h)).1 else fstI (ftS (fitP (theHd w) h (w 66)) (10 * hsM h)))), ?_, fun w1 r1 f1 => ?_⟩
  · rw [F_C_eaten, li_2, t_what_y w (by omega) hk, bn_none]
    by_cases h2 : k = 2
    · subst h2
      rw [br_neg (fun z => z rfl), ret_bv]
      refine ret_mono (t_begin w) (fun w1 hq => ?_)
      obtain ⟨q1, q2⟩ := hq
      rw [ret_bd]
      refine ret_mono (c_heardT (CHs_fr hc q1 ⟨rfl, rfl, rfl, rfl, fun _ => rfl, fun _ => rfl, rfl, fun _ => rfl⟩) hh hg q2 d1 (CHd_fr d2 q1 ⟨rfl, fun _ => rfl, fun _ => rfl, fun _ => rfl⟩)) (fun q hq => ?_)
      obtain ⟨x, w2⟩ := q
      obtain ⟨p1, p2⟩ := hq
      simp only at p1 p2
      subst p1
      by_cases hz : asH (theHd w) h (w 66) 20 = true
      · simp only [hz, if_true, (by decide : ((1 : Int32) = 0) = False), br_F, K_C_eaten_26, ret_some, true_and]
        exact frm_tr (frm_up q1 rfl) (frm_up p2 rfl)
      · simp only [hz, if_true, if_false, eq_self, br_T, K_C_eaten_26, ret_some, true_and, Bool.false_eq_true]
        exact frm_tr (frm_up q1 rfl) (frm_up p2 rfl)
    · have h2' : ¬ jn k = jn 2 := by rw [jn_inj (by omega) (by omega)]; exact h2
      rw [br_pos h2', ret_bl]
      refine ret_mono (c_fits hc hh hg d1 d2 (jn k)) (fun q hq => ?_)
      obtain ⟨x, y, w2⟩ := q
      obtain ⟨p1, p2, p3⟩ := hq
      simp only at p1 p2 p3
      subst p1 p2
      have hb : k = 0 ∨ k = 1 := by omega
      rcases hb with rfl | rfl
      · simp (disch := omega) only [K_C_eaten_108, ↓bi_eq, ↓bw_eq, gd_pos, br_pos, br_neg, br_T, br_F, gd_T, bp_some, bd_some, bv_some, bl_some, bx_inl, bx_inr, bn_none, bn_some, bt_inl, bt_inr, not_true_eq_false, not_false_eq_true, eq_self, Bool.false_eq_true, if_true, if_false, jn_clamp, jn_lt, jn_le, jn_inj, jn_add, jn_sub, jn_mul, jn_vp, jn_0a, jn_1a, jn_1b, jn_1s, jn_1m, jn_neg0, jn_le0, jn_0le, jn_0lt, jn_1le, jn_le1, jn_lt1, jn_1lt, jn_e0, jn_e1, jn_em, ↓qB_f, ↓qT_f, cl_0, cl_1, vp_0, vp_1, ret_some, (by decide : (0 = 2) = False), true_and]
        exact frm_up p3 rfl
      · simp (disch := omega) only [K_C_eaten_108, ↓bi_eq, ↓bw_eq, gd_pos, br_pos, br_neg, br_T, br_F, gd_T, bp_some, bd_some, bv_some, bl_some, bx_inl, bx_inr, bn_none, bn_some, bt_inl, bt_inr, not_true_eq_false, not_false_eq_true, eq_self, Bool.false_eq_true, if_true, if_false, jn_clamp, jn_lt, jn_le, jn_inj, jn_add, jn_sub, jn_mul, jn_vp, jn_0a, jn_1a, jn_1b, jn_1s, jn_1m, jn_neg0, jn_le0, jn_0le, jn_0lt, jn_1le, jn_le1, jn_lt1, jn_1lt, jn_e0, jn_e1, jn_em, ↓qB_f, ↓qT_f, cl_0, cl_1, vp_0, vp_1, ret_some, (by decide : (1 = 2) = False), (by decide : (1 = 0) = False), true_and]
        exact frm_up p3 rfl
  · obtain ⟨-, -, d3⟩ := hd_of r1.2.2.2.2.2.1
    rw [theHd_e f1] at d3
    have e66 : w1 66 = w 66 := frm_cell f1 66 (fun _ => rfl)
    obtain ⟨z1, z2, z3, z4⟩ := m_ent r1
    rw [e66] at z2
    have zd : MHd (wup w1 0 2 0) (theHd w) := MHd_fr d3 (frm_wup (L := []) (K := [(0, 2)]) frm_rf _ _ _ rfl) ⟨rfl, fun _ => rfl, fun _ => rfl, fun _ => rfl⟩
    simp only [F_M_eaten, bw_eq, t_isIn, g1, and_self, if_true, bp_some, br_T, not_false_eq_true, (by decide : ((1 : Int32) = 0) = False)]
    generalize wup w1 0 2 0 = wa at z1 z2 z3 z4 zd ⊢
    by_cases h2 : k = 2
    · subst h2
      rw [br_neg (fun z => z rfl), ret_bd]
      refine ret_mono (m_asH z1 z2 hh hg d1 zd) (fun q hq => ?_)
      obtain ⟨x, w2⟩ := q
      obtain ⟨p1, p2, p3⟩ := hq
      simp only at p1 p2 p3
      subst p1
      obtain ⟨y1, y2⟩ := q_ans r1 e66 (frm_tr z3 (frm_up p2 rfl)) p3
      have c2 : w2 0 2 = 0 := (p2 0 2 rfl).trans z4
      by_cases hz : asH (theHd w) h (w 66) 20 = true
      · simp only [hz, if_true, (by decide : ((1 : Int32) = 0) = False), br_F, K_M_eaten_40, ret_some]
        exact ⟨⟨c2, rfl⟩, y1, y2⟩
      · simp only [hz, if_true, if_false, eq_self, br_T, K_M_eaten_40, ret_some, Bool.false_eq_true]
        exact ⟨⟨c2, rfl⟩, y1, y2⟩
    · have h2' : ¬ jn k = (2 : Int32) := by rw [li_2, jn_inj (by omega) (by omega)]; exact h2
      rw [br_pos h2', ret_bv]
      refine ret_mono (m_fits z1 z2 hh hg d1 zd) (fun w2 hq => ?_)
      obtain ⟨p1, p2, p3⟩ := hq
      obtain ⟨y1, y2⟩ := q_ans r1 e66 (frm_tr z3 (frm_up p1 rfl)) p2
      have c2 : w2 0 2 = 0 := (p1 0 2 rfl).trans z4
      have e52 := p3.1
      have hb : k = 0 ∨ k = 1 := by omega
      rcases hb with rfl | rfl
      · simp (disch := omega) only [K_M_eaten_73, ↓bi_eq, ↓bw_eq, gd_pos, br_pos, br_neg, br_T, br_F, gd_T, bp_some, bd_some, bv_some, bl_some, bx_inl, bx_inr, bn_none, bn_some, bt_inl, bt_inr, not_true_eq_false, not_false_eq_true, eq_self, Bool.false_eq_true, if_true, if_false, jn_clamp, jn_lt, jn_le, jn_inj, jn_add, jn_sub, jn_mul, jn_vp, jn_0a, jn_1a, jn_1b, jn_1s, jn_1m, jn_neg0, jn_le0, jn_0le, jn_0lt, jn_1le, jn_le1, jn_lt1, jn_1lt, jn_e0, jn_e1, jn_em, ↓qB_f, ↓qT_f, cl_0, cl_1, vp_0, vp_1, e52, (by decide : (0 = 2) = False), ret_some]
        exact ⟨⟨c2, rfl⟩, y1, y2⟩
      · by_cases h0 : (ftS (fitP (theHd w) h (w 66)) (10 * hsM h)).1 = 0
        · simp (disch := omega) only [K_M_eaten_73, ↓bi_eq, ↓bw_eq, gd_pos, br_pos, br_neg, br_T, br_F, gd_T, bp_some, bd_some, bv_some, bl_some, bx_inl, bx_inr, bn_none, bn_some, bt_inl, bt_inr, not_true_eq_false, not_false_eq_true, eq_self, Bool.false_eq_true, if_true, if_false, jn_clamp, jn_lt, jn_le, jn_inj, jn_add, jn_sub, jn_mul, jn_vp, jn_0a, jn_1a, jn_1b, jn_1s, jn_1m, jn_neg0, jn_le0, jn_0le, jn_0lt, jn_1le, jn_le1, jn_lt1, jn_1lt, jn_e0, jn_e1, jn_em, ↓qB_f, ↓qT_f, cl_0, cl_1, vp_0, vp_1, e52, h0, (by decide : (1 = 2) = False), (by decide : (1 = 0) = False), ret_some]
          refine ⟨⟨c2, ?_⟩, y1, y2⟩
          unfold fstI; rw [if_pos h0]
        · have e0 := p3.2 0 (by omega)
          simp (disch := omega) only [K_M_eaten_73, ↓bi_eq, ↓bw_eq, gd_pos, br_pos, br_neg, br_T, br_F, gd_T, bp_some, bd_some, bv_some, bl_some, bx_inl, bx_inr, bn_none, bn_some, bt_inl, bt_inr, not_true_eq_false, not_false_eq_true, eq_self, Bool.false_eq_true, if_true, if_false, jn_clamp, jn_lt, jn_le, jn_inj, jn_add, jn_sub, jn_mul, jn_vp, jn_0a, jn_1a, jn_1b, jn_1s, jn_1m, jn_neg0, jn_le0, jn_0le, jn_0lt, jn_1le, jn_le1, jn_lt1, jn_1lt, jn_e0, jn_e1, jn_em, ↓qB_f, ↓qT_f, cl_0, cl_1, vp_0, vp_1, e52, e0, h0, (by decide : (1 = 2) = False), (by decide : (1 = 0) = False), ret_some]
          refine ⟨⟨c2, ?_⟩, y1, y2⟩
          unfold fstI; rw [if_neg h0]
