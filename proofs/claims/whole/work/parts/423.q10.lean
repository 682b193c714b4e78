/-! ===== what is heard ===== -/
/-- a question whose answer rests on more than the state -/
def BothR (cd : Nat → Int32) (w : Wld) (h : Hs) (C : Option (Oc × Wld)) (M : Wld → Option (Int32 × Wld)) : Prop := ∃ o, Ret C (fun q => q.1 = o ∧ Frm LQc KQc w q.2) ∧ ∀ w1, RelH w1 h → Frm LQc KQc w w1 → Ret (M w1) (fun p => Mat cd o p.1 (p.2 0 2) ∧ RelH p.2 h ∧ p.2 41 0 = w1 41 0)
theorem BothR_G {cd : Nat → Int32} {w : Wld} {h : Hs} {C : Option (Oc × Wld)} {M : Wld → Option (Int32 × Wld)} (r : RelH w h) (b : BothR cd w h C M) : BothG cd C M := by
  obtain ⟨o, b1, b2⟩ := b
  refine ⟨o, ret_mono b1 (fun q hq => ⟨hq.1, fun w2 f2 => ?_⟩)⟩
  have f : Frm LQc KQc w w2 := frm_tr hq.2 (frm_up f2 rfl)
  refine ret_mono (b2 w2 (RelH_c r f) f) (fun p hp => ?_)
  exact ⟨hp.1, ⟨h, hp.2.1⟩, hp.2.2⟩
theorem BothQ_R {cd : Nat → Int32} {w : Wld} {h : Hs} {C : Option (Oc × Wld)} {M : Wld → Option (Int32 × Wld)} (b : BothQ cd w h C M) : BothR cd w h C M := by
  obtain ⟨o, b1, b2⟩ := b
  exact ⟨o, b1, fun w1 r1 f => b2 w1 r1 (frm_cell f 66 (fun _ => rfl))⟩
abbrev Hd : Type := Nat × (Nat → Nat) × (Nat → Nat) × (Nat → Int32)
def hdN (d : Hd) : Nat := d.1
def hdK (d : Hd) : Nat → Nat := d.2.1
def hdV (d : Hd) : Nat → Nat := d.2.2.1
def hdS (d : Hd) : Nat → Int32 := d.2.2.2
def GdD (d : Hd) : Prop := hdN d ≤ 8 ∧ ∀ k, k < hdN d → (1 ≤ hdK d k ∧ hdK d k ≤ 20) ∧ hdV d k < 100 ∧ (hdS d k = 0 ∨ hdS d k = 1)
def CHd (w : Wld) (d : Hd) : Prop := w 69 3 = jn (hdN d) ∧ ∀ k, k < hdN d → w 70 k = jn (hdK d k) ∧ w 71 k = jn (hdV d k) ∧ w 72 k = hdS d k
def MHd (w : Wld) (d : Hd) : Prop := w 0 35 = jn (hdN d) ∧ ∀ k, k < hdN d → w 28 k = jn (hdK d k) ∧ w 29 k = jn (hdV d k) ∧ w 31 k = hdS d k
def theHd (w : Wld) : Hd := ((w 69 3).toNatClampNeg, fun k => (w 70 k).toNatClampNeg, fun k => (w 71 k).toNatClampNeg, w 72)
theorem hd_of {w : Wld} (r : RE w) : GdD (theHd w) ∧ CHd w (theHd w) ∧ MHd w (theHd w) := by
  obtain ⟨n, hn, e1, e2, hk⟩ := r
  have en : hdN (theHd w) = n := by show (w 69 3).toNatClampNeg = n; rw [e1, jn_clamp (by omega)]
  unfold GdD CHd MHd
  rw [en]
  refine ⟨⟨hn, fun k hk9 => ?_⟩, ⟨e1, fun k hk9 => ?_⟩, ⟨e2, fun k hk9 => ?_⟩⟩
  · obtain ⟨⟨x, x1, x2, x3, x4⟩, ⟨y, y1, y2, y3⟩, ⟨b, b1, b2, b3⟩⟩ := hk k hk9
    refine ⟨?_, ?_, ?_⟩
    · show 1 ≤ (w 70 k).toNatClampNeg ∧ (w 70 k).toNatClampNeg ≤ 20
      rw [x3, jn_clamp (by omega)]; exact ⟨x1, x2⟩
    · show (w 71 k).toNatClampNeg < 100
      rw [y2, jn_clamp (by omega)]; exact y1
    · show w 72 k = 0 ∨ w 72 k = 1
      rw [b2]; exact b1
  · obtain ⟨⟨x, x1, x2, x3, x4⟩, ⟨y, y1, y2, y3⟩, ⟨b, b1, b2, b3⟩⟩ := hk k hk9
    refine ⟨?_, ?_, rfl⟩
    · show w 70 k = jn (w 70 k).toNatClampNeg
      rw [x3, jn_clamp (by omega)]
    · show w 71 k = jn (w 71 k).toNatClampNeg
      rw [y2, jn_clamp (by omega)]
  · obtain ⟨⟨x, x1, x2, x3, x4⟩, ⟨y, y1, y2, y3⟩, ⟨b, b1, b2, b3⟩⟩ := hk k hk9
    refine ⟨?_, ?_, ?_⟩
    · show w 28 k = jn (w 70 k).toNatClampNeg
      rw [x3, x4, jn_clamp (by omega)]
    · show w 29 k = jn (w 71 k).toNatClampNeg
      rw [y2, y3, jn_clamp (by omega)]
    · show w 31 k = w 72 k
      rw [b2, b3]
theorem theHd_e {w w1 : Wld} (f : Frm LQc KQc w w1) : theHd w1 = theHd w := by
  unfold theHd
  rw [f 69 3 rfl, frm_cell f 70 (fun _ => rfl), frm_cell f 71 (fun _ => rfl), frm_cell f 72 (fun _ => rfl)]
theorem CHd_fr {L : List Nat} {K : List (Nat × Nat)} {w w' : Wld} {d : Hd} (r : CHd w d) (f : Frm L K w w') (b : frB L K 69 3 = false ∧ (∀ j, frB L K 70 j = false) ∧ (∀ j, frB L K 71 j = false) ∧ (∀ j, frB L K 72 j = false)) : CHd w' d := by
  unfold CHd at r ⊢
  obtain ⟨b0, b1, b2, b3⟩ := b
  rw [f _ _ b0, frm_cell f 70 b1, frm_cell f 71 b2, frm_cell f 72 b3]
  exact r
theorem MHd_fr {L : List Nat} {K : List (Nat × Nat)} {w w' : Wld} {d : Hd} (r : MHd w d) (f : Frm L K w w') (b : frB L K 0 35 = false ∧ (∀ j, frB L K 28 j = false) ∧ (∀ j, frB L K 29 j = false) ∧ (∀ j, frB L K 31 j = false)) : MHd w' d := by
  unfold MHd at r ⊢
  obtain ⟨b0, b1, b2, b3⟩ := b
  rw [f _ _ b0, frm_cell f 28 b1, frm_cell f 29 b2, frm_cell f 31 b3]
  exact r
/-- the i-th that is heard is so in the night k, ahead of which the state is c -/
def agI (d : Hd) (h : Hs) (c : Sta) (k i : Nat) : Bool := decide (hdK d i ≠ k) || decide ((if 0 < sSung h c (hdV d i) then (1 : Int32) else 0) = hdS d i)
def agJ (d : Hd) (h : Hs) (c : Sta) (k : Nat) : Nat → Bool := fl (fun i a => a && agI d h c k i) true
theorem agJ_s (d : Hd) (h : Hs) (c : Sta) (k i : Nat) : agJ d h c k (i + 1) = (agJ d h c k i && agI d h c k i) := rfl
theorem agJ_f {d : Hd} {h : Hs} {c : Sta} {k i : Nat} (e : agJ d h c k i = false) : ∀ j, i ≤ j → agJ d h c k j = false := by
  intro j
  induction j with
  | zero => intro hj; rw [show (0 : Nat) = i by omega]; exact e
  | succ j ih =>
    intro hj
    by_cases hi : i = j + 1
    · rw [← hi]; exact e
    · rw [agJ_s, ih (by omega)]; rfl
theorem agJ_t {d : Hd} {h : Hs} {c : Sta} {k n : Nat} (e : ∀ i, i < n → hdK d i ≠ k) : agJ d h c k n = true := by
  induction n with
  | zero => rfl
  | succ n ih =>
    rw [agJ_s, ih (fun i hi => e i (by omega))]
    unfold agI
    simp [e n (by omega)]
def asH (d : Hd) (h : Hs) (c : Sta) : Nat → Bool := fl (fun k a => a && agJ d h (sGo h c k) (k + 1) (hdN d)) true
theorem asH_s (d : Hd) (h : Hs) (c : Sta) (k : Nat) : asH d h c (k + 1) = (asH d h c k && agJ d h (sGo h c k) (k + 1) (hdN d)) := rfl
theorem asH_f {d : Hd} {h : Hs} {c : Sta} {i : Nat} (e : asH d h c i = false) : ∀ j, i ≤ j → asH d h c j = false := by
  intro j
  induction j with
  | zero => intro hj; rw [show (0 : Nat) = i by omega]; exact e
  | succ j ih =>
    intro hj
    by_cases hi : i = j + 1
    · rw [← hi]; exact e
    · rw [asH_s, ih (by omega)]; rfl
theorem asH_t {d : Hd} {h : Hs} {c : Sta} {l : Nat} (e : asH d h c l = true) (hl : ∀ i, i < hdN d → hdK d i ≤ l) : ∀ j, l ≤ j → asH d h c j = true := by
  intro j
  induction j with
  | zero => intro hj; rw [show (0 : Nat) = l by omega]; exact e
  | succ j ih =>
    intro hj
    by_cases hi : l = j + 1
    · rw [← hi]; exact e
    · rw [asH_s, ih (by omega), agJ_t (fun i hi => by have := hl i hi; omega)]; rfl
/-- the last night of those heard -/
def lstH (d : Hd) : Nat → Nat := fl (fun i a => max a (hdK d i)) 0
theorem lstH_s (d : Hd) (i : Nat) : lstH d (i + 1) = max (lstH d i) (hdK d i) := rfl
theorem lstH_le (d : Hd) (n : Nat) (hk : ∀ k, k < n → hdK d k ≤ 20) : lstH d n ≤ 20 ∧ ∀ i, i < n → hdK d i ≤ lstH d n := by
  induction n with
  | zero => exact ⟨Nat.zero_le _, fun i hi => absurd hi (Nat.not_lt_zero i)⟩
  | succ n ih =>
    obtain ⟨a, b⟩ := ih (fun k hk9 => hk k (by omega))
    have := hk n (by omega)
    rw [lstH_s]
    refine ⟨by omega, fun i hi => ?_⟩
    by_cases e : i = n
    · rw [e]; omega
    · have := b i (by omega); omega
theorem c_last {w : Wld} {d : Hd} (hd : GdD d) (hw : CHd w d) : F_Heard_lastNight_69 w = some (jn (lstH d (hdN d))) := by
  have hn := hd.1
  have key : loop (B_Heard_lastNight_69_4 w) (0, 0) = some (jn (lstH d (hdN d))) := by
    refine loop_for (V := fun k => (jn (lstH d k), jn k)) (hdN d) (fun k hk => ?_) ?_
    · have e := (hw.2 k hk).1
      have h1 := (hd.2 k hk).1
      have h2 := (lstH_le d k (fun j hj => ((hd.2 j (by omega)).1).2)).1
      simp (disch := omega) only [B_Heard_lastNight_69_4, ↓bi_eq, ↓bw_eq, gd_pos, br_pos, br_neg, br_T, br_F, gd_T, bp_some, bd_some, bv_some, bl_some, bx_inl, bx_inr, bn_none, bn_some, bt_inl, bt_inr, not_true_eq_false, not_false_eq_true, eq_self, Bool.false_eq_true, if_true, if_false, jn_clamp, jn_lt, jn_le, jn_inj, jn_add, jn_sub, jn_mul, jn_vp, jn_0a, jn_1a, jn_1b, jn_1s, jn_1m, jn_neg0, jn_le0, jn_0le, jn_0lt, jn_1le, jn_le1, jn_lt1, jn_1lt, jn_e0, jn_e1, jn_em, ↓qB_f, ↓qT_f, cl_0, cl_1, vp_0, vp_1, hw.1, e, imax_jn, lstH_s]
    · simp (disch := omega) only [B_Heard_lastNight_69_4, ↓bi_eq, ↓bw_eq, gd_pos, br_pos, br_neg, br_T, br_F, gd_T, bp_some, bd_some, bv_some, bl_some, bx_inl, bx_inr, bn_none, bn_some, bt_inl, bt_inr, not_true_eq_false, not_false_eq_true, eq_self, Bool.false_eq_true, if_true, if_false, jn_clamp, jn_lt, jn_le, jn_inj, jn_add, jn_sub, jn_mul, jn_vp, jn_0a, jn_1a, jn_1b, jn_1s, jn_1m, jn_neg0, jn_le0, jn_0le, jn_0lt, jn_1le, jn_le1, jn_lt1, jn_1lt, jn_e0, jn_e1, jn_em, ↓qB_f, ↓qT_f, cl_0, cl_1, vp_0, vp_1, hw.1, br_pos (Nat.le_refl (hdN d))]
  rw [F_Heard_lastNight_69, key]; rfl
theorem c_agrees {w : Wld} {h : Hs} {c : Sta} {d : Hd} (hw : CHs w h) (hh : GdH h) (hg : GdS h c) (hs : CSeen w h c) (hd : GdD d) (hr : CHd w d) {k : Nat} (hk : k < 100) : F_Heard_agrees_69_55 w (jn k) = some (if agJ d h c k (hdN d) = true then 1 else 0) := by
  have hn := hd.1
  apply ret_of
  rw [F_Heard_agrees_69_55, ret_bx]
  refine loop_inv (I := fun i s => s = jn i ∧ agJ d h c k i = true) (hdN d) ⟨rfl, rfl⟩ (fun i s hi ht => ?_) (fun s ht => ?_)
  · obtain ⟨rfl, t2⟩ := ht
    obtain ⟨a1, a2, a3⟩ := hr.2 i hi
    obtain ⟨b1, b2, b3⟩ := hd.2 i hi
    by_cases e1 : hdK d i = k
    · have hsg := t_wasSung hw hh hg hs b2
      by_cases e2 : (if 0 < sSung h c (hdV d i) then (1 : Int32) else 0) = hdS d i
      · simp (disch := omega) only [B_Heard_agrees_69_55_2, K_Heard_agrees_69_55_41, ↓bi_eq, ↓bw_eq, gd_pos, br_pos, br_neg, br_T, br_F, gd_T, bp_some, bd_some, bv_some, bl_some, bx_inl, bx_inr, bn_none, bn_some, bt_inl, bt_inr, not_true_eq_false, not_false_eq_true, eq_self, Bool.false_eq_true, if_true, if_false, jn_clamp, jn_lt, jn_le, jn_inj, jn_add, jn_sub, jn_mul, jn_vp, jn_0a, jn_1a, jn_1b, jn_1s, jn_1m, jn_neg0, jn_le0, jn_0le, jn_0lt, jn_1le, jn_le1, jn_lt1, jn_1lt, jn_e0, jn_e1, jn_em, ↓qB_f, ↓qT_f, cl_0, cl_1, vp_0, vp_1, hr.1, a1, a2, a3, e1, hsg, e2, ret_some, LQ_inl]
        refine ⟨trivial, ?_⟩
        rw [agJ_s, t2]
        unfold agI
        simp [e1, e2]
      · have hf : agJ d h c k (hdN d) = false := by
          refine agJ_f (i := i + 1) ?_ _ (by omega)
          rw [agJ_s, t2]
          unfold agI
          simp [e1, e2]
        simp (disch := omega) only [B_Heard_agrees_69_55_2, K_Heard_agrees_69_55_41, ↓bi_eq, ↓bw_eq, gd_pos, br_pos, br_neg, br_T, br_F, gd_T, bp_some, bd_some, bv_some, bl_some, bx_inl, bx_inr, bn_none, bn_some, bt_inl, bt_inr, not_true_eq_false, not_false_eq_true, eq_self, Bool.false_eq_true, if_true, if_false, jn_clamp, jn_lt, jn_le, jn_inj, jn_add, jn_sub, jn_mul, jn_vp, jn_0a, jn_1a, jn_1b, jn_1s, jn_1m, jn_neg0, jn_le0, jn_0le, jn_0lt, jn_1le, jn_le1, jn_lt1, jn_1lt, jn_e0, jn_e1, jn_em, ↓qB_f, ↓qT_f, cl_0, cl_1, vp_0, vp_1, hr.1, a1, a2, a3, e1, hsg, e2, ret_some, LQ_inr, hf]
    · simp (disch := omega) only [B_Heard_agrees_69_55_2, K_Heard_agrees_69_55_41, ↓bi_eq, ↓bw_eq, gd_pos, br_pos, br_neg, br_T, br_F, gd_T, bp_some, bd_some, bv_some, bl_some, bx_inl, bx_inr, bn_none, bn_some, bt_inl, bt_inr, not_true_eq_false, not_false_eq_true, eq_self, Bool.false_eq_true, if_true, if_false, jn_clamp, jn_lt, jn_le, jn_inj, jn_add, jn_sub, jn_mul, jn_vp, jn_0a, jn_1a, jn_1b, jn_1s, jn_1m, jn_neg0, jn_le0, jn_0le, jn_0lt, jn_1le, jn_le1, jn_lt1, jn_1lt, jn_e0, jn_e1, jn_em, ↓qB_f, ↓qT_f, cl_0, cl_1, vp_0, vp_1, hr.1, a1, e1, ret_some, LQ_inl]
      refine ⟨trivial, ?_⟩
      rw [agJ_s, t2]
      unfold agI
      simp [e1]
  · obtain ⟨rfl, t2⟩ := ht
    simp (disch := omega) only [B_Heard_agrees_69_55_2, ↓bi_eq, ↓bw_eq, gd_pos, br_pos, br_neg, br_T, br_F, gd_T, bp_some, bd_some, bv_some, bl_some, bx_inl, bx_inr, bn_none, bn_some, bt_inl, bt_inr, not_true_eq_false, not_false_eq_true, eq_self, Bool.false_eq_true, if_true, if_false, jn_clamp, jn_lt, jn_le, jn_inj, jn_add, jn_sub, jn_mul, jn_vp, jn_0a, jn_1a, jn_1b, jn_1s, jn_1m, jn_neg0, jn_le0, jn_0le, jn_0lt, jn_1le, jn_le1, jn_lt1, jn_1lt, jn_e0, jn_e1, jn_em, ↓qB_f, ↓qT_f, cl_0, cl_1, vp_0, vp_1, hr.1, br_pos (Nat.le_refl (hdN d)), ret_some, LQ_inr, LQ_inl, t2]
theorem c_heardT {w : Wld} {h : Hs} {c : Sta} {d : Hd} (hw : CHs w h) (hh : GdH h) (hg : GdS h c) (e : Eq53 (w 85) c) (hd : GdD d) (hr : CHd w d) : Ret (F_C_heardInTrial w) (fun q => q.1 = (if asH d h c 20 = true then 1 else 0) ∧ Frm [61, 62, 63, 85] [(55, 3)] w q.2) := by
  obtain ⟨l1, l2⟩ := lstH_le d (hdN d) (fun j hj => ((hd.2 j hj).1).2)
  rw [F_C_heardInTrial, c_last hd hr, bp_some, ret_bx]
  refine loop_inv (I := fun j s => s.1 = jn (j + 1) ∧ Frm [61, 62, 63, 85] [(55, 3)] w s.2 ∧ Eq53 (s.2 85) (sGo h c j) ∧ asH d h c j = true) (lstH d (hdN d)) ⟨rfl, frm_rf, e, rfl⟩ (fun j s hj hi => ?_) (fun s hi => ?_)
  · obtain ⟨i, w1⟩ := s
    obtain ⟨i1, i2, i3, i4⟩ := hi
    simp only at i1 i2 i3 i4
    subst i1
    simp (disch := omega) only [B_C_heardInTrial_13, ↓bi_eq, ↓bw_eq, gd_pos, br_pos, br_neg, br_T, br_F, gd_T, bp_some, bd_some, bv_some, bl_some, bx_inl, bx_inr, bn_none, bn_some, bt_inl, bt_inr, not_true_eq_false, not_false_eq_true, eq_self, Bool.false_eq_true, if_true, if_false, jn_clamp, jn_lt, jn_le, jn_inj, jn_add, jn_sub, jn_mul, jn_vp, jn_0a, jn_1a, jn_1b, jn_1s, jn_1m, jn_neg0, jn_le0, jn_0le, jn_0lt, jn_1le, jn_le1, jn_lt1, jn_1lt, jn_e0, jn_e1, jn_em, ↓qB_f, ↓qT_f, cl_0, cl_1, vp_0, vp_1, ret_bv]
    refine ret_mono (t_passT (CHs_fr hw i2 ⟨rfl, rfl, rfl, rfl, fun _ => rfl, fun _ => rfl, rfl, fun _ => rfl⟩) hh (sGo_good hh hg j) i3) (fun w2 hq => ?_)
    obtain ⟨p1, p2, p3⟩ := hq
    have f2 := frm_tr i2 p1
    rw [c_agrees (CHs_fr hw f2 ⟨rfl, rfl, rfl, rfl, fun _ => rfl, fun _ => rfl, rfl, fun _ => rfl⟩) hh (sGo_good hh hg j) p3 hd (CHd_fr hr f2 ⟨rfl, fun _ => rfl, fun _ => rfl, fun _ => rfl⟩) (by omega), bp_some]
    by_cases hz : agJ d h (sGo h c j) (j + 1) (hdN d) = true
    · simp only [hz, if_true, (by decide : ((1 : Int32) = 0) = False), not_false_eq_true, br_T, bi_eq, jn_1a, ret_some, LQ_inl]
      exact ⟨trivial, f2, p2, by rw [asH_s, i4, hz]; rfl⟩
    · have hf : asH d h c 20 = false := by
        refine asH_f (i := j + 1) ?_ _ (by omega)
        rw [asH_s, Bool.eq_false_iff.mpr hz, Bool.and_false]
      simp only [hz, if_false, eq_self, not_true_eq_false, br_F, ret_some, LQ_inr, hf, Bool.false_eq_true, true_and]
      exact f2
  · obtain ⟨i, w1⟩ := s
    obtain ⟨i1, i2, i3, i4⟩ := hi
    simp only at i1 i2 i3 i4
    subst i1
    have ht : asH d h c 20 = true := asH_t i4 l2 _ l1
    rw [B_C_heardInTrial_13, br_pos (by rw [jn_lt (by omega) (by omega)]; omega), ret_some, LQ_inr, LQ_inl, ret_some, ht]
    exact ⟨rfl, i2⟩
/-! the model -/
def LAs : List Nat := [14, 15, 16, 17, 18, 19, 21, 22, 23, 30]
theorem m_asIn {w : Wld} {h : Hs} {c : Sta} {d : Hd} (hs : MSeen w h c) (hd : GdD d) (hr : MHd w d) {k : Nat} (hk : k < 100) : loop (B_M_isAsHeard_29 (jn k) w) (1, 0) = some (if agJ d h c k (hdN d) = true then 1 else 0) := by
  have hn := hd.1
  refine loop_for (V := fun i => ((if agJ d h c k i = true then 1 else 0 : Int32), jn i)) (hdN d) (fun i hi => ?_) ?_
  · obtain ⟨a1, a2, a3⟩ := hr.2 i hi
    obtain ⟨b1, b2, b3⟩ := hd.2 i hi
    have e23 := hs.2.2.2 (hdV d i) b2
    rw [agJ_s]
    by_cases hz : agJ d h c k i = true
    · have hz1 : ((if agJ d h c k i = true then 1 else 0 : Int32) = 0) = False := by rw [hz]; decide
      by_cases e1 : hdK d i = k
      · by_cases e2 : 0 < sSung h c (hdV d i)
        · have e2' : ¬ sSung h c (hdV d i) ≤ 0 := Int32.not_le.mpr e2
          by_cases e3 : (1 : Int32) = hdS d i
          · have hag : agI d h c k i = true := by unfold agI; simp [e2, ← e3]
            simp (disch := omega) only [B_M_isAsHeard_29, K_M_isAsHeard_70, K_M_isAsHeard_79, K_M_isAsHeard_83, K_M_isAsHeard_84, ↓bi_eq, ↓bw_eq, gd_pos, br_pos, br_neg, br_T, br_F, gd_T, bp_some, bd_some, bv_some, bl_some, bx_inl, bx_inr, bn_none, bn_some, bt_inl, bt_inr, not_true_eq_false, not_false_eq_true, eq_self, Bool.false_eq_true, if_true, if_false, jn_clamp, jn_lt, jn_le, jn_inj, jn_add, jn_sub, jn_mul, jn_vp, jn_0a, jn_1a, jn_1b, jn_1s, jn_1m, jn_neg0, jn_le0, jn_0le, jn_0lt, jn_1le, jn_le1, jn_lt1, jn_1lt, jn_e0, jn_e1, jn_em, ↓qB_f, ↓qT_f, cl_0, cl_1, vp_0, vp_1, hr.1, hz, a1, a2, a3, e1, e23, e2', ← e3, hag, Bool.and_true, (by decide : ((1 : Int32) = 0) = False)]
          · have hag : agI d h c k i = false := by unfold agI; simp [e1, e2, e3]
            simp (disch := omega) only [B_M_isAsHeard_29, K_M_isAsHeard_70, K_M_isAsHeard_79, K_M_isAsHeard_83, K_M_isAsHeard_84, ↓bi_eq, ↓bw_eq, gd_pos, br_pos, br_neg, br_T, br_F, gd_T, bp_some, bd_some, bv_some, bl_some, bx_inl, bx_inr, bn_none, bn_some, bt_inl, bt_inr, not_true_eq_false, not_false_eq_true, eq_self, Bool.false_eq_true, if_true, if_false, jn_clamp, jn_lt, jn_le, jn_inj, jn_add, jn_sub, jn_mul, jn_vp, jn_0a, jn_1a, jn_1b, jn_1s, jn_1m, jn_neg0, jn_le0, jn_0le, jn_0lt, jn_1le, jn_le1, jn_lt1, jn_1lt, jn_e0, jn_e1, jn_em, ↓qB_f, ↓qT_f, cl_0, cl_1, vp_0, vp_1, hr.1, hz, a1, a2, a3, e1, e23, e2', e3, hag, Bool.and_false, (by decide : ((1 : Int32) = 0) = False)]
        · have e2' : sSung h c (hdV d i) ≤ 0 := Int32.not_lt.mp e2
          by_cases e3 : (0 : Int32) = hdS d i
          · have hag : agI d h c k i = true := by unfold agI; simp [e2, ← e3]
            simp (disch := omega) only [B_M_isAsHeard_29, K_M_isAsHeard_70, K_M_isAsHeard_79, K_M_isAsHeard_83, K_M_isAsHeard_84, ↓bi_eq, ↓bw_eq, gd_pos, br_pos, br_neg, br_T, br_F, gd_T, bp_some, bd_some, bv_some, bl_some, bx_inl, bx_inr, bn_none, bn_some, bt_inl, bt_inr, not_true_eq_false, not_false_eq_true, eq_self, Bool.false_eq_true, if_true, if_false, jn_clamp, jn_lt, jn_le, jn_inj, jn_add, jn_sub, jn_mul, jn_vp, jn_0a, jn_1a, jn_1b, jn_1s, jn_1m, jn_neg0, jn_le0, jn_0le, jn_0lt, jn_1le, jn_le1, jn_lt1, jn_1lt, jn_e0, jn_e1, jn_em, ↓qB_f, ↓qT_f, cl_0, cl_1, vp_0, vp_1, hr.1, hz, a1, a2, a3, e1, e23, e2', ← e3, hag, Bool.and_true, (by decide : ((1 : Int32) = 0) = False)]
          · have hag : agI d h c k i = false := by unfold agI; simp [e1, e2, e3]
            simp (disch := omega) only [B_M_isAsHeard_29, K_M_isAsHeard_70, K_M_isAsHeard_79, K_M_isAsHeard_83, K_M_isAsHeard_84, ↓bi_eq, ↓bw_eq, gd_pos, br_pos, br_neg, br_T, br_F, gd_T, bp_some, bd_some, bv_some, bl_some, bx_inl, bx_inr, bn_none, bn_some, bt_inl, bt_inr, not_true_eq_false, not_false_eq_true, eq_self, Bool.false_eq_true, if_true, if_false, jn_clamp, jn_lt, jn_le, jn_inj, jn_add, jn_sub, jn_mul, jn_vp, jn_0a, jn_1a, jn_1b, jn_1s, jn_1m, jn_neg0, jn_le0, jn_0le, jn_0lt, jn_1le, jn_le1, jn_lt1, jn_1lt, jn_e0, jn_e1, jn_em, ↓qB_f, ↓qT_f, cl_0, cl_1, vp_0, vp_1, hr.1, hz, a1, a2, a3, e1, e23, e2', e3, hag, Bool.and_false, (by decide : ((1 : Int32) = 0) = False)]
      · have hag : agI d h c k i = true := by unfold agI; simp [e1]
        simp (disch := omega) only [B_M_isAsHeard_29, K_M_isAsHeard_79, K_M_isAsHeard_84, ↓bi_eq, ↓bw_eq, gd_pos, br_pos, br_neg, br_T, br_F, gd_T, bp_some, bd_some, bv_some, bl_some, bx_inl, bx_inr, bn_none, bn_some, bt_inl, bt_inr, not_true_eq_false, not_false_eq_true, eq_self, Bool.false_eq_true, if_true, if_false, jn_clamp, jn_lt, jn_le, jn_inj, jn_add, jn_sub, jn_mul, jn_vp, jn_0a, jn_1a, jn_1b, jn_1s, jn_1m, jn_neg0, jn_le0, jn_0le, jn_0lt, jn_1le, jn_le1, jn_lt1, jn_1lt, jn_e0, jn_e1, jn_em, ↓qB_f, ↓qT_f, cl_0, cl_1, vp_0, vp_1, hr.1, hz, a1, e1, hag, Bool.and_true, (by decide : ((1 : Int32) = 0) = False)]
    · simp (disch := omega) only [B_M_isAsHeard_29, K_M_isAsHeard_83, K_M_isAsHeard_84, ↓bi_eq, ↓bw_eq, gd_pos, br_pos, br_neg, br_T, br_F, gd_T, bp_some, bd_some, bv_some, bl_some, bx_inl, bx_inr, bn_none, bn_some, bt_inl, bt_inr, not_true_eq_false, not_false_eq_true, eq_self, Bool.false_eq_true, if_true, if_false, jn_clamp, jn_lt, jn_le, jn_inj, jn_add, jn_sub, jn_mul, jn_vp, jn_0a, jn_1a, jn_1b, jn_1s, jn_1m, jn_neg0, jn_le0, jn_0le, jn_0lt, jn_1le, jn_le1, jn_lt1, jn_1lt, jn_e0, jn_e1, jn_em, ↓qB_f, ↓qT_f, cl_0, cl_1, vp_0, vp_1, hr.1, Bool.eq_false_iff.mpr hz, Bool.false_and]
  · simp (disch := omega) only [B_M_isAsHeard_29, ↓bi_eq, ↓bw_eq, gd_pos, br_pos, br_neg, br_T, br_F, gd_T, bp_some, bd_some, bv_some, bl_some, bx_inl, bx_inr, bn_none, bn_some, bt_inl, bt_inr, not_true_eq_false, not_false_eq_true, eq_self, Bool.false_eq_true, if_true, if_false, jn_clamp, jn_lt, jn_le, jn_inj, jn_add, jn_sub, jn_mul, jn_vp, jn_0a, jn_1a, jn_1b, jn_1s, jn_1m, jn_neg0, jn_le0, jn_0le, jn_0lt, jn_1le, jn_le1, jn_lt1, jn_1lt, jn_e0, jn_e1, jn_em, ↓qB_f, ↓qT_f, cl_0, cl_1, vp_0, vp_1, hr.1, br_pos (Nat.le_refl (hdN d))]
theorem m_asH {w : Wld} {h : Hs} {c : Sta} {d : Hd} (hw : MHs w h) (hs : MSt w h c) (hh : GdH h) (hg : GdS h c) (hd : GdD d) (hr : MHd w d) : Ret (F_M_isAsHeard w) (fun q => q.1 = (if asH d h c 20 = true then 1 else 0) ∧ Frm LAs KBk w q.2 ∧ MSt q.2 h c) := by
  rw [F_M_isAsHeard, ret_bv]
  refine ret_mono (t_pack_30 w (o := 0) (by omega)) (fun w1 hq => ?_)
  obtain ⟨q1, q2, -⟩ := hq
  have row1 : MRow (w1 30) h c := pk_row hs hh (fun i hi => by rw [← q2 i hi, Nat.zero_add])
  have h1 : MHs w1 h := MHs_fr hw q1 ⟨rfl, rfl, rfl, rfl, rfl, fun _ => rfl, fun _ => rfl, fun _ => rfl⟩
  have s1 : MSt w1 h c := MSt_fr hs q1 ⟨fun _ => rfl, fun _ => rfl, fun _ => rfl, fun _ => rfl, fun _ => rfl, fun _ => rfl, rfl, rfl, rfl⟩
  have r1 : MHd w1 d := MHd_fr hr q1 ⟨rfl, fun _ => rfl, fun _ => rfl, fun _ => rfl⟩
  rw [ret_bl]
  refine ret_mono (P := fun q => q.1 = (if asH d h c 20 = true then 1 else 0) ∧ Frm nFrL nFrK w1 q.2) ?_ (fun q hq => ?_)
  · refine loop_inv (I := fun j s => s.2.1 = jn (j + 1) ∧ s.1 = (if asH d h c j = true then 1 else 0) ∧ Frm nFrL nFrK w1 s.2.2 ∧ (asH d h c j = true → MSt s.2.2 h (sGo h c j))) 20 ⟨rfl, rfl, frm_rf, fun _ => s1⟩ (fun j s hj hi => ?_) (fun s hi => ?_)
    · obtain ⟨b, i, w2⟩ := s
      obtain ⟨i1, i2, i3, i4⟩ := hi
      simp only at i1 i2 i3 i4
      subst i1 i2
      by_cases hz : asH d h c j = true
      · simp (disch := omega) only [B_M_isAsHeard_13, ↓bi_eq, ↓bw_eq, gd_pos, br_pos, br_neg, br_T, br_F, gd_T, bp_some, bd_some, bv_some, bl_some, bx_inl, bx_inr, bn_none, bn_some, bt_inl, bt_inr, not_true_eq_false, not_false_eq_true, eq_self, Bool.false_eq_true, if_true, if_false, jn_clamp, jn_lt, jn_le, jn_inj, jn_add, jn_sub, jn_mul, jn_vp, jn_0a, jn_1a, jn_1b, jn_1s, jn_1m, jn_neg0, jn_le0, jn_0le, jn_0lt, jn_1le, jn_le1, jn_lt1, jn_1lt, jn_e0, jn_e1, jn_em, ↓qB_f, ↓qT_f, cl_0, cl_1, vp_0, vp_1, li_20, hz, (by decide : ((1 : Int32) = 0) = False), ret_bv]
        refine ret_mono (t_aNight (MHs_fr h1 i3 ⟨rfl, rfl, rfl, rfl, rfl, fun _ => rfl, fun _ => rfl, fun _ => rfl⟩) (i4 hz) hh (sGo_good hh hg j)) (fun w3 hp => ?_)
        obtain ⟨p1, p2, p3⟩ := hp
        have f3 : Frm nFrL nFrK w1 w3 := frm_tr i3 p1
        rw [m_asIn p3 hd (MHd_fr r1 f3 ⟨rfl, fun _ => rfl, fun _ => rfl, fun _ => rfl⟩) (by omega), bl_some]
        simp only [ret_some, LQ_inl]
        refine ⟨trivial, ?_, f3, fun _ => p2⟩
        rw [asH_s, hz, Bool.true_and]
      · have hf : asH d h c 20 = false := asH_f (Bool.eq_false_iff.mpr hz) _ (by omega)
        simp (disch := omega) only [B_M_isAsHeard_13, ↓bi_eq, ↓bw_eq, gd_pos, br_pos, br_neg, br_T, br_F, gd_T, bp_some, bd_some, bv_some, bl_some, bx_inl, bx_inr, bn_none, bn_some, bt_inl, bt_inr, not_true_eq_false, not_false_eq_true, eq_self, Bool.false_eq_true, if_true, if_false, jn_clamp, jn_lt, jn_le, jn_inj, jn_add, jn_sub, jn_mul, jn_vp, jn_0a, jn_1a, jn_1b, jn_1s, jn_1m, jn_neg0, jn_le0, jn_0le, jn_0lt, jn_1le, jn_le1, jn_lt1, jn_1lt, jn_e0, jn_e1, jn_em, ↓qB_f, ↓qT_f, cl_0, cl_1, vp_0, vp_1, li_20, Bool.eq_false_iff.mpr hz, ret_some, LQ_inr, hf]
        exact ⟨trivial, i3⟩
    · obtain ⟨b, i, w2⟩ := s
      obtain ⟨i1, i2, i3, i4⟩ := hi
      simp only at i1 i2 i3 i4
      subst i1 i2
      rw [B_M_isAsHeard_13, br_pos (by rw [li_20, jn_lt (by omega) (by omega)]; omega), ret_some, LQ_inr]
      exact ⟨rfl, i3⟩
  · obtain ⟨v, w2⟩ := q
    obtain ⟨z1, z2⟩ := hq
    simp only at z1 z2
    have row2 : MRow (fun i => w2 30 (0 + i)) h c := by
      have e : (fun i => w2 30 (0 + i)) = w1 30 := by funext i; rw [Nat.zero_add, frm_cell z2 30 (fun _ => rfl)]
      rw [e]; exact row1
    rw [ret_bv]
    refine ret_mono (t_unpack_30 (o := 0) hh (by omega) row2) (fun w3 hx => ?_)
    obtain ⟨x1, x2⟩ := hx
    have hv : v = 0 ∨ v = 1 := by
      rw [z1]; split
      · exact Or.inr rfl
      · exact Or.inl rfl
    simp only
    rw [gd_pos hv, ret_some]
    exact ⟨z1, frm_tr (frm_up q1 rfl) (frm_tr (frm_up z2 rfl) (frm_up x1 rfl)), x2⟩
