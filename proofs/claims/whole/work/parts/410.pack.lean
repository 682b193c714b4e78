/-! ===== the model: a state as a row, and back ===== -/
def MRow (row : Nat → Int32) (h : Hs) (c : Sta) : Prop := row 0 = c 52 ∧ row 1 = c 51 ∧ row 2 = c 50 ∧ (∀ m, m < hsM h → row (3 + m) = c m ∧ row (11 + m) = c (8 + m) ∧ row (19 + m) = c (16 + m) ∧ row (27 + m) = c (24 + m)) ∧ (∀ r, r < hsN h → row (35 + r) = c (32 + r) ∧ row (44 + r) = c (41 + r))
def pk (w : Wld) (i : Nat) : Int32 := if i = 0 then w 0 31 else if i = 1 then w 0 32 else if i = 2 then w 0 33 else if i < 11 then w 14 (i - 3) else if i < 19 then w 15 (i - 11) else if i < 27 then w 16 (i - 19) else if i < 35 then w 17 (i - 27) else if i < 44 then w 18 (i - 35) else w 19 (i - 44)
theorem pk_a (w : Wld) {m : Nat} (h : m < 8) : pk w (3 + m) = w 14 m := by
  unfold pk
  rw [if_neg (by omega), if_neg (by omega), if_neg (by omega), if_pos (by omega), show 3 + m - 3 = m by omega]
theorem pk_b (w : Wld) {m : Nat} (h : m < 8) : pk w (11 + m) = w 15 m := by
  unfold pk
  rw [if_neg (by omega), if_neg (by omega), if_neg (by omega), if_neg (by omega), if_pos (by omega), show 11 + m - 11 = m by omega]
theorem pk_c (w : Wld) {m : Nat} (h : m < 8) : pk w (19 + m) = w 16 m := by
  unfold pk
  rw [if_neg (by omega), if_neg (by omega), if_neg (by omega), if_neg (by omega), if_neg (by omega), if_pos (by omega), show 19 + m - 19 = m by omega]
theorem pk_d (w : Wld) {m : Nat} (h : m < 8) : pk w (27 + m) = w 17 m := by
  unfold pk
  rw [if_neg (by omega), if_neg (by omega), if_neg (by omega), if_neg (by omega), if_neg (by omega), if_neg (by omega), if_pos (by omega), show 27 + m - 27 = m by omega]
theorem pk_e (w : Wld) {m : Nat} (h : m < 9) : pk w (35 + m) = w 18 m := by
  unfold pk
  rw [if_neg (by omega), if_neg (by omega), if_neg (by omega), if_neg (by omega), if_neg (by omega), if_neg (by omega), if_neg (by omega), if_pos (by omega), show 35 + m - 35 = m by omega]
theorem pk_f (w : Wld) {m : Nat} (h : m < 9) : pk w (44 + m) = w 19 m := by
  unfold pk
  rw [if_neg (by omega), if_neg (by omega), if_neg (by omega), if_neg (by omega), if_neg (by omega), if_neg (by omega), if_neg (by omega), if_neg (by omega), show 44 + m - 44 = m by omega]
theorem pk_row {w : Wld} {h : Hs} {c : Sta} (hs : MSt w h c) (hh : GdH h) {row : Nat → Int32} (hr : ∀ i, i < 53 → row i = pk w i) : MRow row h c := by
  have hN := hh.1
  have hM := hh.2.1
  refine ⟨?_, ?_, ?_, fun m hm => ?_, fun r hr9 => ?_⟩
  · rw [hr 0 (by omega)]; exact hs.2.2.2.2
  · rw [hr 1 (by omega)]; exact hs.2.2.2.1
  · rw [hr 2 (by omega)]; exact hs.2.2.1
  · obtain ⟨b0, b1, b2, b3⟩ := hs.1 m hm
    rw [hr _ (by omega), hr _ (by omega), hr _ (by omega), hr _ (by omega), pk_a w (by omega), pk_b w (by omega), pk_c w (by omega), pk_d w (by omega)]
    exact ⟨b0, b1, b2, b3⟩
  · obtain ⟨b0, b1⟩ := hs.2.1 r hr9
    rw [hr _ (by omega), hr _ (by omega), pk_e w (by omega), pk_f w (by omega)]
    exact ⟨b0, b1⟩
def IPk_20 (w : Wld) (o k : Nat) (s : Int32 × Wld) : Prop := s.1 = jn k ∧ Frm [20] [] w s.2 ∧ (∀ i, i < 35 → (i < 3 ∨ (i - 3) % 8 < k) → s.2 20 (o + i) = pk w i) ∧ ∀ i, (i < o ∨ o + 53 ≤ i) → s.2 20 i = w 20 i
def IPl_20 (w : Wld) (o k : Nat) (s : Int32 × Wld) : Prop := s.1 = jn k ∧ Frm [20] [] w s.2 ∧ (∀ i, i < 53 → (i < 35 ∨ (i - 35) % 9 < k) → s.2 20 (o + i) = pk w i) ∧ ∀ i, (i < o ∨ o + 53 ≤ i) → s.2 20 i = w 20 i
theorem t_pkA_20 {w : Wld} {o k : Nat} (ho : o + 53 ≤ 2120) (hk : k < 8) (s : Int32 × Wld) (hi : IPk_20 w o k s) {P : Wld → Prop} : Ret (B_M_pack_20_32 (jn (o + 3)) s) (LQ (IPk_20 w o (k + 1)) P) := by
  obtain ⟨i, w1⟩ := s
  obtain ⟨i1, i2, i3, i4⟩ := hi
  simp only at i1 i2 i3 i4
  subst i1
  have a1 := i2 14 k rfl
  have a2 := i2 15 k rfl
  have a3 := i2 16 k rfl
  have a4 := i2 17 k rfl
  simp (disch := omega) only [B_M_pack_20_32, ↓bi_eq, ↓bw_eq, gd_pos, br_pos, br_neg, br_T, br_F, gd_T, bp_some, bd_some, bv_some, bl_some, bx_inl, bx_inr, bn_none, bn_some, bt_inl, bt_inr, not_true_eq_false, not_false_eq_true, eq_self, Bool.false_eq_true, if_true, if_false, jn_clamp, jn_lt, jn_le, jn_inj, jn_add, jn_sub, jn_mul, jn_vp, jn_0a, jn_1a, jn_1b, jn_1s, jn_1m, jn_neg0, jn_le0, jn_0le, jn_0lt, jn_1le, jn_le1, jn_lt1, jn_1lt, jn_e0, jn_e1, jn_em, ↓qB_f, ↓qT_f, cl_0, cl_1, vp_0, vp_1, wup_s1, wup_s2, wup_o, wcp_o, li_8, li_16, li_24, a1, a2, a3, a4, ret_some, LQ_inl]
  refine ⟨rfl, frm_wup (frm_wup (frm_wup (frm_wup i2 _ _ _ rfl) _ _ _ rfl) _ _ _ rfl) _ _ _ rfl, fun j hj hd => ?_, fun j hj => ?_⟩
  · by_cases j1 : j = 3 + k
    · subst j1
      rw [pk_a w hk]
      simp only [wup_s]
      rw [if_neg (by omega), if_neg (by omega), if_neg (by omega), if_pos (by omega)]
    by_cases j2 : j = 11 + k
    · subst j2
      rw [pk_b w hk]
      simp only [wup_s]
      rw [if_neg (by omega), if_neg (by omega), if_pos (by omega)]
    by_cases j3 : j = 19 + k
    · subst j3
      rw [pk_c w hk]
      simp only [wup_s]
      rw [if_neg (by omega), if_pos (by omega)]
    by_cases j4 : j = 27 + k
    · subst j4
      rw [pk_d w hk]
      simp only [wup_s]
      rw [if_pos (by omega)]
    simp only [wup_s]
    rw [if_neg (by omega), if_neg (by omega), if_neg (by omega), if_neg (by omega)]
    exact i3 j hj (by omega)
  · simp only [wup_s]
    rw [if_neg (by omega), if_neg (by omega), if_neg (by omega), if_neg (by omega)]
    exact i4 j hj
theorem t_pkB_20 {w : Wld} {o k : Nat} (ho : o + 53 ≤ 2120) (hk : k < 9) (s : Int32 × Wld) (hi : IPl_20 w o k s) {P : Wld → Prop} : Ret (B_M_pack_20_112 (jn (o + 3 + 32)) s) (LQ (IPl_20 w o (k + 1)) P) := by
  obtain ⟨i, w1⟩ := s
  obtain ⟨i1, i2, i3, i4⟩ := hi
  simp only at i1 i2 i3 i4
  subst i1
  have a1 := i2 18 k rfl
  have a2 := i2 19 k rfl
  simp (disch := omega) only [B_M_pack_20_112, ↓bi_eq, ↓bw_eq, gd_pos, br_pos, br_neg, br_T, br_F, gd_T, bp_some, bd_some, bv_some, bl_some, bx_inl, bx_inr, bn_none, bn_some, bt_inl, bt_inr, not_true_eq_false, not_false_eq_true, eq_self, Bool.false_eq_true, if_true, if_false, jn_clamp, jn_lt, jn_le, jn_inj, jn_add, jn_sub, jn_mul, jn_vp, jn_0a, jn_1a, jn_1b, jn_1s, jn_1m, jn_neg0, jn_le0, jn_0le, jn_0lt, jn_1le, jn_le1, jn_lt1, jn_1lt, jn_e0, jn_e1, jn_em, ↓qB_f, ↓qT_f, cl_0, cl_1, vp_0, vp_1, wup_s1, wup_s2, wup_o, wcp_o, li_9, a1, a2, ret_some, LQ_inl]
  refine ⟨rfl, frm_wup (frm_wup i2 _ _ _ rfl) _ _ _ rfl, fun j hj hd => ?_, fun j hj => ?_⟩
  · by_cases j1 : j = 35 + k
    · subst j1
      rw [pk_e w hk]
      simp only [wup_s]
      rw [if_neg (by omega), if_pos (by omega)]
    by_cases j2 : j = 44 + k
    · subst j2
      rw [pk_f w hk]
      simp only [wup_s]
      rw [if_pos (by omega)]
    simp only [wup_s]
    rw [if_neg (by omega), if_neg (by omega)]
    exact i3 j hj (by omega)
  · simp only [wup_s]
    rw [if_neg (by omega), if_neg (by omega)]
    exact i4 j hj
theorem t_pack_20 (w : Wld) {o : Nat} (ho : o + 53 ≤ 2120) : Ret (F_M_pack_20 w (jn o)) (fun w' => Frm [20] [] w w' ∧ (∀ i, i < 53 → w' 20 (o + i) = pk w i) ∧ ∀ i, (i < o ∨ o + 53 ≤ i) → w' 20 i = w 20 i) := by
  simp (disch := omega) only [F_M_pack_20, ↓bi_eq, ↓bw_eq, gd_pos, br_pos, br_neg, br_T, br_F, gd_T, bp_some, bd_some, bv_some, bl_some, bx_inl, bx_inr, bn_none, bn_some, bt_inl, bt_inr, not_true_eq_false, not_false_eq_true, eq_self, Bool.false_eq_true, if_true, if_false, jn_clamp, jn_lt, jn_le, jn_inj, jn_add, jn_sub, jn_mul, jn_vp, jn_0a, jn_1a, jn_1b, jn_1s, jn_1m, jn_neg0, jn_le0, jn_0le, jn_0lt, jn_1le, jn_le1, jn_lt1, jn_1lt, jn_e0, jn_e1, jn_em, ↓qB_f, ↓qT_f, cl_0, cl_1, vp_0, vp_1, wup_s1, wup_s2, wup_o, wcp_o, li_2, li_3, li_32, ret_bl]
  refine ret_mono (P := fun w1 => IPk_20 w o 8 (jn 8, w1)) ?_ (fun w1 hq => ?_)
  · refine loop_inv (I := IPk_20 w o) 8 ⟨rfl, frm_wup (frm_wup (frm_wup frm_rf _ _ _ rfl) _ _ _ rfl) _ _ _ rfl, fun j hj hd => ?_, fun j hj => ?_⟩ (fun k s hk hi => t_pkA_20 ho hk s hi) (fun s hi => ?_)
    · have hc : j = 0 ∨ j = 1 ∨ j = 2 := by omega
      rcases hc with rfl | rfl | rfl <;> simp (disch := omega) [wup_s, pk]
    · simp only [wup_s]
      rw [if_neg (by omega), if_neg (by omega), if_neg (by omega)]
    · obtain ⟨i, w2⟩ := s
      have i1 := hi.1
      simp only at i1
      subst i1
      simp (disch := omega) only [B_M_pack_20_32, ↓bi_eq, ↓bw_eq, gd_pos, br_pos, br_neg, br_T, br_F, gd_T, bp_some, bd_some, bv_some, bl_some, bx_inl, bx_inr, bn_none, bn_some, bt_inl, bt_inr, not_true_eq_false, not_false_eq_true, eq_self, Bool.false_eq_true, if_true, if_false, jn_clamp, jn_lt, jn_le, jn_inj, jn_add, jn_sub, jn_mul, jn_vp, jn_0a, jn_1a, jn_1b, jn_1s, jn_1m, jn_neg0, jn_le0, jn_0le, jn_0lt, jn_1le, jn_le1, jn_lt1, jn_1lt, jn_e0, jn_e1, jn_em, ↓qB_f, ↓qT_f, cl_0, cl_1, vp_0, vp_1, li_8, ret_some, LQ_inr]
      exact hi
  obtain ⟨-, f1, p1, p2⟩ := hq
  simp only at f1 p1 p2
  refine ret_mono (P := fun w1 => IPl_20 w o 9 (jn 9, w1)) ?_ (fun w2 hq => ?_)
  · refine loop_inv (I := IPl_20 w o) 9 ⟨rfl, f1, fun j hj hd => ?_, p2⟩ (fun k s hk hi => t_pkB_20 ho hk s hi) (fun s hi => ?_)
    · exact p1 j (by omega) (by omega)
    · obtain ⟨i, w2⟩ := s
      have i1 := hi.1
      simp only at i1
      subst i1
      simp (disch := omega) only [B_M_pack_20_112, ↓bi_eq, ↓bw_eq, gd_pos, br_pos, br_neg, br_T, br_F, gd_T, bp_some, bd_some, bv_some, bl_some, bx_inl, bx_inr, bn_none, bn_some, bt_inl, bt_inr, not_true_eq_false, not_false_eq_true, eq_self, Bool.false_eq_true, if_true, if_false, jn_clamp, jn_lt, jn_le, jn_inj, jn_add, jn_sub, jn_mul, jn_vp, jn_0a, jn_1a, jn_1b, jn_1s, jn_1m, jn_neg0, jn_le0, jn_0le, jn_0lt, jn_1le, jn_le1, jn_lt1, jn_1lt, jn_e0, jn_e1, jn_em, ↓qB_f, ↓qT_f, cl_0, cl_1, vp_0, vp_1, li_9, ret_some, LQ_inr]
      exact hi
  obtain ⟨-, f2, p3, p4⟩ := hq
  simp only at f2 p3 p4
  rw [ret_some]
  exact ⟨f2, fun j hj => p3 j hj (by omega), p4⟩
def IUk_20 (w : Wld) (o k : Nat) (s : Int32 × Wld) : Prop := s.1 = jn k ∧ Frm [14, 15, 16, 17] [] w s.2 ∧ ∀ m, m < k → s.2 14 m = w 20 (o + (3 + m)) ∧ s.2 15 m = w 20 (o + (11 + m)) ∧ s.2 16 m = w 20 (o + (19 + m)) ∧ s.2 17 m = w 20 (o + (27 + m))
def IUl_20 (w : Wld) (o k : Nat) (s : Int32 × Wld) : Prop := s.1 = jn k ∧ Frm [18, 19] [] w s.2 ∧ ∀ m, m < k → s.2 18 m = w 20 (o + (35 + m)) ∧ s.2 19 m = w 20 (o + (44 + m))
theorem t_ukA_20 {w : Wld} {o k : Nat} (ho : o + 53 ≤ 2120) (hk : k < 8) (s : Int32 × Wld) (hi : IUk_20 w o k s) {P : Wld → Prop} : Ret (B_M_unpack_20_32 (jn (o + 3)) s) (LQ (IUk_20 w o (k + 1)) P) := by
  obtain ⟨i, w1⟩ := s
  obtain ⟨i1, i2, i3⟩ := hi
  simp only at i1 i2 i3
  subst i1
  have a1 : w1 20 (o + 3 + k) = w 20 (o + (3 + k)) := by rw [i2 20 _ rfl, Nat.add_assoc]
  have a2 : w1 20 (o + 3 + 8 + k) = w 20 (o + (11 + k)) := by rw [i2 20 _ rfl, show o + 3 + 8 + k = o + (11 + k) by omega]
  have a3 : w1 20 (o + 3 + 16 + k) = w 20 (o + (19 + k)) := by rw [i2 20 _ rfl, show o + 3 + 16 + k = o + (19 + k) by omega]
  have a4 : w1 20 (o + 3 + 24 + k) = w 20 (o + (27 + k)) := by rw [i2 20 _ rfl, show o + 3 + 24 + k = o + (27 + k) by omega]
  simp (disch := omega) only [B_M_unpack_20_32, ↓bi_eq, ↓bw_eq, gd_pos, br_pos, br_neg, br_T, br_F, gd_T, bp_some, bd_some, bv_some, bl_some, bx_inl, bx_inr, bn_none, bn_some, bt_inl, bt_inr, not_true_eq_false, not_false_eq_true, eq_self, Bool.false_eq_true, if_true, if_false, jn_clamp, jn_lt, jn_le, jn_inj, jn_add, jn_sub, jn_mul, jn_vp, jn_0a, jn_1a, jn_1b, jn_1s, jn_1m, jn_neg0, jn_le0, jn_0le, jn_0lt, jn_1le, jn_le1, jn_lt1, jn_1lt, jn_e0, jn_e1, jn_em, ↓qB_f, ↓qT_f, cl_0, cl_1, vp_0, vp_1, wup_s1, wup_s2, wup_o, wcp_o, li_8, li_16, li_24, a1, a2, a3, a4, ret_some, LQ_inl]
  refine ⟨rfl, frm_wup (frm_wup (frm_wup (frm_wup i2 _ _ _ rfl) _ _ _ rfl) _ _ _ rfl) _ _ _ rfl, fun m hm => ?_⟩
  by_cases hmk : m = k
  · subst hmk
    simp (disch := omega) only [wup_s1, wup_s2, wup_o, wcp_o, and_self]
  · simp (disch := omega) only [wup_s1, wup_s2, wup_o, wcp_o]
    exact i3 m (by omega)
theorem t_ukB_20 {w : Wld} {o k : Nat} (ho : o + 53 ≤ 2120) (hk : k < 9) (s : Int32 × Wld) (hi : IUl_20 w o k s) {P : Wld → Prop} : Ret (B_M_unpack_20_112 (jn (o + 3 + 32)) s) (LQ (IUl_20 w o (k + 1)) P) := by
  obtain ⟨i, w1⟩ := s
  obtain ⟨i1, i2, i3⟩ := hi
  simp only at i1 i2 i3
  subst i1
  have a1 : w1 20 (o + 3 + 32 + k) = w 20 (o + (35 + k)) := by rw [i2 20 _ rfl, show o + 3 + 32 + k = o + (35 + k) by omega]
  have a2 : w1 20 (o + 3 + 32 + 9 + k) = w 20 (o + (44 + k)) := by rw [i2 20 _ rfl, show o + 3 + 32 + 9 + k = o + (44 + k) by omega]
  simp (disch := omega) only [B_M_unpack_20_112, ↓bi_eq, ↓bw_eq, gd_pos, br_pos, br_neg, br_T, br_F, gd_T, bp_some, bd_some, bv_some, bl_some, bx_inl, bx_inr, bn_none, bn_some, bt_inl, bt_inr, not_true_eq_false, not_false_eq_true, eq_self, Bool.false_eq_true, if_true, if_false, jn_clamp, jn_lt, jn_le, jn_inj, jn_add, jn_sub, jn_mul, jn_vp, jn_0a, jn_1a, jn_1b, jn_1s, jn_1m, jn_neg0, jn_le0, jn_0le, jn_0lt, jn_1le, jn_le1, jn_lt1, jn_1lt, jn_e0, jn_e1, jn_em, ↓qB_f, ↓qT_f, cl_0, cl_1, vp_0, vp_1, wup_s1, wup_s2, wup_o, wcp_o, li_9, a1, a2, ret_some, LQ_inl]
  refine ⟨rfl, frm_wup (frm_wup i2 _ _ _ rfl) _ _ _ rfl, fun m hm => ?_⟩
  by_cases hmk : m = k
  · subst hmk
    simp (disch := omega) only [wup_s1, wup_s2, wup_o, wcp_o, and_self]
  · simp (disch := omega) only [wup_s1, wup_s2, wup_o, wcp_o]
    exact i3 m (by omega)
theorem t_unpack_20 {w : Wld} {o : Nat} {h : Hs} {c : Sta} (hh : GdH h) (ho : o + 53 ≤ 2120) (hr : MRow (fun i => w 20 (o + i)) h c) : Ret (F_M_unpack_20 w (jn o)) (fun w' => Frm [14, 15, 16, 17, 18, 19] [(0, 31), (0, 32), (0, 33)] w w' ∧ MSt w' h c) := by
  have hN := hh.1
  have hM := hh.2.1
  obtain ⟨r0, r1, r2, r3, r4⟩ := hr
  simp only at r0 r1 r2 r3 r4
  simp (disch := omega) only [F_M_unpack_20, ↓bi_eq, ↓bw_eq, gd_pos, br_pos, br_neg, br_T, br_F, gd_T, bp_some, bd_some, bv_some, bl_some, bx_inl, bx_inr, bn_none, bn_some, bt_inl, bt_inr, not_true_eq_false, not_false_eq_true, eq_self, Bool.false_eq_true, if_true, if_false, jn_clamp, jn_lt, jn_le, jn_inj, jn_add, jn_sub, jn_mul, jn_vp, jn_0a, jn_1a, jn_1b, jn_1s, jn_1m, jn_neg0, jn_le0, jn_0le, jn_0lt, jn_1le, jn_le1, jn_lt1, jn_1lt, jn_e0, jn_e1, jn_em, ↓qB_f, ↓qT_f, cl_0, cl_1, vp_0, vp_1, wup_s1, wup_s2, wup_o, wcp_o, li_2, li_3, li_32, ret_bl]
  generalize hv : wup (wup (wup w 0 31 _) 0 32 _) 0 33 _ = w1
  have f1 : Frm [] [(0, 31), (0, 32), (0, 33)] w w1 := by
    rw [← hv]
    exact frm_wup (frm_wup (frm_wup frm_rf _ _ _ rfl) _ _ _ rfl) _ _ _ rfl
  have z1 : w1 0 31 = c 52 := by rw [← hv]; simp (disch := omega) only [wup_s1, wup_s2, wup_o, wcp_o, ← r0, Nat.add_zero]
  have z2 : w1 0 32 = c 51 := by rw [← hv]; simp (disch := omega) only [wup_s1, wup_s2, wup_o, wcp_o, ← r1]
  have z3 : w1 0 33 = c 50 := by rw [← hv]; simp (disch := omega) only [wup_s1, wup_s2, wup_o, wcp_o, ← r2]
  refine ret_mono (P := fun w2 => IUk_20 w1 o 8 (jn 8, w2)) ?_ (fun w2 hq => ?_)
  · refine loop_inv (I := IUk_20 w1 o) 8 ⟨rfl, frm_rf, fun m hm => absurd hm (Nat.not_lt_zero m)⟩ (fun k s hk hi => t_ukA_20 ho hk s hi) (fun s hi => ?_)
    obtain ⟨i, w2⟩ := s
    have i1 := hi.1
    simp only at i1
    subst i1
    simp (disch := omega) only [B_M_unpack_20_32, ↓bi_eq, ↓bw_eq, gd_pos, br_pos, br_neg, br_T, br_F, gd_T, bp_some, bd_some, bv_some, bl_some, bx_inl, bx_inr, bn_none, bn_some, bt_inl, bt_inr, not_true_eq_false, not_false_eq_true, eq_self, Bool.false_eq_true, if_true, if_false, jn_clamp, jn_lt, jn_le, jn_inj, jn_add, jn_sub, jn_mul, jn_vp, jn_0a, jn_1a, jn_1b, jn_1s, jn_1m, jn_neg0, jn_le0, jn_0le, jn_0lt, jn_1le, jn_le1, jn_lt1, jn_1lt, jn_e0, jn_e1, jn_em, ↓qB_f, ↓qT_f, cl_0, cl_1, vp_0, vp_1, li_8, ret_some, LQ_inr]
    exact hi
  obtain ⟨-, f2, p2⟩ := hq
  simp only at f2 p2
  refine ret_mono (P := fun w3 => IUl_20 w2 o 9 (jn 9, w3)) ?_ (fun w3 hq => ?_)
  · refine loop_inv (I := IUl_20 w2 o) 9 ⟨rfl, frm_rf, fun m hm => absurd hm (Nat.not_lt_zero m)⟩ (fun k s hk hi => t_ukB_20 ho hk s hi) (fun s hi => ?_)
    obtain ⟨i, w3⟩ := s
    have i1 := hi.1
    simp only at i1
    subst i1
    simp (disch := omega) only [B_M_unpack_20_112, ↓bi_eq, ↓bw_eq, gd_pos, br_pos, br_neg, br_T, br_F, gd_T, bp_some, bd_some, bv_some, bl_some, bx_inl, bx_inr, bn_none, bn_some, bt_inl, bt_inr, not_true_eq_false, not_false_eq_true, eq_self, Bool.false_eq_true, if_true, if_false, jn_clamp, jn_lt, jn_le, jn_inj, jn_add, jn_sub, jn_mul, jn_vp, jn_0a, jn_1a, jn_1b, jn_1s, jn_1m, jn_neg0, jn_le0, jn_0le, jn_0lt, jn_1le, jn_le1, jn_lt1, jn_1lt, jn_e0, jn_e1, jn_em, ↓qB_f, ↓qT_f, cl_0, cl_1, vp_0, vp_1, li_9, ret_some, LQ_inr]
    exact hi
  obtain ⟨-, f3, p3⟩ := hq
  simp only at f3 p3
  rw [ret_some]
  refine ⟨frm_tr (frm_tr (frm_up f1 rfl) (frm_up f2 rfl)) (frm_up f3 rfl), fun m hm => ?_, fun r hr => ?_, ?_, ?_, ?_⟩
  · obtain ⟨a1, a2, a3, a4⟩ := p2 m (by omega)
    obtain ⟨b1, b2, b3, b4⟩ := r3 m hm
    rw [f3 14 m rfl, f3 15 m rfl, f3 16 m rfl, f3 17 m rfl, a1, a2, a3, a4, f1 20 _ rfl, f1 20 _ rfl, f1 20 _ rfl, f1 20 _ rfl]
    exact ⟨b1, b2, b3, b4⟩
  · obtain ⟨a1, a2⟩ := p3 r (by omega)
    obtain ⟨b1, b2⟩ := r4 r hr
    rw [a1, a2, f2 20 _ rfl, f2 20 _ rfl, f1 20 _ rfl, f1 20 _ rfl]
    exact ⟨b1, b2⟩
  · rw [f3 0 33 rfl, f2 0 33 rfl, z3]
  · rw [f3 0 32 rfl, f2 0 32 rfl, z2]
  · rw [f3 0 31 rfl, f2 0 31 rfl, z1]
def IPk_24 (w : Wld) (o k : Nat) (s : Int32 × Wld) : Prop := s.1 = jn k ∧ Frm [24] [] w s.2 ∧ (∀ i, i < 35 → (i < 3 ∨ (i - 3) % 8 < k) → s.2 24 (o + i) = pk w i) ∧ ∀ i, (i < o ∨ o + 53 ≤ i) → s.2 24 i = w 24 i
def IPl_24 (w : Wld) (o k : Nat) (s : Int32 × Wld) : Prop := s.1 = jn k ∧ Frm [24] [] w s.2 ∧ (∀ i, i < 53 → (i < 35 ∨ (i - 35) % 9 < k) → s.2 24 (o + i) = pk w i) ∧ ∀ i, (i < o ∨ o + 53 ≤ i) → s.2 24 i = w 24 i
theorem t_pkA_24 {w : Wld} {o k : Nat} (ho : o + 53 ≤ 53) (hk : k < 8) (s : Int32 × Wld) (hi : IPk_24 w o k s) {P : Wld → Prop} : Ret (B_M_pack_24_32 (jn (o + 3)) s) (LQ (IPk_24 w o (k + 1)) P) := by
  obtain ⟨i, w1⟩ := s
  obtain ⟨i1, i2, i3, i4⟩ := hi
  simp only at i1 i2 i3 i4
  subst i1
  have a1 := i2 14 k rfl
  have a2 := i2 15 k rfl
  have a3 := i2 16 k rfl
  have a4 := i2 17 k rfl
  simp (disch := omega) only [B_M_pack_24_32, ↓bi_eq, ↓bw_eq, gd_pos, br_pos, br_neg, br_T, br_F, gd_T, bp_some, bd_some, bv_some, bl_some, bx_inl, bx_inr, bn_none, bn_some, bt_inl, bt_inr, not_true_eq_false, not_false_eq_true, eq_self, Bool.false_eq_true, if_true, if_false, jn_clamp, jn_lt, jn_le, jn_inj, jn_add, jn_sub, jn_mul, jn_vp, jn_0a, jn_1a, jn_1b, jn_1s, jn_1m, jn_neg0, jn_le0, jn_0le, jn_0lt, jn_1le, jn_le1, jn_lt1, jn_1lt, jn_e0, jn_e1, jn_em, ↓qB_f, ↓qT_f, cl_0, cl_1, vp_0, vp_1, wup_s1, wup_s2, wup_o, wcp_o, li_8, li_16, li_24, a1, a2, a3, a4, ret_some, LQ_inl]
  refine ⟨rfl, frm_wup (frm_wup (frm_wup (frm_wup i2 _ _ _ rfl) _ _ _ rfl) _ _ _ rfl) _ _ _ rfl, fun j hj hd => ?_, fun j hj => ?_⟩
  · by_cases j1 : j = 3 + k
    · subst j1
      rw [pk_a w hk]
      simp only [wup_s]
      rw [if_neg (by omega), if_neg (by omega), if_neg (by omega), if_pos (by omega)]
    by_cases j2 : j = 11 + k
    · subst j2
      rw [pk_b w hk]
      simp only [wup_s]
      rw [if_neg (by omega), if_neg (by omega), if_pos (by omega)]
    by_cases j3 : j = 19 + k
    · subst j3
      rw [pk_c w hk]
      simp only [wup_s]
      rw [if_neg (by omega), if_pos (by omega)]
    by_cases j4 : j = 27 + k
    · subst j4
      rw [pk_d w hk]
      simp only [wup_s]
      rw [if_pos (by omega)]
    simp only [wup_s]
    rw [if_neg (by omega), if_neg (by omega), if_neg (by omega), if_neg (by omega)]
    exact i3 j hj (by omega)
  · simp only [wup_s]
    rw [if_neg (by omega), if_neg (by omega), if_neg (by omega), if_neg (by omega)]
    exact i4 j hj
theorem t_pkB_24 {w : Wld} {o k : Nat} (ho : o + 53 ≤ 53) (hk : k < 9) (s : Int32 × Wld) (hi : IPl_24 w o k s) {P : Wld → Prop} : Ret (B_M_pack_24_112 (jn (o + 3 + 32)) s) (LQ (IPl_24 w o (k + 1)) P) := by
  obtain ⟨i, w1⟩ := s
  obtain ⟨i1, i2, i3, i4⟩ := hi
  simp only at i1 i2 i3 i4
  subst i1
  have a1 := i2 18 k rfl
  have a2 := i2 19 k rfl
  simp (disch := omega) only [B_M_pack_24_112, ↓bi_eq, ↓bw_eq, gd_pos, br_pos, br_neg, br_T, br_F, gd_T, bp_some, bd_some, bv_some, bl_some, bx_inl, bx_inr, bn_none, bn_some, bt_inl, bt_inr, not_true_eq_false, not_false_eq_true, eq_self, Bool.false_eq_true, if_true, if_false, jn_clamp, jn_lt, jn_le, jn_inj, jn_add, jn_sub, jn_mul, jn_vp, jn_0a, jn_1a, jn_1b, jn_1s, jn_1m, jn_neg0, jn_le0, jn_0le, jn_0lt, jn_1le, jn_le1, jn_lt1, jn_1lt, jn_e0, jn_e1, jn_em, ↓qB_f, ↓qT_f, cl_0, cl_1, vp_0, vp_1, wup_s1, wup_s2, wup_o, wcp_o, li_9, a1, a2, ret_some, LQ_inl]
  refine ⟨rfl, frm_wup (frm_wup i2 _ _ _ rfl) _ _ _ rfl, fun j hj hd => ?_, fun j hj => ?_⟩
  · by_cases j1 : j = 35 + k
    · subst j1
      rw [pk_e w hk]
      simp only [wup_s]
      rw [if_neg (by omega), if_pos (by omega)]
    by_cases j2 : j = 44 + k
    · subst j2
      rw [pk_f w hk]
      simp only [wup_s]
      rw [if_pos (by omega)]
    simp only [wup_s]
    rw [if_neg (by omega), if_neg (by omega)]
    exact i3 j hj (by omega)
  · simp only [wup_s]
    rw [if_neg (by omega), if_neg (by omega)]
    exact i4 j hj
theorem t_pack_24 (w : Wld) {o : Nat} (ho : o + 53 ≤ 53) : Ret (F_M_pack_24 w (jn o)) (fun w' => Frm [24] [] w w' ∧ (∀ i, i < 53 → w' 24 (o + i) = pk w i) ∧ ∀ i, (i < o ∨ o + 53 ≤ i) → w' 24 i = w 24 i) := by
  simp (disch := omega) only [F_M_pack_24, ↓bi_eq, ↓bw_eq, gd_pos, br_pos, br_neg, br_T, br_F, gd_T, bp_some, bd_some, bv_some, bl_some, bx_inl, bx_inr, bn_none, bn_some, bt_inl, bt_inr, not_true_eq_false, not_false_eq_true, eq_self, Bool.false_eq_true, if_true, if_false, jn_clamp, jn_lt, jn_le, jn_inj, jn_add, jn_sub, jn_mul, jn_vp, jn_0a, jn_1a, jn_1b, jn_1s, jn_1m, jn_neg0, jn_le0, jn_0le, jn_0lt, jn_1le, jn_le1, jn_lt1, jn_1lt, jn_e0, jn_e1, jn_em, ↓qB_f, ↓qT_f, cl_0, cl_1, vp_0, vp_1, wup_s1, wup_s2, wup_o, wcp_o, li_2, li_3, li_32, ret_bl]
  refine ret_mono (P := fun w1 => IPk_24 w o 8 (jn 8, w1)) ?_ (fun w1 hq => ?_)
  · refine loop_inv (I := IPk_24 w o) 8 ⟨rfl, frm_wup (frm_wup (frm_wup frm_rf _ _ _ rfl) _ _ _ rfl) _ _ _ rfl, fun j hj hd => ?_, fun j hj => ?_⟩ (fun k s hk hi => t_pkA_24 ho hk s hi) (fun s hi => ?_)
    · have hc : j = 0 ∨ j = 1 ∨ j = 2 := by omega
      rcases hc with rfl | rfl | rfl <;> simp (disch := omega) [wup_s, pk]
    · simp only [wup_s]
      rw [if_neg (by omega), if_neg (by omega), if_neg (by omega)]
    · obtain ⟨i, w2⟩ := s
      have i1 := hi.1
      simp only at i1
      subst i1
      simp (disch := omega) only [B_M_pack_24_32, ↓bi_eq, ↓bw_eq, gd_pos, br_pos, br_neg, br_T, br_F, gd_T, bp_some, bd_some, bv_some, bl_some, bx_inl, bx_inr, bn_none, bn_some, bt_inl, bt_inr, not_true_eq_false, not_false_eq_true, eq_self, Bool.false_eq_true, if_true, if_false, jn_clamp, jn_lt, jn_le, jn_inj, jn_add, jn_sub, jn_mul, jn_vp, jn_0a, jn_1a, jn_1b, jn_1s, jn_1m, jn_neg0, jn_le0, jn_0le, jn_0lt, jn_1le, jn_le1, jn_lt1, jn_1lt, jn_e0, jn_e1, jn_em, ↓qB_f, ↓qT_f, cl_0, cl_1, vp_0, vp_1, li_8, ret_some, LQ_inr]
      exact hi
  obtain ⟨-, f1, p1, p2⟩ := hq
  simp only at f1 p1 p2
  refine ret_mono (P := fun w1 => IPl_24 w o 9 (jn 9, w1)) ?_ (fun w2 hq => ?_)
  · refine loop_inv (I := IPl_24 w o) 9 ⟨rfl, f1, fun j hj hd => ?_, p2⟩ (fun k s hk hi => t_pkB_24 ho hk s hi) (fun s hi => ?_)
    · exact p1 j (by omega) (by omega)
    · obtain ⟨i, w2⟩ := s
      have i1 := hi.1
      simp only at i1
      subst i1
      simp (disch := omega) only [B_M_pack_24_112, ↓bi_eq, ↓bw_eq, gd_pos, br_pos, br_neg, br_T, br_F, gd_T, bp_some, bd_some, bv_some, bl_some, bx_inl, bx_inr, bn_none, bn_some, bt_inl, bt_inr, not_true_eq_false, not_false_eq_true, eq_self, Bool.false_eq_true, if_true, if_false, jn_clamp, jn_lt, jn_le, jn_inj, jn_add, jn_sub, jn_mul, jn_vp, jn_0a, jn_1a, jn_1b, jn_1s, jn_1m, jn_neg0, jn_le0, jn_0le, jn_0lt, jn_1le, jn_le1, jn_lt1, jn_1lt, jn_e0, jn_e1, jn_em, ↓qB_f, ↓qT_f, cl_0, cl_1, vp_0, vp_1, li_9, ret_some, LQ_inr]
      exact hi
  obtain ⟨-, f2, p3, p4⟩ := hq
  simp only at f2 p3 p4
  rw [ret_some]
  exact ⟨f2, fun j hj => p3 j hj (by omega), p4⟩
def IUk_24 (w : Wld) (o k : Nat) (s : Int32 × Wld) : Prop := s.1 = jn k ∧ Frm [14, 15, 16, 17] [] w s.2 ∧ ∀ m, m < k → s.2 14 m = w 24 (o + (3 + m)) ∧ s.2 15 m = w 24 (o + (11 + m)) ∧ s.2 16 m = w 24 (o + (19 + m)) ∧ s.2 17 m = w 24 (o + (27 + m))
def IUl_24 (w : Wld) (o k : Nat) (s : Int32 × Wld) : Prop := s.1 = jn k ∧ Frm [18, 19] [] w s.2 ∧ ∀ m, m < k → s.2 18 m = w 24 (o + (35 + m)) ∧ s.2 19 m = w 24 (o + (44 + m))
theorem t_ukA_24 {w : Wld} {o k : Nat} (ho : o + 53 ≤ 53) (hk : k < 8) (s : Int32 × Wld) (hi : IUk_24 w o k s) {P : Wld → Prop} : Ret (B_M_unpack_24_32 (jn (o + 3)) s) (LQ (IUk_24 w o (k + 1)) P) := by
  obtain ⟨i, w1⟩ := s
  obtain ⟨i1, i2, i3⟩ := hi
  simp only at i1 i2 i3
  subst i1
  have a1 : w1 24 (o + 3 + k) = w 24 (o + (3 + k)) := by rw [i2 24 _ rfl, Nat.add_assoc]
  have a2 : w1 24 (o + 3 + 8 + k) = w 24 (o + (11 + k)) := by rw [i2 24 _ rfl, show o + 3 + 8 + k = o + (11 + k) by omega]
  have a3 : w1 24 (o + 3 + 16 + k) = w 24 (o + (19 + k)) := by rw [i2 24 _ rfl, show o + 3 + 16 + k = o + (19 + k) by omega]
  have a4 : w1 24 (o + 3 + 24 + k) = w 24 (o + (27 + k)) := by rw [i2 24 _ rfl, show o + 3 + 24 + k = o + (27 + k) by omega]
  simp (disch := omega) only [B_M_unpack_24_32, ↓bi_eq, ↓bw_eq, gd_pos, br_pos, br_neg, br_T, br_F, gd_T, bp_some, bd_some, bv_some, bl_some, bx_inl, bx_inr, bn_none, bn_some, bt_inl, bt_inr, not_true_eq_false, not_false_eq_true, eq_self, Bool.false_eq_true, if_true, if_false, jn_clamp, jn_lt, jn_le, jn_inj, jn_add, jn_sub, jn_mul, jn_vp, jn_0a, jn_1a, jn_1b, jn_1s, jn_1m, jn_neg0, jn_le0, jn_0le, jn_0lt, jn_1le, jn_le1, jn_lt1, jn_1lt, jn_e0, jn_e1, jn_em, ↓qB_f, ↓qT_f, cl_0, cl_1, vp_0, vp_1, wup_s1, wup_s2, wup_o, wcp_o, li_8, li_16, li_24, a1, a2, a3, a4, ret_some, LQ_inl]
  refine ⟨rfl, frm_wup (frm_wup (frm_wup (frm_wup i2 _ _ _ rfl) _ _ _ rfl) _ _ _ rfl) _ _ _ rfl, fun m hm => ?_⟩
  by_cases hmk : m = k
  · subst hmk
    simp (disch := omega) only [wup_s1, wup_s2, wup_o, wcp_o, and_self]
  · simp (disch := omega) only [wup_s1, wup_s2, wup_o, wcp_o]
    exact i3 m (by omega)
theorem t_ukB_24 {w : Wld} {o k : Nat} (ho : o + 53 ≤ 53) (hk : k < 9) (s : Int32 × Wld) (hi : IUl_24 w o k s) {P : Wld → Prop} : Ret (B_M_unpack_24_112 (jn (o + 3 + 32)) s) (LQ (IUl_24 w o (k + 1)) P) := by
  obtain ⟨i, w1⟩ := s
  obtain ⟨i1, i2, i3⟩ := hi
  simp only at i1 i2 i3
  subst i1
  have a1 : w1 24 (o + 3 + 32 + k) = w 24 (o + (35 + k)) := by rw [i2 24 _ rfl, show o + 3 + 32 + k = o + (35 + k) by omega]
  have a2 : w1 24 (o + 3 + 32 + 9 + k) = w 24 (o + (44 + k)) := by rw [i2 24 _ rfl, show o + 3 + 32 + 9 + k = o + (44 + k) by omega]
  simp (disch := omega) only [B_M_unpack_24_112, ↓bi_eq, ↓bw_eq, gd_pos, br_pos, br_neg, br_T, br_F, gd_T, bp_some, bd_some, bv_some, bl_some, bx_inl, bx_inr, bn_none, bn_some, bt_inl, bt_inr, not_true_eq_false, not_false_eq_true, eq_self, Bool.false_eq_true, if_true, if_false, jn_clamp, jn_lt, jn_le, jn_inj, jn_add, jn_sub, jn_mul, jn_vp, jn_0a, jn_1a, jn_1b, jn_1s, jn_1m, jn_neg0, jn_le0, jn_0le, jn_0lt, jn_1le, jn_le1, jn_lt1, jn_1lt, jn_e0, jn_e1, jn_em, ↓qB_f, ↓qT_f, cl_0, cl_1, vp_0, vp_1, wup_s1, wup_s2, wup_o, wcp_o, li_9, a1, a2, ret_some, LQ_inl]
  refine ⟨rfl, frm_wup (frm_wup i2 _ _ _ rfl) _ _ _ rfl, fun m hm => ?_⟩
  by_cases hmk : m = k
  · subst hmk
    simp (disch := omega) only [wup_s1, wup_s2, wup_o, wcp_o, and_self]
  · simp (disch := omega) only [wup_s1, wup_s2, wup_o, wcp_o]
    exact i3 m (by omega)
theorem t_unpack_24 {w : Wld} {o : Nat} {h : Hs} {c : Sta} (hh : GdH h) (ho : o + 53 ≤ 53) (hr : MRow (fun i => w 24 (o + i)) h c) : Ret (F_M_unpack_24 w (jn o)) (fun w' => Frm [14, 15, 16, 17, 18, 19] [(0, 31), (0, 32), (0, 33)] w w' ∧ MSt w' h c) := by
  have hN := hh.1
  have hM := hh.2.1
  obtain ⟨r0, r1, r2, r3, r4⟩ := hr
  simp only at r0 r1 r2 r3 r4
  simp (disch := omega) only [F_M_unpack_24, ↓bi_eq, ↓bw_eq, gd_pos, br_pos, br_neg, br_T, br_F, gd_T, bp_some, bd_some, bv_some, bl_some, bx_inl, bx_inr, bn_none, bn_some, bt_inl, bt_inr, not_true_eq_false, not_false_eq_true, eq_self, Bool.false_eq_true, if_true, if_false, jn_clamp, jn_lt, jn_le, jn_inj, jn_add, jn_sub, jn_mul, jn_vp, jn_0a, jn_1a, jn_1b, jn_1s, jn_1m, jn_neg0, jn_le0, jn_0le, jn_0lt, jn_1le, jn_le1, jn_lt1, jn_1lt, jn_e0, jn_e1, jn_em, ↓qB_f, ↓qT_f, cl_0, cl_1, vp_0, vp_1, wup_s1, wup_s2, wup_o, wcp_o, li_2, li_3, li_32, ret_bl]
  generalize hv : wup (wup (wup w 0 31 _) 0 32 _) 0 33 _ = w1
  have f1 : Frm [] [(0, 31), (0, 32), (0, 33)] w w1 := by
    rw [← hv]
    exact frm_wup (frm_wup (frm_wup frm_rf _ _ _ rfl) _ _ _ rfl) _ _ _ rfl
  have z1 : w1 0 31 = c 52 := by rw [← hv]; simp (disch := omega) only [wup_s1, wup_s2, wup_o, wcp_o, ← r0, Nat.add_zero]
  have z2 : w1 0 32 = c 51 := by rw [← hv]; simp (disch := omega) only [wup_s1, wup_s2, wup_o, wcp_o, ← r1]
  have z3 : w1 0 33 = c 50 := by rw [← hv]; simp (disch := omega) only [wup_s1, wup_s2, wup_o, wcp_o, ← r2]
  refine ret_mono (P := fun w2 => IUk_24 w1 o 8 (jn 8, w2)) ?_ (fun w2 hq => ?_)
  · refine loop_inv (I := IUk_24 w1 o) 8 ⟨rfl, frm_rf, fun m hm => absurd hm (Nat.not_lt_zero m)⟩ (fun k s hk hi => t_ukA_24 ho hk s hi) (fun s hi => ?_)
    obtain ⟨i, w2⟩ := s
    have i1 := hi.1
    simp only at i1
    subst i1
    simp (disch := omega) only [B_M_unpack_24_32, ↓bi_eq, ↓bw_eq, gd_pos, br_pos, br_neg, br_T, br_F, gd_T, bp_some, bd_some, bv_some, bl_some, bx_inl, bx_inr, bn_none, bn_some, bt_inl, bt_inr, not_true_eq_false, not_false_eq_true, eq_self, Bool.false_eq_true, if_true, if_false, jn_clamp, jn_lt, jn_le, jn_inj, jn_add, jn_sub, jn_mul, jn_vp, jn_0a, jn_1a, jn_1b, jn_1s, jn_1m, jn_neg0, jn_le0, jn_0le, jn_0lt, jn_1le, jn_le1, jn_lt1, jn_1lt, jn_e0, jn_e1, jn_em, ↓qB_f, ↓qT_f, cl_0, cl_1, vp_0, vp_1, li_8, ret_some, LQ_inr]
    exact hi
  obtain ⟨-, f2, p2⟩ := hq
  simp only at f2 p2
  refine ret_mono (P := fun w3 => IUl_24 w2 o 9 (jn 9, w3)) ?_ (fun w3 hq => ?_)
  · refine loop_inv (I := IUl_24 w2 o) 9 ⟨rfl, frm_rf, fun m hm => absurd hm (Nat.not_lt_zero m)⟩ (fun k s hk hi => t_ukB_24 ho hk s hi) (fun s hi => ?_)
    obtain ⟨i, w3⟩ := s
    have i1 := hi.1
    simp only at i1
    subst i1
    simp (disch := omega) only [B_M_unpack_24_112, ↓bi_eq, ↓bw_eq, gd_pos, br_pos, br_neg, br_T, br_F, gd_T, bp_some, bd_some, bv_some, bl_some, bx_inl, bx_inr, bn_none, bn_some, bt_inl, bt_inr, not_true_eq_false, not_false_eq_true, eq_self, Bool.false_eq_true, if_true, if_false, jn_clamp, jn_lt, jn_le, jn_inj, jn_add, jn_sub, jn_mul, jn_vp, jn_0a, jn_1a, jn_1b, jn_1s, jn_1m, jn_neg0, jn_le0, jn_0le, jn_0lt, jn_1le, jn_le1, jn_lt1, jn_1lt, jn_e0, jn_e1, jn_em, ↓qB_f, ↓qT_f, cl_0, cl_1, vp_0, vp_1, li_9, ret_some, LQ_inr]
    exact hi
  obtain ⟨-, f3, p3⟩ := hq
  simp only at f3 p3
  rw [ret_some]
  refine ⟨frm_tr (frm_tr (frm_up f1 rfl) (frm_up f2 rfl)) (frm_up f3 rfl), fun m hm => ?_, fun r hr => ?_, ?_, ?_, ?_⟩
  · obtain ⟨a1, a2, a3, a4⟩ := p2 m (by omega)
    obtain ⟨b1, b2, b3, b4⟩ := r3 m hm
    rw [f3 14 m rfl, f3 15 m rfl, f3 16 m rfl, f3 17 m rfl, a1, a2, a3, a4, f1 24 _ rfl, f1 24 _ rfl, f1 24 _ rfl, f1 24 _ rfl]
    exact ⟨b1, b2, b3, b4⟩
  · obtain ⟨a1, a2⟩ := p3 r (by omega)
    obtain ⟨b1, b2⟩ := r4 r hr
    rw [a1, a2, f2 24 _ rfl, f2 24 _ rfl, f1 24 _ rfl, f1 24 _ rfl]
    exact ⟨b1, b2⟩
  · rw [f3 0 33 rfl, f2 0 33 rfl, z3]
  · rw [f3 0 32 rfl, f2 0 32 rfl, z2]
  · rw [f3 0 31 rfl, f2 0 31 rfl, z1]
def IPk_30 (w : Wld) (o k : Nat) (s : Int32 × Wld) : Prop := s.1 = jn k ∧ Frm [30] [] w s.2 ∧ (∀ i, i < 35 → (i < 3 ∨ (i - 3) % 8 < k) → s.2 30 (o + i) = pk w i) ∧ ∀ i, (i < o ∨ o + 53 ≤ i) → s.2 30 i = w 30 i
def IPl_30 (w : Wld) (o k : Nat) (s : Int32 × Wld) : Prop := s.1 = jn k ∧ Frm [30] [] w s.2 ∧ (∀ i, i < 53 → (i < 35 ∨ (i - 35) % 9 < k) → s.2 30 (o + i) = pk w i) ∧ ∀ i, (i < o ∨ o + 53 ≤ i) → s.2 30 i = w 30 i
theorem t_pkA_30 {w : Wld} {o k : Nat} (ho : o + 53 ≤ 53) (hk : k < 8) (s : Int32 × Wld) (hi : IPk_30 w o k s) {P : Wld → Prop} : Ret (B_M_pack_30_32 (jn (o + 3)) s) (LQ (IPk_30 w o (k + 1)) P) := by
  obtain ⟨i, w1⟩ := s
  obtain ⟨i1, i2, i3, i4⟩ := hi
  simp only at i1 i2 i3 i4
  subst i1
  have a1 := i2 14 k rfl
  have a2 := i2 15 k rfl
  have a3 := i2 16 k rfl
  have a4 := i2 17 k rfl
  simp (disch := omega) only [B_M_pack_30_32, ↓bi_eq, ↓bw_eq, gd_pos, br_pos, br_neg, br_T, br_F, gd_T, bp_some, bd_some, bv_some, bl_some, bx_inl, bx_inr, bn_none, bn_some, bt_inl, bt_inr, not_true_eq_false, not_false_eq_true, eq_self, Bool.false_eq_true, if_true, if_false, jn_clamp, jn_lt, jn_le, jn_inj, jn_add, jn_sub, jn_mul, jn_vp, jn_0a, jn_1a, jn_1b, jn_1s, jn_1m, jn_neg0, jn_le0, jn_0le, jn_0lt, jn_1le, jn_le1, jn_lt1, jn_1lt, jn_e0, jn_e1, jn_em, ↓qB_f, ↓qT_f, cl_0, cl_1, vp_0, vp_1, wup_s1, wup_s2, wup_o, wcp_o, li_8, li_16, li_24, a1, a2, a3, a4, ret_some, LQ_inl]
  refine ⟨rfl, frm_wup (frm_wup (frm_wup (frm_wup i2 _ _ _ rfl) _ _ _ rfl) _ _ _ rfl) _ _ _ rfl, fun j hj hd => ?_, fun j hj => ?_⟩
  · by_cases j1 : j = 3 + k
    · subst j1
      rw [pk_a w hk]
      simp only [wup_s]
      rw [if_neg (by omega), if_neg (by omega), if_neg (by omega), if_pos (by omega)]
    by_cases j2 : j = 11 + k
    · subst j2
      rw [pk_b w hk]
      simp only [wup_s]
      rw [if_neg (by omega), if_neg (by omega), if_pos (by omega)]
    by_cases j3 : j = 19 + k
    · subst j3
      rw [pk_c w hk]
      simp only [wup_s]
      rw [if_neg (by omega), if_pos (by omega)]
    by_cases j4 : j = 27 + k
    · subst j4
      rw [pk_d w hk]
      simp only [wup_s]
      rw [if_pos (by omega)]
    simp only [wup_s]
    rw [if_neg (by omega), if_neg (by omega), if_neg (by omega), if_neg (by omega)]
    exact i3 j hj (by omega)
  · simp only [wup_s]
    rw [if_neg (by omega), if_neg (by omega), if_neg (by omega), if_neg (by omega)]
    exact i4 j hj
theorem t_pkB_30 {w : Wld} {o k : Nat} (ho : o + 53 ≤ 53) (hk : k < 9) (s : Int32 × Wld) (hi : IPl_30 w o k s) {P : Wld → Prop} : Ret (B_M_pack_30_112 (jn (o + 3 + 32)) s) (LQ (IPl_30 w o (k + 1)) P) := by
  obtain ⟨i, w1⟩ := s
  obtain ⟨i1, i2, i3, i4⟩ := hi
  simp only at i1 i2 i3 i4
  subst i1
  have a1 := i2 18 k rfl
  have a2 := i2 19 k rfl
  simp (disch := omega) only [B_M_pack_30_112, ↓bi_eq, ↓bw_eq, gd_pos, br_pos, br_neg, br_T, br_F, gd_T, bp_some, bd_some, bv_some, bl_some, bx_inl, bx_inr, bn_none, bn_some, bt_inl, bt_inr, not_true_eq_false, not_false_eq_true, eq_self, Bool.false_eq_true, if_true, if_false, jn_clamp, jn_lt, jn_le, jn_inj, jn_add, jn_sub, jn_mul, jn_vp, jn_0a, jn_1a, jn_1b, jn_1s, jn_1m, jn_neg0, jn_le0, jn_0le, jn_0lt, jn_1le, jn_le1, jn_lt1, jn_1lt, jn_e0, jn_e1, jn_em, ↓qB_f, ↓qT_f, cl_0, cl_1, vp_0, vp_1, wup_s1, wup_s2, wup_o, wcp_o, li_9, a1, a2, ret_some, LQ_inl]
  refine ⟨rfl, frm_wup (frm_wup i2 _ _ _ rfl) _ _ _ rfl, fun j hj hd => ?_, fun j hj => ?_⟩
  · by_cases j1 : j = 35 + k
    · subst j1
      rw [pk_e w hk]
      simp only [wup_s]
      rw [if_neg (by omega), if_pos (by omega)]
    by_cases j2 : j = 44 + k
    · subst j2
      rw [pk_f w hk]
      simp only [wup_s]
      rw [if_pos (by omega)]
    simp only [wup_s]
    rw [if_neg (by omega), if_neg (by omega)]
    exact i3 j hj (by omega)
  · simp only [wup_s]
    rw [if_neg (by omega), if_neg (by omega)]
    exact i4 j hj
theorem t_pack_30 (w : Wld) {o : Nat} (ho : o + 53 ≤ 53) : Ret (F_M_pack_30 w (jn o)) (fun w' => Frm [30] [] w w' ∧ (∀ i, i < 53 → w' 30 (o + i) = pk w i) ∧ ∀ i, (i < o ∨ o + 53 ≤ i) → w' 30 i = w 30 i) := by
  simp (disch := omega) only [F_M_pack_30, ↓bi_eq, ↓bw_eq, gd_pos, br_pos, br_neg, br_T, br_F, gd_T, bp_some, bd_some, bv_some, bl_some, bx_inl, bx_inr, bn_none, bn_some, bt_inl, bt_inr, not_true_eq_false, not_false_eq_true, eq_self, Bool.false_eq_true, if_true, if_false, jn_clamp, jn_lt, jn_le, jn_inj, jn_add, jn_sub, jn_mul, jn_vp, jn_0a, jn_1a, jn_1b, jn_1s, jn_1m, jn_neg0, jn_le0, jn_0le, jn_0lt, jn_1le, jn_le1, jn_lt1, jn_1lt, jn_e0, jn_e1, jn_em, ↓qB_f, ↓qT_f, cl_0, cl_1, vp_0, vp_1, wup_s1, wup_s2, wup_o, wcp_o, li_2, li_3, li_32, ret_bl]
  refine ret_mono (P := fun w1 => IPk_30 w o 8 (jn 8, w1)) ?_ (fun w1 hq => ?_)
  · refine loop_inv (I := IPk_30 w o) 8 ⟨rfl, frm_wup (frm_wup (frm_wup frm_rf _ _ _ rfl) _ _ _ rfl) _ _ _ rfl, fun j hj hd => ?_, fun j hj => ?_⟩ (fun k s hk hi => t_pkA_30 ho hk s hi) (fun s hi => ?_)
    · have hc : j = 0 ∨ j = 1 ∨ j = 2 := by omega
      rcases hc with rfl | rfl | rfl <;> simp (disch := omega) [wup_s, pk]
    · simp only [wup_s]
      rw [if_neg (by omega), if_neg (by omega), if_neg (by omega)]
    · obtain ⟨i, w2⟩ := s
      have i1 := hi.1
      simp only at i1
      subst i1
      simp (disch := omega) only [B_M_pack_30_32, ↓bi_eq, ↓bw_eq, gd_pos, br_pos, br_neg, br_T, br_F, gd_T, bp_some, bd_some, bv_some, bl_some, bx_inl, bx_inr, bn_none, bn_some, bt_inl, bt_inr, not_true_eq_false, not_false_eq_true, eq_self, Bool.false_eq_true, if_true, if_false, jn_clamp, jn_lt, jn_le, jn_inj, jn_add, jn_sub, jn_mul, jn_vp, jn_0a, jn_1a, jn_1b, jn_1s, jn_1m, jn_neg0, jn_le0, jn_0le, jn_0lt, jn_1le, jn_le1, jn_lt1, jn_1lt, jn_e0, jn_e1, jn_em, ↓qB_f, ↓qT_f, cl_0, cl_1, vp_0, vp_1, li_8, ret_some, LQ_inr]
      exact hi
  obtain ⟨-, f1, p1, p2⟩ := hq
  simp only at f1 p1 p2
  refine ret_mono (P := fun w1 => IPl_30 w o 9 (jn 9, w1)) ?_ (fun w2 hq => ?_)
  · refine loop_inv (I := IPl_30 w o) 9 ⟨rfl, f1, fun j hj hd => ?_, p2⟩ (fun k s hk hi => t_pkB_30 ho hk s hi) (fun s hi => ?_)
    · exact p1 j (by omega) (by omega)
    · obtain ⟨i, w2⟩ := s
      have i1 := hi.1
      simp only at i1
      subst i1
      simp (disch := omega) only [B_M_pack_30_112, ↓bi_eq, ↓bw_eq, gd_pos, br_pos, br_neg, br_T, br_F, gd_T, bp_some, bd_some, bv_some, bl_some, bx_inl, bx_inr, bn_none, bn_some, bt_inl, bt_inr, not_true_eq_false, not_false_eq_true, eq_self, Bool.false_eq_true, if_true, if_false, jn_clamp, jn_lt, jn_le, jn_inj, jn_add, jn_sub, jn_mul, jn_vp, jn_0a, jn_1a, jn_1b, jn_1s, jn_1m, jn_neg0, jn_le0, jn_0le, jn_0lt, jn_1le, jn_le1, jn_lt1, jn_1lt, jn_e0, jn_e1, jn_em, ↓qB_f, ↓qT_f, cl_0, cl_1, vp_0, vp_1, li_9, ret_some, LQ_inr]
      exact hi
  obtain ⟨-, f2, p3, p4⟩ := hq
  simp only at f2 p3 p4
  rw [ret_some]
  exact ⟨f2, fun j hj => p3 j hj (by omega), p4⟩
def IUk_30 (w : Wld) (o k : Nat) (s : Int32 × Wld) : Prop := s.1 = jn k ∧ Frm [14, 15, 16, 17] [] w s.2 ∧ ∀ m, m < k → s.2 14 m = w 30 (o + (3 + m)) ∧ s.2 15 m = w 30 (o + (11 + m)) ∧ s.2 16 m = w 30 (o + (19 + m)) ∧ s.2 17 m = w 30 (o + (27 + m))
def IUl_30 (w : Wld) (o k : Nat) (s : Int32 × Wld) : Prop := s.1 = jn k ∧ Frm [18, 19] [] w s.2 ∧ ∀ m, m < k → s.2 18 m = w 30 (o + (35 + m)) ∧ s.2 19 m = w 30 (o + (44 + m))
theorem t_ukA_30 {w : Wld} {o k : Nat} (ho : o + 53 ≤ 53) (hk : k < 8) (s : Int32 × Wld) (hi : IUk_30 w o k s) {P : Wld → Prop} : Ret (B_M_unpack_30_32 (jn (o + 3)) s) (LQ (IUk_30 w o (k + 1)) P) := by
  obtain ⟨i, w1⟩ := s
  obtain ⟨i1, i2, i3⟩ := hi
  simp only at i1 i2 i3
  subst i1
  have a1 : w1 30 (o + 3 + k) = w 30 (o + (3 + k)) := by rw [i2 30 _ rfl, Nat.add_assoc]
  have a2 : w1 30 (o + 3 + 8 + k) = w 30 (o + (11 + k)) := by rw [i2 30 _ rfl, show o + 3 + 8 + k = o + (11 + k) by omega]
  have a3 : w1 30 (o + 3 + 16 + k) = w 30 (o + (19 + k)) := by rw [i2 30 _ rfl, show o + 3 + 16 + k = o + (19 + k) by omega]
  have a4 : w1 30 (o + 3 + 24 + k) = w 30 (o + (27 + k)) := by rw [i2 30 _ rfl, show o + 3 + 24 + k = o + (27 + k) by omega]
  simp (disch := omega) only [B_M_unpack_30_32, ↓bi_eq, ↓bw_eq, gd_pos, br_pos, br_neg, br_T, br_F, gd_T, bp_some, bd_some, bv_some, bl_some, bx_inl, bx_inr, bn_none, bn_some, bt_inl, bt_inr, not_true_eq_false, not_false_eq_true, eq_self, Bool.false_eq_true, if_true, if_false, jn_clamp, jn_lt, jn_le, jn_inj, jn_add, jn_sub, jn_mul, jn_vp, jn_0a, jn_1a, jn_1b, jn_1s, jn_1m, jn_neg0, jn_le0, jn_0le, jn_0lt, jn_1le, jn_le1, jn_lt1, jn_1lt, jn_e0, jn_e1, jn_em, ↓qB_f, ↓qT_f, cl_0, cl_1, vp_0, vp_1, wup_s1, wup_s2, wup_o, wcp_o, li_8, li_16, li_24, a1, a2, a3, a4, ret_some, LQ_inl]
  refine ⟨rfl, frm_wup (frm_wup (frm_wup (frm_wup i2 _ _ _ rfl) _ _ _ rfl) _ _ _ rfl) _ _ _ rfl, fun m hm => ?_⟩
  by_cases hmk : m = k
  · subst hmk
    simp (disch := omega) only [wup_s1, wup_s2, wup_o, wcp_o, and_self]
  · simp (disch := omega) only [wup_s1, wup_s2, wup_o, wcp_o]
    exact i3 m (by omega)
theorem t_ukB_30 {w : Wld} {o k : Nat} (ho : o + 53 ≤ 53) (hk : k < 9) (s : Int32 × Wld) (hi : IUl_30 w o k s) {P : Wld → Prop} : Ret (B_M_unpack_30_112 (jn (o + 3 + 32)) s) (LQ (IUl_30 w o (k + 1)) P) := by
  obtain ⟨i, w1⟩ := s
  obtain ⟨i1, i2, i3⟩ := hi
  simp only at i1 i2 i3
  subst i1
  have a1 : w1 30 (o + 3 + 32 + k) = w 30 (o + (35 + k)) := by rw [i2 30 _ rfl, show o + 3 + 32 + k = o + (35 + k) by omega]
  have a2 : w1 30 (o + 3 + 32 + 9 + k) = w 30 (o + (44 + k)) := by rw [i2 30 _ rfl, show o + 3 + 32 + 9 + k = o + (44 + k) by omega]
  simp (disch := omega) only [B_M_unpack_30_112, ↓bi_eq, ↓bw_eq, gd_pos, br_pos, br_neg, br_T, br_F, gd_T, bp_some, bd_some, bv_some, bl_some, bx_inl, bx_inr, bn_none, bn_some, bt_inl, bt_inr, not_true_eq_false, not_false_eq_true, eq_self, Bool.false_eq_true, if_true, if_false, jn_clamp, jn_lt, jn_le, jn_inj, jn_add, jn_sub, jn_mul, jn_vp, jn_0a, jn_1a, jn_1b, jn_1s, jn_1m, jn_neg0, jn_le0, jn_0le, jn_0lt, jn_1le, jn_le1, jn_lt1, jn_1lt, jn_e0, jn_e1, jn_em, ↓qB_f, ↓qT_f, cl_0, cl_1, vp_0, vp_1, wup_s1, wup_s2, wup_o, wcp_o, li_9, a1, a2, ret_some, LQ_inl]
  refine ⟨rfl, frm_wup (frm_wup i2 _ _ _ rfl) _ _ _ rfl, fun m hm => ?_⟩
  by_cases hmk : m = k
  · subst hmk
    simp (disch := omega) only [wup_s1, wup_s2, wup_o, wcp_o, and_self]
  · simp (disch := omega) only [wup_s1, wup_s2, wup_o, wcp_o]
    exact i3 m (by omega)
theorem t_unpack_30 {w : Wld} {o : Nat} {h : Hs} {c : Sta} (hh : GdH h) (ho : o + 53 ≤ 53) (hr : MRow (fun i => w 30 (o + i)) h c) : Ret (F_M_unpack_30 w (jn o)) (fun w' => Frm [14, 15, 16, 17, 18, 19] [(0, 31), (0, 32), (0, 33)] w w' ∧ MSt w' h c) := by
  have hN := hh.1
  have hM := hh.2.1
  obtain ⟨r0, r1, r2, r3, r4⟩ := hr
  simp only at r0 r1 r2 r3 r4
  simp (disch := omega) only [F_M_unpack_30, ↓bi_eq, ↓bw_eq, gd_pos, br_pos, br_neg, br_T, br_F, gd_T, bp_some, bd_some, bv_some, bl_some, bx_inl, bx_inr, bn_none, bn_some, bt_inl, bt_inr, not_true_eq_false, not_false_eq_true, eq_self, Bool.false_eq_true, if_true, if_false, jn_clamp, jn_lt, jn_le, jn_inj, jn_add, jn_sub, jn_mul, jn_vp, jn_0a, jn_1a, jn_1b, jn_1s, jn_1m, jn_neg0, jn_le0, jn_0le, jn_0lt, jn_1le, jn_le1, jn_lt1, jn_1lt, jn_e0, jn_e1, jn_em, ↓qB_f, ↓qT_f, cl_0, cl_1, vp_0, vp_1, wup_s1, wup_s2, wup_o, wcp_o, li_2, li_3, li_32, ret_bl]
  generalize hv : wup (wup (wup w 0 31 _) 0 32 _) 0 33 _ = w1
  have f1 : Frm [] [(0, 31), (0, 32), (0, 33)] w w1 := by
    rw [← hv]
    exact frm_wup (frm_wup (frm_wup frm_rf _ _ _ rfl) _ _ _ rfl) _ _ _ rfl
  have z1 : w1 0 31 = c 52 := by rw [← hv]; simp (disch := omega) only [wup_s1, wup_s2, wup_o, wcp_o, ← r0, Nat.add_zero]
  have z2 : w1 0 32 = c 51 := by rw [← hv]; simp (disch := omega) only [wup_s1, wup_s2, wup_o, wcp_o, ← r1]
  have z3 : w1 0 33 = c 50 := by rw [← hv]; simp (disch := omega) only [wup_s1, wup_s2, wup_o, wcp_o, ← r2]
  refine ret_mono (P := fun w2 => IUk_30 w1 o 8 (jn 8, w2)) ?_ (fun w2 hq => ?_)
  · refine loop_inv (I := IUk_30 w1 o) 8 ⟨rfl, frm_rf, fun m hm => absurd hm (Nat.not_lt_zero m)⟩ (fun k s hk hi => t_ukA_30 ho hk s hi) (fun s hi => ?_)
    obtain ⟨i, w2⟩ := s
    have i1 := hi.1
    simp only at i1
    subst i1
    simp (disch := omega) only [B_M_unpack_30_32, ↓bi_eq, ↓bw_eq, gd_pos, br_pos, br_neg, br_T, br_F, gd_T, bp_some, bd_some, bv_some, bl_some, bx_inl, bx_inr, bn_none, bn_some, bt_inl, bt_inr, not_true_eq_false, not_false_eq_true, eq_self, Bool.false_eq_true, if_true, if_false, jn_clamp, jn_lt, jn_le, jn_inj, jn_add, jn_sub, jn_mul, jn_vp, jn_0a, jn_1a, jn_1b, jn_1s, jn_1m, jn_neg0, jn_le0, jn_0le, jn_0lt, jn_1le, jn_le1, jn_lt1, jn_1lt, jn_e0, jn_e1, jn_em, ↓qB_f, ↓qT_f, cl_0, cl_1, vp_0, vp_1, li_8, ret_some, LQ_inr]
    exact hi
  obtain ⟨-, f2, p2⟩ := hq
  simp only at f2 p2
  refine ret_mono (P := fun w3 => IUl_30 w2 o 9 (jn 9, w3)) ?_ (fun w3 hq => ?_)
  · refine loop_inv (I := IUl_30 w2 o) 9 ⟨rfl, frm_rf, fun m hm => absurd hm (Nat.not_lt_zero m)⟩ (fun k s hk hi => t_ukB_30 ho hk s hi) (fun s hi => ?_)
    obtain ⟨i, w3⟩ := s
    have i1 := hi.1
    simp only at i1
    subst i1
    simp (disch := omega) only [B_M_unpack_30_112, ↓bi_eq, ↓bw_eq, gd_pos, br_pos, br_neg, br_T, br_F, gd_T, bp_some, bd_some, bv_some, bl_some, bx_inl, bx_inr, bn_none, bn_some, bt_inl, bt_inr, not_true_eq_false, not_false_eq_true, eq_self, Bool.false_eq_true, if_true, if_false, jn_clamp, jn_lt, jn_le, jn_inj, jn_add, jn_sub, jn_mul, jn_vp, jn_0a, jn_1a, jn_1b, jn_1s, jn_1m, jn_neg0, jn_le0, jn_0le, jn_0lt, jn_1le, jn_le1, jn_lt1, jn_1lt, jn_e0, jn_e1, jn_em, ↓qB_f, ↓qT_f, cl_0, cl_1, vp_0, vp_1, li_9, ret_some, LQ_inr]
    exact hi
  obtain ⟨-, f3, p3⟩ := hq
  simp only at f3 p3
  rw [ret_some]
  refine ⟨frm_tr (frm_tr (frm_up f1 rfl) (frm_up f2 rfl)) (frm_up f3 rfl), fun m hm => ?_, fun r hr => ?_, ?_, ?_, ?_⟩
  · obtain ⟨a1, a2, a3, a4⟩ := p2 m (by omega)
    obtain ⟨b1, b2, b3, b4⟩ := r3 m hm
    rw [f3 14 m rfl, f3 15 m rfl, f3 16 m rfl, f3 17 m rfl, a1, a2, a3, a4, f1 30 _ rfl, f1 30 _ rfl, f1 30 _ rfl, f1 30 _ rfl]
    exact ⟨b1, b2, b3, b4⟩
  · obtain ⟨a1, a2⟩ := p3 r (by omega)
    obtain ⟨b1, b2⟩ := r4 r hr
    rw [a1, a2, f2 30 _ rfl, f2 30 _ rfl, f1 30 _ rfl, f1 30 _ rfl]
    exact ⟨b1, b2⟩
  · rw [f3 0 33 rfl, f2 0 33 rfl, z3]
  · rw [f3 0 32 rfl, f2 0 32 rfl, z2]
  · rw [f3 0 31 rfl, f2 0 31 rfl, z1]
def IPk_35 (w : Wld) (o k : Nat) (s : Int32 × Wld) : Prop := s.1 = jn k ∧ Frm [35] [] w s.2 ∧ (∀ i, i < 35 → (i < 3 ∨ (i - 3) % 8 < k) → s.2 35 (o + i) = pk w i) ∧ ∀ i, (i < o ∨ o + 53 ≤ i) → s.2 35 i = w 35 i
def IPl_35 (w : Wld) (o k : Nat) (s : Int32 × Wld) : Prop := s.1 = jn k ∧ Frm [35] [] w s.2 ∧ (∀ i, i < 53 → (i < 35 ∨ (i - 35) % 9 < k) → s.2 35 (o + i) = pk w i) ∧ ∀ i, (i < o ∨ o + 53 ≤ i) → s.2 35 i = w 35 i
theorem t_pkA_35 {w : Wld} {o k : Nat} (ho : o + 53 ≤ 53) (hk : k < 8) (s : Int32 × Wld) (hi : IPk_35 w o k s) {P : Wld → Prop} : Ret (B_M_pack_35_32 (jn (o + 3)) s) (LQ (IPk_35 w o (k + 1)) P) := by
  obtain ⟨i, w1⟩ := s
  obtain ⟨i1, i2, i3, i4⟩ := hi
  simp only at i1 i2 i3 i4
  subst i1
  have a1 := i2 14 k rfl
  have a2 := i2 15 k rfl
  have a3 := i2 16 k rfl
  have a4 := i2 17 k rfl
  simp (disch := omega) only [B_M_pack_35_32, ↓bi_eq, ↓bw_eq, gd_pos, br_pos, br_neg, br_T, br_F, gd_T, bp_some, bd_some, bv_some, bl_some, bx_inl, bx_inr, bn_none, bn_some, bt_inl, bt_inr, not_true_eq_false, not_false_eq_true, eq_self, Bool.false_eq_true, if_true, if_false, jn_clamp, jn_lt, jn_le, jn_inj, jn_add, jn_sub, jn_mul, jn_vp, jn_0a, jn_1a, jn_1b, jn_1s, jn_1m, jn_neg0, jn_le0, jn_0le, jn_0lt, jn_1le, jn_le1, jn_lt1, jn_1lt, jn_e0, jn_e1, jn_em, ↓qB_f, ↓qT_f, cl_0, cl_1, vp_0, vp_1, wup_s1, wup_s2, wup_o, wcp_o, li_8, li_16, li_24, a1, a2, a3, a4, ret_some, LQ_inl]
  refine ⟨rfl, frm_wup (frm_wup (frm_wup (frm_wup i2 _ _ _ rfl) _ _ _ rfl) _ _ _ rfl) _ _ _ rfl, fun j hj hd => ?_, fun j hj => ?_⟩
  · by_cases j1 : j = 3 + k
    · subst j1
      rw [pk_a w hk]
      simp only [wup_s]
      rw [if_neg (by omega), if_neg (by omega), if_neg (by omega), if_pos (by omega)]
    by_cases j2 : j = 11 + k
    · subst j2
      rw [pk_b w hk]
      simp only [wup_s]
      rw [if_neg (by omega), if_neg (by omega), if_pos (by omega)]
    by_cases j3 : j = 19 + k
    · subst j3
      rw [pk_c w hk]
      simp only [wup_s]
      rw [if_neg (by omega), if_pos (by omega)]
    by_cases j4 : j = 27 + k
    · subst j4
      rw [pk_d w hk]
      simp only [wup_s]
      rw [if_pos (by omega)]
    simp only [wup_s]
    rw [if_neg (by omega), if_neg (by omega), if_neg (by omega), if_neg (by omega)]
    exact i3 j hj (by omega)
  · simp only [wup_s]
    rw [if_neg (by omega), if_neg (by omega), if_neg (by omega), if_neg (by omega)]
    exact i4 j hj
theorem t_pkB_35 {w : Wld} {o k : Nat} (ho : o + 53 ≤ 53) (hk : k < 9) (s : Int32 × Wld) (hi : IPl_35 w o k s) {P : Wld → Prop} : Ret (B_M_pack_35_112 (jn (o + 3 + 32)) s) (LQ (IPl_35 w o (k + 1)) P) := by
  obtain ⟨i, w1⟩ := s
  obtain ⟨i1, i2, i3, i4⟩ := hi
  simp only at i1 i2 i3 i4
  subst i1
  have a1 := i2 18 k rfl
  have a2 := i2 19 k rfl
  simp (disch := omega) only [B_M_pack_35_112, ↓bi_eq, ↓bw_eq, gd_pos, br_pos, br_neg, br_T, br_F, gd_T, bp_some, bd_some, bv_some, bl_some, bx_inl, bx_inr, bn_none, bn_some, bt_inl, bt_inr, not_true_eq_false, not_false_eq_true, eq_self, Bool.false_eq_true, if_true, if_false, jn_clamp, jn_lt, jn_le, jn_inj, jn_add, jn_sub, jn_mul, jn_vp, jn_0a, jn_1a, jn_1b, jn_1s, jn_1m, jn_neg0, jn_le0, jn_0le, jn_0lt, jn_1le, jn_le1, jn_lt1, jn_1lt, jn_e0, jn_e1, jn_em, ↓qB_f, ↓qT_f, cl_0, cl_1, vp_0, vp_1, wup_s1, wup_s2, wup_o, wcp_o, li_9, a1, a2, ret_some, LQ_inl]
  refine ⟨rfl, frm_wup (frm_wup i2 _ _ _ rfl) _ _ _ rfl, fun j hj hd => ?_, fun j hj => ?_⟩
  · by_cases j1 : j = 35 + k
    · subst j1
      rw [pk_e w hk]
      simp only [wup_s]
      rw [if_neg (by omega), if_pos (by omega)]
    by_cases j2 : j = 44 + k
    · subst j2
      rw [pk_f w hk]
      simp only [wup_s]
      rw [if_pos (by omega)]
    simp only [wup_s]
    rw [if_neg (by omega), if_neg (by omega)]
    exact i3 j hj (by omega)
  · simp only [wup_s]
    rw [if_neg (by omega), if_neg (by omega)]
    exact i4 j hj
theorem t_pack_35 (w : Wld) {o : Nat} (ho : o + 53 ≤ 53) : Ret (F_M_pack_35 w (jn o)) (fun w' => Frm [35] [] w w' ∧ (∀ i, i < 53 → w' 35 (o + i) = pk w i) ∧ ∀ i, (i < o ∨ o + 53 ≤ i) → w' 35 i = w 35 i) := by
  simp (disch := omega) only [F_M_pack_35, ↓bi_eq, ↓bw_eq, gd_pos, br_pos, br_neg, br_T, br_F, gd_T, bp_some, bd_some, bv_some, bl_some, bx_inl, bx_inr, bn_none, bn_some, bt_inl, bt_inr, not_true_eq_false, not_false_eq_true, eq_self, Bool.false_eq_true, if_true, if_false, jn_clamp, jn_lt, jn_le, jn_inj, jn_add, jn_sub, jn_mul, jn_vp, jn_0a, jn_1a, jn_1b, jn_1s, jn_1m, jn_neg0, jn_le0, jn_0le, jn_0lt, jn_1le, jn_le1, jn_lt1, jn_1lt, jn_e0, jn_e1, jn_em, ↓qB_f, ↓qT_f, cl_0, cl_1, vp_0, vp_1, wup_s1, wup_s2, wup_o, wcp_o, li_2, li_3, li_32, ret_bl]
  refine ret_mono (P := fun w1 => IPk_35 w o 8 (jn 8, w1)) ?_ (fun w1 hq => ?_)
  · refine loop_inv (I := IPk_35 w o) 8 ⟨rfl, frm_wup (frm_wup (frm_wup frm_rf _ _ _ rfl) _ _ _ rfl) _ _ _ rfl, fun j hj hd => ?_, fun j hj => ?_⟩ (fun k s hk hi => t_pkA_35 ho hk s hi) (fun s hi => ?_)
    · have hc : j = 0 ∨ j = 1 ∨ j = 2 := by omega
      rcases hc with rfl | rfl | rfl <;> simp (disch := omega) [wup_s, pk]
    · simp only [wup_s]
      rw [if_neg (by omega), if_neg (by omega), if_neg (by omega)]
    · obtain ⟨i, w2⟩ := s
      have i1 := hi.1
      simp only at i1
      subst i1
      simp (disch := omega) only [B_M_pack_35_32, ↓bi_eq, ↓bw_eq, gd_pos, br_pos, br_neg, br_T, br_F, gd_T, bp_some, bd_some, bv_some, bl_some, bx_inl, bx_inr, bn_none, bn_some, bt_inl, bt_inr, not_true_eq_false, not_false_eq_true, eq_self, Bool.false_eq_true, if_true, if_false, jn_clamp, jn_lt, jn_le, jn_inj, jn_add, jn_sub, jn_mul, jn_vp, jn_0a, jn_1a, jn_1b, jn_1s, jn_1m, jn_neg0, jn_le0, jn_0le, jn_0lt, jn_1le, jn_le1, jn_lt1, jn_1lt, jn_e0, jn_e1, jn_em, ↓qB_f, ↓qT_f, cl_0, cl_1, vp_0, vp_1, li_8, ret_some, LQ_inr]
      exact hi
  obtain ⟨-, f1, p1, p2⟩ := hq
  simp only at f1 p1 p2
  refine ret_mono (P := fun w1 => IPl_35 w o 9 (jn 9, w1)) ?_ (fun w2 hq => ?_)
  · refine loop_inv (I := IPl_35 w o) 9 ⟨rfl, f1, fun j hj hd => ?_, p2⟩ (fun k s hk hi => t_pkB_35 ho hk s hi) (fun s hi => ?_)
    · exact p1 j (by omega) (by omega)
    · obtain ⟨i, w2⟩ := s
      have i1 := hi.1
      simp only at i1
      subst i1
      simp (disch := omega) only [B_M_pack_35_112, ↓bi_eq, ↓bw_eq, gd_pos, br_pos, br_neg, br_T, br_F, gd_T, bp_some, bd_some, bv_some, bl_some, bx_inl, bx_inr, bn_none, bn_some, bt_inl, bt_inr, not_true_eq_false, not_false_eq_true, eq_self, Bool.false_eq_true, if_true, if_false, jn_clamp, jn_lt, jn_le, jn_inj, jn_add, jn_sub, jn_mul, jn_vp, jn_0a, jn_1a, jn_1b, jn_1s, jn_1m, jn_neg0, jn_le0, jn_0le, jn_0lt, jn_1le, jn_le1, jn_lt1, jn_1lt, jn_e0, jn_e1, jn_em, ↓qB_f, ↓qT_f, cl_0, cl_1, vp_0, vp_1, li_9, ret_some, LQ_inr]
      exact hi
  obtain ⟨-, f2, p3, p4⟩ := hq
  simp only at f2 p3 p4
  rw [ret_some]
  exact ⟨f2, fun j hj => p3 j hj (by omega), p4⟩
def IUk_35 (w : Wld) (o k : Nat) (s : Int32 × Wld) : Prop := s.1 = jn k ∧ Frm [14, 15, 16, 17] [] w s.2 ∧ ∀ m, m < k → s.2 14 m = w 35 (o + (3 + m)) ∧ s.2 15 m = w 35 (o + (11 + m)) ∧ s.2 16 m = w 35 (o + (19 + m)) ∧ s.2 17 m = w 35 (o + (27 + m))
def IUl_35 (w : Wld) (o k : Nat) (s : Int32 × Wld) : Prop := s.1 = jn k ∧ Frm [18, 19] [] w s.2 ∧ ∀ m, m < k → s.2 18 m = w 35 (o + (35 + m)) ∧ s.2 19 m = w 35 (o + (44 + m))
theorem t_ukA_35 {w : Wld} {o k : Nat} (ho : o + 53 ≤ 53) (hk : k < 8) (s : Int32 × Wld) (hi : IUk_35 w o k s) {P : Wld → Prop} : Ret (B_M_unpack_35_32 (jn (o + 3)) s) (LQ (IUk_35 w o (k + 1)) P) := by
  obtain ⟨i, w1⟩ := s
  obtain ⟨i1, i2, i3⟩ := hi
  simp only at i1 i2 i3
  subst i1
  have a1 : w1 35 (o + 3 + k) = w 35 (o + (3 + k)) := by rw [i2 35 _ rfl, Nat.add_assoc]
  have a2 : w1 35 (o + 3 + 8 + k) = w 35 (o + (11 + k)) := by rw [i2 35 _ rfl, show o + 3 + 8 + k = o + (11 + k) by omega]
  have a3 : w1 35 (o + 3 + 16 + k) = w 35 (o + (19 + k)) := by rw [i2 35 _ rfl, show o + 3 + 16 + k = o + (19 + k) by omega]
  have a4 : w1 35 (o + 3 + 24 + k) = w 35 (o + (27 + k)) := by rw [i2 35 _ rfl, show o + 3 + 24 + k = o + (27 + k) by omega]
  simp (disch := omega) only [B_M_unpack_35_32, ↓bi_eq, ↓bw_eq, gd_pos, br_pos, br_neg, br_T, br_F, gd_T, bp_some, bd_some, bv_some, bl_some, bx_inl, bx_inr, bn_none, bn_some, bt_inl, bt_inr, not_true_eq_false, not_false_eq_true, eq_self, Bool.false_eq_true, if_true, if_false, jn_clamp, jn_lt, jn_le, jn_inj, jn_add, jn_sub, jn_mul, jn_vp, jn_0a, jn_1a, jn_1b, jn_1s, jn_1m, jn_neg0, jn_le0, jn_0le, jn_0lt, jn_1le, jn_le1, jn_lt1, jn_1lt, jn_e0, jn_e1, jn_em, ↓qB_f, ↓qT_f, cl_0, cl_1, vp_0, vp_1, wup_s1, wup_s2, wup_o, wcp_o, li_8, li_16, li_24, a1, a2, a3, a4, ret_some, LQ_inl]
  refine ⟨rfl, frm_wup (frm_wup (frm_wup (frm_wup i2 _ _ _ rfl) _ _ _ rfl) _ _ _ rfl) _ _ _ rfl, fun m hm => ?_⟩
  by_cases hmk : m = k
  · subst hmk
    simp (disch := omega) only [wup_s1, wup_s2, wup_o, wcp_o, and_self]
  · simp (disch := omega) only [wup_s1, wup_s2, wup_o, wcp_o]
    exact i3 m (by omega)
theorem t_ukB_35 {w : Wld} {o k : Nat} (ho : o + 53 ≤ 53) (hk : k < 9) (s : Int32 × Wld) (hi : IUl_35 w o k s) {P : Wld → Prop} : Ret (B_M_unpack_35_112 (jn (o + 3 + 32)) s) (LQ (IUl_35 w o (k + 1)) P) := by
  obtain ⟨i, w1⟩ := s
  obtain ⟨i1, i2, i3⟩ := hi
  simp only at i1 i2 i3
  subst i1
  have a1 : w1 35 (o + 3 + 32 + k) = w 35 (o + (35 + k)) := by rw [i2 35 _ rfl, show o + 3 + 32 + k = o + (35 + k) by omega]
  have a2 : w1 35 (o + 3 + 32 + 9 + k) = w 35 (o + (44 + k)) := by rw [i2 35 _ rfl, show o + 3 + 32 + 9 + k = o + (44 + k) by omega]
  simp (disch := omega) only [B_M_unpack_35_112, ↓bi_eq, ↓bw_eq, gd_pos, br_pos, br_neg, br_T, br_F, gd_T, bp_some, bd_some, bv_some, bl_some, bx_inl, bx_inr, bn_none, bn_some, bt_inl, bt_inr, not_true_eq_false, not_false_eq_true, eq_self, Bool.false_eq_true, if_true, if_false, jn_clamp, jn_lt, jn_le, jn_inj, jn_add, jn_sub, jn_mul, jn_vp, jn_0a, jn_1a, jn_1b, jn_1s, jn_1m, jn_neg0, jn_le0, jn_0le, jn_0lt, jn_1le, jn_le1, jn_lt1, jn_1lt, jn_e0, jn_e1, jn_em, ↓qB_f, ↓qT_f, cl_0, cl_1, vp_0, vp_1, wup_s1, wup_s2, wup_o, wcp_o, li_9, a1, a2, ret_some, LQ_inl]
  refine ⟨rfl, frm_wup (frm_wup i2 _ _ _ rfl) _ _ _ rfl, fun m hm => ?_⟩
  by_cases hmk : m = k
  · subst hmk
    simp (disch := omega) only [wup_s1, wup_s2, wup_o, wcp_o, and_self]
  · simp (disch := omega) only [wup_s1, wup_s2, wup_o, wcp_o]
    exact i3 m (by omega)
theorem t_unpack_35 {w : Wld} {o : Nat} {h : Hs} {c : Sta} (hh : GdH h) (ho : o + 53 ≤ 53) (hr : MRow (fun i => w 35 (o + i)) h c) : Ret (F_M_unpack_35 w (jn o)) (fun w' => Frm [14, 15, 16, 17, 18, 19] [(0, 31), (0, 32), (0, 33)] w w' ∧ MSt w' h c) := by
  have hN := hh.1
  have hM := hh.2.1
  obtain ⟨r0, r1, r2, r3, r4⟩ := hr
  simp only at r0 r1 r2 r3 r4
  simp (disch := omega) only [F_M_unpack_35, ↓bi_eq, ↓bw_eq, gd_pos, br_pos, br_neg, br_T, br_F, gd_T, bp_some, bd_some, bv_some, bl_some, bx_inl, bx_inr, bn_none, bn_some, bt_inl, bt_inr, not_true_eq_false, not_false_eq_true, eq_self, Bool.false_eq_true, if_true, if_false, jn_clamp, jn_lt, jn_le, jn_inj, jn_add, jn_sub, jn_mul, jn_vp, jn_0a, jn_1a, jn_1b, jn_1s, jn_1m, jn_neg0, jn_le0, jn_0le, jn_0lt, jn_1le, jn_le1, jn_lt1, jn_1lt, jn_e0, jn_e1, jn_em, ↓qB_f, ↓qT_f, cl_0, cl_1, vp_0, vp_1, wup_s1, wup_s2, wup_o, wcp_o, li_2, li_3, li_32, ret_bl]
  generalize hv : wup (wup (wup w 0 31 _) 0 32 _) 0 33 _ = w1
  have f1 : Frm [] [(0, 31), (0, 32), (0, 33)] w w1 := by
    rw [← hv]
    exact frm_wup (frm_wup (frm_wup frm_rf _ _ _ rfl) _ _ _ rfl) _ _ _ rfl
  have z1 : w1 0 31 = c 52 := by rw [← hv]; simp (disch := omega) only [wup_s1, wup_s2, wup_o, wcp_o, ← r0, Nat.add_zero]
  have z2 : w1 0 32 = c 51 := by rw [← hv]; simp (disch := omega) only [wup_s1, wup_s2, wup_o, wcp_o, ← r1]
  have z3 : w1 0 33 = c 50 := by rw [← hv]; simp (disch := omega) only [wup_s1, wup_s2, wup_o, wcp_o, ← r2]
  refine ret_mono (P := fun w2 => IUk_35 w1 o 8 (jn 8, w2)) ?_ (fun w2 hq => ?_)
  · refine loop_inv (I := IUk_35 w1 o) 8 ⟨rfl, frm_rf, fun m hm => absurd hm (Nat.not_lt_zero m)⟩ (fun k s hk hi => t_ukA_35 ho hk s hi) (fun s hi => ?_)
    obtain ⟨i, w2⟩ := s
    have i1 := hi.1
    simp only at i1
    subst i1
    simp (disch := omega) only [B_M_unpack_35_32, ↓bi_eq, ↓bw_eq, gd_pos, br_pos, br_neg, br_T, br_F, gd_T, bp_some, bd_some, bv_some, bl_some, bx_inl, bx_inr, bn_none, bn_some, bt_inl, bt_inr, not_true_eq_false, not_false_eq_true, eq_self, Bool.false_eq_true, if_true, if_false, jn_clamp, jn_lt, jn_le, jn_inj, jn_add, jn_sub, jn_mul, jn_vp, jn_0a, jn_1a, jn_1b, jn_1s, jn_1m, jn_neg0, jn_le0, jn_0le, jn_0lt, jn_1le, jn_le1, jn_lt1, jn_1lt, jn_e0, jn_e1, jn_em, ↓qB_f, ↓qT_f, cl_0, cl_1, vp_0, vp_1, li_8, ret_some, LQ_inr]
    exact hi
  obtain ⟨-, f2, p2⟩ := hq
  simp only at f2 p2
  refine ret_mono (P := fun w3 => IUl_35 w2 o 9 (jn 9, w3)) ?_ (fun w3 hq => ?_)
  · refine loop_inv (I := IUl_35 w2 o) 9 ⟨rfl, frm_rf, fun m hm => absurd hm (Nat.not_lt_zero m)⟩ (fun k s hk hi => t_ukB_35 ho hk s hi) (fun s hi => ?_)
    obtain ⟨i, w3⟩ := s
    have i1 := hi.1
    simp only at i1
    subst i1
    simp (disch := omega) only [B_M_unpack_35_112, ↓bi_eq, ↓bw_eq, gd_pos, br_pos, br_neg, br_T, br_F, gd_T, bp_some, bd_some, bv_some, bl_some, bx_inl, bx_inr, bn_none, bn_some, bt_inl, bt_inr, not_true_eq_false, not_false_eq_true, eq_self, Bool.false_eq_true, if_true, if_false, jn_clamp, jn_lt, jn_le, jn_inj, jn_add, jn_sub, jn_mul, jn_vp, jn_0a, jn_1a, jn_1b, jn_1s, jn_1m, jn_neg0, jn_le0, jn_0le, jn_0lt, jn_1le, jn_le1, jn_lt1, jn_1lt, jn_e0, jn_e1, jn_em, ↓qB_f, ↓qT_f, cl_0, cl_1, vp_0, vp_1, li_9, ret_some, LQ_inr]
    exact hi
  obtain ⟨-, f3, p3⟩ := hq
  simp only at f3 p3
  rw [ret_some]
  refine ⟨frm_tr (frm_tr (frm_up f1 rfl) (frm_up f2 rfl)) (frm_up f3 rfl), fun m hm => ?_, fun r hr => ?_, ?_, ?_, ?_⟩
  · obtain ⟨a1, a2, a3, a4⟩ := p2 m (by omega)
    obtain ⟨b1, b2, b3, b4⟩ := r3 m hm
    rw [f3 14 m rfl, f3 15 m rfl, f3 16 m rfl, f3 17 m rfl, a1, a2, a3, a4, f1 35 _ rfl, f1 35 _ rfl, f1 35 _ rfl, f1 35 _ rfl]
    exact ⟨b1, b2, b3, b4⟩
  · obtain ⟨a1, a2⟩ := p3 r (by omega)
    obtain ⟨b1, b2⟩ := r4 r hr
    rw [a1, a2, f2 35 _ rfl, f2 35 _ rfl, f1 35 _ rfl, f1 35 _ rfl]
    exact ⟨b1, b2⟩
  · rw [f3 0 33 rfl, f2 0 33 rfl, z3]
  · rw [f3 0 32 rfl, f2 0 32 rfl, z2]
  · rw [f3 0 31 rfl, f2 0 31 rfl, z1]
