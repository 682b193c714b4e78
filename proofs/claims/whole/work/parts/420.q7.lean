/-! ===== questions: years ===== -/
def LBg : List Nat := [14, 15, 16, 17, 18, 19, 21, 22, 23, 25, 26, 27, 30, 32, 33, 34]
def KBg : List (Nat × Nat) := [(0, 31), (0, 32), (0, 33), (0, 38), (0, 39), (0, 40), (0, 52), (0, 54)]
theorem m_backG {w1 w3 w4 : Wld} {h : Hs} {c : Sta} (hh : GdH h) (b : MBk w1 h c w3) (f : Frm LBg KBg w3 w4) : Ret (F_M_unpack_24 w4 0) (fun w5 => MBk w1 h c w5 ∧ Frm [14, 15, 16, 17, 18, 19] [(0, 31), (0, 32), (0, 33)] w4 w5) := by
  have hrow : MRow (w4 24) h c := by rw [frm_cell f 24 (fun _ => rfl)]; exact b.2.2.1
  refine ret_mono (m_unpack hrow hh) (fun w5 hx => ?_)
  obtain ⟨x1, x2⟩ := hx
  have x1' : Frm LBg KBg w4 w5 := frm_up x1 rfl
  refine ⟨⟨frm_tr b.1 (frm_up (frm_tr f x1') rfl), x2, ?_, ?_⟩, x1⟩
  · rw [frm_cell x1 24 (fun _ => rfl)]; exact hrow
  · rw [x1 0 2 rfl, f 0 2 rfl]; exact b.2.2.2
theorem jn_self (a : Int32) : a = jn a.toBitVec.toNat := by
  show a = Int32.ofBitVec (BitVec.ofNat 32 a.toBitVec.toNat)
  rw [BitVec.ofNat_toNat, BitVec.setWidth_eq]; rfl
theorem and_jn (a : Int32) : ∃ x, x < 32768 ∧ a &&& (32767 : Int32) = jn x := by
  refine ⟨a.toBitVec.toNat &&& 32767, Nat.lt_of_le_of_lt Nat.and_le_right (by decide), ?_⟩
  conv => lhs; rw [jn_self a, li_32767, jn_and]
def sdN (s : Int32) : Int32 := (s * (1103515245 : Int32)) + (12345 : Int32)
def drN (s : Int32) : Nat := ((s >>> ((16 : Int32) &&& 31)) &&& (32767 : Int32)).toNatClampNeg
theorem drN_lt (s : Int32) : drN s < 32768 := by
  obtain ⟨x, hx, e⟩ := and_jn (s >>> ((16 : Int32) &&& 31))
  rw [drN, e, jn_clamp (by omega)]; exact hx
theorem drN_e (s : Int32) : (s >>> ((16 : Int32) &&& 31)) &&& (32767 : Int32) = jn (drN s) := by
  obtain ⟨x, hx, e⟩ := and_jn (s >>> ((16 : Int32) &&& 31))
  rw [drN, e, jn_clamp (by omega)]
/-- what comes ahead of a night: the seed, the state -/
def chL (h : Hs) (lot : Int32) : Int32 := if 1 < drN (sdN lot) % 5 ∨ hsM h = 0 then sdN lot else sdN (sdN lot)
def chT (h : Hs) (c : Sta) (lot : Int32) : Sta :=
  if 1 < drN (sdN lot) % 5 ∨ hsM h = 0 then c
  else if drN (sdN lot) % 5 = 0 then upd c (8 + drN (sdN (sdN lot)) % hsM h) (imin 9 (c (8 + drN (sdN (sdN lot)) % hsM h) + 2))
  else upd c (drN (sdN (sdN lot)) % hsM h) 99
theorem addF {x n : Nat} (hx : x < 10) (hn : n < 10) : imin 9 (jn x + jn n) = jn (min 9 (x + n)) := by
  rw [jn_add]
  exact imin_jn (a := 9) (by omega) (by omega)
theorem chT_good {h : Hs} (hh : GdH h) {c : Sta} (g : GdS h c) (lot : Int32) : GdS h (chT h c lot) := by
  have hM := hh.2.1
  unfold chT
  by_cases h1 : 1 < drN (sdN lot) % 5 ∨ hsM h = 0
  · rw [if_pos h1]; exact g
  · rw [if_neg h1]
    have hm : drN (sdN (sdN lot)) % hsM h < hsM h := Nat.mod_lt _ (by omega)
    by_cases h2 : drN (sdN lot) % 5 = 0
    · rw [if_pos h2]
      obtain ⟨x, hx, ex⟩ := g.2.2.2.1 _ hm
      rw [ex, li_2, addF hx (by omega)]
      exact GdS_fish hh g (by omega) (by omega)
    · rw [if_neg h2]
      exact GdS_other hh g _ (Or.inl (by omega))
theorem c_chance {w : Wld} {h : Hs} {c : Sta} (hc : CHs w h) (hh : GdH h) (e : Eq53 (w 85) c) (lot : Int32) : Ret (F_C_chance w lot) (fun q => q.1 = chL h lot ∧ Frm [85] [] w q.2 ∧ Eq53 (q.2 85) (chT h c lot)) := by
  have hM := hh.2.1
  have e1 := hc.2.1
  have l1 := drN_lt (sdN lot)
  have l2 := drN_lt (sdN (sdN lot))
  have s1 : F_C_nextSeed w lot = some (sdN lot) := rfl
  have s2 : F_C_nextSeed w (sdN lot) = some (sdN (sdN lot)) := rfl
  have d1 : F_C_drawn w (sdN lot) = some (jn (drN (sdN lot))) := by rw [F_C_drawn, drN_e]
  have d2 : F_C_drawn w (sdN (sdN lot)) = some (jn (drN (sdN (sdN lot)))) := by rw [F_C_drawn, drN_e]
  have hlt5 : drN (sdN lot) % 5 < 5 := Nat.mod_lt _ (by omega)
  unfold chL chT
  rw [F_C_chance, s1, bp_some, d1, bp_some, gd_pos (by decide), li_5, jn_mod (by omega) (by omega), bi_eq]
  by_cases h1 : 1 < drN (sdN lot) % 5
  · rw [br_pos (by rw [jn_1lt (by omega)]; exact h1), if_pos (Or.inl h1), if_pos (Or.inl h1), K_C_chance_27, ret_some]
    exact ⟨rfl, frm_rf, e⟩
  rw [br_neg (by rw [jn_1lt (by omega)]; exact h1)]
  by_cases h2 : hsM h = 0
  · rw [e1, br_neg (by rw [h2]; exact fun z => z rfl), if_pos (Or.inr h2), if_pos (Or.inr h2), K_C_chance_27, ret_some]
    exact ⟨rfl, frm_rf, e⟩
  have h3 : ¬ jn (hsM h) = 0 := by rw [jn_e0 (by omega)]; exact h2
  have hm : drN (sdN (sdN lot)) % hsM h < hsM h := Nat.mod_lt _ (by omega)
  rw [e1, br_pos h3, if_neg (by omega), if_neg (by omega), s2, bp_some, d2, bp_some, gd_pos h3, jn_mod (by omega) (by omega), bi_eq]
  by_cases h4 : drN (sdN lot) % 5 = 0
  · rw [br_neg (by rw [h4]; exact fun z => z rfl), if_pos h4]
    have e8 := e (8 + drN (sdN (sdN lot)) % hsM h) (by omega)
    simp (disch := omega) only [F_State_addFish_84, K_C_chance_79, ↓bi_eq, ↓bw_eq, gd_pos, br_pos, br_neg, br_T, br_F, gd_T, bp_some, bd_some, bv_some, bl_some, bx_inl, bx_inr, bn_none, bn_some, bt_inl, bt_inr, not_true_eq_false, not_false_eq_true, eq_self, Bool.false_eq_true, if_true, if_false, jn_clamp, jn_lt, jn_le, jn_inj, jn_add, jn_sub, jn_mul, jn_vp, jn_0a, jn_1a, jn_1b, jn_1s, jn_1m, jn_neg0, jn_le0, jn_0le, jn_0lt, jn_1le, jn_le1, jn_lt1, jn_1lt, jn_e0, jn_e1, jn_em, ↓qB_f, ↓qT_f, cl_0, cl_1, vp_0, vp_1, li_8, e8, ret_some]
    refine ⟨trivial, frm_wup frm_rf _ _ _ rfl, ?_⟩
    rw [wup_same]; exact Eq53_upd e _ _
  · rw [br_pos (by rw [jn_e0 (by omega)]; exact h4), if_neg h4]
    simp (disch := omega) only [K_C_chance_79, ↓bi_eq, ↓bw_eq, gd_pos, br_pos, br_neg, br_T, br_F, gd_T, bp_some, bd_some, bv_some, bl_some, bx_inl, bx_inr, bn_none, bn_some, bt_inl, bt_inr, not_true_eq_false, not_false_eq_true, eq_self, Bool.false_eq_true, if_true, if_false, jn_clamp, jn_lt, jn_le, jn_inj, jn_add, jn_sub, jn_mul, jn_vp, jn_0a, jn_1a, jn_1b, jn_1s, jn_1m, jn_neg0, jn_le0, jn_0le, jn_0lt, jn_1le, jn_le1, jn_lt1, jn_1lt, jn_e0, jn_e1, jn_em, ↓qB_f, ↓qT_f, cl_0, cl_1, vp_0, vp_1, ret_some]
    refine ⟨trivial, frm_wup frm_rf _ _ _ rfl, ?_⟩
    rw [wup_same]; exact Eq53_upd e _ _
theorem m_draw {w : Wld} {lot : Int32} (el : w 0 54 = lot) {n : Nat} (hn : n ≠ 0) (hn2 : n < 100) : F_M_drawOf w (jn n) = some (jn (drN (sdN lot) % n), wup w 0 54 (sdN lot)) := by
  have h3 : ¬ jn n = 0 := by rw [jn_e0 (by omega)]; exact hn
  have l1 := drN_lt (sdN lot)
  have es : w 0 54 * (1103515245 : Int32) + (12345 : Int32) = sdN lot := by rw [el]; rfl
  rw [F_M_drawOf, bw_eq, gd_pos h3, es, wup_s1, drN_e, jn_mod (by omega) (by omega)]
theorem m_some {w : Wld} {h : Hs} {c : Sta} (hw : MHs w h) (hs : MSt w h c) (hh : GdH h) {lot : Int32} (el : w 0 54 = lot) : Ret (F_M_something w) (fun w' => w' 0 54 = chL h lot ∧ Frm [14, 15] [(0, 54)] w w' ∧ MSt w' h (chT h c lot)) := by
  have hM := hh.2.1
  have e1 := hw.2.1
  have hlt5 : drN (sdN lot) % 5 < 5 := Nat.mod_lt _ (by omega)
  have f1 : Frm [14, 15] [(0, 54)] w (wup w 0 54 (sdN lot)) := frm_wup frm_rf _ _ _ rfl
  have e31 : (wup w 0 54 (sdN lot)) 3 1 = jn (hsM h) := by rw [wup_o _ _ _ (by decide)]; exact e1
  have sF : MSt (wup w 0 54 (sdN lot)) h c := MSt_fr hs (frm_wup (L := []) (K := [(0, 54)]) frm_rf _ _ _ rfl) ⟨fun _ => rfl, fun _ => rfl, fun _ => rfl, fun _ => rfl, fun _ => rfl, fun _ => rfl, rfl, rfl, rfl⟩
  have eF : (wup w 0 54 (sdN lot)) 0 54 = sdN lot := wup_s1 _ _ _ _
  unfold chL chT
  rw [F_M_something, li_5, m_draw el (by omega) (by omega), bd_some]
  generalize wup w 0 54 (sdN lot) = wa at f1 e31 sF eF
  simp only
  by_cases h1 : 1 < drN (sdN lot) % 5
  · rw [br_pos (by rw [jn_1lt (by omega)]; exact h1), if_pos (Or.inl h1), if_pos (Or.inl h1), K_M_something_20, ret_some]
    exact ⟨eF, f1, sF⟩
  rw [br_neg (by rw [jn_1lt (by omega)]; exact h1), cl_1, vp_1, gd_pos (by decide), e31]
  by_cases h2 : hsM h = 0
  · rw [br_neg (by rw [h2]; exact fun z => z rfl), if_pos (Or.inr h2), if_pos (Or.inr h2), K_M_something_20, ret_some]
    exact ⟨eF, f1, sF⟩
  have h3 : ¬ jn (hsM h) = 0 := by rw [jn_e0 (by omega)]; exact h2
  have hm : drN (sdN (sdN lot)) % hsM h < hsM h := Nat.mod_lt _ (by omega)
  have f2 : Frm [14, 15] [(0, 54)] w (wup wa 0 54 (sdN (sdN lot))) := frm_wup f1 _ _ _ rfl
  have s2 : MSt (wup wa 0 54 (sdN (sdN lot))) h c := MSt_fr sF (frm_wup (L := []) (K := [(0, 54)]) frm_rf _ _ _ rfl) ⟨fun _ => rfl, fun _ => rfl, fun _ => rfl, fun _ => rfl, fun _ => rfl, fun _ => rfl, rfl, rfl, rfl⟩
  have eG : (wup wa 0 54 (sdN (sdN lot))) 0 54 = sdN (sdN lot) := wup_s1 _ _ _ _
  rw [br_pos h3, if_neg (by omega), if_neg (by omega), gd_pos (by decide), m_draw eF h2 (by omega), bd_some]
  generalize wup wa 0 54 (sdN (sdN lot)) = wb at f2 s2 eG
  simp only
  by_cases h4 : drN (sdN lot) % 5 = 0
  · rw [br_neg (by rw [h4]; exact fun z => z rfl), if_pos h4]
    have e8 := (s2.1 _ hm).2.1
    simp (disch := omega) only [K_M_something_66, ↓bi_eq, ↓bw_eq, gd_pos, br_pos, br_neg, br_T, br_F, gd_T, bp_some, bd_some, bv_some, bl_some, bx_inl, bx_inr, bn_none, bn_some, bt_inl, bt_inr, not_true_eq_false, not_false_eq_true, eq_self, Bool.false_eq_true, if_true, if_false, jn_clamp, jn_lt, jn_le, jn_inj, jn_add, jn_sub, jn_mul, jn_vp, jn_0a, jn_1a, jn_1b, jn_1s, jn_1m, jn_neg0, jn_le0, jn_0le, jn_0lt, jn_1le, jn_le1, jn_lt1, jn_1lt, jn_e0, jn_e1, jn_em, ↓qB_f, ↓qT_f, cl_0, cl_1, vp_0, vp_1, e8, ret_some]
    refine ⟨?_, frm_wup f2 _ _ _ rfl, MSt_fish hh s2 (by omega) _⟩
    rw [wup_o _ _ _ (by decide)]; exact eG
  · rw [br_pos (by rw [jn_e0 (by omega)]; exact h4), if_neg h4]
    have s3 := MSt_sleep hh s2 (m := drN (sdN (sdN lot)) % hsM h) (by omega) 99
    rw [Nat.zero_add] at s3
    simp (disch := omega) only [K_M_something_66, ↓bi_eq, ↓bw_eq, gd_pos, br_pos, br_neg, br_T, br_F, gd_T, bp_some, bd_some, bv_some, bl_some, bx_inl, bx_inr, bn_none, bn_some, bt_inl, bt_inr, not_true_eq_false, not_false_eq_true, eq_self, Bool.false_eq_true, if_true, if_false, jn_clamp, jn_lt, jn_le, jn_inj, jn_add, jn_sub, jn_mul, jn_vp, jn_0a, jn_1a, jn_1b, jn_1s, jn_1m, jn_neg0, jn_le0, jn_0le, jn_0lt, jn_1le, jn_le1, jn_lt1, jn_1lt, jn_e0, jn_e1, jn_em, ↓qB_f, ↓qT_f, cl_0, cl_1, vp_0, vp_1, ret_some]
    refine ⟨?_, frm_wup f2 _ _ _ rfl, s3⟩
    rw [wup_o _ _ _ (by decide)]; exact eG
/-- couples that met -/
def sMcJ (c : Sta) : Nat → Int32 := fl (fun m a => a + jn (pcn (c (24 + m)).toNatClampNeg)) 0
def sMc (h : Hs) (c : Sta) : Int32 := sMcJ c (hsM h) / 2
theorem sMcJ_s (c : Sta) (k : Nat) : sMcJ c (k + 1) = sMcJ c k + jn (pcn (c (24 + k)).toNatClampNeg) := rfl
theorem t_metC_65 {w : Wld} {h : Hs} {c : Sta} (hh : GdH h) (hg : GdS h c) (e : Eq53 (w 66) c) : F_State_metCouples_65 w (jn (hsM h)) = some (sMc h c) := by
  have hM := hh.2.1
  have key : loop (B_State_metCouples_65_4 (jn (hsM h)) w) (0, 0) = some (sMcJ c (hsM h)) := by
    refine loop_for (V := fun k => (sMcJ c k, jn k)) (hsM h) (fun k hk => ?_) ?_
    · obtain ⟨x, hx, ex⟩ := hg.2.2.2.2.1 k hk
      have ek : w 66 (24 + k) = jn x := (e (24 + k) (by omega)).trans ex
      rw [sMcJ_s, ex, jn_clamp (by omega)]
      simp (disch := omega) only [B_State_metCouples_65_4, ↓bi_eq, ↓bw_eq, gd_pos, br_pos, br_neg, br_T, br_F, gd_T, bq_some, bd_some, bv_some, bl_some, bx_inl, bx_inr, bn_none, bn_some, bt_inl, bt_inr, not_true_eq_false, not_false_eq_true, eq_self, Bool.false_eq_true, if_true, if_false, jn_clamp, jn_lt, jn_le, jn_inj, jn_add, jn_sub, jn_mul, jn_vp, jn_0a, jn_1a, jn_1b, jn_1s, jn_1m, jn_neg0, jn_le0, jn_0le, jn_0lt, jn_1le, jn_le1, jn_lt1, jn_1lt, jn_e0, jn_e1, jn_em, ↓qB_f, ↓qT_f, cl_0, cl_1, vp_0, vp_1, li_24, ek, t_bitCount]
    · simp (disch := omega) only [B_State_metCouples_65_4, ↓bi_eq, ↓bw_eq, gd_pos, br_pos, br_neg, br_T, br_F, gd_T, bp_some, bd_some, bv_some, bl_some, bx_inl, bx_inr, bn_none, bn_some, bt_inl, bt_inr, not_true_eq_false, not_false_eq_true, eq_self, Bool.false_eq_true, if_true, if_false, jn_clamp, jn_lt, jn_le, jn_inj, jn_add, jn_sub, jn_mul, jn_vp, jn_0a, jn_1a, jn_1b, jn_1s, jn_1m, jn_neg0, jn_le0, jn_0le, jn_0lt, jn_1le, jn_le1, jn_lt1, jn_1lt, jn_e0, jn_e1, jn_em, ↓qB_f, ↓qT_f, cl_0, cl_1, vp_0, vp_1, br_pos (Nat.le_refl (hsM h))]
  rw [F_State_metCouples_65, key, bl_some, gd_pos (by decide)]; rfl
theorem t_metC_84 {w : Wld} {h : Hs} {c : Sta} (hh : GdH h) (hg : GdS h c) (e : Eq53 (w 85) c) : F_State_metCouples_84 w (jn (hsM h)) = some (sMc h c) := by
  have hM := hh.2.1
  have key : loop (B_State_metCouples_84_4 (jn (hsM h)) w) (0, 0) = some (sMcJ c (hsM h)) := by
    refine loop_for (V := fun k => (sMcJ c k, jn k)) (hsM h) (fun k hk => ?_) ?_
    · obtain ⟨x, hx, ex⟩ := hg.2.2.2.2.1 k hk
      have ek : w 85 (24 + k) = jn x := (e (24 + k) (by omega)).trans ex
      rw [sMcJ_s, ex, jn_clamp (by omega)]
      simp (disch := omega) only [B_State_metCouples_84_4, ↓bi_eq, ↓bw_eq, gd_pos, br_pos, br_neg, br_T, br_F, gd_T, bq_some, bd_some, bv_some, bl_some, bx_inl, bx_inr, bn_none, bn_some, bt_inl, bt_inr, not_true_eq_false, not_false_eq_true, eq_self, Bool.false_eq_true, if_true, if_false, jn_clamp, jn_lt, jn_le, jn_inj, jn_add, jn_sub, jn_mul, jn_vp, jn_0a, jn_1a, jn_1b, jn_1s, jn_1m, jn_neg0, jn_le0, jn_0le, jn_0lt, jn_1le, jn_le1, jn_lt1, jn_1lt, jn_e0, jn_e1, jn_em, ↓qB_f, ↓qT_f, cl_0, cl_1, vp_0, vp_1, li_24, ek, t_bitCount]
    · simp (disch := omega) only [B_State_metCouples_84_4, ↓bi_eq, ↓bw_eq, gd_pos, br_pos, br_neg, br_T, br_F, gd_T, bp_some, bd_some, bv_some, bl_some, bx_inl, bx_inr, bn_none, bn_some, bt_inl, bt_inr, not_true_eq_false, not_false_eq_true, eq_self, Bool.false_eq_true, if_true, if_false, jn_clamp, jn_lt, jn_le, jn_inj, jn_add, jn_sub, jn_mul, jn_vp, jn_0a, jn_1a, jn_1b, jn_1s, jn_1m, jn_neg0, jn_le0, jn_0le, jn_0lt, jn_1le, jn_le1, jn_lt1, jn_1lt, jn_e0, jn_e1, jn_em, ↓qB_f, ↓qT_f, cl_0, cl_1, vp_0, vp_1, br_pos (Nat.le_refl (hsM h))]
  rw [F_State_metCouples_84, key, bl_some, gd_pos (by decide)]; rfl
theorem m_metC {w : Wld} {h : Hs} {c : Sta} (hw : MHs w h) (hs : MSt w h c) (hh : GdH h) (hg : GdS h c) : F_M_metMany w = some (sMc h c) := by
  have hM := hh.2.1
  have e1 := hw.2.1
  have key : loop (B_M_metMany_4 w) (0, 0) = some (sMcJ c (hsM h)) := by
    refine loop_for (V := fun k => (sMcJ c k, jn k)) (hsM h) (fun k hk => ?_) ?_
    · obtain ⟨x, hx, ex⟩ := hg.2.2.2.2.1 k hk
      have ek : w 17 k = jn x := (hs.1 k hk).2.2.2.trans ex
      rw [sMcJ_s, ex, jn_clamp (by omega)]
      simp (disch := omega) only [B_M_metMany_4, ↓bi_eq, ↓bw_eq, gd_pos, br_pos, br_neg, br_T, br_F, gd_T, bp_some, bd_some, bv_some, bl_some, bx_inl, bx_inr, bn_none, bn_some, bt_inl, bt_inr, not_true_eq_false, not_false_eq_true, eq_self, Bool.false_eq_true, if_true, if_false, jn_clamp, jn_lt, jn_le, jn_inj, jn_add, jn_sub, jn_mul, jn_vp, jn_0a, jn_1a, jn_1b, jn_1s, jn_1m, jn_neg0, jn_le0, jn_0le, jn_0lt, jn_1le, jn_le1, jn_lt1, jn_1lt, jn_e0, jn_e1, jn_em, ↓qB_f, ↓qT_f, cl_0, cl_1, vp_0, vp_1, e1, ek, t_bitsOf]
    · simp (disch := omega) only [B_M_metMany_4, ↓bi_eq, ↓bw_eq, gd_pos, br_pos, br_neg, br_T, br_F, gd_T, bp_some, bd_some, bv_some, bl_some, bx_inl, bx_inr, bn_none, bn_some, bt_inl, bt_inr, not_true_eq_false, not_false_eq_true, eq_self, Bool.false_eq_true, if_true, if_false, jn_clamp, jn_lt, jn_le, jn_inj, jn_add, jn_sub, jn_mul, jn_vp, jn_0a, jn_1a, jn_1b, jn_1s, jn_1m, jn_neg0, jn_le0, jn_0le, jn_0lt, jn_1le, jn_le1, jn_lt1, jn_1lt, jn_e0, jn_e1, jn_em, ↓qB_f, ↓qT_f, cl_0, cl_1, vp_0, vp_1, e1, br_pos (Nat.le_refl (hsM h))]
  rw [F_M_metMany, key, bl_some, gd_pos (by decide)]; rfl
/-- so many nights of years: the seed, the state; how many were full, what was sung -/
def yrL (h : Hs) (lot : Int32) : Nat → Int32 := fl (fun _ l => chL h l) lot
def yrS (h : Hs) (c : Sta) (lot : Int32) : Nat → Sta := fl (fun k d => sPass h (chT h d (yrL h lot k))) c
def yrC (h : Hs) (c : Sta) (lot : Int32) (k : Nat) : Sta := chT h (yrS h c lot k) (yrL h lot k)
theorem yrL_s (h : Hs) (lot : Int32) (k : Nat) : yrL h lot (k + 1) = chL h (yrL h lot k) := by unfold yrL; rw [fl_s]
theorem yrS_s (h : Hs) (c : Sta) (lot : Int32) (k : Nat) : yrS h c lot (k + 1) = sPass h (yrC h c lot k) := by unfold yrC yrS; rw [fl_s]
def yrF (h : Hs) (c : Sta) (lot : Int32) : Nat → Int32 := fl (fun k a => a + (if sShort h (yrC h c lot k) = 0 then 1 else 0)) 0
def yrM (h : Hs) (c : Sta) (lot : Int32) : Nat → Int32 := fl (fun k a => a + sMat h (yrC h c lot k)) 0
theorem yrF_s (h : Hs) (c : Sta) (lot : Int32) (k : Nat) : yrF h c lot (k + 1) = yrF h c lot k + (if sShort h (yrC h c lot k) = 0 then 1 else 0) := rfl
theorem yrM_s (h : Hs) (c : Sta) (lot : Int32) (k : Nat) : yrM h c lot (k + 1) = yrM h c lot k + sMat h (yrC h c lot k) := rfl
theorem yrS_0 (h : Hs) (c : Sta) (lot : Int32) : yrS h c lot 0 = c := rfl
theorem yrL_0 (h : Hs) (lot : Int32) : yrL h lot 0 = lot := rfl
theorem yrS_good {h : Hs} (hh : GdH h) {c : Sta} (g : GdS h c) (lot : Int32) (k : Nat) : GdS h (yrS h c lot k) := by
  induction k with
  | zero => exact g
  | succ k ih => rw [yrS_s]; exact sPass_good hh (chT_good hh ih _)
theorem yrC_good {h : Hs} (hh : GdH h) {c : Sta} (g : GdS h c) (lot : Int32) (k : Nat) : GdS h (yrC h c lot k) := chT_good hh (yrS_good hh g lot k) _
theorem c_yrB {w2 : Wld} {h : Hs} {c : Sta} (hc : CHs w2 h) (hh : GdH h) (e : Eq53 (w2 85) c) {E : Int32} {D : Sta} {lot : Int32} (eE : chL h lot = E) (eD : chT h c lot = D) (gc : GdS h D) (fu su a3 : Int32) {n k : Nat} (hk : k < n) (hn : n ≤ 60) (Q9 : (Int32 × Int32 × Int32 × Int32 × Wld) ⊕ (Int32 × Int32 × Wld) → Prop) (hQ : ∀ w4, Frm [61, 62, 63, 85] [(55, 3)] w2 w4 → Eq53 (w4 85) (sPass h D) → Q9 (.inl (E, fu + (if sShort h D = 0 then 1 else 0), su + sMat h D, jn (k + 1), w4))) : Ret (B_C_years_28 (jn n) a3 (lot, fu, su, jn k, w2)) Q9 := by
  have hcc := c_chance hc hh e lot
  rw [eE, eD] at hcc
  clear eE eD
  simp (disch := omega) only [B_C_years_28, ↓bi_eq, ↓bw_eq, gd_pos, br_pos, br_neg, br_T, br_F, gd_T, bq_some, bd_some, bv_some, bl_some, bx_inl, bx_inr, bn_none, bn_some, bt_inl, bt_inr, not_true_eq_false, not_false_eq_true, eq_self, Bool.false_eq_true, if_true, if_false, jn_clamp, jn_lt, jn_le, jn_inj, jn_add, jn_sub, jn_mul, jn_vp, jn_0a, jn_1a, jn_1b, jn_1s, jn_1m, jn_neg0, jn_le0, jn_0le, jn_0lt, jn_1le, jn_le1, jn_lt1, jn_1lt, jn_e0, jn_e1, jn_em, ↓qB_f, ↓qT_f, cl_0, cl_1, vp_0, vp_1, ret_bd]
  refine ret_mono hcc (fun q hq => ?_)
  obtain ⟨v, w3⟩ := q
  obtain ⟨x1, x2, x3⟩ := hq
  simp only at x1 x2 x3
  subst x1
  have f3 : Frm [61, 62, 63, 85] [(55, 3)] w2 w3 := frm_up x2 rfl
  rw [ret_bv]
  refine ret_mono (t_passT (CHs_fr hc f3 ⟨rfl, rfl, rfl, rfl, fun _ => rfl, fun _ => rfl, rfl, fun _ => rfl⟩) hh gc x3) (fun w4 hq => ?_)
  obtain ⟨p1, p2, p3⟩ := hq
  have f4 := frm_tr f3 p1
  have hc4 : CHs w4 h := CHs_fr hc f4 ⟨rfl, rfl, rfl, rfl, fun _ => rfl, fun _ => rfl, rfl, fun _ => rfl⟩
  have hlt := sShort_lt hh D
  have h9 := hQ w4 f4 p2
  rw [t_missing hc4 hh p3, bp_some]
  by_cases hz : sShort h D = 0
  · rw [if_pos hz] at h9
    simp (disch := omega) only [K_C_years_70, ↓bi_eq, ↓bw_eq, gd_pos, br_pos, br_neg, br_T, br_F, gd_T, bq_some, bd_some, bv_some, bl_some, bx_inl, bx_inr, bn_none, bn_some, bt_inl, bt_inr, not_true_eq_false, not_false_eq_true, eq_self, Bool.false_eq_true, if_true, if_false, jn_clamp, jn_lt, jn_le, jn_inj, jn_add, jn_sub, jn_mul, jn_vp, jn_0a, jn_1a, jn_1b, jn_1s, jn_1m, jn_neg0, jn_le0, jn_0le, jn_0lt, jn_1le, jn_le1, jn_lt1, jn_1lt, jn_e0, jn_e1, jn_em, ↓qB_f, ↓qT_f, cl_0, cl_1, vp_0, vp_1, hz, t_matins hc4 hh gc p3, ret_some]
    exact h9
  · rw [if_neg hz] at h9
    simp (disch := omega) only [K_C_years_70, ↓bi_eq, ↓bw_eq, gd_pos, br_pos, br_neg, br_T, br_F, gd_T, bq_some, bd_some, bv_some, bl_some, bx_inl, bx_inr, bn_none, bn_some, bt_inl, bt_inr, not_true_eq_false, not_false_eq_true, eq_self, Bool.false_eq_true, if_true, if_false, jn_clamp, jn_lt, jn_le, jn_inj, jn_add, jn_sub, jn_mul, jn_vp, jn_0a, jn_1a, jn_1b, jn_1s, jn_1m, jn_neg0, jn_le0, jn_0le, jn_0lt, jn_1le, jn_le1, jn_lt1, jn_1lt, jn_e0, jn_e1, jn_em, ↓qB_f, ↓qT_f, cl_0, cl_1, vp_0, vp_1, hz, t_matins hc4 hh gc p3, ret_some]
    exact h9
theorem m_yrB {w3 : Wld} {h : Hs} {c : Sta} (hw : MHs w3 h) (hs : MSt w3 h c) (hh : GdH h) {lot : Int32} (el : w3 0 54 = lot) {E : Int32} {D : Sta} (eE : chL h lot = E) (eD : chT h c lot = D) (gc : GdS h D) (fu su a3 : Int32) {n k : Nat} (hk : k < n) (hn : n ≤ 60) (Q9 : (Int32 × Int32 × Int32 × Wld) ⊕ (Int32 × Int32 × Wld) → Prop) (hQ : ∀ w5, Frm nFrL ((0, 54) :: nFrK) w3 w5 → MSt w5 h (sPass h D) → w5 0 54 = E → Q9 (.inl (fu + (if sShort h D = 0 then 1 else 0), su + sMat h D, jn (k + 1), w5))) : Ret (B_M_years_64 (jn n) a3 (fu, su, jn k, w3)) Q9 := by
  have hcc := m_some hw hs hh el
  rw [eE, eD] at hcc
  clear eE eD
  simp (disch := omega) only [B_M_years_64, ↓bi_eq, ↓bw_eq, gd_pos, br_pos, br_neg, br_T, br_F, gd_T, bq_some, bd_some, bv_some, bl_some, bx_inl, bx_inr, bn_none, bn_some, bt_inl, bt_inr, not_true_eq_false, not_false_eq_true, eq_self, Bool.false_eq_true, if_true, if_false, jn_clamp, jn_lt, jn_le, jn_inj, jn_add, jn_sub, jn_mul, jn_vp, jn_0a, jn_1a, jn_1b, jn_1s, jn_1m, jn_neg0, jn_le0, jn_0le, jn_0lt, jn_1le, jn_le1, jn_lt1, jn_1lt, jn_e0, jn_e1, jn_em, ↓qB_f, ↓qT_f, cl_0, cl_1, vp_0, vp_1, ret_bv]
  refine ret_mono hcc (fun w4 hq => ?_)
  obtain ⟨x1, x2, x3⟩ := hq
  have f4 : Frm nFrL ((0, 54) :: nFrK) w3 w4 := frm_up x2 rfl
  refine ret_mono (t_aNight (MHs_fr hw f4 ⟨rfl, rfl, rfl, rfl, rfl, fun _ => rfl, fun _ => rfl, fun _ => rfl⟩) x3 hh gc) (fun w5 hq => ?_)
  obtain ⟨p1, p2, p3⟩ := hq
  have f5 : Frm nFrL ((0, 54) :: nFrK) w3 w5 := frm_tr f4 (frm_up p1 rfl)
  have e54 : w5 0 54 = E := by rw [p1 0 54 rfl]; exact x1
  have hlt := sShort_lt hh D
  have h9 := hQ w5 f5 p2 e54
  rw [p3.2.1]
  by_cases hz : sShort h D = 0
  · rw [if_pos hz] at h9
    simp (disch := omega) only [K_M_years_92, ↓bi_eq, ↓bw_eq, gd_pos, br_pos, br_neg, br_T, br_F, gd_T, bq_some, bd_some, bv_some, bl_some, bx_inl, bx_inr, bn_none, bn_some, bt_inl, bt_inr, not_true_eq_false, not_false_eq_true, eq_self, Bool.false_eq_true, if_true, if_false, jn_clamp, jn_lt, jn_le, jn_inj, jn_add, jn_sub, jn_mul, jn_vp, jn_0a, jn_1a, jn_1b, jn_1s, jn_1m, jn_neg0, jn_le0, jn_0le, jn_0lt, jn_1le, jn_le1, jn_lt1, jn_1lt, jn_e0, jn_e1, jn_em, ↓qB_f, ↓qT_f, cl_0, cl_1, vp_0, vp_1, hz, p3.1, ret_some]
    exact h9
  · rw [if_neg hz] at h9
    simp (disch := omega) only [K_M_years_92, ↓bi_eq, ↓bw_eq, gd_pos, br_pos, br_neg, br_T, br_F, gd_T, bq_some, bd_some, bv_some, bl_some, bx_inl, bx_inr, bn_none, bn_some, bt_inl, bt_inr, not_true_eq_false, not_false_eq_true, eq_self, Bool.false_eq_true, if_true, if_false, jn_clamp, jn_lt, jn_le, jn_inj, jn_add, jn_sub, jn_mul, jn_vp, jn_0a, jn_1a, jn_1b, jn_1s, jn_1m, jn_neg0, jn_le0, jn_0le, jn_0lt, jn_1le, jn_le1, jn_lt1, jn_1lt, jn_e0, jn_e1, jn_em, ↓qB_f, ↓qT_f, cl_0, cl_1, vp_0, vp_1, hz, p3.1, ret_some]
    exact h9
theorem q_years {w : Wld} {h : Hs} (r : RelH w h) (a1 a2 a3 : Int32) : BothQ cdB w h (F_C_years w a1 a2 a3) (fun w1 => F_M_years w1 a1 a2 a3) := by
  have hh := r.1
  have hc := r.2.1
  have hM := hh.2.1
  have hg := r.2.2.2.1.1
  rcases rng_cases a3 0 2 (by omega) (by omega) with ⟨k3, -, h3, rfl⟩ | ⟨n1, n2⟩
  rotate_left
  · have n2 : ¬ ((0 : Int32) ≤ a3 ∧ a3 ≤ 2) := n2
    refine q_bad 0 1 ?_ (fun w1 r1 => ?_) rfl
    · rw [F_C_years, li_2, t_what_n w n1, bn_some]
    · simp only [F_M_years, bw_eq, t_isIn, n2, if_false, bp_some, eq_self, not_true_eq_false, br_F, t_fail, bd_some]
  have g3 : (0 : Int32) ≤ jn k3 ∧ jn k3 ≤ 2 := g_what k3 2 (by omega) h3
  rcases rng_cases a2 0 60 (by omega) (by omega) with ⟨n, l2, h2, rfl⟩ | ⟨n1, n2⟩
  rotate_left
  · have n2 : ¬ ((0 : Int32) ≤ a2 ∧ a2 ≤ 60) := n2
    refine q_bad 1 2 ?_ (fun w1 r1 => ?_) rfl
    · rw [F_C_years, li_2, t_what_y w (by omega) h3, bn_none, jn_00, li_60, t_need_n w n1, bn_some]
    · simp only [F_M_years, bw_eq, t_isIn, g3, n2, and_self, if_true, if_false, bp_some, eq_self, not_true_eq_false, not_false_eq_true, (by decide : ((1 : Int32) = 0) = False), br_T, br_F, t_fail, bd_some]
  have g2 : (0 : Int32) ≤ jn n ∧ jn n ≤ 60 := g_what n 60 (by omega) h2
  refine ⟨.inr (some (if k3 = 0 then yrF h (w 66) a1 n else if k3 = 1 then yrM h (w 66) a1 n else sMc h (yrS h (w 66) a1 n))), ?_, fun w1 r1 e66 => ?_⟩
  · rw [F_C_years, li_2, t_what_y w (by omega) h3, bn_none, show F_C_needWithin w (jn n) 0 60 = some none from t_need_y w (a := 0) (b := 60) (by omega) l2 h2, bn_none, ret_bv]
    refine ret_mono (t_begin w) (fun w1 hq => ?_)
    obtain ⟨q1, q2⟩ := hq
    rw [ret_bl]
    refine ret_mono (P := fun q => q.1 = yrF h (w 66) a1 n ∧ q.2.1 = yrM h (w 66) a1 n ∧ Frm [61, 62, 63, 85] [(55, 3)] w q.2.2 ∧ Eq53 (q.2.2 85) (yrS h (w 66) a1 n)) ?_ (fun q hq => ?_)
    · refine loop_inv (I := fun k s => s.1 = yrL h a1 k ∧ s.2.1 = yrF h (w 66) a1 k ∧ s.2.2.1 = yrM h (w 66) a1 k ∧ s.2.2.2.1 = jn k ∧ Frm [61, 62, 63, 85] [(55, 3)] w s.2.2.2.2 ∧ Eq53 (s.2.2.2.2 85) (yrS h (w 66) a1 k)) n ⟨(yrL_0 h a1).symm, rfl, rfl, rfl, frm_up q1 rfl, q2⟩ (fun k s hk hi => ?_) (fun s hi => ?_)
      · obtain ⟨lo, fu, su, i, w2⟩ := s
        obtain ⟨i0, i1, i2, i3, i4, i5⟩ := hi
        simp only at i0 i1 i2 i3 i4 i5
        subst i0 i1 i2 i3
        exact c_yrB (CHs_fr hc i4 ⟨rfl, rfl, rfl, rfl, fun _ => rfl, fun _ => rfl, rfl, fun _ => rfl⟩) hh i5 (D := yrC h (w 66) a1 k) rfl rfl (yrC_good hh hg a1 k) _ _ _ hk h2 _ (fun w4 f4 e4 => ⟨(yrL_s h a1 k).symm, (yrF_s h (w 66) a1 k).symm, (yrM_s h (w 66) a1 k).symm, rfl, frm_tr i4 f4, by rw [yrS_s]; exact e4⟩)
      · obtain ⟨lo, fu, su, i, w2⟩ := s
        obtain ⟨i0, i1, i2, i3, i4, i5⟩ := hi
        simp only at i0 i1 i2 i3 i4 i5
        subst i0 i1 i2 i3
        simp (disch := omega) only [B_C_years_28, ↓bi_eq, ↓bw_eq, gd_pos, br_pos, br_neg, br_T, br_F, gd_T, bq_some, bd_some, bv_some, bl_some, bx_inl, bx_inr, bn_none, bn_some, bt_inl, bt_inr, not_true_eq_false, not_false_eq_true, eq_self, Bool.false_eq_true, if_true, if_false, jn_clamp, jn_lt, jn_le, jn_inj, jn_add, jn_sub, jn_mul, jn_vp, jn_0a, jn_1a, jn_1b, jn_1s, jn_1m, jn_neg0, jn_le0, jn_0le, jn_0lt, jn_1le, jn_le1, jn_lt1, jn_1lt, jn_e0, jn_e1, jn_em, ↓qB_f, ↓qT_f, cl_0, cl_1, vp_0, vp_1, br_pos (Nat.le_refl n), ret_some, LQ_inr]
        exact ⟨trivial, trivial, i4, i5⟩
    · obtain ⟨fu, su, w2⟩ := q
      obtain ⟨x0, x1, x2, x3⟩ := hq
      simp only at x0 x1 x2 x3
      subst x0 x1
      have e1 : w2 56 1 = jn (hsM h) := (x2 56 1 rfl).trans hc.2.1
      have em := t_metC_84 hh (yrS_good hh hg a1 n) x3
      have hb : k3 = 0 ∨ k3 = 1 ∨ k3 = 2 := by omega
      rcases hb with rfl | rfl | rfl
      · simp (disch := omega) only [↓bi_eq, ↓bw_eq, gd_pos, br_pos, br_neg, br_T, br_F, gd_T, bq_some, bd_some, bv_some, bl_some, bx_inl, bx_inr, bn_none, bn_some, bt_inl, bt_inr, not_true_eq_false, not_false_eq_true, eq_self, Bool.false_eq_true, if_true, if_false, jn_clamp, jn_lt, jn_le, jn_inj, jn_add, jn_sub, jn_mul, jn_vp, jn_0a, jn_1a, jn_1b, jn_1s, jn_1m, jn_neg0, jn_le0, jn_0le, jn_0lt, jn_1le, jn_le1, jn_lt1, jn_1lt, jn_e0, jn_e1, jn_em, ↓qB_f, ↓qT_f, cl_0, cl_1, vp_0, vp_1, ret_some, true_and]
        exact frm_up x2 rfl
      · simp (disch := omega) only [↓bi_eq, ↓bw_eq, gd_pos, br_pos, br_neg, br_T, br_F, gd_T, bq_some, bd_some, bv_some, bl_some, bx_inl, bx_inr, bn_none, bn_some, bt_inl, bt_inr, not_true_eq_false, not_false_eq_true, eq_self, Bool.false_eq_true, if_true, if_false, jn_clamp, jn_lt, jn_le, jn_inj, jn_add, jn_sub, jn_mul, jn_vp, jn_0a, jn_1a, jn_1b, jn_1s, jn_1m, jn_neg0, jn_le0, jn_0le, jn_0lt, jn_1le, jn_le1, jn_lt1, jn_1lt, jn_e0, jn_e1, jn_em, ↓qB_f, ↓qT_f, cl_0, cl_1, vp_0, vp_1, ret_some, true_and, (by decide : (1 = 0) = False)]
        exact frm_up x2 rfl
      · simp (disch := omega) only [↓bi_eq, ↓bw_eq, gd_pos, br_pos, br_neg, br_T, br_F, gd_T, bq_some, bd_some, bv_some, bl_some, bx_inl, bx_inr, bn_none, bn_some, bt_inl, bt_inr, not_true_eq_false, not_false_eq_true, eq_self, Bool.false_eq_true, if_true, if_false, jn_clamp, jn_lt, jn_le, jn_inj, jn_add, jn_sub, jn_mul, jn_vp, jn_0a, jn_1a, jn_1b, jn_1s, jn_1m, jn_neg0, jn_le0, jn_0le, jn_0lt, jn_1le, jn_le1, jn_lt1, jn_1lt, jn_e0, jn_e1, jn_em, ↓qB_f, ↓qT_f, cl_0, cl_1, vp_0, vp_1, e1, em, ret_some, true_and, (by decide : (2 = 0) = False), (by decide : (2 = 1) = False)]
        exact frm_up x2 rfl
  · simp only [F_M_years, bw_eq, t_isIn, g3, g2, and_self, if_true, bp_some, br_T, not_false_eq_true, (by decide : ((1 : Int32) = 0) = False), ret_bv]
    refine ret_mono (m_open r1 e66) (fun w2 hq => ?_)
    obtain ⟨f2, h2', s2, row2, c2⟩ := hq
    have fa : Frm nFrL ((0, 54) :: nFrK) w2 (wup w2 0 54 a1) := frm_wup frm_rf _ _ _ rfl
    have sa : MSt (wup w2 0 54 a1) h (w 66) := MSt_fr s2 (frm_wup (L := []) (K := [(0, 54)]) frm_rf _ _ _ rfl) ⟨fun _ => rfl, fun _ => rfl, fun _ => rfl, fun _ => rfl, fun _ => rfl, fun _ => rfl, rfl, rfl, rfl⟩
    have ea : (wup w2 0 54 a1) 0 54 = a1 := wup_s1 _ _ _ _
    generalize wup w2 0 54 a1 = wa at fa sa ea ⊢
    rw [ret_bl]
    refine ret_mono (P := fun q => q.1 = yrF h (w 66) a1 n ∧ q.2.1 = yrM h (w 66) a1 n ∧ Frm nFrL ((0, 54) :: nFrK) w2 q.2.2 ∧ MSt q.2.2 h (yrS h (w 66) a1 n)) ?_ (fun q hq => ?_)
    · refine loop_inv (I := fun k s => s.1 = yrF h (w 66) a1 k ∧ s.2.1 = yrM h (w 66) a1 k ∧ s.2.2.1 = jn k ∧ Frm nFrL ((0, 54) :: nFrK) w2 s.2.2.2 ∧ MSt s.2.2.2 h (yrS h (w 66) a1 k) ∧ s.2.2.2 0 54 = yrL h a1 k) n ⟨rfl, rfl, rfl, fa, sa, ea⟩ (fun k s hk hi => ?_) (fun s hi => ?_)
      · obtain ⟨fu, su, i, w3⟩ := s
        obtain ⟨i0, i1, i2, i3, i4, i5⟩ := hi
        simp only at i0 i1 i2 i3 i4 i5
        subst i0 i1 i2
        exact m_yrB (MHs_fr h2' i3 ⟨rfl, rfl, rfl, rfl, rfl, fun _ => rfl, fun _ => rfl, fun _ => rfl⟩) i4 hh i5 (D := yrC h (w 66) a1 k) rfl rfl (yrC_good hh hg a1 k) _ _ _ hk h2 _ (fun w5 f5 s5 e5 => ⟨(yrF_s h (w 66) a1 k).symm, (yrM_s h (w 66) a1 k).symm, rfl, frm_tr i3 f5, by rw [yrS_s]; exact s5, by rw [yrL_s]; exact e5⟩)
      · obtain ⟨fu, su, i, w3⟩ := s
        obtain ⟨i0, i1, i2, i3, i4, i5⟩ := hi
        simp only at i0 i1 i2 i3 i4 i5
        subst i0 i1 i2
        simp (disch := omega) only [B_M_years_64, ↓bi_eq, ↓bw_eq, gd_pos, br_pos, br_neg, br_T, br_F, gd_T, bq_some, bd_some, bv_some, bl_some, bx_inl, bx_inr, bn_none, bn_some, bt_inl, bt_inr, not_true_eq_false, not_false_eq_true, eq_self, Bool.false_eq_true, if_true, if_false, jn_clamp, jn_lt, jn_le, jn_inj, jn_add, jn_sub, jn_mul, jn_vp, jn_0a, jn_1a, jn_1b, jn_1s, jn_1m, jn_neg0, jn_le0, jn_0le, jn_0lt, jn_1le, jn_le1, jn_lt1, jn_1lt, jn_e0, jn_e1, jn_em, ↓qB_f, ↓qT_f, cl_0, cl_1, vp_0, vp_1, br_pos (Nat.le_refl n), ret_some, LQ_inr]
        exact ⟨trivial, trivial, i3, i4⟩
    · obtain ⟨fu, su, w3⟩ := q
      obtain ⟨x0, x1, x2, x3⟩ := hq
      simp only at x0 x1 x2 x3
      subst x0 x1
      have hrow : MRow (w3 24) h (w 66) := by rw [frm_cell x2 24 (fun _ => rfl)]; exact row2
      have ec : w3 0 2 = 0 := (x2 0 2 rfl).trans c2
      have key : ∀ t : Int32, Ret (K_M_years_133 t w3) (fun p => p.1 = t ∧ p.2 0 2 = 0 ∧ RelH p.2 h ∧ p.2 41 0 = w1 41 0) := by
        intro t
        rw [K_M_years_133, ret_bv]
        refine ret_mono (m_close r1 e66 (frm_tr f2 (frm_up x2 rfl)) hrow ec) (fun w4 hx => ?_)
        rw [ret_some]
        exact ⟨rfl, hx.1, hx.2.1, hx.2.2.1⟩
      have em := m_metC (MHs_fr h2' x2 ⟨rfl, rfl, rfl, rfl, rfl, fun _ => rfl, fun _ => rfl, fun _ => rfl⟩) x3 hh (yrS_good hh hg a1 n)
      have hb : k3 = 0 ∨ k3 = 1 ∨ k3 = 2 := by omega
      rcases hb with rfl | rfl | rfl
      · simp (disch := omega) only [↓bi_eq, ↓bw_eq, gd_pos, br_pos, br_neg, br_T, br_F, gd_T, bq_some, bd_some, bv_some, bl_some, bx_inl, bx_inr, bn_none, bn_some, bt_inl, bt_inr, not_true_eq_false, not_false_eq_true, eq_self, Bool.false_eq_true, if_true, if_false, jn_clamp, jn_lt, jn_le, jn_inj, jn_add, jn_sub, jn_mul, jn_vp, jn_0a, jn_1a, jn_1b, jn_1s, jn_1m, jn_neg0, jn_le0, jn_0le, jn_0lt, jn_1le, jn_le1, jn_lt1, jn_1lt, jn_e0, jn_e1, jn_em, ↓qB_f, ↓qT_f, cl_0, cl_1, vp_0, vp_1]
        exact ret_mono (key _) (fun p hp => ⟨⟨hp.2.1, hp.1⟩, hp.2.2⟩)
      · simp (disch := omega) only [↓bi_eq, ↓bw_eq, gd_pos, br_pos, br_neg, br_T, br_F, gd_T, bq_some, bd_some, bv_some, bl_some, bx_inl, bx_inr, bn_none, bn_some, bt_inl, bt_inr, not_true_eq_false, not_false_eq_true, eq_self, Bool.false_eq_true, if_true, if_false, jn_clamp, jn_lt, jn_le, jn_inj, jn_add, jn_sub, jn_mul, jn_vp, jn_0a, jn_1a, jn_1b, jn_1s, jn_1m, jn_neg0, jn_le0, jn_0le, jn_0lt, jn_1le, jn_le1, jn_lt1, jn_1lt, jn_e0, jn_e1, jn_em, ↓qB_f, ↓qT_f, cl_0, cl_1, vp_0, vp_1, (by decide : (1 = 0) = False)]
        exact ret_mono (key _) (fun p hp => ⟨⟨hp.2.1, hp.1⟩, hp.2.2⟩)
      · simp (disch := omega) only [↓bi_eq, ↓bw_eq, gd_pos, br_pos, br_neg, br_T, br_F, gd_T, bq_some, bd_some, bv_some, bl_some, bx_inl, bx_inr, bn_none, bn_some, bt_inl, bt_inr, not_true_eq_false, not_false_eq_true, eq_self, Bool.false_eq_true, if_true, if_false, jn_clamp, jn_lt, jn_le, jn_inj, jn_add, jn_sub, jn_mul, jn_vp, jn_0a, jn_1a, jn_1b, jn_1s, jn_1m, jn_neg0, jn_le0, jn_0le, jn_0lt, jn_1le, jn_le1, jn_lt1, jn_1lt, jn_e0, jn_e1, jn_em, ↓qB_f, ↓qT_f, cl_0, cl_1, vp_0, vp_1, em, (by decide : (2 = 0) = False), (by decide : (2 = 1) = False)]
        exact ret_mono (key _) (fun p hp => ⟨⟨hp.2.1, hp.1⟩, hp.2.2⟩)
