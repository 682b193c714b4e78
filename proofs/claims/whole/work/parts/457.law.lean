/-! ===== the law's loop: every call answers alike ===== -/
def LwP (a4 : Int32) (x : (Int32 × Wld) ⊕ Wld) : Prop := ∃ w', x = .inl (a4 + 6, w') ∧ Rel w'
noncomputable def Hg (cd : Nat → Int32) (C : Option (Oc × Wld)) : Option (Int32 × Wld) := C.bind (fun q => match q.1 with
  | .inl k => if cd k = 9 then none else some (cd k, q.2)
  | .inr (some r) => some (0, wup q.2 41 0 r)
  | .inr none => none)
theorem hg_house (w : Wld) (a1 : Int32) : H_house w a1 = Hg cdI (F_C_house w a1) := by
  unfold H_house Hg
  congr 1
  funext q
  obtain ⟨o, w⟩ := q
  rcases o with k | (_ | r)
  · rcases k with _ | _ | k
    · rfl
    · rfl
    · rfl
  · rfl
  · rfl
theorem hg_count (w : Wld) (a1 : Int32) : H_count w a1 = Hg cdN (F_C_count w a1) := by
  unfold H_count Hg
  congr 1
  funext q
  obtain ⟨o, w⟩ := q
  rcases o with k | (_ | r)
  · rcases k with _ | _ | k
    · rfl
    · rfl
    · rfl
  · rfl
  · rfl
theorem hg_room (w : Wld) (a1 a2 : Int32) : H_room w a1 a2 = Hg cdN (F_C_room w a1 a2) := by
  unfold H_room Hg
  congr 1
  funext q
  obtain ⟨o, w⟩ := q
  rcases o with k | (_ | r)
  · rcases k with _ | _ | k
    · rfl
    · rfl
    · rfl
  · rfl
  · rfl
theorem hg_monk (w : Wld) (a1 a2 : Int32) : H_monk w a1 a2 = Hg cdN (F_C_monk w a1 a2) := by
  unfold H_monk Hg
  congr 1
  funext q
  obtain ⟨o, w⟩ := q
  rcases o with k | (_ | r)
  · rcases k with _ | _ | k
    · rfl
    · rfl
    · rfl
  · rfl
  · rfl
theorem hg_fish (w : Wld) (a1 a2 : Int32) : H_fish w a1 a2 = Hg cdN (F_C_fish w a1 a2) := by
  unfold H_fish Hg
  congr 1
  funext q
  obtain ⟨o, w⟩ := q
  rcases o with k | (_ | r)
  · rcases k with _ | _ | k
    · rfl
    · rfl
    · rfl
  · rfl
  · rfl
theorem hg_pray (w : Wld) (a1 a2 : Int32) : H_pray w a1 a2 = Hg cdN (F_C_pray w a1 a2) := by
  unfold H_pray Hg
  congr 1
  funext q
  obtain ⟨o, w⟩ := q
  rcases o with k | (_ | r)
  · rcases k with _ | _ | k
    · rfl
    · rfl
    · rfl
  · rfl
  · rfl
theorem hg_move (w : Wld) (a1 a2 : Int32) : H_move w a1 a2 = Hg cdN (F_C_move w a1 a2) := by
  unfold H_move Hg
  congr 1
  funext q
  obtain ⟨o, w⟩ := q
  rcases o with k | (_ | r)
  · rcases k with _ | _ | k
    · rfl
    · rfl
    · rfl
  · rfl
  · rfl
theorem hg_door (w : Wld) (a1 a2 a3 : Int32) : H_door w a1 a2 a3 = Hg cdN (F_C_door w a1 a2 a3) := by
  unfold H_door Hg
  congr 1
  funext q
  obtain ⟨o, w⟩ := q
  rcases o with k | (_ | r)
  · rcases k with _ | _ | k
    · rfl
    · rfl
    · rfl
  · rfl
  · rfl
theorem hg_up (w : Wld) (a1 a2 : Int32) : H_up w a1 a2 = Hg cdB (F_C_up w a1 a2) := by
  unfold H_up Hg
  congr 1
  funext q
  obtain ⟨o, w⟩ := q
  rcases o with k | (_ | r)
  · rcases k with _ | _ | k
    · rfl
    · rfl
    · rfl
  · rfl
  · rfl
theorem hg_then (w : Wld) (a1 a2 a3 : Int32) : H_then w a1 a2 a3 = Hg cdB (F_C_then w a1 a2 a3) := by
  unfold H_then Hg
  congr 1
  funext q
  obtain ⟨o, w⟩ := q
  rcases o with k | (_ | r)
  · rcases k with _ | _ | k
    · rfl
    · rfl
    · rfl
  · rfl
  · rfl
theorem hg_meets (w : Wld) (a1 a2 : Int32) : H_meets w a1 a2 = Hg cdN (F_C_meets w a1 a2) := by
  unfold H_meets Hg
  congr 1
  funext q
  obtain ⟨o, w⟩ := q
  rcases o with k | (_ | r)
  · rcases k with _ | _ | k
    · rfl
    · rfl
    · rfl
  · rfl
  · rfl
theorem hg_often (w : Wld) (a1 a2 : Int32) : H_often w a1 a2 = Hg cdB (F_C_often w a1 a2) := by
  unfold H_often Hg
  congr 1
  funext q
  obtain ⟨o, w⟩ := q
  rcases o with k | (_ | r)
  · rcases k with _ | _ | k
    · rfl
    · rfl
    · rfl
  · rfl
  · rfl
theorem hg_ring (w : Wld) (a1 a2 a3 : Int32) : H_ring w a1 a2 a3 = Hg cdN (F_C_ring w a1 a2 a3) := by
  unfold H_ring Hg
  congr 1
  funext q
  obtain ⟨o, w⟩ := q
  rcases o with k | (_ | r)
  · rcases k with _ | _ | k
    · rfl
    · rfl
    · rfl
  · rfl
  · rfl
theorem hg_from (w : Wld) (a1 : Int32) : H_from w a1 = Hg cdN (F_C_from w a1) := by
  unfold H_from Hg
  congr 1
  funext q
  obtain ⟨o, w⟩ := q
  rcases o with k | (_ | r)
  · rcases k with _ | _ | k
    · rfl
    · rfl
    · rfl
  · rfl
  · rfl
theorem hg_meeting (w : Wld) (a1 : Int32) : H_meeting w a1 = Hg cdN (F_C_meeting w a1) := by
  unfold H_meeting Hg
  congr 1
  funext q
  obtain ⟨o, w⟩ := q
  rcases o with k | (_ | r)
  · rcases k with _ | _ | k
    · rfl
    · rfl
    · rfl
  · rfl
  · rfl
theorem hg_leastFish (w : Wld) (a1 : Int32) : H_leastFish w a1 = Hg cdN (F_C_leastFish w a1) := by
  unfold H_leastFish Hg
  congr 1
  funext q
  obtain ⟨o, w⟩ := q
  rcases o with k | (_ | r)
  · rcases k with _ | _ | k
    · rfl
    · rfl
    · rfl
  · rfl
  · rfl
theorem hg_lonely (w : Wld) (a1 : Int32) : H_lonely w a1 = Hg cdI (F_C_lonely w a1) := by
  unfold H_lonely Hg
  congr 1
  funext q
  obtain ⟨o, w⟩ := q
  rcases o with k | (_ | r)
  · rcases k with _ | _ | k
    · rfl
    · rfl
    · rfl
  · rfl
  · rfl
theorem hg_crowd (w : Wld) (a1 : Int32) : H_crowd w a1 = Hg cdI (F_C_crowd w a1) := by
  unfold H_crowd Hg
  congr 1
  funext q
  obtain ⟨o, w⟩ := q
  rcases o with k | (_ | r)
  · rcases k with _ | _ | k
    · rfl
    · rfl
    · rfl
  · rfl
  · rfl
theorem hg_toPray (w : Wld) (a1 a2 : Int32) : H_toPray w a1 a2 = Hg cdB (F_C_toPray w a1 a2) := by
  unfold H_toPray Hg
  congr 1
  funext q
  obtain ⟨o, w⟩ := q
  rcases o with k | (_ | r)
  · rcases k with _ | _ | k
    · rfl
    · rfl
    · rfl
  · rfl
  · rfl
theorem hg_needless (w : Wld) (a1 : Int32) : H_needless w a1 = Hg cdI (F_C_needless w a1) := by
  unfold H_needless Hg
  congr 1
  funext q
  obtain ⟨o, w⟩ := q
  rcases o with k | (_ | r)
  · rcases k with _ | _ | k
    · rfl
    · rfl
    · rfl
  · rfl
  · rfl
theorem hg_psalm (w : Wld) (a1 : Int32) : H_psalm w a1 = Hg cdI (F_C_psalm w a1) := by
  unfold H_psalm Hg
  congr 1
  funext q
  obtain ⟨o, w⟩ := q
  rcases o with k | (_ | r)
  · rcases k with _ | _ | k
    · rfl
    · rfl
    · rfl
  · rfl
  · rfl
theorem hg_spread (w : Wld) (a1 : Int32) : H_spread w a1 = Hg cdI (F_C_spread w a1) := by
  unfold H_spread Hg
  congr 1
  funext q
  obtain ⟨o, w⟩ := q
  rcases o with k | (_ | r)
  · rcases k with _ | _ | k
    · rfl
    · rfl
    · rfl
  · rfl
  · rfl
theorem hg_eaten (w : Wld) (a1 : Int32) : H_eaten w a1 = Hg cdN (F_C_eaten w a1) := by
  unfold H_eaten Hg
  congr 1
  funext q
  obtain ⟨o, w⟩ := q
  rcases o with k | (_ | r)
  · rcases k with _ | _ | k
    · rfl
    · rfl
    · rfl
  · rfl
  · rfl
theorem hg_listen (w : Wld) (a1 : Int32) : H_listen w a1 = Hg cdN (F_C_listen w a1) := by
  unfold H_listen Hg
  congr 1
  funext q
  obtain ⟨o, w⟩ := q
  rcases o with k | (_ | r)
  · rcases k with _ | _ | k
    · rfl
    · rfl
    · rfl
  · rfl
  · rfl
theorem hg_game (w : Wld) (a1 a2 a3 : Int32) : H_game w a1 a2 a3 = Hg cdB (F_C_game w a1 a2 a3) := by
  unfold H_game Hg
  congr 1
  funext q
  obtain ⟨o, w⟩ := q
  rcases o with k | (_ | r)
  · rcases k with _ | _ | k
    · rfl
    · rfl
    · rfl
  · rfl
  · rfl
theorem hg_years (w : Wld) (a1 a2 a3 : Int32) : H_years w a1 a2 a3 = Hg cdB (F_C_years w a1 a2 a3) := by
  unfold H_years Hg
  congr 1
  funext q
  obtain ⟨o, w⟩ := q
  rcases o with k | (_ | r)
  · rcases k with _ | _ | k
    · rfl
    · rfl
    · rfl
  · rfl
  · rfl
theorem cd_I : ∀ k, ¬ cdI k = 9 → ¬ cdI k = 0 := by
  intro k h
  unfold cdI at h ⊢
  split
  · decide
  · decide
theorem cd_N : ∀ k, ¬ cdN k = 9 → ¬ cdN k = 0 := by
  intro k h
  unfold cdN at h ⊢
  split
  · decide
  · decide
theorem cd_B : ∀ k, ¬ cdB k = 9 → ¬ cdB k = 0 := by
  intro k h
  unfold cdB at h ⊢
  split
  · decide
  · split
    · decide
    · decide
theorem lgc (x : Int64) : lg_cmp x x = 0 := by
  simp [lg_cmp]
noncomputable def tailG (a4 t0 : Int32) (M : Option (Int32 × Wld)) : Option ((Int32 × Wld) ⊕ Wld) := bd M (fun i9 w10 => bp (F_M_thrown w10) (fun i11 => br (i11 = t0) (br (¬ t0 = 0) (bi (a4 + 6) (fun i12 => some (.inl (i12, w10)))) (gd (vp_in 0 1) (br ((lg_cmp (Int32.toInt64 (w10 41 (Int32.toNatClampNeg 0))) (Int32.toInt64 i9)) = 0) (bi (a4 + 6) (fun i12 => some (.inl (i12, w10)))) (none)))) (none)))
theorem lw_G {cd : Nat → Int32} {C : Option (Oc × Wld)} {M : Wld → Option (Int32 × Wld)} {a4 : Int32} {K : Int32 → Wld → Option ((Int32 × Wld) ⊕ Wld)} (h0 : ∀ k, ¬ cd k = 9 → ¬ cd k = 0) (b : BothG cd C M) (hK : ∀ t w, K t w = tailG a4 t (M w)) : Ret (bd (Hg cd C) K) (LwP a4) := by
  obtain ⟨o, ⟨o', w1⟩, eC, e, hM⟩ := b
  simp only at e hM
  subst e
  have v0 : vp_in (0 : Int32) 1 := vpK (k := 0) (by omega) (by omega)
  rcases o' with k | (_ | r)
  · obtain ⟨p, eM, ⟨m1, m9⟩, rel, -⟩ := hM w1 frm_rf
    have eH : Hg cd C = some (cd k, w1) := by rw [eC]; show (if cd k = 9 then none else some (cd k, w1)) = _; rw [if_neg m9]
    rw [eH, bd_some, hK, tailG, eM, bd_some, F_M_thrown, bp_some, m1, br_pos rfl, br_pos (h0 k m9), bi_eq, ret_some]
    exact ⟨p.2, rfl, rel⟩
  · obtain ⟨p, eM, m1, -⟩ := hM w1 frm_rf
    exact m1.elim
  · obtain ⟨p, eM, ⟨m1, m2⟩, rel, e41⟩ := hM (wup w1 41 0 r) (frm_wup frm_rf _ _ _ rfl)
    have eH : Hg cd C = some (0, wup w1 41 0 r) := by rw [eC]; rfl
    rw [wup_s1] at e41
    rw [eH, bd_some, hK, tailG, eM, bd_some, F_M_thrown, bp_some, m1, br_pos rfl, br_neg (fun z => z rfl), gd_pos v0, cl_0, e41, m2, br_pos (lgc _), bi_eq, ret_some]
    exact ⟨p.2, rfl, rel⟩
theorem lw_J {C : Option (Int32 × Wld)} {M : Wld → Option (Int32 × Wld)} {a4 : Int32} (b : BothJ C M) : Ret (bd C (fun i2 w3 => bd (M w3) (fun i4 w5 => br (i2 = i4) (bi (a4 + 6) (fun i6 => some (.inl (i6, w5)))) (none)))) (LwP a4) := by
  obtain ⟨q, eC, p, eM, e, rel⟩ := b
  rw [eC, bd_some, eM, bd_some, br_pos e.symm, bi_eq, ret_some]
  exact ⟨p.2, rfl, rel⟩
theorem lw_V {C : Option Wld} {M : Wld → Option Wld} {a4 : Int32} (b : Ret C (fun w1 => Ret (M w1) (fun w2 => Rel w2))) : Ret (bv C (fun w195 => bv (M w195) (fun w196 => bi (a4 + 6) (fun i197 => some (.inl (i197, w196)))))) (LwP a4) := by
  obtain ⟨q, eC, p, eM, rel⟩ := b
  rw [eC, bv_some, eM, bv_some, bi_eq, ret_some]
  exact ⟨p, rfl, rel⟩
theorem BothG_R {cd : Nat → Int32} {C : Option (Oc × Wld)} {M : Wld → Option (Int32 × Wld)} (b : BothG cd C M) : BothG cd C M := b
theorem lc_1 {xs : Nat → Int32} {L : Nat} {a4 : Int32} {w : Wld} {h : Hs} (r : RelH w h) (v1 : vp_in (a4 + (1 : Int32)) L) (v2 : vp_in (a4 + (2 : Int32)) L) (v3 : vp_in (a4 + (3 : Int32)) L) (v4 : vp_in (a4 + (4 : Int32)) L) (v5 : vp_in (a4 + (5 : Int32)) L) : Ret (Lc_1 xs L a4 w) (LwP a4) := by
  rw [Lc_1, gd_pos v1, hg_house]
  refine lw_G cd_I (g_house r _) (fun t w => ?_)
  rw [K_law_296, gd_pos v1, tailG]
  rfl
theorem lc_3 {xs : Nat → Int32} {L : Nat} {a4 : Int32} {w : Wld} {h : Hs} (r : RelH w h) (v1 : vp_in (a4 + (1 : Int32)) L) (v2 : vp_in (a4 + (2 : Int32)) L) (v3 : vp_in (a4 + (3 : Int32)) L) (v4 : vp_in (a4 + (4 : Int32)) L) (v5 : vp_in (a4 + (5 : Int32)) L) : Ret (Lc_3 xs L a4 w) (LwP a4) := by
  rw [Lc_3, gd_pos v1, hg_count]
  refine lw_G cd_N (BothR_G r (q_count r _)) (fun t w => ?_)
  rw [K_law_365, gd_pos v1, tailG]
  rfl
theorem lc_4 {xs : Nat → Int32} {L : Nat} {a4 : Int32} {w : Wld} {h : Hs} (r : RelH w h) (v1 : vp_in (a4 + (1 : Int32)) L) (v2 : vp_in (a4 + (2 : Int32)) L) (v3 : vp_in (a4 + (3 : Int32)) L) (v4 : vp_in (a4 + (4 : Int32)) L) (v5 : vp_in (a4 + (5 : Int32)) L) : Ret (Lc_4 xs L a4 w) (LwP a4) := by
  rw [Lc_4, gd_pos v1, gd_pos v2, hg_room]
  refine lw_G cd_N (BothQ_G r (q_room r _ _)) (fun t w => ?_)
  rw [K_law_427, gd_pos v1, gd_pos v2, tailG]
  rfl
theorem lc_5 {xs : Nat → Int32} {L : Nat} {a4 : Int32} {w : Wld} {h : Hs} (r : RelH w h) (v1 : vp_in (a4 + (1 : Int32)) L) (v2 : vp_in (a4 + (2 : Int32)) L) (v3 : vp_in (a4 + (3 : Int32)) L) (v4 : vp_in (a4 + (4 : Int32)) L) (v5 : vp_in (a4 + (5 : Int32)) L) : Ret (Lc_5 xs L a4 w) (LwP a4) := by
  rw [Lc_5, gd_pos v1, gd_pos v2, hg_monk]
  refine lw_G cd_N (BothQ_G r (q_monk r _ _)) (fun t w => ?_)
  rw [K_law_495, gd_pos v1, gd_pos v2, tailG]
  rfl
theorem lc_7 {xs : Nat → Int32} {L : Nat} {a4 : Int32} {w : Wld} {h : Hs} (r : RelH w h) (v1 : vp_in (a4 + (1 : Int32)) L) (v2 : vp_in (a4 + (2 : Int32)) L) (v3 : vp_in (a4 + (3 : Int32)) L) (v4 : vp_in (a4 + (4 : Int32)) L) (v5 : vp_in (a4 + (5 : Int32)) L) : Ret (Lc_7 xs L a4 w) (LwP a4) := by
  rw [Lc_7, gd_pos v1, gd_pos v2, hg_fish]
  refine lw_G cd_N (g_fish r _ _) (fun t w => ?_)
  rw [K_law_588, gd_pos v1, gd_pos v2, tailG]
  rfl
theorem lc_8 {xs : Nat → Int32} {L : Nat} {a4 : Int32} {w : Wld} {h : Hs} (r : RelH w h) (v1 : vp_in (a4 + (1 : Int32)) L) (v2 : vp_in (a4 + (2 : Int32)) L) (v3 : vp_in (a4 + (3 : Int32)) L) (v4 : vp_in (a4 + (4 : Int32)) L) (v5 : vp_in (a4 + (5 : Int32)) L) : Ret (Lc_8 xs L a4 w) (LwP a4) := by
  rw [Lc_8, gd_pos v1, gd_pos v2, hg_pray]
  refine lw_G cd_N (g_pray r _ _) (fun t w => ?_)
  rw [K_law_656, gd_pos v1, gd_pos v2, tailG]
  rfl
theorem lc_10 {xs : Nat → Int32} {L : Nat} {a4 : Int32} {w : Wld} {h : Hs} (r : RelH w h) (v1 : vp_in (a4 + (1 : Int32)) L) (v2 : vp_in (a4 + (2 : Int32)) L) (v3 : vp_in (a4 + (3 : Int32)) L) (v4 : vp_in (a4 + (4 : Int32)) L) (v5 : vp_in (a4 + (5 : Int32)) L) : Ret (Lc_10 xs L a4 w) (LwP a4) := by
  rw [Lc_10, gd_pos v1, gd_pos v2, hg_move]
  refine lw_G cd_N (g_move r _ _) (fun t w => ?_)
  rw [K_law_815, gd_pos v1, gd_pos v2, tailG]
  rfl
theorem lc_13 {xs : Nat → Int32} {L : Nat} {a4 : Int32} {w : Wld} {h : Hs} (r : RelH w h) (v1 : vp_in (a4 + (1 : Int32)) L) (v2 : vp_in (a4 + (2 : Int32)) L) (v3 : vp_in (a4 + (3 : Int32)) L) (v4 : vp_in (a4 + (4 : Int32)) L) (v5 : vp_in (a4 + (5 : Int32)) L) : Ret (Lc_13 xs L a4 w) (LwP a4) := by
  rw [Lc_13, gd_pos v1, gd_pos v2, hg_up]
  refine lw_G cd_B (BothQ_G r (q_up r _ _)) (fun t w => ?_)
  rw [K_law_992, gd_pos v1, gd_pos v2, tailG]
  rfl
theorem lc_14 {xs : Nat → Int32} {L : Nat} {a4 : Int32} {w : Wld} {h : Hs} (r : RelH w h) (v1 : vp_in (a4 + (1 : Int32)) L) (v2 : vp_in (a4 + (2 : Int32)) L) (v3 : vp_in (a4 + (3 : Int32)) L) (v4 : vp_in (a4 + (4 : Int32)) L) (v5 : vp_in (a4 + (5 : Int32)) L) : Ret (Lc_14 xs L a4 w) (LwP a4) := by
  rw [Lc_14, gd_pos v1, gd_pos v2, gd_pos v3, hg_then]
  refine lw_G cd_B (BothQ_G r (q_then r _ _ _)) (fun t w => ?_)
  rw [K_law_1066, gd_pos v1, gd_pos v2, gd_pos v3, tailG]
  rfl
theorem lc_16 {xs : Nat → Int32} {L : Nat} {a4 : Int32} {w : Wld} {h : Hs} (r : RelH w h) (v1 : vp_in (a4 + (1 : Int32)) L) (v2 : vp_in (a4 + (2 : Int32)) L) (v3 : vp_in (a4 + (3 : Int32)) L) (v4 : vp_in (a4 + (4 : Int32)) L) (v5 : vp_in (a4 + (5 : Int32)) L) : Ret (Lc_16 xs L a4 w) (LwP a4) := by
  rw [Lc_16, gd_pos v1, gd_pos v2, hg_meets]
  refine lw_G cd_N (BothQ_G r (q_meets r _ _)) (fun t w => ?_)
  rw [K_law_1153, gd_pos v1, gd_pos v2, tailG]
  rfl
theorem lc_17 {xs : Nat → Int32} {L : Nat} {a4 : Int32} {w : Wld} {h : Hs} (r : RelH w h) (v1 : vp_in (a4 + (1 : Int32)) L) (v2 : vp_in (a4 + (2 : Int32)) L) (v3 : vp_in (a4 + (3 : Int32)) L) (v4 : vp_in (a4 + (4 : Int32)) L) (v5 : vp_in (a4 + (5 : Int32)) L) : Ret (Lc_17 xs L a4 w) (LwP a4) := by
  rw [Lc_17, gd_pos v1, gd_pos v2, hg_often]
  refine lw_G cd_B (BothQ_G r (q_often r _ _)) (fun t w => ?_)
  rw [K_law_1221, gd_pos v1, gd_pos v2, tailG]
  rfl
theorem lc_19 {xs : Nat → Int32} {L : Nat} {a4 : Int32} {w : Wld} {h : Hs} (r : RelH w h) (v1 : vp_in (a4 + (1 : Int32)) L) (v2 : vp_in (a4 + (2 : Int32)) L) (v3 : vp_in (a4 + (3 : Int32)) L) (v4 : vp_in (a4 + (4 : Int32)) L) (v5 : vp_in (a4 + (5 : Int32)) L) : Ret (Lc_19 xs L a4 w) (LwP a4) := by
  rw [Lc_19, gd_pos v1, hg_from]
  refine lw_G cd_N (BothQ_G r (q_from r _)) (fun t w => ?_)
  rw [K_law_1379, gd_pos v1, tailG]
  rfl
theorem lc_20 {xs : Nat → Int32} {L : Nat} {a4 : Int32} {w : Wld} {h : Hs} (r : RelH w h) (v1 : vp_in (a4 + (1 : Int32)) L) (v2 : vp_in (a4 + (2 : Int32)) L) (v3 : vp_in (a4 + (3 : Int32)) L) (v4 : vp_in (a4 + (4 : Int32)) L) (v5 : vp_in (a4 + (5 : Int32)) L) : Ret (Lc_20 xs L a4 w) (LwP a4) := by
  rw [Lc_20, gd_pos v1, hg_meeting]
  refine lw_G cd_N (BothQ_G r (q_meeting r _)) (fun t w => ?_)
  rw [K_law_1435, gd_pos v1, tailG]
  rfl
theorem lc_21 {xs : Nat → Int32} {L : Nat} {a4 : Int32} {w : Wld} {h : Hs} (r : RelH w h) (v1 : vp_in (a4 + (1 : Int32)) L) (v2 : vp_in (a4 + (2 : Int32)) L) (v3 : vp_in (a4 + (3 : Int32)) L) (v4 : vp_in (a4 + (4 : Int32)) L) (v5 : vp_in (a4 + (5 : Int32)) L) : Ret (Lc_21 xs L a4 w) (LwP a4) := by
  rw [Lc_21, gd_pos v1, hg_leastFish]
  refine lw_G cd_N (BothQ_G r (q_leastFish r _)) (fun t w => ?_)
  rw [K_law_1491, gd_pos v1, tailG]
  rfl
theorem lc_24 {xs : Nat → Int32} {L : Nat} {a4 : Int32} {w : Wld} {h : Hs} (r : RelH w h) (v1 : vp_in (a4 + (1 : Int32)) L) (v2 : vp_in (a4 + (2 : Int32)) L) (v3 : vp_in (a4 + (3 : Int32)) L) (v4 : vp_in (a4 + (4 : Int32)) L) (v5 : vp_in (a4 + (5 : Int32)) L) : Ret (Lc_24 xs L a4 w) (LwP a4) := by
  rw [Lc_24, gd_pos v1, hg_lonely]
  refine lw_G cd_I (BothQ_G r (q_lonely r _)) (fun t w => ?_)
  rw [K_law_1573, gd_pos v1, tailG]
  rfl
theorem lc_25 {xs : Nat → Int32} {L : Nat} {a4 : Int32} {w : Wld} {h : Hs} (r : RelH w h) (v1 : vp_in (a4 + (1 : Int32)) L) (v2 : vp_in (a4 + (2 : Int32)) L) (v3 : vp_in (a4 + (3 : Int32)) L) (v4 : vp_in (a4 + (4 : Int32)) L) (v5 : vp_in (a4 + (5 : Int32)) L) : Ret (Lc_25 xs L a4 w) (LwP a4) := by
  rw [Lc_25, gd_pos v1, hg_crowd]
  refine lw_G cd_I (BothQ_G r (q_crowd r _)) (fun t w => ?_)
  rw [K_law_1629, gd_pos v1, tailG]
  rfl
theorem lc_26 {xs : Nat → Int32} {L : Nat} {a4 : Int32} {w : Wld} {h : Hs} (r : RelH w h) (v1 : vp_in (a4 + (1 : Int32)) L) (v2 : vp_in (a4 + (2 : Int32)) L) (v3 : vp_in (a4 + (3 : Int32)) L) (v4 : vp_in (a4 + (4 : Int32)) L) (v5 : vp_in (a4 + (5 : Int32)) L) : Ret (Lc_26 xs L a4 w) (LwP a4) := by
  rw [Lc_26, gd_pos v1, gd_pos v2, hg_toPray]
  refine lw_G cd_B (BothQ_G r (q_toPray r _ _)) (fun t w => ?_)
  rw [K_law_1691, gd_pos v1, gd_pos v2, tailG]
  rfl
theorem lc_27 {xs : Nat → Int32} {L : Nat} {a4 : Int32} {w : Wld} {h : Hs} (r : RelH w h) (v1 : vp_in (a4 + (1 : Int32)) L) (v2 : vp_in (a4 + (2 : Int32)) L) (v3 : vp_in (a4 + (3 : Int32)) L) (v4 : vp_in (a4 + (4 : Int32)) L) (v5 : vp_in (a4 + (5 : Int32)) L) : Ret (Lc_27 xs L a4 w) (LwP a4) := by
  rw [Lc_27, gd_pos v1, hg_needless]
  refine lw_G cd_I (BothQ_G r (q_needless r _)) (fun t w => ?_)
  rw [K_law_1753, gd_pos v1, tailG]
  rfl
theorem lc_28 {xs : Nat → Int32} {L : Nat} {a4 : Int32} {w : Wld} {h : Hs} (r : RelH w h) (v1 : vp_in (a4 + (1 : Int32)) L) (v2 : vp_in (a4 + (2 : Int32)) L) (v3 : vp_in (a4 + (3 : Int32)) L) (v4 : vp_in (a4 + (4 : Int32)) L) (v5 : vp_in (a4 + (5 : Int32)) L) : Ret (Lc_28 xs L a4 w) (LwP a4) := by
  rw [Lc_28, gd_pos v1, hg_psalm]
  refine lw_G cd_I (BothQ_G r (q_psalm r _)) (fun t w => ?_)
  rw [K_law_1809, gd_pos v1, tailG]
  rfl
theorem lc_29 {xs : Nat → Int32} {L : Nat} {a4 : Int32} {w : Wld} {h : Hs} (r : RelH w h) (v1 : vp_in (a4 + (1 : Int32)) L) (v2 : vp_in (a4 + (2 : Int32)) L) (v3 : vp_in (a4 + (3 : Int32)) L) (v4 : vp_in (a4 + (4 : Int32)) L) (v5 : vp_in (a4 + (5 : Int32)) L) : Ret (Lc_29 xs L a4 w) (LwP a4) := by
  rw [Lc_29, gd_pos v1, hg_spread]
  refine lw_G cd_I (BothQ_G r (q_spread r _)) (fun t w => ?_)
  rw [K_law_1865, gd_pos v1, tailG]
  rfl
theorem lc_32 {xs : Nat → Int32} {L : Nat} {a4 : Int32} {w : Wld} {h : Hs} (r : RelH w h) (v1 : vp_in (a4 + (1 : Int32)) L) (v2 : vp_in (a4 + (2 : Int32)) L) (v3 : vp_in (a4 + (3 : Int32)) L) (v4 : vp_in (a4 + (4 : Int32)) L) (v5 : vp_in (a4 + (5 : Int32)) L) : Ret (Lc_32 xs L a4 w) (LwP a4) := by
  rw [Lc_32, gd_pos v1, hg_eaten]
  refine lw_G cd_N (BothR_G r (q_eaten r _)) (fun t w => ?_)
  rw [K_law_1999, gd_pos v1, tailG]
  rfl
theorem lc_33 {xs : Nat → Int32} {L : Nat} {a4 : Int32} {w : Wld} {h : Hs} (r : RelH w h) (v1 : vp_in (a4 + (1 : Int32)) L) (v2 : vp_in (a4 + (2 : Int32)) L) (v3 : vp_in (a4 + (3 : Int32)) L) (v4 : vp_in (a4 + (4 : Int32)) L) (v5 : vp_in (a4 + (5 : Int32)) L) : Ret (Lc_33 xs L a4 w) (LwP a4) := by
  rw [Lc_33, gd_pos v1, hg_listen]
  refine lw_G cd_N (BothR_G r (q_listen r _)) (fun t w => ?_)
  rw [K_law_2055, gd_pos v1, tailG]
  rfl
theorem lc_35 {xs : Nat → Int32} {L : Nat} {a4 : Int32} {w : Wld} {h : Hs} (r : RelH w h) (v1 : vp_in (a4 + (1 : Int32)) L) (v2 : vp_in (a4 + (2 : Int32)) L) (v3 : vp_in (a4 + (3 : Int32)) L) (v4 : vp_in (a4 + (4 : Int32)) L) (v5 : vp_in (a4 + (5 : Int32)) L) : Ret (Lc_35 xs L a4 w) (LwP a4) := by
  rw [Lc_35, gd_pos v1, gd_pos v2, gd_pos v3, hg_game]
  refine lw_G cd_B (BothQ_G r (q_game r _ _ _)) (fun t w => ?_)
  rw [K_law_2134, gd_pos v1, gd_pos v2, gd_pos v3, tailG]
  rfl
theorem lc_36 {xs : Nat → Int32} {L : Nat} {a4 : Int32} {w : Wld} {h : Hs} (r : RelH w h) (v1 : vp_in (a4 + (1 : Int32)) L) (v2 : vp_in (a4 + (2 : Int32)) L) (v3 : vp_in (a4 + (3 : Int32)) L) (v4 : vp_in (a4 + (4 : Int32)) L) (v5 : vp_in (a4 + (5 : Int32)) L) : Ret (Lc_36 xs L a4 w) (LwP a4) := by
  rw [Lc_36, gd_pos v1, gd_pos v2, gd_pos v3, hg_years]
  refine lw_G cd_B (BothQ_G r (q_years r _ _ _)) (fun t w => ?_)
  rw [K_law_2214, gd_pos v1, gd_pos v2, gd_pos v3, tailG]
  rfl
theorem lc_0 {xs : Nat → Int32} {L : Nat} {a4 : Int32} {w : Wld} {h : Hs} (r : RelH w h) (v1 : vp_in (a4 + (1 : Int32)) L) (v2 : vp_in (a4 + (2 : Int32)) L) (v3 : vp_in (a4 + (3 : Int32)) L) (v4 : vp_in (a4 + (4 : Int32)) L) (v5 : vp_in (a4 + (5 : Int32)) L) : Ret (Lc_0 xs L a4 w) (LwP a4) := by
  rw [Lc_0, gd_pos v1, gd_pos v2, gd_pos v3, gd_pos v4, gd_pos v5]
  simp only [gd_pos v1, gd_pos v2, gd_pos v3, gd_pos v4, gd_pos v5]
  exact lw_J (j_feed r _ _ _ _ _)
theorem lc_6 {xs : Nat → Int32} {L : Nat} {a4 : Int32} {w : Wld} {h : Hs} (r : RelH w h) (v1 : vp_in (a4 + (1 : Int32)) L) (v2 : vp_in (a4 + (2 : Int32)) L) (v3 : vp_in (a4 + (3 : Int32)) L) (v4 : vp_in (a4 + (4 : Int32)) L) (v5 : vp_in (a4 + (5 : Int32)) L) : Ret (Lc_6 xs L a4 w) (LwP a4) := by
  rw [Lc_6, gd_pos v1]
  simp only [gd_pos v1]
  exact lw_J (j_nights r _)
theorem lc_12 {xs : Nat → Int32} {L : Nat} {a4 : Int32} {w : Wld} {h : Hs} (r : RelH w h) (v1 : vp_in (a4 + (1 : Int32)) L) (v2 : vp_in (a4 + (2 : Int32)) L) (v3 : vp_in (a4 + (3 : Int32)) L) (v4 : vp_in (a4 + (4 : Int32)) L) (v5 : vp_in (a4 + (5 : Int32)) L) : Ret (Lc_12 xs L a4 w) (LwP a4) := by
  rw [Lc_12]
  exact lw_J (j_undo r)
theorem lc_15 {xs : Nat → Int32} {L : Nat} {a4 : Int32} {w : Wld} {h : Hs} (r : RelH w h) (v1 : vp_in (a4 + (1 : Int32)) L) (v2 : vp_in (a4 + (2 : Int32)) L) (v3 : vp_in (a4 + (3 : Int32)) L) (v4 : vp_in (a4 + (4 : Int32)) L) (v5 : vp_in (a4 + (5 : Int32)) L) : Ret (Lc_15 xs L a4 w) (LwP a4) := by
  rw [Lc_15]
  exact lw_J (j_full r)
theorem lc_23 {xs : Nat → Int32} {L : Nat} {a4 : Int32} {w : Wld} {h : Hs} (r : RelH w h) (v1 : vp_in (a4 + (1 : Int32)) L) (v2 : vp_in (a4 + (2 : Int32)) L) (v3 : vp_in (a4 + (3 : Int32)) L) (v4 : vp_in (a4 + (4 : Int32)) L) (v5 : vp_in (a4 + (5 : Int32)) L) : Ret (Lc_23 xs L a4 w) (LwP a4) := by
  rw [Lc_23]
  exact lw_J (j_couples r)
theorem lc_30 {xs : Nat → Int32} {L : Nat} {a4 : Int32} {w : Wld} {h : Hs} (r : RelH w h) (v1 : vp_in (a4 + (1 : Int32)) L) (v2 : vp_in (a4 + (2 : Int32)) L) (v3 : vp_in (a4 + (3 : Int32)) L) (v4 : vp_in (a4 + (4 : Int32)) L) (v5 : vp_in (a4 + (5 : Int32)) L) : Ret (Lc_30 xs L a4 w) (LwP a4) := by
  rw [Lc_30]
  exact lw_J (j_silent r)
theorem lc_38 {xs : Nat → Int32} {L : Nat} {a4 : Int32} {w : Wld} {h : Hs} (r : RelH w h) (v1 : vp_in (a4 + (1 : Int32)) L) (v2 : vp_in (a4 + (2 : Int32)) L) (v3 : vp_in (a4 + (3 : Int32)) L) (v4 : vp_in (a4 + (4 : Int32)) L) (v5 : vp_in (a4 + (5 : Int32)) L) : Ret (Lc_38 xs L a4 w) (LwP a4) := by
  rw [Lc_38]
  exact lw_J (j_restore r)
theorem lc_34 {xs : Nat → Int32} {L : Nat} {a4 : Int32} {w : Wld} {h : Hs} (r : RelH w h) (v1 : vp_in (a4 + (1 : Int32)) L) (v2 : vp_in (a4 + (2 : Int32)) L) (v3 : vp_in (a4 + (3 : Int32)) L) (v4 : vp_in (a4 + (4 : Int32)) L) (v5 : vp_in (a4 + (5 : Int32)) L) : Ret (Lc_34 xs L a4 w) (LwP a4) := by
  rw [Lc_34]
  exact lw_V (j_forget r)
theorem lc_37 {xs : Nat → Int32} {L : Nat} {a4 : Int32} {w : Wld} {h : Hs} (r : RelH w h) (v1 : vp_in (a4 + (1 : Int32)) L) (v2 : vp_in (a4 + (2 : Int32)) L) (v3 : vp_in (a4 + (3 : Int32)) L) (v4 : vp_in (a4 + (4 : Int32)) L) (v5 : vp_in (a4 + (5 : Int32)) L) : Ret (Lc_37 xs L a4 w) (LwP a4) := by
  rw [Lc_37]
  exact lw_V (j_image r)
theorem lc_2 {xs : Nat → Int32} {L : Nat} {a4 : Int32} {w : Wld} {h : Hs} (r : RelH w h) (v1 : vp_in (a4 + (1 : Int32)) L) (v2 : vp_in (a4 + (2 : Int32)) L) (v3 : vp_in (a4 + (3 : Int32)) L) (v4 : vp_in (a4 + (4 : Int32)) L) (v5 : vp_in (a4 + (5 : Int32)) L) : Ret (Lc_2 xs L a4 w) (LwP a4) := by
  obtain ⟨p, eM, e, rel⟩ := q_fault r
  rw [Lc_2, F_C_fault, bp_some, eM, bd_some, br_pos e.symm, bi_eq, ret_some]
  exact ⟨p.2, rfl, rel⟩
theorem lc_22 {xs : Nat → Int32} {L : Nat} {a4 : Int32} {w : Wld} {h : Hs} (r : RelH w h) (v1 : vp_in (a4 + (1 : Int32)) L) (v2 : vp_in (a4 + (2 : Int32)) L) (v3 : vp_in (a4 + (3 : Int32)) L) (v4 : vp_in (a4 + (4 : Int32)) L) (v5 : vp_in (a4 + (5 : Int32)) L) : Ret (Lc_22 xs L a4 w) (LwP a4) := by
  obtain ⟨p, eM, e, rel⟩ := m_choir r
  rw [Lc_22, c_choir r.2.1 r.1, bp_some, eM, bd_some, br_pos e.symm, bi_eq, ret_some]
  exact ⟨p.2, rfl, h, rel⟩
theorem lc_11 {xs : Nat → Int32} {L : Nat} {a4 : Int32} {w : Wld} {h : Hs} (r : RelH w h) (v1 : vp_in (a4 + (1 : Int32)) L) (v2 : vp_in (a4 + (2 : Int32)) L) (v3 : vp_in (a4 + (3 : Int32)) L) (v4 : vp_in (a4 + (4 : Int32)) L) (v5 : vp_in (a4 + (5 : Int32)) L) : Ret (Lc_11 xs L a4 w) (LwP a4) := by
  rw [Lc_11, gd_pos v1, gd_pos v2]
  by_cases hb : xs (Int32.toNatClampNeg (a4 + (2 : Int32))) = 0
  · rw [br_pos hb, K_law_887, gd_pos v3, hg_door]
    refine lw_G cd_N (g_door r _ _ _) (fun t w => ?_)
    rw [K_law_897, gd_pos v1, gd_pos v2, br_pos hb, K_law_920, gd_pos v3, tailG]
    rfl
  · rw [br_neg hb, K_law_887, gd_pos v3, hg_door]
    refine lw_G cd_N (g_door r _ _ _) (fun t w => ?_)
    rw [K_law_897, gd_pos v1, gd_pos v2, br_neg hb, K_law_920, gd_pos v3, tailG]
    rfl
theorem lc_18 {xs : Nat → Int32} {L : Nat} {a4 : Int32} {w : Wld} {h : Hs} (r : RelH w h) (v1 : vp_in (a4 + (1 : Int32)) L) (v2 : vp_in (a4 + (2 : Int32)) L) (v3 : vp_in (a4 + (3 : Int32)) L) (v4 : vp_in (a4 + (4 : Int32)) L) (v5 : vp_in (a4 + (5 : Int32)) L) : Ret (Lc_18 xs L a4 w) (LwP a4) := by
  rw [Lc_18, gd_pos v1, gd_pos v2]
  by_cases hb : xs (Int32.toNatClampNeg (a4 + (2 : Int32))) = 0
  · rw [br_pos hb, K_law_1293, gd_pos v3, hg_ring]
    refine lw_G cd_N (BothQ_G r (q_ring r _ _ _)) (fun t w => ?_)
    rw [K_law_1303, gd_pos v1, gd_pos v2, br_pos hb, K_law_1326, gd_pos v3, tailG]
    rfl
  · rw [br_neg hb, K_law_1293, gd_pos v3, hg_ring]
    refine lw_G cd_N (BothQ_G r (q_ring r _ _ _)) (fun t w => ?_)
    rw [K_law_1303, gd_pos v1, gd_pos v2, br_neg hb, K_law_1326, gd_pos v3, tailG]
    rfl
theorem lc_31 {xs : Nat → Int32} {L : Nat} {a4 : Int32} {w : Wld} {h : Hs} (r : RelH w h) (v1 : vp_in (a4 + (1 : Int32)) L) (v2 : vp_in (a4 + (2 : Int32)) L) (v3 : vp_in (a4 + (3 : Int32)) L) (v4 : vp_in (a4 + (4 : Int32)) L) (v5 : vp_in (a4 + (5 : Int32)) L) : Ret (Lc_31 xs L a4 w) (LwP a4) := by
  rw [Lc_31, gd_pos v1, gd_pos v2, gd_pos v3]
  by_cases hb : xs (Int32.toNatClampNeg (a4 + (3 : Int32))) = 0
  · rw [br_pos hb, K_law_1950]
    simp only [gd_pos v1, gd_pos v2, gd_pos v3, br_pos hb, K_law_1980]
    exact lw_J (j_hear r _ _ 0 (Or.inl rfl))
  · rw [br_neg hb, K_law_1950]
    simp only [gd_pos v1, gd_pos v2, gd_pos v3, br_neg hb, K_law_1980]
    exact lw_J (j_hear r _ _ 1 (Or.inr rfl))
noncomputable def Ht (C : Option (Oc × Wld)) : Option (Int32 × Wld) := C.bind (fun q => match q.1 with
  | .inl k => bif Nat.beq k 0 then some (1, q.2) else none
  | .inr (some r) => br (r = 0) (some (0, wup q.2 41 0 0)) (some (0, wup q.2 41 0 1))
  | .inr none => none)
theorem ht_tie (w : Wld) (a1 a2 : Int32) : H_tie w a1 a2 = Ht (F_C_tie w a1 a2) := by
  unfold H_tie Ht
  congr 1
theorem lw_T {C : Option (Oc × Wld)} {M : Wld → Option (Int32 × Wld)} {xs : Nat → Int32} {L : Nat} {a4 : Int32} (b : BothG cdN C M) {K : Int32 → Wld → Option ((Int32 × Wld) ⊕ Wld)} (hK : ∀ t w, K t w = bd (M w) (fun i54 w55 => bp (F_M_thrown w55) (fun i56 => br (i56 = t) (br (¬ t = 0) (K_law_795 xs L a4 w55) (gd (vp_in 0 1) (br (i54 = 0) (K_law_789 xs L a4 (Int32.toInt64 (w55 41 (Int32.toNatClampNeg 0))) (Int32.toInt64 0) w55) (K_law_789 xs L a4 (Int32.toInt64 (w55 41 (Int32.toNatClampNeg 0))) (Int32.toInt64 1) w55)))) (none)))) : Ret (bd (Ht C) K) (LwP a4) := by
  obtain ⟨o, ⟨o', w1⟩, eC, e, hM⟩ := b
  simp only at e hM
  subst e
  have v0 : vp_in (0 : Int32) 1 := vpK (k := 0) (by omega) (by omega)
  rcases o' with k | (_ | r)
  · obtain ⟨p, eM, ⟨m1, m9⟩, rel, -⟩ := hM w1 frm_rf
    rcases k with _ | k
    · rw [eC]
      show Ret (bd (some (1, w1)) K) (LwP a4)
      rw [bd_some, hK, eM, bd_some, F_M_thrown, bp_some, m1, br_pos (show cdN 0 = ((1 : Int32), w1).1 from rfl), br_pos (show ¬ ((1 : Int32), w1).1 = 0 from by show ¬ (1 : Int32) = 0; decide), K_law_795, bi_eq, ret_some]
      exact ⟨p.2, rfl, rel⟩
    · exact absurd rfl m9
  · obtain ⟨p, eM, m1, -⟩ := hM w1 frm_rf
    exact m1.elim
  · by_cases hr : r = 0
    · obtain ⟨p, eM, ⟨m1, m2⟩, rel, e41⟩ := hM (wup w1 41 0 0) (frm_wup frm_rf _ _ _ rfl)
      rw [wup_s1] at e41
      rw [eC]
      show Ret (bd (br (r = 0) (some (0, wup w1 41 0 0)) (some (0, wup w1 41 0 1))) K) (LwP a4)
      rw [br_pos hr, bd_some, hK, eM, bd_some, F_M_thrown, bp_some, m1, br_pos rfl, br_neg (fun z => z rfl), gd_pos v0, cl_0, e41, br_pos (m2.trans hr), K_law_789, br_pos (lgc _), K_law_795, bi_eq, ret_some]
      exact ⟨p.2, rfl, rel⟩
    · obtain ⟨p, eM, ⟨m1, m2⟩, rel, e41⟩ := hM (wup w1 41 0 1) (frm_wup frm_rf _ _ _ rfl)
      rw [wup_s1] at e41
      rw [eC]
      show Ret (bd (br (r = 0) (some (0, wup w1 41 0 0)) (some (0, wup w1 41 0 1))) K) (LwP a4)
      rw [br_neg hr, bd_some, hK, eM, bd_some, F_M_thrown, bp_some, m1, br_pos rfl, br_neg (fun z => z rfl), gd_pos v0, cl_0, e41, br_neg (fun z => hr (m2.symm.trans z)), K_law_789, br_pos (lgc _), K_law_795, bi_eq, ret_some]
      exact ⟨p.2, rfl, rel⟩
theorem lc_9 {xs : Nat → Int32} {L : Nat} {a4 : Int32} {w : Wld} {h : Hs} (r : RelH w h) (v1 : vp_in (a4 + (1 : Int32)) L) (v2 : vp_in (a4 + (2 : Int32)) L) (v3 : vp_in (a4 + (3 : Int32)) L) (v4 : vp_in (a4 + (4 : Int32)) L) (v5 : vp_in (a4 + (5 : Int32)) L) : Ret (Lc_9 xs L a4 w) (LwP a4) := by
  rw [Lc_9, gd_pos v1, gd_pos v2]
  by_cases hb : xs (Int32.toNatClampNeg (a4 + (2 : Int32))) = 0
  · rw [br_pos hb, K_law_728, ht_tie]
    refine lw_T (xs := xs) (L := L) (g_tie r _ 0 (Or.inl rfl)) (fun t w => ?_)
    rw [K_law_732, gd_pos v1, gd_pos v2, br_pos hb, K_law_755]
  · rw [br_neg hb, K_law_728, ht_tie]
    refine lw_T (xs := xs) (L := L) (g_tie r _ 1 (Or.inr rfl)) (fun t w => ?_)
    rw [K_law_732, gd_pos v1, gd_pos v2, br_neg hb, K_law_755]
