/-! ===== what is taken over ===== -/
def md (x : Int32) (n : Nat) : Int32 := x - x / jn n * jn n
theorem m_rooms {w : Wld} {nr : Nat} (hn : nr ≤ 9) (e : w 3 0 = jn nr) : Ret (loop B_M_takeOver_80 (0, w)) (fun a => Frm [18, 19] [] w a ∧ ∀ r, r < nr → a 18 r = md (w 5 r) nr ∧ a 19 r = md (w 6 r) nr) := by
  have v0 : vp_in (0 : Int32) 10 := vpK (k := 0) (by omega) (by omega)
  refine loop_inv (I := fun j s => s.1 = jn j ∧ Frm [18, 19] [] w s.2 ∧ ∀ r, r < j → r < nr → s.2 18 r = md (w 5 r) nr ∧ s.2 19 r = md (w 6 r) nr) 9 ⟨rfl, frm_rf, fun i hi => absurd hi (Nat.not_lt_zero i)⟩ (fun j s hj hi => ?_) (fun s hi => ?_)
  · obtain ⟨i, w1⟩ := s
    obtain ⟨i1, i2, i3⟩ := hi
    simp only at i1 i2 i3
    subst i1
    have e1 : w1 3 0 = jn nr := (i2 3 0 rfl).trans e
    have va : vp_in (jn j) 9 := vpK (by omega) (by omega)
    have vb : vp_in (jn j) 18 := vpK (by omega) (by omega)
    have c : Int32.toNatClampNeg (jn j) = j := jn_clamp (by omega)
    have e2 : ∀ x : Int32, (wup w1 18 j x) 3 0 = jn nr := fun x => by rw [wup_o _ _ _ (by decide)]; exact e1
    have e3 : ∀ x : Int32, (wup w1 18 j x) 6 j = w 6 j := fun x => by rw [wup_o _ _ _ (by decide), i2 6 j rfl]
    rw [B_M_takeOver_80]
    simp only
    rw [br_neg (by rw [li_9, jn_le (by omega) (by omega)]; omega), gd_pos v0, cl_0, e1, c]
    by_cases h : nr ≤ j
    · rw [br_pos (by rw [jn_le (by omega) (by omega)]; exact h), K_M_takeOver_118, gd_pos va, bw_eq, gd_pos v0, cl_0, c, e2, br_pos (by rw [jn_le (by omega) (by omega)]; exact h), K_M_takeOver_151, gd_pos va, bw_eq, bi_eq, jn_1a, c, ret_some, LQ_inl]
      refine ⟨rfl, frm_wup (frm_wup i2 _ _ _ rfl) _ _ _ rfl, fun r hr hr2 => ?_⟩
      have := i3 r (by omega) hr2
      simp (disch := omega) only [wup_s1, wup_s2, wup_o, wcp_o]
      exact this
    · have hnz : ¬ jn nr = 0 := by rw [jn_e0 (by omega)]; omega
      rw [br_neg (by rw [jn_le (by omega) (by omega)]; exact h), gd_pos vb, gd_pos v0, gd_pos hnz, K_M_takeOver_118, gd_pos va, bw_eq, gd_pos v0, cl_0, c, e2, br_neg (by rw [jn_le (by omega) (by omega)]; exact h), gd_pos vb, gd_pos v0, gd_pos hnz, K_M_takeOver_151, gd_pos va, e3, bw_eq, bi_eq, jn_1a, c, i2 5 j rfl, ret_some, LQ_inl]
      refine ⟨rfl, frm_wup (frm_wup i2 _ _ _ rfl) _ _ _ rfl, fun r hr hr2 => ?_⟩
      by_cases er : r = j
      · subst er
        simp (disch := omega) only [wup_s1, wup_s2, wup_o, wcp_o]
        exact ⟨rfl, rfl⟩
      · have := i3 r (by omega) hr2
        simp (disch := omega) only [wup_s1, wup_s2, wup_o, wcp_o]
        exact this
  · obtain ⟨i, w1⟩ := s
    obtain ⟨i1, i2, i3⟩ := hi
    simp only at i1 i2 i3
    subst i1
    rw [B_M_takeOver_80]
    simp only
    rw [br_pos (by decide), ret_some, LQ_inr]
    exact ⟨i2, fun r hr => i3 r (by omega) hr⟩
theorem m_monks {w : Wld} {nm : Nat} (hn : nm ≤ 8) (e : w 3 1 = jn nm) : Ret (loop B_M_takeOver_160 (0, w)) (fun a => Frm [14, 15, 16, 17] [] w a ∧ ∀ m, m < nm → a 14 m = w 8 m ∧ a 15 m = w 9 m ∧ a 16 m = w 10 m ∧ a 17 m = 0) := by
  have v1 : vp_in (1 : Int32) 10 := vpK (k := 1) (by omega) (by omega)
  refine loop_inv (I := fun j s => s.1 = jn j ∧ Frm [14, 15, 16, 17] [] w s.2 ∧ ∀ m, m < j → m < nm → s.2 14 m = w 8 m ∧ s.2 15 m = w 9 m ∧ s.2 16 m = w 10 m ∧ s.2 17 m = 0) 8 ⟨rfl, frm_rf, fun i hi => absurd hi (Nat.not_lt_zero i)⟩ (fun j s hj hi => ?_) (fun s hi => ?_)
  · obtain ⟨i, w1⟩ := s
    obtain ⟨i1, i2, i3⟩ := hi
    simp only at i1 i2 i3
    subst i1
    have e1 : w1 3 1 = jn nm := (i2 3 1 rfl).trans e
    have va : vp_in (jn j) 8 := vpK (by omega) (by omega)
    have vb : vp_in (jn j) 16 := vpK (by omega) (by omega)
    have c : Int32.toNatClampNeg (jn j) = j := jn_clamp (by omega)
    rw [B_M_takeOver_160]
    simp only
    rw [br_neg (by rw [li_8, jn_le (by omega) (by omega)]; omega), gd_pos v1, cl_1, e1]
    by_cases h : nm ≤ j
    · rw [br_pos (by rw [jn_le (by omega) (by omega)]; exact h), K_M_takeOver_181, br_pos rfl, K_M_takeOver_201, gd_pos va, bw_eq, br_pos rfl, K_M_takeOver_221, gd_pos va, bw_eq, br_pos rfl, K_M_takeOver_241, gd_pos va, bw_eq, gd_pos va, bw_eq, bi_eq, jn_1a, c, ret_some, LQ_inl]
      refine ⟨rfl, frm_wup (frm_wup (frm_wup (frm_wup i2 _ _ _ rfl) _ _ _ rfl) _ _ _ rfl) _ _ _ rfl, fun r hr hr2 => ?_⟩
      have := i3 r (by omega) hr2
      simp (disch := omega) only [wup_s1, wup_s2, wup_o, wcp_o]
      exact this
    · have n1 : ¬ (1 : Int32) = 0 := by decide
      have e2 : ∀ x : Int32, (wup w1 14 j x) 9 j = w 9 j := fun x => by rw [wup_o _ _ _ (by decide), i2 9 j rfl]
      have e3 : ∀ x y : Int32, (wup (wup w1 14 j x) 15 j y) 10 j = w 10 j := fun x y => by rw [wup_o _ _ _ (by decide), wup_o _ _ _ (by decide), i2 10 j rfl]
      rw [br_neg (by rw [jn_le (by omega) (by omega)]; exact h), K_M_takeOver_181, br_neg n1, gd_pos vb, K_M_takeOver_201, gd_pos va, bw_eq, br_neg n1, gd_pos vb, K_M_takeOver_221, gd_pos va, bw_eq, br_neg n1, gd_pos vb, K_M_takeOver_241, gd_pos va, bw_eq, gd_pos va, bw_eq, bi_eq, jn_1a, c, i2 8 j rfl, e2, e3, ret_some, LQ_inl]
      refine ⟨rfl, frm_wup (frm_wup (frm_wup (frm_wup i2 _ _ _ rfl) _ _ _ rfl) _ _ _ rfl) _ _ _ rfl, fun r hr hr2 => ?_⟩
      by_cases er : r = j
      · subst er
        simp (disch := omega) only [wup_s1, wup_s2, wup_o, wcp_o]
        exact ⟨trivial, trivial, trivial, trivial⟩
      · have := i3 r (by omega) hr2
        simp (disch := omega) only [wup_s1, wup_s2, wup_o, wcp_o]
        exact this
  · obtain ⟨i, w1⟩ := s
    obtain ⟨i1, i2, i3⟩ := hi
    simp only at i1 i2 i3
    subst i1
    rw [B_M_takeOver_160]
    simp only
    rw [br_pos (by decide), ret_some, LQ_inr]
    exact ⟨i2, fun r hr => i3 r (by omega) hr⟩
def LOv : List Nat := [3, 4, 5, 6, 7, 8, 9, 10, 11, 14, 15, 16, 17, 18, 19]
def KOv : List (Nat × Nat) := [(0, 31), (0, 32), (0, 33), (0, 34), (0, 35), (0, 55)]
theorem m_over {w : Wld} {nr nm : Nat} (hnr : nr ≤ 9) (hnm : nm ≤ 8) (e5 : w 3 5 = jn nr) (e6 : w 3 6 = jn nm) : Ret (F_M_takeOver w) (fun w' => Frm LOv KOv w w' ∧ (∀ i, i < 5 → w' 3 i = w 3 (5 + i)) ∧ (∀ i, i < 9 → w' 4 i = w 4 (9 + i)) ∧ (∀ i, i < 8 → w' 7 i = w 7 (8 + i)) ∧ (∀ i, i < 700 → w' 11 i = w 11 (700 + i)) ∧ (w' 0 31 = 0 ∧ w' 0 32 = 0 ∧ w' 0 33 = 0 ∧ w' 0 34 = 0 ∧ w' 0 35 = 0 ∧ w' 0 55 = 0) ∧ (∀ r, r < nr → w' 18 r = md (w 5 (9 + r)) nr ∧ w' 19 r = md (w 6 (9 + r)) nr) ∧ ∀ m, m < nm → w' 14 m = w 8 (8 + m) ∧ w' 15 m = w 9 (8 + m) ∧ w' 16 m = w 10 (8 + m) ∧ w' 17 m = 0) := by
  obtain ⟨w1, a1, f1, g1⟩ := th_3 w
  obtain ⟨w2, a2, f2, g2⟩ := th_4 w1
  obtain ⟨w3, a3, f3, g3⟩ := th_5 w2
  obtain ⟨w4, a4, f4, g4⟩ := th_6 w3
  obtain ⟨w5, a5, f5, g5⟩ := th_7 w4
  obtain ⟨w6, a6, f6, g6⟩ := th_8 w5
  obtain ⟨w7, a7, f7, g7⟩ := th_9 w6
  obtain ⟨w8, a8, f8, g8⟩ := th_10 w7
  obtain ⟨w9, a9, f9, g9⟩ := th_11 w8
  rw [F_M_takeOver, a1, bv_some, a2, bv_some, a3, bv_some, a4, bv_some, a5, bv_some, a6, bv_some, a7, bv_some, a8, bv_some, a9, bv_some, bw_eq, bw_eq, bw_eq]
  have fA : Frm [] [(0, 31), (0, 32), (0, 33)] w9 (wup (wup (wup w9 0 31 0) 0 32 0) 0 33 0) := frm_wup (frm_wup (frm_wup frm_rf _ _ _ rfl) _ _ _ rfl) _ _ _ rfl
  have z1 : (wup (wup (wup w9 0 31 0) 0 32 0) 0 33 0) 0 31 = 0 := by simp (disch := omega) only [wup_s1, wup_s2, wup_o, wcp_o]
  have z2 : (wup (wup (wup w9 0 31 0) 0 32 0) 0 33 0) 0 32 = 0 := by simp (disch := omega) only [wup_s1, wup_s2, wup_o, wcp_o]
  have z3 : (wup (wup (wup w9 0 31 0) 0 32 0) 0 33 0) 0 33 = 0 := by simp (disch := omega) only [wup_s1, wup_s2, wup_o, wcp_o]
  generalize wup (wup (wup w9 0 31 0) 0 32 0) 0 33 0 = wA at fA z1 z2 z3 ⊢
  have h3 : ∀ i, i < 5 → wA 3 i = w 3 (5 + i) := fun i hi => by
    rw [fA 3 i rfl, f9 3 i rfl, f8 3 i rfl, f7 3 i rfl, f6 3 i rfl, f5 3 i rfl, f4 3 i rfl, f3 3 i rfl, f2 3 i rfl]; exact g1 i hi
  have h4 : ∀ i, i < 9 → wA 4 i = w 4 (9 + i) := fun i hi => by
    rw [fA 4 i rfl, f9 4 i rfl, f8 4 i rfl, f7 4 i rfl, f6 4 i rfl, f5 4 i rfl, f4 4 i rfl, f3 4 i rfl, g2 i hi, f1 4 _ rfl]
  have h5 : ∀ i, i < 9 → wA 5 i = w 5 (9 + i) := fun i hi => by
    rw [fA 5 i rfl, f9 5 i rfl, f8 5 i rfl, f7 5 i rfl, f6 5 i rfl, f5 5 i rfl, f4 5 i rfl, g3 i hi, f2 5 _ rfl, f1 5 _ rfl]
  have h6 : ∀ i, i < 9 → wA 6 i = w 6 (9 + i) := fun i hi => by
    rw [fA 6 i rfl, f9 6 i rfl, f8 6 i rfl, f7 6 i rfl, f6 6 i rfl, f5 6 i rfl, g4 i hi, f3 6 _ rfl, f2 6 _ rfl, f1 6 _ rfl]
  have h7 : ∀ i, i < 8 → wA 7 i = w 7 (8 + i) := fun i hi => by
    rw [fA 7 i rfl, f9 7 i rfl, f8 7 i rfl, f7 7 i rfl, f6 7 i rfl, g5 i hi, f4 7 _ rfl, f3 7 _ rfl, f2 7 _ rfl, f1 7 _ rfl]
  have h8 : ∀ i, i < 8 → wA 8 i = w 8 (8 + i) := fun i hi => by
    rw [fA 8 i rfl, f9 8 i rfl, f8 8 i rfl, f7 8 i rfl, g6 i hi, f5 8 _ rfl, f4 8 _ rfl, f3 8 _ rfl, f2 8 _ rfl, f1 8 _ rfl]
  have h9 : ∀ i, i < 8 → wA 9 i = w 9 (8 + i) := fun i hi => by
    rw [fA 9 i rfl, f9 9 i rfl, f8 9 i rfl, g7 i hi, f6 9 _ rfl, f5 9 _ rfl, f4 9 _ rfl, f3 9 _ rfl, f2 9 _ rfl, f1 9 _ rfl]
  have h10 : ∀ i, i < 8 → wA 10 i = w 10 (8 + i) := fun i hi => by
    rw [fA 10 i rfl, f9 10 i rfl, g8 i hi, f7 10 _ rfl, f6 10 _ rfl, f5 10 _ rfl, f4 10 _ rfl, f3 10 _ rfl, f2 10 _ rfl, f1 10 _ rfl]
  have h11 : ∀ i, i < 700 → wA 11 i = w 11 (700 + i) := fun i hi => by
    rw [fA 11 i rfl, g9 i hi, f8 11 _ rfl, f7 11 _ rfl, f6 11 _ rfl, f5 11 _ rfl, f4 11 _ rfl, f3 11 _ rfl, f2 11 _ rfl, f1 11 _ rfl]
  have FA : Frm LOv KOv w wA := frm_tr (frm_up f1 rfl) (frm_tr (frm_up f2 rfl) (frm_tr (frm_up f3 rfl) (frm_tr (frm_up f4 rfl) (frm_tr (frm_up f5 rfl) (frm_tr (frm_up f6 rfl) (frm_tr (frm_up f7 rfl) (frm_tr (frm_up f8 rfl) (frm_tr (frm_up f9 rfl) (frm_up fA rfl)))))))))
  obtain ⟨wB, aB, fB, gB⟩ := m_rooms (w := wA) hnr ((h3 0 (by omega)).trans e5)
  obtain ⟨wD, aD, fD, gD⟩ := m_monks (w := wB) hnm (by rw [fB 3 1 rfl, h3 1 (by omega)]; exact e6)
  rw [aB, bl_some, aD, bl_some, bw_eq, bw_eq, gd_pos (Or.inl rfl), bw_eq, ret_some]
  have fE : Frm [] [(0, 34), (0, 35), (0, 55)] wD (wup (wup (wup wD 0 34 0) 0 35 0) 0 55 0) := frm_wup (frm_wup (frm_wup frm_rf _ _ _ rfl) _ _ _ rfl) _ _ _ rfl
  have y1 : (wup (wup (wup wD 0 34 0) 0 35 0) 0 55 0) 0 34 = 0 := by simp (disch := omega) only [wup_s1, wup_s2, wup_o, wcp_o]
  have y2 : (wup (wup (wup wD 0 34 0) 0 35 0) 0 55 0) 0 35 = 0 := by simp (disch := omega) only [wup_s1, wup_s2, wup_o, wcp_o]
  have y3 : (wup (wup (wup wD 0 34 0) 0 35 0) 0 55 0) 0 55 = 0 := by simp (disch := omega) only [wup_s1, wup_s2, wup_o, wcp_o]
  generalize wup (wup (wup wD 0 34 0) 0 35 0) 0 55 0 = wE at fE y1 y2 y3 ⊢
  refine ⟨frm_tr FA (frm_tr (frm_up fB rfl) (frm_tr (frm_up fD rfl) (frm_up fE rfl))), fun i hi => ?_, fun i hi => ?_, fun i hi => ?_, fun i hi => ?_, ⟨?_, ?_, ?_, y1, y2, y3⟩, fun i hi => ?_, fun i hi => ?_⟩
  · rw [fE 3 i rfl, fD 3 i rfl, fB 3 i rfl]; exact h3 i hi
  · rw [fE 4 i rfl, fD 4 i rfl, fB 4 i rfl]; exact h4 i hi
  · rw [fE 7 i rfl, fD 7 i rfl, fB 7 i rfl]; exact h7 i hi
  · rw [fE 11 i rfl, fD 11 i rfl, fB 11 i rfl]; exact h11 i hi
  · rw [fE 0 31 rfl, fD 0 31 rfl, fB 0 31 rfl]; exact z1
  · rw [fE 0 32 rfl, fD 0 32 rfl, fB 0 32 rfl]; exact z2
  · rw [fE 0 33 rfl, fD 0 33 rfl, fB 0 33 rfl]; exact z3
  · have := gB i hi
    rw [h5 i (by omega), h6 i (by omega)] at this
    rw [fE 18 i rfl, fD 18 i rfl, fE 19 i rfl, fD 19 i rfl]
    exact this
  · have := gD i hi
    rw [fB 8 i rfl, fB 9 i rfl, fB 10 i rfl, h8 i (by omega), h9 i (by omega), h10 i (by omega)] at this
    rw [fE 14 i rfl, fE 15 i rfl, fE 16 i rfl, fE 17 i rfl]
    exact this
/-! the class's -/
def LTk : List Nat := [57, 58, 60, 66]
def KTk : List (Nat × Nat) := [(42, 2), (42, 8), (56, 0), (56, 1), (56, 2), (56, 3), (59, 2), (67, 2), (69, 3)]
noncomputable def cTail (w : Wld) : Option (Oc × Wld) := bw (wup w 42 2 (-1)) (fun w4 => bv (F_House_takeOver_56_47 w4) (fun w5 => bv (F_State_takeOver_65_53 w5) (fun w6 => bv (F_Acts_clear_67 w6) (fun w7 => bv (F_Heard_clear_69 w7) (fun w8 => gd ((0 : Int32) = 0 ∨ (0 : Int32) = 1) (bw (wup w8 42 8 0) (fun w9 => some ((.inr (some 0), w9)))))))))
theorem c_tail (w : Wld) : Ret (cTail w) (fun q => q.1 = .inr (some 0) ∧ Frm LTk KTk w q.2 ∧ (q.2 42 2 = -1 ∧ q.2 42 8 = 0 ∧ q.2 67 2 = 0 ∧ q.2 69 3 = 0) ∧ (q.2 56 0 = w 47 0 ∧ q.2 56 1 = w 47 1 ∧ q.2 56 2 = w 47 2 ∧ q.2 56 3 = w 47 3 ∧ q.2 59 2 = w 50 2) ∧ (∀ i, i < 9 → q.2 57 i = w 48 i) ∧ (∀ i, i < 8 → q.2 58 i = w 49 i) ∧ (∀ i, i < 700 → q.2 60 i = w 51 i) ∧ ∀ i, i < 53 → q.2 66 i = w 54 i) := by
  have k9 : ∀ w : Wld, cpO w 48 9 9 0 0 0 9 := fun w => cpO_int w (a := 0) (b := 0) (k := 9) (by omega) (by omega) (by omega) (by omega) (by omega)
  have k8 : ∀ w : Wld, cpO w 49 8 8 0 0 0 8 := fun w => cpO_int w (a := 0) (b := 0) (k := 8) (by omega) (by omega) (by omega) (by omega) (by omega)
  have k7 : ∀ w : Wld, cpO w 51 700 700 0 0 0 700 := fun w => cpO_int w (a := 0) (b := 0) (k := 700) (by omega) (by omega) (by omega) (by omega) (by omega)
  have k5 : ∀ w : Wld, cpO w 54 53 53 0 0 0 53 := fun w => cpO_int w (a := 0) (b := 0) (k := 53) (by omega) (by omega) (by omega) (by omega) (by omega)
  have c9 : Int32.toNatClampNeg (9 : Int32) = 9 := rfl
  have c8 : Int32.toNatClampNeg (8 : Int32) = 8 := rfl
  have c7 : Int32.toNatClampNeg (700 : Int32) = 700 := rfl
  have c5 : Int32.toNatClampNeg (53 : Int32) = 53 := rfl
  rw [cTail, bw_eq, F_House_takeOver_56_47, bw_eq, bw_eq, bw_eq, bw_eq, gd_pos (k9 _), bw_eq, gd_pos (k8 _), bw_eq, F_Rule_takeOver_59_50, gd_pos (k7 _), bw_eq, bw_eq, bv_some, bv_some, F_State_takeOver_65_53, gd_pos (k5 _), bw_eq, bv_some, F_Acts_clear_67, bw_eq, bv_some, F_Heard_clear_69, bw_eq, bv_some, gd_pos (Or.inl rfl), bw_eq, ret_some, c9, c8, c7, c5, cl_0]
  refine ⟨rfl, ?_, ⟨?_, ?_, ?_, ?_⟩, ⟨?_, ?_, ?_, ?_, ?_⟩, fun i hi => ?_, fun i hi => ?_, fun i hi => ?_, fun i hi => ?_⟩
  · exact frm_wup (frm_wup (frm_wup (frm_wcp (frm_wup (frm_wcp (frm_wcp (frm_wcp (frm_wup (frm_wup (frm_wup (frm_wup (frm_wup frm_rf _ _ _ rfl) _ _ _ rfl) _ _ _ rfl) _ _ _ rfl) _ _ _ rfl) _ _ _ _ _ rfl) _ _ _ _ _ rfl) _ _ _ _ _ rfl) _ _ _ rfl) _ _ _ _ _ rfl) _ _ _ rfl) _ _ _ rfl) _ _ _ rfl
  all_goals simp (disch := omega) only [wup_s1, wup_s2, wup_o, wcp_o]
  · rw [wcp_s, if_pos (by omega), show 0 + (i - 0) = i by omega]
    simp (disch := omega) only [wup_s1, wup_s2, wup_o, wcp_o]
  · rw [wcp_s, if_pos (by omega), show 0 + (i - 0) = i by omega]
    simp (disch := omega) only [wup_s1, wup_s2, wup_o, wcp_o]
  · rw [wcp_s, if_pos (by omega), show 0 + (i - 0) = i by omega]
    simp (disch := omega) only [wup_s1, wup_s2, wup_o, wcp_o]
  · rw [wcp_s, if_pos (by omega), show 0 + (i - 0) = i by omega]
    simp (disch := omega) only [wup_s1, wup_s2, wup_o, wcp_o]
