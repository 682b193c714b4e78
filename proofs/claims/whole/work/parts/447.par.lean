/-! ===== tests and 'not' ===== -/
theorem ws_lt {tx : Nat → Nat} {L p k : Nat} (hp : p ≤ L) (h : wsB tx L p k = true) : p < L := by
  unfold wsB at h
  rw [Bool.and_eq_true, decide_eq_true_eq] at h
  exact kd_lt hp (by rw [h.1]; decide)
theorem cl_11 : Int32.toNatClampNeg (11 : Int32) = 11 := by decide
theorem cl_10 : Int32.toNatClampNeg (10 : Int32) = 10 := by decide
theorem cl_9 : Int32.toNatClampNeg (9 : Int32) = 9 := by decide
theorem p_nots {wR : Wld} {tx : Nat → Nat} {L n D : Nat} (rxC : Wld → Int32 → Option (Int32 × Wld)) (rxM : Wld → Int32 → Option Wld) (a : Int32) : ∀ j k, j + k = 6 → ∀ p wC wM, PR wR tx L wC wM p n D → ∃ k' p' x y, loop (B_Reader_readNot_44_2 rxC a) (jn k, wC) = some (jn k', x) ∧ k ≤ k' ∧ k' ≤ 6 ∧ p + k' ≤ p' + k ∧ Frm [51] KCe wC x ∧ Frm [11] KMe wM y ∧ PR wR tx L x y p' n D ∧ ((¬ wsB tx L p' 15 = true ∧ loop (B_M_readNot_2 rxM a) (jn k, wM) = some (jn k', y)) ∨ (k' = 6 ∧ wsB tx L p' 15 = true ∧ loop (B_M_readNot_2 rxM a) (jn k, wM) = some (jn 7, wup (wup y 0 21 2) 0 22 (y 0 19)))) := by
  intro j
  induction j with
  | zero =>
    intro k hk p wC wM r
    have hk6 : k = 6 := by omega
    subst hk6
    have hm := m_is r.2.1 r.2.2.2.2.1 r.2.2.1 r.2.2.2.2.2.1 (k := 15) (by omega)
    have ec : loop (B_Reader_readNot_44_2 rxC a) (jn 6, wC) = some (jn 6, wC) := by
      rw [loop_eq, B_Reader_readNot_44_2, br_pos (show (6 : Int32) ≤ jn 6 by decide)]
    refine ⟨6, p, wC, wM, ec, Nat.le_refl _, Nat.le_refl _, Nat.le_refl _, frm_rf, frm_rf, r, ?_⟩
    by_cases h : wsB tx L p 15 = true
    · refine Or.inr ⟨rfl, h, ?_⟩
      have hb : ¬ (wup (wup wM 0 21 2) 0 22 (wM 0 19)) 0 21 = 0 := by rw [wup_s2 _ _ _ (by decide), wup_s1]; decide
      rw [loop_eq, B_M_readNot_2]
      simp only
      rw [hm, if_pos h, bp_some, br_neg (by decide), br_neg (show ¬ ¬ jn 6 = 6 from fun z => z rfl), m_wrong0 r.2.2.2.2.2.1, bv_some, K_M_readNot_23, bi_eq, br_pos hb]
      simp only
      rw [loop_eq, B_M_readNot_2]
      simp only
      rw [m_isB hb (by omega), bp_some, br_pos rfl]
      rfl
    · refine Or.inl ⟨h, ?_⟩
      rw [loop_eq, B_M_readNot_2]
      simp only
      rw [hm, if_neg h, bp_some, br_pos rfl]
  | succ j ih =>
    intro k hk p wC wM r
    have hm := m_is r.2.1 r.2.2.2.2.1 r.2.2.1 r.2.2.2.2.2.1 (k := 15) (by omega)
    have hc : (Int32.toNatClampNeg (wC 45 5) = 11) = (wsB tx L p 15 = true) := c_ws r.2.2.2.1 (i := 11) (by omega) (by omega)
    have hwl := c_wlt r.2.2.2.1
    have h6 : ¬ (6 : Int32) ≤ jn k := by rw [li_6, jn_le (by omega) (by omega)]; omega
    have h6' : ¬ jn k = 6 := by rw [li_6, jn_inj (by omega) (by omega)]; omega
    by_cases h : wsB tx L p 15 = true
    · have hpL := ws_lt r.2.2.1 h
      obtain ⟨a1, b1, ea1, eb1, fa1, fb1, p1, hp1, r1⟩ := both_step r hpL
      obtain ⟨k', p', x, y, e1, e2, e3, e4, e5, e6, e7, e8⟩ := ih (k + 1) (by omega) p1 a1 b1 r1
      have cc : loop (B_Reader_readNot_44_2 rxC a) (jn k, wC) = loop (B_Reader_readNot_44_2 rxC a) (jn (k + 1), a1) := by
        rw [loop_eq, B_Reader_readNot_44_2]
        simp only
        rw [br_neg h6, gd_pos hwl, gd_pos (by decide), cl_11, br_neg (by rw [hc]; exact fun z => z h), bi_eq, ea1, bv_some, jn_1a]
      have mm : loop (B_M_readNot_2 rxM a) (jn k, wM) = loop (B_M_readNot_2 rxM a) (jn (k + 1), b1) := by
        rw [loop_eq, B_M_readNot_2]
        simp only
        rw [hm, if_pos h, bp_some, br_neg (by decide), br_pos h6', K_M_readNot_23, bi_eq, r.2.2.2.2.2.1, br_neg (fun z => z rfl), eb1, bv_some, jn_1a]
      refine ⟨k', p', x, y, cc.trans e1, by omega, e3, by omega, frm_tr (frm_up fa1 rfl) e5, frm_tr (frm_up fb1 rfl) e6, e7, ?_⟩
      rcases e8 with ⟨g1, g2⟩ | ⟨g1, g2, g3⟩
      · exact Or.inl ⟨g1, mm.trans g2⟩
      · exact Or.inr ⟨g1, g2, mm.trans g3⟩
    · refine ⟨k, p, wC, wM, ?_, Nat.le_refl _, by omega, Nat.le_refl _, frm_rf, frm_rf, r, Or.inl ⟨h, ?_⟩⟩
      · rw [loop_eq, B_Reader_readNot_44_2]
        simp only
        rw [br_neg h6, gd_pos hwl, gd_pos (by decide), cl_11, br_pos (by rw [hc]; exact h)]
      · rw [loop_eq, B_M_readNot_2]
        simp only
        rw [hm, if_neg h, bp_some, br_pos rfl]
/-- what the model does behind the sum -/
noncomputable def mTest (rx : Wld → Int32 → Option Wld) (a k : Int32) (w : Wld) : Option Wld := bv (F_M_readSum rx w a) (fun w6 => bp (F_M_isMarked w6 60) (fun i7 => br (¬ i7 = 0) (K_M_readNot_63 rx a k w6) (bp (F_M_isMarked w6 61) (fun i15 => br (i15 = 0) (K_M_readNot_94 rx k w6) (K_M_readNot_63 rx a k w6)))))
theorem p_test {wR : Wld} {tx : Nat → Nat} {L : Nat} {rxC : Wld → Int32 → Option (Int32 × Wld)} {rxM : Wld → Int32 → Option Wld} {a : Nat} (hx : HX wR tx L rxC rxM a) (ha : a ≤ 5) {wC wM : Wld} {p n D : Nat} (r : PR wR tx L wC wM p n D) (hD : D ≤ 5 * a + 2) : ∃ q wM', F_Reader_readTest_44 rxC wC (jn a) = some q ∧ (∀ k, mTest rxM (jn a) k wM = K_M_readNot_94 rxM k wM') ∧ POut wR tx L wC wM p n D q wM' := by
  obtain ⟨⟨v, a1⟩, b1, ea1, eb1, fa1, fb1, res⟩ := p_sum hx ha r (by omega)
  simp only at fa1 res
  rw [F_Reader_readTest_44, ea1, bd_some]
  unfold mTest
  simp only
  rcases res with ⟨rfl, p1, n1, hp1, hn1, r1⟩ | ⟨rfl, f1⟩
  · have c60 : (a1 45 7 = 60) = (mk tx L p1 60 = true) := c_mk r1.1 r1.2.2.2.1 r1.2.2.1 (c := 60) (by omega) (by omega)
    have c61 : (a1 45 7 = 61) = (mk tx L p1 61 = true) := c_mk r1.1 r1.2.2.2.1 r1.2.2.1 (c := 61) (by omega) (by omega)
    have m60 : F_M_isMarked b1 60 = _ := m_mk r1.2.1 r1.2.2.2.2.1 r1.2.2.1 r1.2.2.2.2.2.1 (c := 60) (by decide) (by omega)
    have m61 : F_M_isMarked b1 61 = _ := m_mk r1.2.1 r1.2.2.2.2.1 r1.2.2.1 r1.2.2.2.2.2.1 (c := 61) (by decide) (by omega)
    have hnp1 := r1.2.2.2.2.2.2.2
    rw [br_pos (by decide), bi_eq]
    have main : ∀ s : Int32, -18 ≤ s → s ≤ -11 → p1 < L → (∃ q wM', (bv (F_Tokens_step_45 a1) (fun w4 => bd (F_Reader_readSum_44 rxC w4 (jn a)) (fun i5 w6 => K_Reader_readTest_44_65 rxC i5 s w6))) = some q ∧ (∀ k, K_M_readNot_79 rxM (jn a) k (trc s) b1 = K_M_readNot_94 rxM k wM') ∧ POut wR tx L wC wM p n D q wM') := by
      intro s s1 s2 hpL
      obtain ⟨a2, b2, ea2, eb2, fa2, fb2, p2, hp2, r2⟩ := both_step r1 hpL
      obtain ⟨⟨v, a3⟩, b3, ea3, eb3, fa3, fb3, res⟩ := p_sum hx ha r2 (by omega)
      simp only at fa3 res
      rcases res with ⟨rfl, p3, n3, hp3, hn3, r3⟩ | ⟨rfl, f3⟩
      · have hnp3 := r3.2.2.2.2.2.2.2
        have hnp2 := r2.2.2.2.2.2.2.2
        obtain ⟨a4, b4, ea4, eb4, fa4, fb4, r4⟩ := both_put r3 (by omega) (okS_bin (d := D + 1 + 1) s1 s2 (by omega))
        have hda : dAf s (D + 1 + 1) = D + 1 := by unfold dAf; rw [if_pos s2]; omega
        rw [hda] at r4
        refine ⟨(1, a4), b4, ?_, fun k => ?_, frm_tr fa1 (frm_tr (frm_up fa2 rfl) (frm_tr fa3 fa4)), frm_tr fb1 (frm_tr (frm_up fb2 rfl) (frm_tr fb3 fb4)), Or.inl ⟨rfl, p3, n3 + 1, by omega, by omega, r4⟩⟩
        · rw [ea2, bv_some, ea3, bd_some]
          simp only
          rw [K_Reader_readTest_44_65, ea4, bv_some, gd_pos (Or.inr rfl)]
        · rw [K_M_readNot_79, eb2, bv_some, eb3, bv_some, eb4, bv_some]
      · obtain ⟨a4, ea4, fa4, f4⟩ := pf_put f3 s
        refine ⟨(0, a4), b3, ?_, fun k => ?_, frm_tr fa1 (frm_tr (frm_up fa2 rfl) (frm_tr fa3 (frm_up fa4 rfl))), frm_tr fb1 (frm_tr (frm_up fb2 rfl) fb3), Or.inr ⟨rfl, f4⟩⟩
        · rw [ea2, bv_some, ea3, bd_some]
          simp only
          rw [K_Reader_readTest_44_65, ea4, bv_some, gd_pos (Or.inl rfl)]
        · rw [K_M_readNot_79, eb2, bv_some, eb3, bv_some, m_layB (PF_b f3), bv_some]
    by_cases h60 : mk tx L p1 60 = true
    · obtain ⟨q, wM', g1, g2, g3⟩ := main (-13) (by decide) (by decide) (mk_lt r1.2.2.1 h60)
      have ec : a1 45 7 = 60 := by rw [c60]; exact h60
      refine ⟨q, wM', ?_, fun k => ?_, g3⟩
      · rw [br_pos ec, K_Reader_readTest_44_32, ec]
        simp only [br_neg (fun z : ¬ True => z trivial)]
        exact g1
      · rw [eb1, bv_some, m60, if_pos h60, bp_some, br_pos (by decide), K_M_readNot_63, m60, if_pos h60, bp_some, br_neg (by decide)]
        exact g2 k
    · have ec : ¬ a1 45 7 = 60 := by rw [c60]; exact h60
      by_cases h61 : mk tx L p1 61 = true
      · obtain ⟨q, wM', g1, g2, g3⟩ := main (-14) (by decide) (by decide) (mk_lt r1.2.2.1 h61)
        have ec' : a1 45 7 = 61 := by rw [c61]; exact h61
        refine ⟨q, wM', ?_, fun k => ?_, g3⟩
        · rw [br_neg ec, br_pos ec', K_Reader_readTest_44_32, ec']
          simp only [br_pos (by decide : ¬ (61 : Int32) = 60)]
          exact g1
        · rw [eb1, bv_some, m60, if_neg h60, bp_some, br_neg (fun z => z rfl), m61, if_pos h61, bp_some, br_neg (by decide), K_M_readNot_63, m60, if_neg h60, bp_some, br_pos rfl]
          exact g2 k
      · refine ⟨(1, a1), b1, ?_, fun k => ?_, fa1, fb1, Or.inl ⟨rfl, p1, n1, hp1, hn1, r1⟩⟩
        · rw [br_neg ec, br_neg (by rw [c61]; exact h61)]
        · rw [eb1, bv_some, m60, if_neg h60, bp_some, br_neg (fun z => z rfl), m61, if_neg h61, bp_some, br_pos rfl]
  · refine ⟨(0, a1), b1, ?_, fun k => ?_, fa1, fb1, Or.inr ⟨rfl, f1⟩⟩
    · rw [br_neg (fun z => z rfl)]
    · rw [eb1, bv_some, m_mkB (PF_b f1), bp_some, br_neg (fun z => z rfl), m_mkB (PF_b f1), bp_some, br_pos rfl]
theorem m_putsB {rx : Wld → Int32 → Option Wld} {wM : Wld} (hb : ¬ wM 0 21 = 0) {k : Nat} (hk : k < 100) : K_M_readNot_94 rx (jn k) wM = some wM := by
  have main : ∀ j i, j + i = k → loop (B_M_readNot_96 rx (jn k)) (jn i, wM) = some wM := by
    intro j
    induction j with
    | zero =>
      intro i hi
      have : i = k := by omega
      subst this
      rw [loop_eq, B_M_readNot_96, br_pos (show jn i ≤ jn i by rw [jn_le (by omega) (by omega)]; omega)]
    | succ j ih =>
      intro i hi
      rw [loop_eq, B_M_readNot_96]
      simp only
      rw [br_neg (by rw [jn_le (by omega) (by omega)]; omega), m_layB hb, bv_some, bi_eq, jn_1a]
      exact ih (i + 1) (by omega)
  rw [K_M_readNot_94, show loop (B_M_readNot_96 rx (jn k)) (0, wM) = _ from main k 0 (by omega), bl_some]
theorem p_puts {wR : Wld} {tx : Nat → Nat} {L p D : Nat} (rxC : Wld → Int32 → Option (Int32 × Wld)) (rxM : Wld → Int32 → Option Wld) {k : Nat} (hk : k < 100) : ∀ j i n wC wM, j + i = k → PR wR tx L wC wM p n (D + 1) → n + j ≤ p → Ret2 (loop (B_Reader_readNot_44_71 rxC (jn k)) (jn i, wC)) (loop (B_M_readNot_96 rxM (jn k)) (jn i, wM)) (fun x y => Frm [51] KCe wC x ∧ Frm [11] KMe wM y ∧ PR wR tx L x y p (n + j) (D + 1)) := by
  intro j
  induction j with
  | zero =>
    intro i n wC wM hi r hn
    have : i = k := by omega
    subst this
    refine ⟨wC, wM, ?_, ?_, frm_rf, frm_rf, r⟩
    · rw [loop_eq, B_Reader_readNot_44_71, br_pos (show jn i ≤ jn i by rw [jn_le (by omega) (by omega)]; omega)]
    · rw [loop_eq, B_M_readNot_96, br_pos (show jn i ≤ jn i by rw [jn_le (by omega) (by omega)]; omega)]
  | succ j ih =>
    intro i n wC wM hi r hn
    obtain ⟨a1, b1, ea1, eb1, fa1, fb1, r1⟩ := both_put r (by omega) (s := -10) (Or.inr (Or.inl ⟨rfl, by omega⟩))
    have hda : dAf (-10) (D + 1) = D + 1 := by unfold dAf; rw [if_neg (by decide), if_pos rfl]
    rw [hda] at r1
    obtain ⟨x, y, ex, ey, fx, fy, r2⟩ := ih (i + 1) (n + 1) a1 b1 (by omega) r1 (by omega)
    refine ⟨x, y, ?_, ?_, frm_tr fa1 fx, frm_tr fb1 fy, ?_⟩
    · rw [loop_eq, B_Reader_readNot_44_71]
      simp only
      rw [br_neg (by rw [jn_le (by omega) (by omega)]; omega), ea1, bv_some, bi_eq, jn_1a]
      exact ex
    · rw [loop_eq, B_M_readNot_96]
      simp only
      rw [br_neg (by rw [jn_le (by omega) (by omega)]; omega), show F_M_lay wM (-28) = _ from eb1, bv_some, bi_eq, jn_1a]
      exact ey
    · rw [show n + (j + 1) = n + 1 + j by omega]; exact r2
theorem p_not {wR : Wld} {tx : Nat → Nat} {L : Nat} {rxC : Wld → Int32 → Option (Int32 × Wld)} {rxM : Wld → Int32 → Option Wld} {a : Nat} (hx : HX wR tx L rxC rxM a) (ha : a ≤ 5) {wC wM : Wld} {p n D : Nat} (r : PR wR tx L wC wM p n D) (hD : D ≤ 5 * a + 2) : Ret2 (F_Reader_readNot_44 rxC wC (jn a)) (F_M_readNot rxM wM (jn a)) (POut wR tx L wC wM p n D) := by
  have hnp := r.2.2.2.2.2.2.2
  obtain ⟨k, p1, x, y, e1, e2, e3, e4, e5, e6, e7, e8⟩ := p_nots rxC rxM (jn a) 6 0 rfl p wC wM r
  have hwl := c_wlt e7.2.2.2.1
  have hc : (Int32.toNatClampNeg (x 45 5) = 11) = (wsB tx L p1 15 = true) := c_ws e7.2.2.2.1 (i := 11) (by omega) (by omega)
  rw [F_Reader_readNot_44, show loop (B_Reader_readNot_44_2 rxC (jn a)) (0, wC) = _ from e1, bl_some, F_M_readNot]
  simp only
  rcases e8 with ⟨g1, g2⟩ | ⟨g1, g2, g3⟩
  · rw [show loop (B_M_readNot_2 rxM (jn a)) (0, wM) = _ from g2, bl_some]
    have toK : br (¬ jn k = 6) (K_Reader_readNot_44_59 rxC (jn a) (jn k) x) (gd (Int32.toNatClampNeg (x 45 5) < 19) (gd (Int32.toNatClampNeg (11 : Int32) < 19) (br (¬ Int32.toNatClampNeg (x 45 5) = Int32.toNatClampNeg (11 : Int32)) (K_Reader_readNot_44_59 rxC (jn a) (jn k) x) (bd (F_Reader_failed_44 x 2) (fun i9 w10 => gd (i9 = 0 ∨ i9 = 1) (some ((i9, w10)))))))) = K_Reader_readNot_44_59 rxC (jn a) (jn k) x := by
      by_cases hk6 : jn k = 6
      · rw [br_neg (fun z => z hk6), gd_pos hwl, gd_pos (by decide), cl_11, br_pos (by rw [hc]; exact g1)]
      · rw [br_pos hk6]
    rw [toK]
    obtain ⟨⟨v, a2⟩, b2, ea2, eb2, fa2, fb2, res⟩ := p_test hx ha e7 hD
    simp only at fa2 res
    show Ret2 _ (mTest rxM (jn a) (jn k) y) _
    rw [eb2, K_Reader_readNot_44_59, ea2, bd_some]
    simp only
    rcases res with ⟨rfl, p2, n2, hp2, hn2, r2⟩ | ⟨rfl, f2⟩
    · obtain ⟨x3, y3, ex3, ey3, fx3, fy3, r3⟩ := p_puts rxC rxM (k := k) (by omega) k 0 n2 a2 b2 rfl r2 (by omega)
      refine ⟨(1, x3), y3, ?_, ?_, frm_tr e5 (frm_tr fa2 fx3), frm_tr e6 (frm_tr fb2 fy3), Or.inl ⟨rfl, p2, n2 + k, by omega, by omega, r3⟩⟩
      · rw [br_pos (by decide), show loop (B_Reader_readNot_44_71 rxC (jn k)) (0, a2) = _ from ex3, bl_some]
      · rw [K_M_readNot_94, show loop (B_M_readNot_96 rxM (jn k)) (0, b2) = _ from ey3, bl_some]
    · refine ⟨(0, a2), b2, ?_, m_putsB (PF_b f2) (by omega), frm_tr e5 fa2, frm_tr e6 fb2, Or.inr ⟨rfl, f2⟩⟩
      rw [br_neg (fun z => z rfl)]
  · subst g1
    have hb : ¬ (wup (wup y 0 21 2) 0 22 (y 0 19)) 0 21 = 0 := by rw [wup_s2 _ _ _ (by decide), wup_s1]; decide
    rw [show loop (B_M_readNot_2 rxM (jn a)) (0, wM) = _ from g3, bl_some]
    simp only
    refine ⟨(0, wup (wup x 44 5 2) 44 6 (x 45 3)), wup (wup y 0 21 2) 0 22 (y 0 19), ?_, ?_, frm_tr e5 (frm_wup (frm_wup frm_rf _ _ _ rfl) _ _ _ rfl), frm_tr e6 (frm_wup (frm_wup frm_rf _ _ _ rfl) _ _ _ rfl), Or.inr ⟨rfl, fail_PF e7 (by decide)⟩⟩
    · rw [br_neg (show ¬ ¬ jn 6 = 6 from fun z => z rfl), gd_pos hwl, gd_pos (by decide), cl_11, br_neg (by rw [hc]; exact fun z => z g2), c_failed, bd_some, gd_pos (Or.inl rfl)]
    · rw [m_sumB hb, bv_some, m_mkB hb, bp_some, br_neg (fun z => z rfl), m_mkB hb, bp_some, br_pos rfl, m_putsB hb (by omega)]
theorem m_notB {rx : Wld → Int32 → Option Wld} {a : Int32} {wM : Wld} (hb : ¬ wM 0 21 = 0) : F_M_readNot rx wM a = some wM := by
  rw [F_M_readNot, loop_eq, B_M_readNot_2]
  simp only
  rw [m_isB hb (by omega), bp_some, br_pos rfl, bl_some]
  simp only
  rw [m_sumB hb, bv_some, m_mkB hb, bp_some, br_neg (fun z => z rfl), m_mkB hb, bp_some, br_pos rfl, show K_M_readNot_94 rx 0 wM = _ from m_putsB (k := 0) hb (by omega)]
theorem c_notN {wR : Wld} {tx : Nat → Nat} {L : Nat} {wC wM : Wld} {p n D : Nat} (r : PR wR tx L wC wM p n D) (h1 : ¬ kd tx L p = 1) (h2 : ¬ kd tx L p = 2) (hP : ¬ mk tx L p 40 = true) (rx : Wld → Int32 → Option (Int32 × Wld)) (a : Int32) : F_Reader_readNot_44 rx wC a = some (0, wup (wup wC 44 5 1) 44 6 (wC 45 3)) := by
  have hwl := c_wlt r.2.2.2.1
  have hw : ¬ wsB tx L p 15 = true := by
    intro z
    unfold wsB at z
    rw [Bool.and_eq_true, decide_eq_true_eq] at z
    exact h1 z.1
  have hc : (Int32.toNatClampNeg (wC 45 5) = 11) = (wsB tx L p 15 = true) := c_ws r.2.2.2.1 (i := 11) (by omega) (by omega)
  rw [F_Reader_readNot_44, loop_eq, B_Reader_readNot_44_2]
  simp only
  rw [br_neg (by decide), gd_pos hwl, gd_pos (by decide), cl_11, br_pos (by rw [hc]; exact hw), bl_some]
  simp only
  rw [br_pos (by decide), K_Reader_readNot_44_59, F_Reader_readTest_44, c_sumN r h1 h2 hP, bd_some]
  simp only
  rw [br_neg (fun z => z trivial), bd_some]
  simp only
  rw [br_neg (fun z => z trivial)]
