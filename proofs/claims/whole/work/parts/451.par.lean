/-! ===== the line of a monk ===== -/
theorem b_monk {wR : Wld} {tx : Nat → Nat} {L : Nat} {wC wM : Wld} {p n D nr nm b : Nat} (r : LR wR tx L wC wM p n D nr nm b) (hpL : p < L) {o : Nat} (ho : o < 4) : ∃ q wM', F_Reader_readMonk_44 wC (jn o) = some q ∧ F_M_sayMonk wM (jn o) = some wM' ∧ BOut wR tx L wC wM p b q wM' := by
  obtain ⟨r1, x, hd⟩ := r
  have x0 := x
  obtain ⟨x1, x2, x3, x4, x5, x6, x7, x8, x9, x10, x11, x12, x13, x14, x15, x16, x17, x18⟩ := x0
  have r6 := r1.2.2.2.2.2.1
  have man := m_anM x2 x10 r6
  have v5 : vp_in (5 : Int32) 10 := vpK (k := 5) (by omega) (by omega)
  have c5 : Int32.toNatClampNeg (5 : Int32) = 5 := rfl
  have v6 : vp_in (6 : Int32) 10 := vpK (k := 6) (by omega) (by omega)
  have c6 : Int32.toNatClampNeg (6 : Int32) = 6 := rfl
  by_cases hn8 : nm < 8
  · have vm : vp_in (jn (8 + nm)) 16 := vpK (by omega) (by omega)
    have cm : Int32.toNatClampNeg (jn (8 + nm)) = 8 + nm := jn_clamp (by omega)
    have va : vp_in (jn nm) 8 := vpK (by omega) (by omega)
    have va' : vp_in (jn nm) 53 := vpK (by omega) (by omega)
    have ca : Int32.toNatClampNeg (jn nm) = nm := jn_clamp (by omega)
    have vb : vp_in (jn (8 + nm)) 53 := vpK (by omega) (by omega)
    have vc : vp_in (jn (16 + nm)) 53 := vpK (by omega) (by omega)
    have cc : Int32.toNatClampNeg (jn (16 + nm)) = 16 + nm := jn_clamp (by omega)
    have k97 : ∀ (v : Int32) (w : Wld), K_M_sayMonk_97 (jn (8 + nm)) v w = some (wup (wup w 10 (8 + nm) v) 3 6 ((wup w 10 (8 + nm) v) 3 6 + 1)) := by
      intro v w
      rw [K_M_sayMonk_97, gd_pos vm, cm, bw_eq, gd_pos v6, gd_pos v6, c6, bw_eq]
    have k86 : ∀ (v : Int32) (w : Wld), ¬ w 0 21 = 0 → K_M_sayMonk_86 (jn (8 + nm)) v w = some (wup (wup w 10 (8 + nm) v) 3 6 ((wup w 10 (8 + nm) v) 3 6 + 1)) := by
      intro v w hb
      rw [K_M_sayMonk_86, br_pos hb, k97]
    have nnB : ∀ w : Wld, ¬ w 0 21 = 0 → F_M_numberNow w 0 9999 = some (0, w) := by
      intro w hb
      rw [F_M_numberNow, br_neg hb]
    obtain ⟨a1, b1, ea1, eb1, fa1, fb1, p1, hp1, s1⟩ := both_step r1 hpL
    have e36 : b1 3 6 = jn nm := (fb1 3 6 rfl).trans x10
    obtain ⟨zC, hC0⟩ : ∃ z, F_Reader_readMonk_44 wC (jn o) = z := ⟨_, rfl⟩
    obtain ⟨zM, hM0⟩ : ∃ z, F_M_sayMonk wM (jn o) = z := ⟨_, rfl⟩
    have hC := hC0
    have hM := hM0
    rw [F_Reader_readMonk_44, bi_eq, x8, br_pos (by rw [li_8, jn_lt (by omega) (by omega)]; exact hn8), ea1, bv_some, gd_pos va, ca, bw_eq, li_8, li_16, jn_add, jn_add, jn_0a, cm, cc, ca] at hC
    rw [F_M_sayMonk, man.1 hn8, eb1, bv_some, bd_some] at hM
    simp only at hM
    rw [br_pos (by decide), gd_pos v6, c6, e36, li_8, jn_add, bi_eq, gd_pos vm, bw_eq, cm] at hM
    have s1' : PR wR tx L (wup a1 49 nm (jn o)) (wup b1 7 (8 + nm) (jn o)) p1 n D := PR_fr s1 (frm_wup frm_rf _ _ _ rfl) (frm_wup frm_rf _ _ _ rfl)
    obtain ⟨⟨v, a2⟩, ⟨v', b2⟩, ea2, eb2, fa2, fb2, res⟩ := both_num s1' (lo := 0) (hi := 99) (by omega) (by omega)
    simp only at fa2 fb2 res
    rw [show F_Reader_readNumber_44 (wup a1 49 nm (jn o)) 0 99 = _ from ea2, bd_some] at hC
    rw [show F_M_readNumber (wup b1 7 (8 + nm) (jn o)) 0 99 = _ from eb2, bd_some] at hM
    simp only at hC hM
    rw [gd_pos vm, bw_eq] at hM
    have FC2 : Frm [51] KCe (wup wC 49 nm (jn o)) a2 := frm_tr (frm_both (frm_up fa1 rfl) _ _ _) (frm_up fa2 rfl)
    have FM2 : Frm [11] KMe (wup wM 7 (8 + nm) (jn o)) b2 := frm_tr (frm_both (frm_up fb1 rfl) _ _ _) (frm_up fb2 rfl)
    have GC2 : Frm LLc [] wC a2 := frm_tr (frm_wup frm_rf _ _ _ rfl) (frm_up FC2 rfl)
    have GM2 : Frm LLm KLm wM b2 := frm_tr (frm_wup frm_rf _ _ _ rfl) (frm_up FM2 rfl)
    rcases res with ⟨rfl, y1, p2, -, hy1, ey1, rfl, hp2, s2⟩ | ⟨rfl, rfl, f2⟩
    · rw [br_pos (by decide), gd_pos va', bw_eq, ey1] at hC
      have s2' : PR wR tx L (wup a2 54 nm (jn y1)) (wup b2 8 (8 + nm) (jn y1)) p2 n D := PR_fr s2 (frm_wup frm_rf _ _ _ rfl) (frm_wup frm_rf _ _ _ rfl)
      obtain ⟨⟨v, a3⟩, ⟨v', b3⟩, ea3, eb3, fa3, fb3, res⟩ := both_num s2' (lo := 0) (hi := 9) (by omega) (by omega)
      simp only at fa3 fb3 res
      rw [show F_Reader_readNumber_44 (wup a2 54 nm (jn y1)) 0 9 = _ from ea3, bd_some] at hC
      rw [show F_M_readNumber (wup b2 8 (8 + nm) (jn y1)) 0 9 = _ from eb3, bd_some] at hM
      simp only at hC hM
      rw [gd_pos vm, bw_eq] at hM
      have FC3 : Frm [51] KCe (wup (wup wC 49 nm (jn o)) 54 nm (jn y1)) a3 := frm_tr (frm_both FC2 _ _ _) (frm_up fa3 rfl)
      have FM3 : Frm [11] KMe (wup (wup wM 7 (8 + nm) (jn o)) 8 (8 + nm) (jn y1)) b3 := frm_tr (frm_both FM2 _ _ _) (frm_up fb3 rfl)
      have GC3 : Frm LLc [] wC a3 := frm_tr (frm_wup (frm_wup frm_rf _ _ _ rfl) _ _ _ rfl) (frm_up FC3 rfl)
      have GM3 : Frm LLm KLm wM b3 := frm_tr (frm_wup (frm_wup frm_rf _ _ _ rfl) _ _ _ rfl) (frm_up FM3 rfl)
      rcases res with ⟨rfl, y2, p3, -, hy2, ey2, rfl, hp3, s3⟩ | ⟨rfl, rfl, f3⟩
      · rw [br_pos (by decide), gd_pos vb, bw_eq, ey2] at hC
        have s3' : PR wR tx L (wup a3 54 (8 + nm) (jn y2)) (wup b3 9 (8 + nm) (jn y2)) p3 n D := PR_fr s3 (frm_wup frm_rf _ _ _ rfl) (frm_wup frm_rf _ _ _ rfl)
        have FC4 : Frm [51] KCe (wup (wup (wup wC 49 nm (jn o)) 54 nm (jn y1)) 54 (8 + nm) (jn y2)) (wup a3 54 (8 + nm) (jn y2)) := frm_both FC3 _ _ _
        have FM4 : Frm [11] KMe (wup (wup (wup wM 7 (8 + nm) (jn o)) 8 (8 + nm) (jn y1)) 9 (8 + nm) (jn y2)) (wup b3 9 (8 + nm) (jn y2)) := frm_both FM3 _ _ _
        have GC4 : Frm LLc [] wC (wup a3 54 (8 + nm) (jn y2)) := frm_wup GC3 _ _ _ rfl
        have GM4 : Frm LLm KLm wM (wup b3 9 (8 + nm) (jn y2)) := frm_wup GM3 _ _ _ rfl
        generalize wup a3 54 (8 + nm) (jn y2) = a4 at hC s3' FC4 GC4
        generalize wup b3 9 (8 + nm) (jn y2) = b4 at hM s3' FM4 GM4
        have q6 := s3'.2.2.2.2.2.1
        have e470 : a4 47 0 = jn nr := by
          rw [FC4 47 0 rfl, wup_o _ _ _ (by decide), wup_o _ _ _ (by decide), wup_o _ _ _ (by decide)]; exact x7
        have e471 : a4 47 1 = jn nm := by
          rw [FC4 47 1 rfl, wup_o _ _ _ (by decide), wup_o _ _ _ (by decide), wup_o _ _ _ (by decide)]; exact x8
        have e350 : b4 3 5 = jn nr := by
          rw [FM4 3 5 rfl, wup_o _ _ _ (by decide), wup_o _ _ _ (by decide), wup_o _ _ _ (by decide)]; exact x9
        have e360 : b4 3 6 = jn nm := by
          rw [FM4 3 6 rfl, wup_o _ _ _ (by decide), wup_o _ _ _ (by decide), wup_o _ _ _ (by decide)]; exact x10
        have e456 := s3'.2.2.2.1.2.2.2.2.1
        obtain ⟨m1, m2⟩ := m_numNow s3' (lo := 0) (hi := 9999) (by omega) (by omega)
        obtain ⟨c1, c2⟩ := c_num s3' (lo := 0) (hi := 9999) (by omega) (by omega)
        by_cases hno : numOK tx L p3 0 9999
        · have hp3L := kd_lt s3'.2.2.1 (by rw [hno.1]; decide)
          have hv9 := hno.2.2.2
          rw [if_pos ⟨hno.1, hno.2.1⟩] at e456
          rw [show F_M_numberNow b4 0 9999 = _ from m1 hno, bd_some] at hM
          simp only at hM
          rw [br_neg (fun z => z q6), gd_pos v5, c5, e350] at hM
          rw [e456, e470] at hC
          generalize vl tx p3 (edT tx L p3 - p3) = y3 at hM hC hv9 c1
          by_cases hlt : y3 < nr
          · rw [br_pos (by rw [jn_lt (by omega) (by omega)]; exact hlt)] at hM hC
            obtain ⟨a5, b5, ea5, eb5, fa5, fb5, p5, hp5, s5⟩ := both_step (PR_taken s3' (jn y3)) hp3L
            rw [show F_Reader_readNumber_44 a4 0 9999 = _ from c1 hno, ea5, bv_some, bd_some] at hC
            simp only at hC
            have e444 : a5 44 4 = jn y3 := by rw [fa5 44 4 rfl, wup_s1]
            have FC5 : Frm [51] KCe a4 a5 := frm_tr (frm_wup frm_rf _ _ _ rfl) (frm_up fa5 rfl)
            have FM5 : Frm [11] KMe b4 b5 := frm_up fb5 rfl
            have e471' : (wup a5 54 (16 + nm) (jn y3)) 47 1 = jn nm := by rw [wup_o _ _ _ (by decide), FC5 47 1 rfl]; exact e471
            have e360' : (wup b5 10 (8 + nm) (jn y3)) 3 6 = jn nm := by rw [wup_o _ _ _ (by decide), FM5 3 6 rfl]; exact e360
            rw [br_pos (by decide), gd_pos vc, e444, bw_eq, e471', jn_1a, bw_eq] at hC
            rw [K_M_sayMonk_86, br_neg (fun z => z q6), eb5, bv_some, k97, e360', jn_1a] at hM
            refine ⟨_, _, hC0.trans hC.symm, hM0.trans hM.symm, frm_wup (frm_wup (frm_tr GC4 (frm_up FC5 rfl)) _ _ _ rfl) _ _ _ rfl, frm_wup (frm_wup (frm_tr GM4 (frm_up FM5 rfl)) _ _ _ rfl) _ _ _ rfl, Or.inl ⟨rfl, p5, n, D, nr, nm + 1, by omega, PR_fr s5 (frm_wup (frm_wup frm_rf _ _ _ rfl) _ _ _ rfl) (frm_wup (frm_wup frm_rf _ _ _ rfl) _ _ _ rfl), ?_, hd⟩⟩
            refine LX_fr ?_ (frm_both (frm_both (frm_tr FC4 FC5) _ _ _) _ _ _) (frm_both (frm_both (frm_tr FM4 FM5) _ _ _) _ _ _)
            refine ⟨x1, by omega, x3, ?_, ?_, ?_, ?_, ?_, ?_, ?_, ?_, ?_, fun r hr => ?_, fun m hm => ?_, fun m hm => ?_, ?_, ?_, ?_⟩
            all_goals simp (disch := omega) only [wup_s1, wup_s2, wup_o, wcp_o]
            all_goals first | assumption | skip
            · obtain ⟨z1, z2, z3, z4, z5, z6⟩ := x13 r hr
              unfold RoomR
              simp (disch := omega) only [wup_s1, wup_s2, wup_o, wcp_o]
              exact ⟨z1, z2, z3, z4, z5, z6⟩
            · unfold MonkR
              by_cases e : m = nm
              · subst e
                simp (disch := omega) only [wup_s1, wup_s2, wup_o, wcp_o]
                exact ⟨⟨o, ho, rfl⟩, trivial, trivial, ⟨y2, by omega, rfl⟩, trivial, ⟨y3, hlt, rfl⟩, trivial⟩
              · have hm' : m < nm := by omega
                simp (disch := omega) only [wup_s1, wup_s2, wup_o, wcp_o]
                exact x14 m hm'
            · exact x15 m hm
          · rw [br_neg (by rw [jn_lt (by omega) (by omega)]; exact hlt)] at hM hC
            have hb3 : ¬ (wup (wup b4 0 21 3) 0 22 (b4 0 19)) 0 21 = 0 := by rw [wup_s2 _ _ _ (by decide), wup_s1]; decide
            rw [c_failed, bd_some, gd_pos (Or.inl rfl)] at hC
            rw [m_wrong0 q6, bv_some, k86 _ _ hb3] at hM
            exact ⟨_, _, hC0.trans hC.symm, hM0.trans hM.symm, frm_wup (frm_wup GC4 _ _ _ rfl) _ _ _ rfl, frm_wup (frm_wup (frm_wup (frm_wup GM4 _ _ _ rfl) _ _ _ rfl) _ _ _ rfl) _ _ _ rfl, Or.inr ⟨rfl, PF_fr (fail_PF s3' (k := 3) (by decide)) frm_rf (frm_wup (frm_wup frm_rf _ _ _ rfl) _ _ _ rfl)⟩⟩
        · have hm1 : a4 45 6 = -1 := by
            rw [e456, if_neg]
            intro z
            exact hno ⟨z.1, z.2, Nat.zero_le _, vl_9 s3'.2.2.1 z.1 z.2⟩
          have hneg : (-1 : Int32) < jn nr := Int32.lt_of_lt_of_le (by decide : (-1 : Int32) < 0) (by rw [jn_0le (by omega)]; trivial)
          have hbb : ¬ (wup (wup b4 0 21 (if kd tx L p3 = 2 then 2 else 1)) 0 22 (b4 0 19)) 0 21 = 0 := by rw [wup_s2 _ _ _ (by decide), wup_s1]; exact kd_nz
          rw [hm1, e470, br_pos hneg, show F_Reader_readNumber_44 a4 0 9999 = _ from c2 hno, bd_some] at hC
          rw [show F_M_numberNow b4 0 9999 = _ from m2 hno, bd_some] at hM
          simp only at hC hM
          rw [br_neg (fun z => z trivial)] at hC
          rw [br_pos hbb, k86 _ _ hbb] at hM
          exact ⟨_, _, hC0.trans hC.symm, hM0.trans hM.symm, frm_wup (frm_wup GC4 _ _ _ rfl) _ _ _ rfl, frm_wup (frm_wup (frm_wup (frm_wup GM4 _ _ _ rfl) _ _ _ rfl) _ _ _ rfl) _ _ _ rfl, Or.inr ⟨rfl, PF_fr (fail_PF s3' kd_nz) frm_rf (frm_wup (frm_wup frm_rf _ _ _ rfl) _ _ _ rfl)⟩⟩
      · rw [br_neg (fun z => z rfl)] at hC
        have hbb : ¬ (wup b3 9 (8 + nm) 0) 0 21 = 0 := by rw [wup_o _ _ _ (by decide)]; exact PF_b f3
        rw [nnB _ hbb, bd_some] at hM
        simp only at hM
        rw [br_pos hbb, k86 _ _ hbb] at hM
        exact ⟨_, _, hC0.trans hC.symm, hM0.trans hM.symm, GC3, frm_wup (frm_wup (frm_wup GM3 _ _ _ rfl) _ _ _ rfl) _ _ _ rfl, Or.inr ⟨rfl, PF_fr f3 frm_rf (frm_wup (frm_wup (frm_wup frm_rf _ _ _ rfl) _ _ _ rfl) _ _ _ rfl)⟩⟩
    · rw [br_neg (fun z => z rfl)] at hC
      have hbb : ¬ (wup b2 8 (8 + nm) 0) 0 21 = 0 := by rw [wup_o _ _ _ (by decide)]; exact PF_b f2
      have hbb2 : ¬ (wup (wup b2 8 (8 + nm) 0) 9 (8 + nm) 0) 0 21 = 0 := by rw [wup_o _ _ _ (by decide)]; exact hbb
      rw [m_numB hbb, bd_some] at hM
      simp only at hM
      rw [gd_pos vm, bw_eq, nnB _ hbb2, bd_some] at hM
      simp only at hM
      rw [br_pos hbb2, k86 _ _ hbb2] at hM
      exact ⟨_, _, hC0.trans hC.symm, hM0.trans hM.symm, GC2, frm_wup (frm_wup (frm_wup (frm_wup GM2 _ _ _ rfl) _ _ _ rfl) _ _ _ rfl) _ _ _ rfl, Or.inr ⟨rfl, PF_fr f2 frm_rf (frm_wup (frm_wup (frm_wup (frm_wup frm_rf _ _ _ rfl) _ _ _ rfl) _ _ _ rfl) _ _ _ rfl)⟩⟩
  · refine ⟨(0, wup (wup wC 44 5 2) 44 6 (wC 45 3)), wup (wup wM 0 21 2) 0 22 (wM 0 19), ?_, ?_, frm_wup (frm_wup frm_rf _ _ _ rfl) _ _ _ rfl, frm_wup (frm_wup frm_rf _ _ _ rfl) _ _ _ rfl, Or.inr ⟨rfl, fail_PF r1 (k := 2) (by decide)⟩⟩
    · rw [F_Reader_readMonk_44, bi_eq, x8, br_neg (by rw [li_8, jn_lt (by omega) (by omega)]; exact hn8), c_failed, bd_some, gd_pos (Or.inl rfl)]
    · rw [F_M_sayMonk, man.2 hn8, bd_some]
      simp only
      rw [br_neg (fun z => z trivial)]
