/-! ===== a house ===== -/
noncomputable def mTail (r15 : Wld) : Option (Int32 × Wld) := br ((r15 0 21) = 0) (bv (F_M_takeOver r15) (fun w16 => some ((0, w16)))) (bw (wup r15 0 23 (r15 0 22)) (fun w17 => gd (vp_in 0 3) (gd (vp_in 0 3) (bw (wup w17 12 (Int32.toNatClampNeg 0) ((w17 12 (Int32.toNatClampNeg 0)) + (1 : Int32))) (fun w18 => some ((w18 0 21, w18)))))))
def KHb : List (Nat × Nat) := [(0, 2), (0, 14), (0, 15), (0, 16), (0, 17), (0, 18), (0, 19), (0, 20), (0, 21), (0, 23), (3, 5), (3, 6), (3, 7), (3, 8), (3, 9)]
theorem m_begin {w2 : Wld} {tx : Nat → Nat} {L t : Nat} (ht7 : t ≤ 700) (hLt : L ≤ t) (h14 : w2 0 14 = jn t) (ht : ∀ k, k < L → tx k < 256 ∧ w2 13 k = jn (tx k)) : ∃ wM, F_M_house w2 (jn L) = bl (loop B_M_house_96 (0, wM)) (fun r15 => mTail r15) ∧ Frm [] KHb w2 wM ∧ MTx wM tx L ∧ MTk wM tx L (nxt tx L 0) ∧ (wM 0 21 = 0 ∧ wM 3 5 = 0 ∧ wM 3 6 = 0 ∧ wM 3 7 = 20 ∧ wM 3 8 = 10 ∧ wM 3 9 = 0) ∧ wM 0 2 = 0 ∧ wM 0 14 = 0 ∧ wM 0 23 = -1 := by
  have e14 : (wup w2 0 2 0) 0 14 = jn t := by rw [wup_s2 _ _ _ (by decide)]; exact h14
  rw [F_M_house, bw_eq, br_neg (by rw [jn_neg0 (by omega)]; exact id), e14, br_pos (by rw [jn_le (by omega) (by omega)]; exact hLt), bw_eq, bw_eq, bw_eq, bw_eq, bw_eq, m_fill, bl_some]
  have fA : Frm [] KHb w2 (wup (wup (wup (wup (wup (wup w2 0 2 0) 0 14 0) 0 16 (jn L)) 0 15 0) 0 21 0) 0 23 (-1)) := frm_wup (frm_wup (frm_wup (frm_wup (frm_wup (frm_wup frm_rf _ _ _ rfl) _ _ _ rfl) _ _ _ rfl) _ _ _ rfl) _ _ _ rfl) _ _ _ rfl
  have z1 : (wup (wup (wup (wup (wup (wup w2 0 2 0) 0 14 0) 0 16 (jn L)) 0 15 0) 0 21 0) 0 23 (-1)) 0 2 = 0 := by simp (disch := omega) only [wup_s1, wup_s2, wup_o, wcp_o]
  have z2 : (wup (wup (wup (wup (wup (wup w2 0 2 0) 0 14 0) 0 16 (jn L)) 0 15 0) 0 21 0) 0 23 (-1)) 0 14 = 0 := by simp (disch := omega) only [wup_s1, wup_s2, wup_o, wcp_o]
  have z3 : (wup (wup (wup (wup (wup (wup w2 0 2 0) 0 14 0) 0 16 (jn L)) 0 15 0) 0 21 0) 0 23 (-1)) 0 16 = jn L := by simp (disch := omega) only [wup_s1, wup_s2, wup_o, wcp_o]
  have z4 : (wup (wup (wup (wup (wup (wup w2 0 2 0) 0 14 0) 0 16 (jn L)) 0 15 0) 0 21 0) 0 23 (-1)) 0 15 = 0 := by simp (disch := omega) only [wup_s1, wup_s2, wup_o, wcp_o]
  have z5 : (wup (wup (wup (wup (wup (wup w2 0 2 0) 0 14 0) 0 16 (jn L)) 0 15 0) 0 21 0) 0 23 (-1)) 0 21 = 0 := by simp (disch := omega) only [wup_s1, wup_s2, wup_o, wcp_o]
  have z6 : (wup (wup (wup (wup (wup (wup w2 0 2 0) 0 14 0) 0 16 (jn L)) 0 15 0) 0 21 0) 0 23 (-1)) 0 23 = -1 := wup_s1 _ _ _ _
  generalize wup (wup (wup (wup (wup (wup w2 0 2 0) 0 14 0) 0 16 (jn L)) 0 15 0) 0 21 0) 0 23 (-1) = wA at fA z1 z2 z3 z4 z5 z6 ⊢
  have fB : Frm [] [(3, 5), (3, 6), (3, 7), (3, 8), (3, 9)] wA (wup (wup (wup (wup (wup wA 3 5 0) 3 6 0) 3 7 20) 3 8 10) 3 9 0) := frm_wup (frm_wup (frm_wup (frm_wup (frm_wup frm_rf _ _ _ rfl) _ _ _ rfl) _ _ _ rfl) _ _ _ rfl) _ _ _ rfl
  have y1 : (wup (wup (wup (wup (wup wA 3 5 0) 3 6 0) 3 7 20) 3 8 10) 3 9 0) 3 5 = 0 := by simp (disch := omega) only [wup_s1, wup_s2, wup_o, wcp_o]
  have y2 : (wup (wup (wup (wup (wup wA 3 5 0) 3 6 0) 3 7 20) 3 8 10) 3 9 0) 3 6 = 0 := by simp (disch := omega) only [wup_s1, wup_s2, wup_o, wcp_o]
  have y3 : (wup (wup (wup (wup (wup wA 3 5 0) 3 6 0) 3 7 20) 3 8 10) 3 9 0) 3 7 = 20 := by simp (disch := omega) only [wup_s1, wup_s2, wup_o, wcp_o]
  have y4 : (wup (wup (wup (wup (wup wA 3 5 0) 3 6 0) 3 7 20) 3 8 10) 3 9 0) 3 8 = 10 := by simp (disch := omega) only [wup_s1, wup_s2, wup_o, wcp_o]
  have y5 : (wup (wup (wup (wup (wup wA 3 5 0) 3 6 0) 3 7 20) 3 8 10) 3 9 0) 3 9 = 0 := wup_s1 _ _ _ _
  generalize wup (wup (wup (wup (wup wA 3 5 0) 3 6 0) 3 7 20) 3 8 10) 3 9 0 = wB at fB y1 y2 y3 y4 y5 ⊢
  have e13 : wB 13 = w2 13 := by rw [frm_cell fB 13 (fun _ => rfl), frm_cell fA 13 (fun _ => rfl)]
  have mt : MTx wB tx L := ⟨(fB 0 16 rfl).trans z3, by omega, fun k hk => ⟨(ht k hk).1, by rw [e13]; exact (ht k hk).2⟩⟩
  obtain ⟨wM, eM, fM, tM⟩ := m_tstep mt (e0 := 0) ((fB 0 15 rfl).trans z4) (Nat.zero_le _)
  rw [eM, bv_some]
  refine ⟨wM, rfl, frm_tr fA (frm_tr (frm_up fB rfl) (frm_up fM rfl)), MTx_fr mt fM ⟨rfl, fun _ => rfl⟩, tM, ⟨?_, ?_, ?_, ?_, ?_, ?_⟩, ?_, ?_, ?_⟩
  · rw [fM 0 21 rfl, fB 0 21 rfl]; exact z5
  · rw [fM 3 5 rfl]; exact y1
  · rw [fM 3 6 rfl]; exact y2
  · rw [fM 3 7 rfl]; exact y3
  · rw [fM 3 8 rfl]; exact y4
  · rw [fM 3 9 rfl]; exact y5
  · rw [fM 0 2 rfl, fB 0 2 rfl]; exact z1
  · rw [fM 0 14 rfl, fB 0 14 rfl]; exact z2
  · rw [fM 0 23 rfl, fB 0 23 rfl]; exact z6
/-- both sides through the text -/
theorem house_run {w2 wC : Wld} {tx : Nat → Nat} {L t : Nat} (ht7 : t ≤ 700) (hLt : L ≤ t) (h14 : w2 0 14 = jn t) (ht : ∀ k, k < L → tx k < 256 ∧ w2 13 k = jn (tx k)) (ct : CTx wC tx L) (ck : CTk wC tx L (nxt tx L 0)) (c1 : wC 50 2 = 0) (c2 : wC 47 0 = 0) (c3 : wC 47 1 = 0) (c4 : wC 47 2 = 20) (c5 : wC 47 3 = 10) (c6 : wC 44 1 = 0) (c7 : wC 44 2 = 0) (c8 : wC 44 3 = 0) (c9 : ∀ i, i < 53 → wC 54 i = 0) : ∃ wM wM', F_M_house w2 (jn L) = mTail wM' ∧ Frm [] KHb w2 wM ∧ (wM 0 2 = 0 ∧ wM 0 14 = 0 ∧ wM 0 23 = -1) ∧ Frm LLm KLm wM wM' ∧ ((∃ wC' p' n' D' nr' nm' b', loop B_Reader_readText_44_43_8 (0, wC) = some (.inl wC') ∧ Frm LLc [] wC wC' ∧ LR wM tx L wC' wM' p' n' D' nr' nm' b') ∨ (∃ wC', loop B_Reader_readText_44_43_8 (0, wC) = some (.inr (wC' 44 5, wC')) ∧ Frm LLc [] wC wC' ∧ PF wM wC' wM')) := by
  obtain ⟨wM, eM, fM, mt, mk, ⟨m1, m2, m3, m4, m5, m6⟩, m7⟩ := m_begin ht7 hLt h14 ht
  have hnx := nxt_b (tx := tx) (L := L) (s := 0) (Nat.zero_le _)
  have lr : LR wM tx L wC wM (nxt tx L 0) 0 0 0 0 0 := by
    refine ⟨⟨ct, mt, hnx.2, ck, mk, m1, ⟨c1, m6, fun k hk => absurd hk (Nat.not_lt_zero k), fun k hk => absurd hk (Nat.not_lt_zero k), rfl, LoK_rf⟩, Nat.zero_le _⟩, ?_, fun _ => rfl⟩
    refine ⟨by omega, by omega, by omega, c6, c7, c8, c2, c3, m2, m3, m4.trans c4.symm, m5.trans c5.symm, fun r hr => absurd hr (Nat.not_lt_zero r), fun r hr => absurd hr (Nat.not_lt_zero r), fun m hm => c9 _ (by omega), c9 _ (by omega), c9 _ (by omega), c9 _ (by omega)⟩
  obtain ⟨wM', g1, g2, g3⟩ := p_text (L - nxt tx L 0) (nxt tx L 0) (Nat.le_refl _) 0 0 0 0 0 0 wC wM lr (Nat.zero_le _)
  refine ⟨wM, wM', ?_, fM, m7, g2, g3⟩
  rw [eM, show loop B_M_house_96 (0, wM) = _ from g1, bl_some]
theorem c_textY {w wC wC' a : Wld} {L : Int32} (hb : F_Reader_begin_44_43 w L = some wC) (hl : loop B_Reader_readText_44_43_8 (0, wC) = some (.inl wC')) (hd : loop B_Reader_readText_44_43_45 (0, wC') = some a) : F_Reader_readText_44_43 w L = some (0, a) := by
  rw [F_Reader_readText_44_43, hb, bv_some, hl, bx_inl, hd, bl_some]
theorem c_textN {w wC wC' : Wld} {L : Int32} (hb : F_Reader_begin_44_43 w L = some wC) (hl : loop B_Reader_readText_44_43_8 (0, wC) = some (.inr (wC' 44 5, wC'))) : F_Reader_readText_44_43 w L = some (wC' 44 5, wC') := by
  rw [F_Reader_readText_44_43, hb, bv_some, hl, bx_inr]
def LHo : List Nat := [3, 4, 5, 6, 7, 8, 9, 10, 11, 12, 41, 44, 45, 46, 47, 48, 49, 50, 51, 54, 73]
def KHo : List (Nat × Nat) := [(0, 2), (0, 14), (0, 15), (0, 16), (0, 17), (0, 18), (0, 19), (0, 20), (0, 21), (0, 22), (0, 23), (42, 1), (42, 2)]
/-- a faulty text -/
theorem RelH_fault {w p : Wld} {h : Hs} (r : RelH w h) (f : Frm LHo KHo w p) (k : LoK w p) (u : RU p) (t : RT p) : RelH p h := by
  obtain ⟨r1, r2, r3, r4, r5, r6, r7, r8, r9⟩ := r
  have e66 : p 66 = w 66 := frm_cell f 66 (fun _ => rfl)
  have hN := r1.1
  have hM := r1.2.1
  have hLl := r1.2.2.2.2.1
  refine ⟨r1, CHs_fr r2 f ⟨rfl, rfl, rfl, rfl, fun _ => rfl, fun _ => rfl, rfl, fun _ => rfl⟩, ?_, ?_, RA_fr r5 f ⟨rfl, rfl, fun _ => rfl, rfl, fun _ => rfl⟩, RE_fr r6 f ⟨rfl, fun _ => rfl, fun _ => rfl, fun _ => rfl, rfl, fun _ => rfl, fun _ => rfl, fun _ => rfl⟩, u, RI_fr r8 f ⟨rfl, rfl, fun _ => rfl, fun _ => rfl, rfl, rfl, fun _ => rfl, rfl, fun _ => rfl, rfl, fun _ => rfl, fun _ => rfl, fun _ => rfl, rfl, fun _ => rfl, fun _ => rfl, fun _ => rfl, fun _ => rfl, fun _ => rfl⟩, t⟩
  · obtain ⟨b0, b1, b2, b3, b4, b5, b6, b7⟩ := r3
    refine ⟨?_, ?_, ?_, ?_, ?_, fun r hr => ?_, fun m hm => ?_, fun j hj => ?_⟩
    · rw [k 3 0 (Or.inl ⟨rfl, by omega⟩)]; exact b0
    · rw [k 3 1 (Or.inl ⟨rfl, by omega⟩)]; exact b1
    · rw [k 3 2 (Or.inl ⟨rfl, by omega⟩)]; exact b2
    · rw [k 3 3 (Or.inl ⟨rfl, by omega⟩)]; exact b3
    · rw [k 3 4 (Or.inl ⟨rfl, by omega⟩)]; exact b4
    · rw [k 4 r (Or.inr (Or.inl ⟨rfl, by omega⟩))]; exact b5 r hr
    · rw [k 7 m (Or.inr (Or.inr (Or.inl ⟨rfl, by omega⟩)))]; exact b6 m hm
    · rw [k 11 j (Or.inr (Or.inr (Or.inr ⟨rfl, by omega⟩)))]; exact b7 j hj
  · unfold RS
    rw [e66]
    exact ⟨r4.1, MSt_fr r4.2 f ⟨fun _ => rfl, fun _ => rfl, fun _ => rfl, fun _ => rfl, fun _ => rfl, fun _ => rfl, rfl, rfl, rfl⟩⟩
theorem md_lt {nr x : Nat} (hn : nr ≤ 9) (h0 : 0 < nr) (hx : x < 9) : ∃ y, y < nr ∧ md (jn x) nr = jn y := ⟨x % nr, Nat.mod_lt _ h0, jn_mod (by omega) (by omega)⟩
