/-- as bp_some, but no step that the kernel must find by itself -/
theorem bq_some {α : Type} {t : Int32} {f : Int32 → Option α} : bp (some t) f = f t := Eq.trans bp_some rfl
/-! ===== one number of a state is another ===== -/
section UpdS
variable {h : Hs} {c : Sta}
theorem GdS_other (hh : GdH h) (g : GdS h c) {i : Nat} (v : Int32) (h1 : i < 8 ∨ i = 52) : GdS h (upd c i v) := by
  have hN := hh.1
  have hM := hh.2.1
  obtain ⟨g1, g2, g3, g4, g5, g6, g7⟩ := g
  refine ⟨fun m hm => ?_, fun r hr => ?_, fun r hr => ?_, fun m hm => ?_, fun m hm => ?_, ?_, ?_⟩
  · rw [upd_2 _ _ (by omega)]; exact g1 m hm
  · rw [upd_2 _ _ (by omega)]; exact g2 r hr
  · rw [upd_2 _ _ (by omega)]; exact g3 r hr
  · rw [upd_2 _ _ (by omega)]; exact g4 m hm
  · rw [upd_2 _ _ (by omega)]; exact g5 m hm
  · rw [upd_2 _ _ (by omega)]; exact g6
  · rw [upd_2 _ _ (by omega)]; exact g7
theorem GdS_fish (hh : GdH h) (g : GdS h c) {m x : Nat} (hm9 : m < 8) (hx : x < 10) : GdS h (upd c (8 + m) (jn x)) := by
  have hN := hh.1
  have hM := hh.2.1
  obtain ⟨g1, g2, g3, g4, g5, g6, g7⟩ := g
  refine ⟨fun m hm => ?_, fun r hr => ?_, fun r hr => ?_, fun n hn => ?_, fun m hm => ?_, ?_, ?_⟩
  · rw [upd_2 _ _ (by omega)]; exact g1 m hm
  · rw [upd_2 _ _ (by omega)]; exact g2 r hr
  · rw [upd_2 _ _ (by omega)]; exact g3 r hr
  · by_cases he : n = m
    · subst he; rw [upd_1]; exact ⟨x, hx, rfl⟩
    · rw [upd_2 _ _ (by omega)]; exact g4 n hn
  · rw [upd_2 _ _ (by omega)]; exact g5 m hm
  · rw [upd_2 _ _ (by omega)]; exact g6
  · rw [upd_2 _ _ (by omega)]; exact g7
theorem GdS_tied (hh : GdH h) (g : GdS h c) {x : Nat} (hx : x < 256) : GdS h (upd c 50 (jn x)) := by
  have hN := hh.1
  have hM := hh.2.1
  obtain ⟨g1, g2, g3, g4, g5, g6, g7⟩ := g
  refine ⟨fun m hm => ?_, fun r hr => ?_, fun r hr => ?_, fun n hn => ?_, fun m hm => ?_, ?_, ?_⟩
  · rw [upd_2 _ _ (by omega)]; exact g1 m hm
  · rw [upd_2 _ _ (by omega)]; exact g2 r hr
  · rw [upd_2 _ _ (by omega)]; exact g3 r hr
  · rw [upd_2 _ _ (by omega)]; exact g4 n hn
  · rw [upd_2 _ _ (by omega)]; exact g5 m hm
  · rw [upd_1]; exact ⟨x, hx, rfl⟩
  · rw [upd_2 _ _ (by omega)]; exact g7
theorem GdS_room (hh : GdH h) (g : GdS h c) {m x : Nat} (hm9 : m < 8) (hx : x < hsN h) : GdS h (upd c (16 + m) (jn x)) := by
  have hN := hh.1
  have hM := hh.2.1
  obtain ⟨g1, g2, g3, g4, g5, g6, g7⟩ := g
  refine ⟨fun n hn => ?_, fun r hr => ?_, fun r hr => ?_, fun n hn => ?_, fun m hm => ?_, ?_, ?_⟩
  · by_cases he : n = m
    · subst he; rw [upd_1]; exact ⟨x, hx, rfl⟩
    · rw [upd_2 _ _ (by omega)]; exact g1 n hn
  · rw [upd_2 _ _ (by omega)]; exact g2 r hr
  · rw [upd_2 _ _ (by omega)]; exact g3 r hr
  · rw [upd_2 _ _ (by omega)]; exact g4 n hn
  · rw [upd_2 _ _ (by omega)]; exact g5 m hm
  · rw [upd_2 _ _ (by omega)]; exact g6
  · rw [upd_2 _ _ (by omega)]; exact g7
theorem GdS_door (hh : GdH h) (g : GdS h c) {r x : Nat} (hr9 : r < 9) (hx : x < hsN h) : GdS h (upd c (32 + r) (jn x)) := by
  have hN := hh.1
  have hM := hh.2.1
  obtain ⟨g1, g2, g3, g4, g5, g6, g7⟩ := g
  refine ⟨fun n hn => ?_, fun q hq => ?_, fun r hr => ?_, fun n hn => ?_, fun m hm => ?_, ?_, ?_⟩
  · rw [upd_2 _ _ (by omega)]; exact g1 n hn
  · by_cases he : q = r
    · subst he; rw [upd_1]; exact ⟨x, hx, rfl⟩
    · rw [upd_2 _ _ (by omega)]; exact g2 q hq
  · rw [upd_2 _ _ (by omega)]; exact g3 r hr
  · rw [upd_2 _ _ (by omega)]; exact g4 n hn
  · rw [upd_2 _ _ (by omega)]; exact g5 m hm
  · rw [upd_2 _ _ (by omega)]; exact g6
  · rw [upd_2 _ _ (by omega)]; exact g7
theorem GdS_wet (hh : GdH h) (g : GdS h c) {r x : Nat} (hr9 : r < 9) (hx : x < hsN h) : GdS h (upd c (41 + r) (jn x)) := by
  have hN := hh.1
  have hM := hh.2.1
  obtain ⟨g1, g2, g3, g4, g5, g6, g7⟩ := g
  refine ⟨fun n hn => ?_, fun q hq => ?_, fun q hq => ?_, fun n hn => ?_, fun m hm => ?_, ?_, ?_⟩
  · rw [upd_2 _ _ (by omega)]; exact g1 n hn
  · rw [upd_2 _ _ (by omega)]; exact g2 q hq
  · by_cases he : q = r
    · subst he; rw [upd_1]; exact ⟨x, hx, rfl⟩
    · rw [upd_2 _ _ (by omega)]; exact g3 q hq
  · rw [upd_2 _ _ (by omega)]; exact g4 n hn
  · rw [upd_2 _ _ (by omega)]; exact g5 m hm
  · rw [upd_2 _ _ (by omega)]; exact g6
  · rw [upd_2 _ _ (by omega)]; exact g7
end UpdS
theorem Eq53_upd {a c : Sta} (e : Eq53 a c) (i : Nat) (v : Int32) : Eq53 (upd a i v) (upd c i v) := by
  intro j hj
  unfold upd
  by_cases h : j = i
  · rw [if_pos h, if_pos h]
  · rw [if_neg h, if_neg h]; exact e j hj
/-! the model's cells -/
theorem MSt_sleep {w : Wld} {h : Hs} {c : Sta} (hh : GdH h) (s : MSt w h c) {m : Nat} (hm9 : m < 8) (v : Int32) : MSt (wup w 14 m v) h (upd c (0 + m) v) := by
  have hN := hh.1
  have hM := hh.2.1
  obtain ⟨s1, s2, s3, s4, s5⟩ := s
  refine ⟨fun n hn => ?_, fun r hr => ?_, ?_, ?_, ?_⟩
  · obtain ⟨b0, b1, b2, b3⟩ := s1 n hn
    by_cases he : n = m
    · subst he
      simp (disch := omega) only [wup_s1, wup_s2, wup_o, wcp_o, b0, b1, b2, b3, Nat.zero_add]
      refine ⟨?_, ?_, ?_, ?_⟩ <;> first | rw [upd_1] | rw [upd_2 _ _ (by omega)]
    · simp (disch := omega) only [wup_s1, wup_s2, wup_o, wcp_o, b0, b1, b2, b3]
      refine ⟨?_, ?_, ?_, ?_⟩ <;> rw [upd_2 _ _ (by omega)]
  · obtain ⟨b0, b1⟩ := s2 r hr
    simp (disch := omega) only [wup_s1, wup_s2, wup_o, wcp_o, b0, b1]
    refine ⟨?_, ?_⟩ <;> rw [upd_2 _ _ (by omega)]
  · simp (disch := omega) only [wup_s1, wup_s2, wup_o, wcp_o, s3]; rw [upd_2 _ _ (by omega)]
  · simp (disch := omega) only [wup_s1, wup_s2, wup_o, wcp_o, s4]; rw [upd_2 _ _ (by omega)]
  · simp (disch := omega) only [wup_s1, wup_s2, wup_o, wcp_o, s5]; rw [upd_2 _ _ (by omega)]
theorem MSt_fish {w : Wld} {h : Hs} {c : Sta} (hh : GdH h) (s : MSt w h c) {m : Nat} (hm9 : m < 8) (v : Int32) : MSt (wup w 15 m v) h (upd c (8 + m) v) := by
  have hN := hh.1
  have hM := hh.2.1
  obtain ⟨s1, s2, s3, s4, s5⟩ := s
  refine ⟨fun n hn => ?_, fun r hr => ?_, ?_, ?_, ?_⟩
  · obtain ⟨b0, b1, b2, b3⟩ := s1 n hn
    by_cases he : n = m
    · subst he
      simp (disch := omega) only [wup_s1, wup_s2, wup_o, wcp_o, b0, b1, b2, b3, Nat.zero_add]
      refine ⟨?_, ?_, ?_, ?_⟩ <;> first | rw [upd_1] | rw [upd_2 _ _ (by omega)]
    · simp (disch := omega) only [wup_s1, wup_s2, wup_o, wcp_o, b0, b1, b2, b3]
      refine ⟨?_, ?_, ?_, ?_⟩ <;> rw [upd_2 _ _ (by omega)]
  · obtain ⟨b0, b1⟩ := s2 r hr
    simp (disch := omega) only [wup_s1, wup_s2, wup_o, wcp_o, b0, b1]
    refine ⟨?_, ?_⟩ <;> rw [upd_2 _ _ (by omega)]
  · simp (disch := omega) only [wup_s1, wup_s2, wup_o, wcp_o, s3]; rw [upd_2 _ _ (by omega)]
  · simp (disch := omega) only [wup_s1, wup_s2, wup_o, wcp_o, s4]; rw [upd_2 _ _ (by omega)]
  · simp (disch := omega) only [wup_s1, wup_s2, wup_o, wcp_o, s5]; rw [upd_2 _ _ (by omega)]
theorem MSt_room {w : Wld} {h : Hs} {c : Sta} (hh : GdH h) (s : MSt w h c) {m : Nat} (hm9 : m < 8) (v : Int32) : MSt (wup w 16 m v) h (upd c (16 + m) v) := by
  have hN := hh.1
  have hM := hh.2.1
  obtain ⟨s1, s2, s3, s4, s5⟩ := s
  refine ⟨fun n hn => ?_, fun r hr => ?_, ?_, ?_, ?_⟩
  · obtain ⟨b0, b1, b2, b3⟩ := s1 n hn
    by_cases he : n = m
    · subst he
      simp (disch := omega) only [wup_s1, wup_s2, wup_o, wcp_o, b0, b1, b2, b3, Nat.zero_add]
      refine ⟨?_, ?_, ?_, ?_⟩ <;> first | rw [upd_1] | rw [upd_2 _ _ (by omega)]
    · simp (disch := omega) only [wup_s1, wup_s2, wup_o, wcp_o, b0, b1, b2, b3]
      refine ⟨?_, ?_, ?_, ?_⟩ <;> rw [upd_2 _ _ (by omega)]
  · obtain ⟨b0, b1⟩ := s2 r hr
    simp (disch := omega) only [wup_s1, wup_s2, wup_o, wcp_o, b0, b1]
    refine ⟨?_, ?_⟩ <;> rw [upd_2 _ _ (by omega)]
  · simp (disch := omega) only [wup_s1, wup_s2, wup_o, wcp_o, s3]; rw [upd_2 _ _ (by omega)]
  · simp (disch := omega) only [wup_s1, wup_s2, wup_o, wcp_o, s4]; rw [upd_2 _ _ (by omega)]
  · simp (disch := omega) only [wup_s1, wup_s2, wup_o, wcp_o, s5]; rw [upd_2 _ _ (by omega)]
theorem MSt_door {w : Wld} {h : Hs} {c : Sta} (hh : GdH h) (s : MSt w h c) {q : Nat} (hq9 : q < 9) (v : Int32) : MSt (wup w 18 q v) h (upd c (32 + q) v) := by
  have hN := hh.1
  have hM := hh.2.1
  obtain ⟨s1, s2, s3, s4, s5⟩ := s
  refine ⟨fun n hn => ?_, fun r hr => ?_, ?_, ?_, ?_⟩
  · obtain ⟨b0, b1, b2, b3⟩ := s1 n hn
    simp (disch := omega) only [wup_s1, wup_s2, wup_o, wcp_o, b0, b1, b2, b3]
    refine ⟨?_, ?_, ?_, ?_⟩ <;> rw [upd_2 _ _ (by omega)]
  · obtain ⟨b0, b1⟩ := s2 r hr
    by_cases he : r = q
    · subst he
      simp (disch := omega) only [wup_s1, wup_s2, wup_o, wcp_o, b0, b1]
      refine ⟨?_, ?_⟩ <;> first | rw [upd_1] | rw [upd_2 _ _ (by omega)]
    · simp (disch := omega) only [wup_s1, wup_s2, wup_o, wcp_o, b0, b1]
      refine ⟨?_, ?_⟩ <;> rw [upd_2 _ _ (by omega)]
  · simp (disch := omega) only [wup_s1, wup_s2, wup_o, wcp_o, s3]; rw [upd_2 _ _ (by omega)]
  · simp (disch := omega) only [wup_s1, wup_s2, wup_o, wcp_o, s4]; rw [upd_2 _ _ (by omega)]
  · simp (disch := omega) only [wup_s1, wup_s2, wup_o, wcp_o, s5]; rw [upd_2 _ _ (by omega)]
theorem MSt_wet {w : Wld} {h : Hs} {c : Sta} (hh : GdH h) (s : MSt w h c) {q : Nat} (hq9 : q < 9) (v : Int32) : MSt (wup w 19 q v) h (upd c (41 + q) v) := by
  have hN := hh.1
  have hM := hh.2.1
  obtain ⟨s1, s2, s3, s4, s5⟩ := s
  refine ⟨fun n hn => ?_, fun r hr => ?_, ?_, ?_, ?_⟩
  · obtain ⟨b0, b1, b2, b3⟩ := s1 n hn
    simp (disch := omega) only [wup_s1, wup_s2, wup_o, wcp_o, b0, b1, b2, b3]
    refine ⟨?_, ?_, ?_, ?_⟩ <;> rw [upd_2 _ _ (by omega)]
  · obtain ⟨b0, b1⟩ := s2 r hr
    by_cases he : r = q
    · subst he
      simp (disch := omega) only [wup_s1, wup_s2, wup_o, wcp_o, b0, b1]
      refine ⟨?_, ?_⟩ <;> first | rw [upd_1] | rw [upd_2 _ _ (by omega)]
    · simp (disch := omega) only [wup_s1, wup_s2, wup_o, wcp_o, b0, b1]
      refine ⟨?_, ?_⟩ <;> rw [upd_2 _ _ (by omega)]
  · simp (disch := omega) only [wup_s1, wup_s2, wup_o, wcp_o, s3]; rw [upd_2 _ _ (by omega)]
  · simp (disch := omega) only [wup_s1, wup_s2, wup_o, wcp_o, s4]; rw [upd_2 _ _ (by omega)]
  · simp (disch := omega) only [wup_s1, wup_s2, wup_o, wcp_o, s5]; rw [upd_2 _ _ (by omega)]
theorem MSt_tied {w : Wld} {h : Hs} {c : Sta} (hh : GdH h) (s : MSt w h c) (v : Int32) : MSt (wup w 0 33 v) h (upd c 50 v) := by
  have hN := hh.1
  have hM := hh.2.1
  obtain ⟨s1, s2, s3, s4, s5⟩ := s
  refine ⟨fun n hn => ?_, fun r hr => ?_, ?_, ?_, ?_⟩
  · obtain ⟨b0, b1, b2, b3⟩ := s1 n hn
    simp (disch := omega) only [wup_s1, wup_s2, wup_o, wcp_o, b0, b1, b2, b3]
    refine ⟨?_, ?_, ?_, ?_⟩ <;> rw [upd_2 _ _ (by omega)]
  · obtain ⟨b0, b1⟩ := s2 r hr
    simp (disch := omega) only [wup_s1, wup_s2, wup_o, wcp_o, b0, b1]
    refine ⟨?_, ?_⟩ <;> rw [upd_2 _ _ (by omega)]
  · simp (disch := omega) only [wup_s1, wup_s2, wup_o, wcp_o]; rw [upd_1]
  · simp (disch := omega) only [wup_s1, wup_s2, wup_o, wcp_o, s4]; rw [upd_2 _ _ (by omega)]
  · simp (disch := omega) only [wup_s1, wup_s2, wup_o, wcp_o, s5]; rw [upd_2 _ _ (by omega)]
/-! ===== questions: crowd, spread ===== -/
def sCnt (h : Hs) (c : Sta) (r : Nat) : Int32 := jn (pcn (sThose h c (jn r)))
def sCrw (h : Hs) (c : Sta) : Nat → Int32 × Int32 := fl (fun r a => if a.2 < sCnt h c r then (jn r, sCnt h c r) else a) (-1, 0)
theorem sCrw_s (h : Hs) (c : Sta) (k : Nat) : sCrw h c (k + 1) = if (sCrw h c k).2 < sCnt h c k then (jn k, sCnt h c k) else sCrw h c k := rfl
theorem sCrw_0 (h : Hs) (c : Sta) : sCrw h c 0 = (-1, 0) := rfl
theorem crw_0 (h : Hs) (c : Sta) : ((-1 : Int32), (0 : Int32), (0 : Int32)) = ((sCrw h c 0).1, (sCrw h c 0).2, jn 0) := by rw [sCrw_0, jn_00]
theorem c_those {w : Wld} {h : Hs} {c : Sta} (hh : GdH h) (e : Eq53 (w 85) c) (r : Int32) : F_State_within_84 w r (jn (hsM h)) = some (jn (sThose h c r)) := by
  have hM := hh.2.1
  rw [t_within_84 w r hM]
  congr 2
  exact nAll_congr (fun m hm => by rw [e (16 + m) (by omega)])
theorem m_those {w : Wld} {h : Hs} {c : Sta} (hh : GdH h) (hw : MHs w h) (s : MSt w h c) (r : Int32) : F_M_those w r = some (jn (sThose h c r)) := by
  rw [t_those r hw.2.1 hh.2.1, those_s s]
theorem q_crowd {w : Wld} {h : Hs} (r : RelH w h) (a1 : Int32) : BothQ cdI w h (F_C_crowd w a1) (fun w1 => F_M_crowd w1 a1) := by
  have hh := r.1
  have hc := r.2.1
  have hg := r.2.2.2.1.1
  have hN := hh.1
  rcases rng_cases a1 0 60 (by omega) (by omega) with ⟨k1, l1, h1, rfl⟩ | ⟨n1, n2⟩
  rotate_left
  · refine q_bad 1 1 ?_ (fun w1 r1 => ?_) rfl
    · rw [F_C_crowd, jn_00, li_60, t_need_n w n1, bn_some]
    · have n2 : ¬ ((0 : Int32) ≤ a1 ∧ a1 ≤ 60) := n2
      simp only [F_M_crowd, bw_eq, t_isIn, n2, if_false, bp_some, eq_self, not_true_eq_false, br_F, t_fail, bd_some]
  have g1 : (0 : Int32) ≤ jn k1 ∧ jn k1 ≤ 60 := g_what k1 60 (by omega) h1
  refine ⟨.inr (some (sCrw h (sGo h (w 66) k1) (hsN h)).1), ?_, fun w1 r1 e66 => ?_⟩
  · rw [F_C_crowd, jn_00, li_60, t_need_y w (by omega) l1 h1, bn_none, ret_bv]
    refine ret_mono (t_goAhead hc hh hg (by omega)) (fun w2 hq => ?_)
    obtain ⟨q1, q2, q3⟩ := hq
    have e0 : w2 56 0 = jn (hsN h) := (q1 56 0 rfl).trans hc.1
    have e1 : w2 56 1 = jn (hsM h) := (q1 56 1 rfl).trans hc.2.1
    have key : loop (B_C_crowd_19 w2) (-1, 0, 0) = some (sCrw h (sGo h (w 66) k1) (hsN h)).1 := by
      rw [crw_0 h (sGo h (w 66) k1)]
      refine loop_for (V := fun k => ((sCrw h (sGo h (w 66) k1) k).1, (sCrw h (sGo h (w 66) k1) k).2, jn k)) (hsN h) (fun k hk => ?_) ?_
      · have hlt := sThose_lt hh (sGo h (w 66) k1) (jn k)
        rw [sCrw_s]
        by_cases hp : (sCrw h (sGo h (w 66) k1) k).2 < sCnt h (sGo h (w 66) k1) k
        · rw [if_pos hp]
          have hp' : ¬ sCnt h (sGo h (w 66) k1) k ≤ (sCrw h (sGo h (w 66) k1) k).2 := Int32.not_le.mpr hp
          have hbc : F_JI_bitCount w2 (jn (sThose h (sGo h (w 66) k1) (jn k))) = some (sCnt h (sGo h (w 66) k1) k) := t_bitCount w2 (by omega)
          simp (disch := omega) only [B_C_crowd_19, K_C_crowd_64, ↓bi_eq, ↓bw_eq, gd_pos, br_pos, br_neg, br_T, br_F, gd_T, bq_some, bd_some, bv_some, bl_some, bx_inl, bx_inr, bn_none, bn_some, bt_inl, bt_inr, not_true_eq_false, not_false_eq_true, eq_self, Bool.false_eq_true, if_true, if_false, jn_clamp, jn_lt, jn_le, jn_inj, jn_add, jn_sub, jn_mul, jn_vp, jn_0a, jn_1a, jn_1b, jn_1s, jn_1m, jn_neg0, jn_le0, jn_0le, jn_0lt, jn_1le, jn_le1, jn_lt1, jn_1lt, jn_e0, jn_e1, jn_em, ↓qB_f, ↓qT_f, cl_0, cl_1, vp_0, vp_1, e0, e1, c_those hh q2, hbc, hp, hp']
        · rw [if_neg hp]
          have hp' : sCnt h (sGo h (w 66) k1) k ≤ (sCrw h (sGo h (w 66) k1) k).2 := Int32.not_lt.mp hp
          have hbc : F_JI_bitCount w2 (jn (sThose h (sGo h (w 66) k1) (jn k))) = some (sCnt h (sGo h (w 66) k1) k) := t_bitCount w2 (by omega)
          simp (disch := omega) only [B_C_crowd_19, K_C_crowd_64, ↓bi_eq, ↓bw_eq, gd_pos, br_pos, br_neg, br_T, br_F, gd_T, bq_some, bd_some, bv_some, bl_some, bx_inl, bx_inr, bn_none, bn_some, bt_inl, bt_inr, not_true_eq_false, not_false_eq_true, eq_self, Bool.false_eq_true, if_true, if_false, jn_clamp, jn_lt, jn_le, jn_inj, jn_add, jn_sub, jn_mul, jn_vp, jn_0a, jn_1a, jn_1b, jn_1s, jn_1m, jn_neg0, jn_le0, jn_0le, jn_0lt, jn_1le, jn_le1, jn_lt1, jn_1lt, jn_e0, jn_e1, jn_em, ↓qB_f, ↓qT_f, cl_0, cl_1, vp_0, vp_1, e0, e1, c_those hh q2, hbc, hp, hp']
      · simp (disch := omega) only [B_C_crowd_19, ↓bi_eq, ↓bw_eq, gd_pos, br_pos, br_neg, br_T, br_F, gd_T, bp_some, bd_some, bv_some, bl_some, bx_inl, bx_inr, bn_none, bn_some, bt_inl, bt_inr, not_true_eq_false, not_false_eq_true, eq_self, Bool.false_eq_true, if_true, if_false, jn_clamp, jn_lt, jn_le, jn_inj, jn_add, jn_sub, jn_mul, jn_vp, jn_0a, jn_1a, jn_1b, jn_1s, jn_1m, jn_neg0, jn_le0, jn_0le, jn_0lt, jn_1le, jn_le1, jn_lt1, jn_1lt, jn_e0, jn_e1, jn_em, ↓qB_f, ↓qT_f, cl_0, cl_1, vp_0, vp_1, e0, br_pos (Nat.le_refl (hsN h))]
    rw [← jn_00, key, bl_some, ret_some]
    exact ⟨rfl, frm_up q1 rfl⟩
  · simp only [F_M_crowd, bw_eq, t_isIn, g1, and_self, if_true, bp_some, br_T, not_false_eq_true, (by decide : ((1 : Int32) = 0) = False), ret_bv]
    refine ret_mono (m_open r1 e66) (fun w2 hq => ?_)
    obtain ⟨f2, h2, s2, row2, c2⟩ := hq
    refine ret_mono (t_goOn h2 s2 hh hg (by omega)) (fun w3 hp => ?_)
    obtain ⟨p1, p2, p3⟩ := hp
    have a3 : MAh w2 h _ w3 := ⟨p1, p2⟩
    have h3 : MHs w3 h := MHs_fr h2 p1 ⟨rfl, rfl, rfl, rfl, rfl, fun _ => rfl, fun _ => rfl, fun _ => rfl⟩
    have e0 : w3 3 0 = jn (hsN h) := h3.1
    have key : loop (B_M_crowd_44 w3) (-1, 0, 0) = some (sCrw h (sGo h (w 66) k1) (hsN h)).1 := by
      rw [crw_0 h (sGo h (w 66) k1)]
      refine loop_for (V := fun k => ((sCrw h (sGo h (w 66) k1) k).1, (sCrw h (sGo h (w 66) k1) k).2, jn k)) (hsN h) (fun k hk => ?_) ?_
      · have hlt := sThose_lt hh (sGo h (w 66) k1) (jn k)
        have e9 : jn (pcn (sThose h (sGo h (w 66) k1) (jn k))) = sCnt h (sGo h (w 66) k1) k := rfl
        rw [sCrw_s]
        by_cases hp : (sCrw h (sGo h (w 66) k1) k).2 < sCnt h (sGo h (w 66) k1) k
        · rw [if_pos hp]
          simp (disch := omega) only [B_M_crowd_44, K_M_crowd_81, ↓bi_eq, ↓bw_eq, gd_pos, br_pos, br_neg, br_T, br_F, gd_T, bp_some, bd_some, bv_some, bl_some, bx_inl, bx_inr, bn_none, bn_some, bt_inl, bt_inr, not_true_eq_false, not_false_eq_true, eq_self, Bool.false_eq_true, if_true, if_false, jn_clamp, jn_lt, jn_le, jn_inj, jn_add, jn_sub, jn_mul, jn_vp, jn_0a, jn_1a, jn_1b, jn_1s, jn_1m, jn_neg0, jn_le0, jn_0le, jn_0lt, jn_1le, jn_le1, jn_lt1, jn_1lt, jn_e0, jn_e1, jn_em, ↓qB_f, ↓qT_f, cl_0, cl_1, vp_0, vp_1, e0, m_those hh h3 p2, t_bitsOf, e9, hp]
        · rw [if_neg hp]
          simp (disch := omega) only [B_M_crowd_44, K_M_crowd_81, ↓bi_eq, ↓bw_eq, gd_pos, br_pos, br_neg, br_T, br_F, gd_T, bp_some, bd_some, bv_some, bl_some, bx_inl, bx_inr, bn_none, bn_some, bt_inl, bt_inr, not_true_eq_false, not_false_eq_true, eq_self, Bool.false_eq_true, if_true, if_false, jn_clamp, jn_lt, jn_le, jn_inj, jn_add, jn_sub, jn_mul, jn_vp, jn_0a, jn_1a, jn_1b, jn_1s, jn_1m, jn_neg0, jn_le0, jn_0le, jn_0lt, jn_1le, jn_le1, jn_lt1, jn_1lt, jn_e0, jn_e1, jn_em, ↓qB_f, ↓qT_f, cl_0, cl_1, vp_0, vp_1, e0, m_those hh h3 p2, t_bitsOf, e9, hp]
      · simp (disch := omega) only [B_M_crowd_44, ↓bi_eq, ↓bw_eq, gd_pos, br_pos, br_neg, br_T, br_F, gd_T, bp_some, bd_some, bv_some, bl_some, bx_inl, bx_inr, bn_none, bn_some, bt_inl, bt_inr, not_true_eq_false, not_false_eq_true, eq_self, Bool.false_eq_true, if_true, if_false, jn_clamp, jn_lt, jn_le, jn_inj, jn_add, jn_sub, jn_mul, jn_vp, jn_0a, jn_1a, jn_1b, jn_1s, jn_1m, jn_neg0, jn_le0, jn_0le, jn_0lt, jn_1le, jn_le1, jn_lt1, jn_1lt, jn_e0, jn_e1, jn_em, ↓qB_f, ↓qT_f, cl_0, cl_1, vp_0, vp_1, e0, br_pos (Nat.le_refl (hsN h))]
    rw [key, bl_some, ret_bv]
    refine ret_mono (m_close r1 e66 (MAh_f a3 f2) (MAh_row a3 row2) (MAh_c a3 c2)) (fun w4 hx => ?_)
    rw [ret_some]
    exact ⟨⟨hx.1, rfl⟩, hx.2.1, hx.2.2.1⟩
def sSpr (h : Hs) (c : Sta) : Nat → Int32 := fl (fun r a => a + (if sThose h c (jn r) = 0 then 0 else 1)) 0
theorem sSpr_s (h : Hs) (c : Sta) (k : Nat) : sSpr h c (k + 1) = sSpr h c k + (if sThose h c (jn k) = 0 then 0 else 1) := rfl
theorem q_spread {w : Wld} {h : Hs} (r : RelH w h) (a1 : Int32) : BothQ cdI w h (F_C_spread w a1) (fun w1 => F_M_spread w1 a1) := by
  have hh := r.1
  have hc := r.2.1
  have hg := r.2.2.2.1.1
  have hN := hh.1
  rcases rng_cases a1 0 60 (by omega) (by omega) with ⟨k1, l1, h1, rfl⟩ | ⟨n1, n2⟩
  rotate_left
  · refine q_bad 1 1 ?_ (fun w1 r1 => ?_) rfl
    · rw [F_C_spread, jn_00, li_60, t_need_n w n1, bn_some]
    · have n2 : ¬ ((0 : Int32) ≤ a1 ∧ a1 ≤ 60) := n2
      simp only [F_M_spread, bw_eq, t_isIn, n2, if_false, bp_some, eq_self, not_true_eq_false, br_F, t_fail, bd_some]
  have g1 : (0 : Int32) ≤ jn k1 ∧ jn k1 ≤ 60 := g_what k1 60 (by omega) h1
  refine ⟨.inr (some (sSpr h (sGo h (w 66) k1) (hsN h))), ?_, fun w1 r1 e66 => ?_⟩
  · rw [F_C_spread, jn_00, li_60, t_need_y w (by omega) l1 h1, bn_none, ret_bv]
    refine ret_mono (t_goAhead hc hh hg (by omega)) (fun w2 hq => ?_)
    obtain ⟨q1, q2, q3⟩ := hq
    have e0 : w2 56 0 = jn (hsN h) := (q1 56 0 rfl).trans hc.1
    have e1 : w2 56 1 = jn (hsM h) := (q1 56 1 rfl).trans hc.2.1
    have key : loop (B_C_spread_16 w2) (0, 0) = some (sSpr h (sGo h (w 66) k1) (hsN h)) := by
      refine loop_for (V := fun k => (sSpr h (sGo h (w 66) k1) k, jn k)) (hsN h) (fun k hk => ?_) ?_
      · have hlt := sThose_lt hh (sGo h (w 66) k1) (jn k)
        rw [sSpr_s]
        by_cases hp : sThose h (sGo h (w 66) k1) (jn k) = 0
        · simp (disch := omega) only [B_C_spread_16, K_C_spread_51, ↓bi_eq, ↓bw_eq, gd_pos, br_pos, br_neg, br_T, br_F, gd_T, bp_some, bd_some, bv_some, bl_some, bx_inl, bx_inr, bn_none, bn_some, bt_inl, bt_inr, not_true_eq_false, not_false_eq_true, eq_self, Bool.false_eq_true, if_true, if_false, jn_clamp, jn_lt, jn_le, jn_inj, jn_add, jn_sub, jn_mul, jn_vp, jn_0a, jn_1a, jn_1b, jn_1s, jn_1m, jn_neg0, jn_le0, jn_0le, jn_0lt, jn_1le, jn_le1, jn_lt1, jn_1lt, jn_e0, jn_e1, jn_em, ↓qB_f, ↓qT_f, cl_0, cl_1, vp_0, vp_1, e0, e1, c_those hh q2, hp]
        · simp (disch := omega) only [B_C_spread_16, K_C_spread_51, ↓bi_eq, ↓bw_eq, gd_pos, br_pos, br_neg, br_T, br_F, gd_T, bp_some, bd_some, bv_some, bl_some, bx_inl, bx_inr, bn_none, bn_some, bt_inl, bt_inr, not_true_eq_false, not_false_eq_true, eq_self, Bool.false_eq_true, if_true, if_false, jn_clamp, jn_lt, jn_le, jn_inj, jn_add, jn_sub, jn_mul, jn_vp, jn_0a, jn_1a, jn_1b, jn_1s, jn_1m, jn_neg0, jn_le0, jn_0le, jn_0lt, jn_1le, jn_le1, jn_lt1, jn_1lt, jn_e0, jn_e1, jn_em, ↓qB_f, ↓qT_f, cl_0, cl_1, vp_0, vp_1, e0, e1, c_those hh q2, hp]
      · simp (disch := omega) only [B_C_spread_16, ↓bi_eq, ↓bw_eq, gd_pos, br_pos, br_neg, br_T, br_F, gd_T, bp_some, bd_some, bv_some, bl_some, bx_inl, bx_inr, bn_none, bn_some, bt_inl, bt_inr, not_true_eq_false, not_false_eq_true, eq_self, Bool.false_eq_true, if_true, if_false, jn_clamp, jn_lt, jn_le, jn_inj, jn_add, jn_sub, jn_mul, jn_vp, jn_0a, jn_1a, jn_1b, jn_1s, jn_1m, jn_neg0, jn_le0, jn_0le, jn_0lt, jn_1le, jn_le1, jn_lt1, jn_1lt, jn_e0, jn_e1, jn_em, ↓qB_f, ↓qT_f, cl_0, cl_1, vp_0, vp_1, e0, br_pos (Nat.le_refl (hsN h))]
    rw [← jn_00, key, bl_some, ret_some]
    exact ⟨rfl, frm_up q1 rfl⟩
  · simp only [F_M_spread, bw_eq, t_isIn, g1, and_self, if_true, bp_some, br_T, not_false_eq_true, (by decide : ((1 : Int32) = 0) = False), ret_bv]
    refine ret_mono (m_open r1 e66) (fun w2 hq => ?_)
    obtain ⟨f2, h2, s2, row2, c2⟩ := hq
    refine ret_mono (t_goOn h2 s2 hh hg (by omega)) (fun w3 hp => ?_)
    obtain ⟨p1, p2, p3⟩ := hp
    have a3 : MAh w2 h _ w3 := ⟨p1, p2⟩
    have h3 : MHs w3 h := MHs_fr h2 p1 ⟨rfl, rfl, rfl, rfl, rfl, fun _ => rfl, fun _ => rfl, fun _ => rfl⟩
    have e0 : w3 3 0 = jn (hsN h) := h3.1
    have key : loop (B_M_spread_41 w3) (0, 0) = some (sSpr h (sGo h (w 66) k1) (hsN h)) := by
      refine loop_for (V := fun k => (sSpr h (sGo h (w 66) k1) k, jn k)) (hsN h) (fun k hk => ?_) ?_
      · have hlt := sThose_lt hh (sGo h (w 66) k1) (jn k)
        rw [sSpr_s]
        by_cases hp : sThose h (sGo h (w 66) k1) (jn k) = 0
        · simp (disch := omega) only [B_M_spread_41, K_M_spread_65, ↓bi_eq, ↓bw_eq, gd_pos, br_pos, br_neg, br_T, br_F, gd_T, bp_some, bd_some, bv_some, bl_some, bx_inl, bx_inr, bn_none, bn_some, bt_inl, bt_inr, not_true_eq_false, not_false_eq_true, eq_self, Bool.false_eq_true, if_true, if_false, jn_clamp, jn_lt, jn_le, jn_inj, jn_add, jn_sub, jn_mul, jn_vp, jn_0a, jn_1a, jn_1b, jn_1s, jn_1m, jn_neg0, jn_le0, jn_0le, jn_0lt, jn_1le, jn_le1, jn_lt1, jn_1lt, jn_e0, jn_e1, jn_em, ↓qB_f, ↓qT_f, cl_0, cl_1, vp_0, vp_1, e0, m_those hh h3 p2, hp]
        · simp (disch := omega) only [B_M_spread_41, K_M_spread_65, ↓bi_eq, ↓bw_eq, gd_pos, br_pos, br_neg, br_T, br_F, gd_T, bp_some, bd_some, bv_some, bl_some, bx_inl, bx_inr, bn_none, bn_some, bt_inl, bt_inr, not_true_eq_false, not_false_eq_true, eq_self, Bool.false_eq_true, if_true, if_false, jn_clamp, jn_lt, jn_le, jn_inj, jn_add, jn_sub, jn_mul, jn_vp, jn_0a, jn_1a, jn_1b, jn_1s, jn_1m, jn_neg0, jn_le0, jn_0le, jn_0lt, jn_1le, jn_le1, jn_lt1, jn_1lt, jn_e0, jn_e1, jn_em, ↓qB_f, ↓qT_f, cl_0, cl_1, vp_0, vp_1, e0, m_those hh h3 p2, hp]
      · simp (disch := omega) only [B_M_spread_41, ↓bi_eq, ↓bw_eq, gd_pos, br_pos, br_neg, br_T, br_F, gd_T, bp_some, bd_some, bv_some, bl_some, bx_inl, bx_inr, bn_none, bn_some, bt_inl, bt_inr, not_true_eq_false, not_false_eq_true, eq_self, Bool.false_eq_true, if_true, if_false, jn_clamp, jn_lt, jn_le, jn_inj, jn_add, jn_sub, jn_mul, jn_vp, jn_0a, jn_1a, jn_1b, jn_1s, jn_1m, jn_neg0, jn_le0, jn_0le, jn_0lt, jn_1le, jn_le1, jn_lt1, jn_1lt, jn_e0, jn_e1, jn_em, ↓qB_f, ↓qT_f, cl_0, cl_1, vp_0, vp_1, e0, br_pos (Nat.le_refl (hsN h))]
    rw [key, bl_some, ret_bv]
    refine ret_mono (m_close r1 e66 (MAh_f a3 f2) (MAh_row a3 row2) (MAh_c a3 c2)) (fun w4 hx => ?_)
    rw [ret_some]
    exact ⟨⟨hx.1, rfl⟩, hx.2.1, hx.2.2.1⟩
