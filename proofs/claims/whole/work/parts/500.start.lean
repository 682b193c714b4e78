/-! ===== the start ===== -/
theorem arrV_ext {cA : ClassId} {n : Nat} {f g : Nat → Value} (h : ∀ i, i < n → f i = g i) : arrV cA n f = arrV cA n g := by
  unfold arrV
  congr 1
  apply Array.ext
  · simp
  · intro i h1 h2
    simp at h1
    simpa using h i h1
theorem vaP_str {D : va_G} {cl : List vw_C} {ws : va_W} {H : Heap} (hP : va_P D cl ws H) (k : Nat) {q : Nat} {cA : ClassId} {n : Nat} {f : Nat → Option Nat} (f' : Nat → Option Nat) (h : ws[k]? = some (q, .inl (cA, n, .inr (.inr (.inr (.inr f)))))) (he : ∀ i, i < n → f i = f' i) : va_P D cl (ws.set k (q, .inl (cA, n, .inr (.inr (.inr (.inr f')))))) H := by
  intro j x hx
  by_cases hj : j = k
  · subst hj
    have hl : j < ws.length := (List.getElem?_eq_some_iff.mp h).1
    rw [List.getElem?_set_self hl] at hx
    cases hx
    have h1 : H[q]? = some (vp_cell cA (n, .inr (.inr (.inr (.inr f))))) := hP j _ h
    show H[q]? = some (vp_cell cA (n, .inr (.inr (.inr (.inr f')))))
    rw [h1, vp_cell_q, vp_cell_q]
    congr 1
    exact arrV_ext (fun i hi => by rw [he i hi])
  · rw [List.getElem?_set_ne (Ne.symm hj)] at hx
    exact hP j x hx
theorem vaD_str {A : Nat → Prop} {ws : va_W} (hD : va_D A ws) (k : Nat) {q : Nat} {e e' : va_E} (h : ws[k]? = some (q, e)) : va_D A (ws.set k (q, e')) := hD.set h
section Start
variable {Z : ZT} {p : Program} {l : Launch} {e : Env} {s : State} {m : MethodId} {below : List Frame} {meth : Method} {c : Code} {b L : Nat} {xs : Nat → Int32}
/-- the law's end -/
theorem ok_E (F : Fx Z p l s m #[Value.ref b] meth c 14 7 code) (hst : l.stackTraces = false) (hret : meth.sig.returnType = ret) (hAW : ∀ q, AW Z q → s.heap.size ≤ q) {cells slots : Nat} (hc9 : cells ≤ 601024) (hs9 : slots ≤ 7293034) (w : Wld) : OkL Z p l e s m below meth c b cells slots (E_law w) := by
  have hC := CloL_of (e := e) (below := below) (cells := cells) (slots := slots) F hst hret hAW hc9 hs9 w
  have h : SimK (OkL Z p l e s m below meth c b cells slots) (2301, [], [], w) (some ((1 : Int32), w)) (Gi (.inr (some 1)) w) := by
    refine sim_blk0 hC [(.iconst 1, 0, 0, 0, 1)] [] [vI 1] w 2302 (by decide +kernel) rfl rfl ?_
    exact sim_reti hC (by decide +kernel) (Or.inr rfl)
  exact h (1, w) rfl ⟨rfl, rfl⟩
/-- the loop: n rounds are left -/
theorem ok_loop (Rel : Wld → Prop) (hL : L ≤ 3072)
    (hstep : ∀ (k : Nat) (w : Wld), 6 * k + 6 ≤ L → Rel w → ∃ w', B_law xs L (Int32.ofNat (6 * k), w) = some (.inl (Int32.ofNat (6 * (k + 1)), w')) ∧ Rel w')
    (hend : ∀ (k : Nat) (w : Wld), 6 * k ≤ L → L < 6 * k + 6 → B_law xs L (Int32.ofNat (6 * k), w) = some (.inr w))
    (F : Fx Z p l s m #[Value.ref b] meth c 14 7 code) (hst : l.stackTraces = false) (hret : meth.sig.returnType = ret) (hAW : ∀ q, AW Z q → s.heap.size ≤ q) (hX : va_X b L xs s s.heap) (hbl : b < s.heap.size) (hbZ : Z.2.2.2.1 998 = b) (hNc : va_Nc "java/lang/IllegalArgumentException" "java/util/NoSuchElementException" s) :
    ∀ (n k : Nat) (w : Wld) (cells slots : Nat), 6 * k ≤ L → L < 6 * (k + n) + 6 → cells + n ≤ 601000 → slots + 6 * n ≤ 7293000 → Rel w → OkL Z p l e s m below meth c b cells slots (V_law (Int32.ofNat (6 * k), w)) := by
  intro n
  induction n with
  | zero =>
    intro k w cells slots h1 h2 h3 h4 hr
    have hC := CloL_of (e := e) (below := below) (cells := cells) (slots := slots) F hst hret hAW (by omega) (by omega) w
    have hCN := CloL_of (e := e) (below := below) (cells := cells + 1) (slots := slots + 6) F hst hret hAW (by omega) (by omega) w
    have hbA : ¬ AW Z b := fun h => absurd (hAW _ h) (Nat.not_le.mpr hbl)
    have hctx : CtxL Z l xs L w (OkL Z p l e s m below meth c b cells slots) (OkL Z p l e s m below meth c b (cells + 1) (slots + 6)) := ⟨hC, CloS_of F hX hbl hbA hbZ, CloH_of F hst hNc (by omega) (by omega), hCN, CloS_of F hX hbl hbA hbZ, fun g h => OkL_up (Nat.le_add_right _ _) (Nat.le_add_right _ _) h⟩
    exact s_B_law hctx (Int32.ofNat (6 * k), w) _ (hend k w h1 (by omega)) (ok_E F hst hret hAW (by omega) (by omega) w)
  | succ n ih =>
    intro k w cells slots h1 h2 h3 h4 hr
    have hC := CloL_of (e := e) (below := below) (cells := cells) (slots := slots) F hst hret hAW (by omega) (by omega) w
    have hCN := CloL_of (e := e) (below := below) (cells := cells + 1) (slots := slots + 6) F hst hret hAW (by omega) (by omega) w
    have hbA : ¬ AW Z b := fun h => absurd (hAW _ h) (Nat.not_le.mpr hbl)
    have hctx : CtxL Z l xs L w (OkL Z p l e s m below meth c b cells slots) (OkL Z p l e s m below meth c b (cells + 1) (slots + 6)) := ⟨hC, CloS_of F hX hbl hbA hbZ, CloH_of F hst hNc (by omega) (by omega), hCN, CloS_of F hX hbl hbA hbZ, fun g h => OkL_up (Nat.le_add_right _ _) (Nat.le_add_right _ _) h⟩
    by_cases h9 : 6 * k + 6 ≤ L
    · obtain ⟨w', hb9, hr'⟩ := hstep k w h9 hr
      exact s_B_law hctx (Int32.ofNat (6 * k), w) _ hb9 (ih (k + 1) w' (cells + 1) (slots + 6) (by omega) (by omega) (by omega) (by omega) hr')
    · exact s_B_law hctx (Int32.ofNat (6 * k), w) _ (hend k w h1 (by omega)) (ok_E F hst hret hAW (by omega) (by omega) w)
end Start
