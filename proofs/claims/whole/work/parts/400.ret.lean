/-! ===== what programs come to ===== -/
def Ret {α : Type} (x : Option α) (Q : α → Prop) : Prop := ∃ a, x = some a ∧ Q a
def LQ {σ ρ : Type} (A : σ → Prop) (Q : ρ → Prop) : σ ⊕ ρ → Prop
  | .inl s => A s
  | .inr r => Q r
section RetS
variable {α ρ σ : Type} {Q : α → Prop}
theorem LQ_inl {A : σ → Prop} {P : ρ → Prop} {s : σ} : LQ A P (.inl s) ↔ A s := Iff.rfl
theorem LQ_inr {A : σ → Prop} {P : ρ → Prop} {r : ρ} : LQ A P (.inr r) ↔ P r := Iff.rfl
theorem ret_some {a : α} : Ret (some a) Q ↔ Q a := ⟨fun ⟨b, h, q⟩ => by cases h; exact q, fun q => ⟨a, rfl, q⟩⟩
theorem ret_mono {x : Option α} {P : α → Prop} (h : Ret x P) (k : ∀ a, P a → Q a) : Ret x Q := ⟨h.choose, h.choose_spec.1, k _ h.choose_spec.2⟩
theorem ret_eq {x : Option α} {a : α} (h : x = some a) (k : Q a) : Ret x Q := ⟨a, h, k⟩
theorem ret_of {x : Option α} {a : α} (h : Ret x (fun b => b = a)) : x = some a := by
  obtain ⟨b, h1, h2⟩ := h
  rw [h1, h2]
theorem ret_gd {c : Prop} {x : Option α} : Ret (gd c x) Q ↔ c ∧ Ret x Q := by
  constructor
  · intro ⟨a, h, q⟩
    obtain ⟨h1, h2⟩ := gd_some h
    exact ⟨h1, a, h2, q⟩
  · intro ⟨h, k⟩
    rw [gd_pos h]
    exact k
theorem ret_br {c : Prop} {x y : Option α} : Ret (br c x y) Q ↔ (c → Ret x Q) ∧ (¬ c → Ret y Q) := by
  by_cases h : c
  · rw [br_pos h]; exact ⟨fun k => ⟨fun _ => k, fun n => absurd h n⟩, fun k => k.1 h⟩
  · rw [br_neg h]; exact ⟨fun k => ⟨fun n => absurd n h, fun _ => k⟩, fun k => k.2 h⟩
theorem bi_eq {t : Int32} {f : Int32 → Option α} : bi t f = f t := rfl
theorem bw_eq {t : Wld} {f : Wld → Option α} : bw t f = f t := rfl
theorem bp_some {t : Int32} {f : Int32 → Option α} : bp (some t) f = f t := rfl
theorem bd_some {t : Int32 × Wld} {f : Int32 → Wld → Option α} : bd (some t) f = f t.1 t.2 := rfl
theorem bv_some {t : Wld} {f : Wld → Option α} : bv (some t) f = f t := rfl
theorem bl_some {t : ρ} {f : ρ → Option α} : bl (some t) f = f t := rfl
theorem bx_inl {t : ρ} {f : ρ → Option α} : bx (some (.inl t)) f = f t := rfl
theorem bx_inr {t : α} {f : ρ → Option α} : bx (some (.inr t)) f = some t := rfl
theorem bn_none {w : Wld} {f : Option (Oc × Wld)} : bn (some none) w f = f := rfl
theorem bn_some {k : Nat} {w : Wld} {f : Option (Oc × Wld)} : bn (some (some k)) w f = some (.inl k, w) := rfl
theorem bt_inl {k : Nat} {w : Wld} {f : Option Int32 → Wld → Option (Oc × Wld)} : bt (some (.inl k, w)) f = some (.inl k, w) := rfl
theorem bt_inr {v : Option Int32} {w : Wld} {f : Option Int32 → Wld → Option (Oc × Wld)} : bt (some (.inr v, w)) f = f v w := rfl
theorem ret_bind {β : Type} {x : Option β} {f : β → Option α} : Ret (x.bind f) Q ↔ Ret x (fun q => Ret (f q) Q) := by
  constructor
  · intro ⟨a, h, q⟩
    obtain ⟨b, h1, h2⟩ := Option.bind_eq_some_iff.mp h
    exact ⟨b, h1, a, h2, q⟩
  · intro ⟨b, h1, a, h2, q⟩
    exact ⟨a, Option.bind_eq_some_iff.mpr ⟨b, h1, h2⟩, q⟩
theorem ret_bd {x : Option (Int32 × Wld)} {f : Int32 → Wld → Option α} : Ret (bd x f) Q ↔ Ret x (fun q => Ret (f q.1 q.2) Q) := ret_bind
theorem ret_bp {x : Option Int32} {f : Int32 → Option α} : Ret (bp x f) Q ↔ Ret x (fun q => Ret (f q) Q) := ret_bind
theorem ret_bv {x : Option Wld} {f : Wld → Option α} : Ret (bv x f) Q ↔ Ret x (fun q => Ret (f q) Q) := ret_bind
theorem ret_bl {x : Option ρ} {f : ρ → Option α} : Ret (bl x f) Q ↔ Ret x (fun q => Ret (f q) Q) := ret_bind
theorem ret_bx {x : Option (ρ ⊕ α)} {f : ρ → Option α} : Ret (bx x f) Q ↔ Ret x (LQ (fun r => Ret (f r) Q) Q) := by
  unfold bx
  rw [ret_bind]
  constructor
  · intro h
    refine ret_mono h (fun a k => ?_)
    cases a with
    | inl a => exact k
    | inr a => exact (ret_some (Q := Q)).mp k
  · intro h
    refine ret_mono h (fun a k => ?_)
    cases a with
    | inl a => exact k
    | inr a => exact (ret_some (Q := Q)).mpr k
/-- a loop that counts: at most n rounds -/
theorem loop_inv {f : σ → Option (σ ⊕ ρ)} {P : ρ → Prop} (I : Nat → σ → Prop) (n : Nat) {s0 : σ} (h0 : I 0 s0) (hs : ∀ k s, k < n → I k s → Ret (f s) (LQ (I (k + 1)) P)) (he : ∀ s, I n s → Ret (f s) (LQ (fun _ => False) P)) : Ret (loop f s0) P := by
  have key : ∀ (j k : Nat) (s : σ), k + j = n → I k s → Ret (loop f s) P := by
    intro j
    induction j with
    | zero =>
      intro k s hk hi
      have hk : k = n := hk
      subst hk
      obtain ⟨x, h1, h2⟩ := he s hi
      cases x with
      | inl s' => exact absurd h2 id
      | inr r => exact ⟨r, by rw [loop_eq, h1], h2⟩
    | succ j ih =>
      intro k s hk hi
      obtain ⟨x, h1, h2⟩ := hs k s (by omega) hi
      cases x with
      | inl s' =>
        obtain ⟨r, h3, h4⟩ := ih (k + 1) s' (by omega) h2
        exact ⟨r, by rw [loop_eq, h1]; exact h3, h4⟩
      | inr r => exact ⟨r, by rw [loop_eq, h1], h2⟩
  exact key n 0 s0 (by omega) h0
/-- a loop with a measure that falls -/
theorem loop_ms {f : σ → Option (σ ⊕ ρ)} {P : ρ → Prop} (I : Nat → σ → Prop) {n : Nat} {s0 : σ} (h0 : I n s0) (hs : ∀ k s, I k s → Ret (f s) (LQ (fun s' => ∃ j, j < k ∧ I j s') P)) : Ret (loop f s0) P := by
  have key : ∀ (m k : Nat) (s : σ), k < m → I k s → Ret (loop f s) P := by
    intro m
    induction m with
    | zero => intro k s hk; omega
    | succ m ih =>
      intro k s hk hi
      obtain ⟨x, h1, h2⟩ := hs k s hi
      cases x with
      | inl s' =>
        obtain ⟨j, hj, hi'⟩ := h2
        obtain ⟨r, h3, h4⟩ := ih j s' (by omega) hi'
        exact ⟨r, by rw [loop_eq, h1]; exact h3, h4⟩
      | inr r => exact ⟨r, by rw [loop_eq, h1], h2⟩
  exact key (n + 1) n s0 (by omega) h0
/-- a loop whose states are known -/
theorem loop_for {f : σ → Option (σ ⊕ ρ)} (V : Nat → σ) (n : Nat) {r : ρ} (hs : ∀ k, k < n → f (V k) = some (.inl (V (k + 1)))) (he : f (V n) = some (.inr r)) : loop f (V 0) = some r := by
  have key : ∀ (j k : Nat), k + j = n → loop f (V k) = some r := by
    intro j
    induction j with
    | zero =>
      intro k hk
      have hk : k = n := hk
      subst hk
      rw [loop_eq, he]
    | succ j ih =>
      intro k hk
      rw [loop_eq, hs k (by omega)]
      exact ih (k + 1) (by omega)
  exact key n 0 (by omega)
end RetS
/-! ===== small numbers ===== -/
def jn (k : Nat) : Int32 := Int32.ofNat k
theorem jn_clamp {k : Nat} (h : k < 2147483648) : Int32.toNatClampNeg (jn k) = k := Int32.toNatClampNeg_ofNat_of_lt h
theorem jn_int {k : Nat} (h : k < 2147483648) : Int32.toInt (jn k) = k := Int32.toInt_ofNat_of_lt h
theorem jn_lt {a b : Nat} (ha : a < 2147483648) (hb : b < 2147483648) : (jn a < jn b) = (a < b) := propext (Int32.ofNat_lt_iff_lt ha hb)
theorem jn_le {a b : Nat} (ha : a < 2147483648) (hb : b < 2147483648) : (jn a ≤ jn b) = (a ≤ b) := propext (Int32.ofNat_le_iff_le ha hb)
theorem jn_inj {a b : Nat} (ha : a < 2147483648) (hb : b < 2147483648) : (jn a = jn b) = (a = b) := propext ⟨fun h => by rw [← jn_clamp ha, ← jn_clamp hb, h], fun h => by rw [h]⟩
theorem jn_add (a b : Nat) : jn a + jn b = jn (a + b) := (Int32.ofNat_add a b).symm
theorem jn_sub {a b : Nat} (h : b ≤ a) : jn a - jn b = jn (a - b) := (Int32.ofNat_sub a b h).symm
theorem jn_mul (a b : Nat) : jn a * jn b = jn (a * b) := (Int32.ofNat_mul a b).symm
theorem jn_neg0 {k : Nat} (h : k < 2147483648) : (jn k < 0) = False := by
  refine eq_false (fun h1 => ?_)
  have h2 : jn k < jn 0 := h1
  rw [jn_lt h (by decide)] at h2
  omega
theorem jn_vp {k n : Nat} (h : k < 2147483648) : vp_in (jn k) n = (k < n) := by
  unfold vp_in
  rw [jn_neg0 h, jn_clamp h]
  refine propext ⟨fun h1 => ?_, fun h1 h2 => ?_⟩
  · exact Nat.lt_of_not_le (fun h2 => h1 (Or.inr h2))
  · rcases h2 with h2 | h2
    · exact h2
    · omega
theorem jn_31 {k : Nat} (h : k < 32) : jn k &&& 31 = jn k := by
  have : ∀ k, k < 32 → jn k &&& 31 = jn k := by decide
  exact this k h
theorem jn_div {a b : Nat} (ha : a < 2147483648) (hb : b < 2147483648) : jn a / jn b = jn (a / b) := (Int32.ofNat_div ha hb).symm
theorem jn_mod {a b : Nat} (ha : a < 2147483648) (hb : b < 2147483648) : jn a - jn a / jn b * jn b = jn (a % b) := by
  rw [jn_div ha hb, jn_mul, jn_sub (Nat.div_mul_le_self a b)]
  congr 1
  have := Nat.div_add_mod a b
  rw [Nat.mul_comm] at this
  omega
/-! ===== folds ===== -/
def fl {α : Type} (f : Nat → α → α) (a : α) : Nat → α
  | 0 => a
  | n + 1 => f n (fl f a n)
theorem fl_0 {α : Type} (f : Nat → α → α) (a : α) : fl f a 0 = a := rfl
theorem fl_s {α : Type} (f : Nat → α → α) (a : α) (n : Nat) : fl f a (n + 1) = f n (fl f a n) := rfl
theorem fl_congr {α : Type} {f g : Nat → α → α} {a : α} {n : Nat} (h : ∀ k x, k < n → f k x = g k x) : fl f a n = fl g a n := by
  induction n with
  | zero => rfl
  | succ n ih => rw [fl_s, fl_s, ih (fun k x hk => h k x (by omega)), h n _ (by omega)]
/-! ===== frames: what a program leaves as it was ===== -/
def frB (L : List Nat) (K : List (Nat × Nat)) (n j : Nat) : Bool := L.any (fun a => Nat.beq a n) || K.any (fun a => Nat.beq a.1 n && Nat.beq a.2 j)
def Frm (L : List Nat) (K : List (Nat × Nat)) (w w' : Wld) : Prop := ∀ n j, frB L K n j = false → w' n j = w n j
theorem frm_rf {L : List Nat} {K : List (Nat × Nat)} {w : Wld} : Frm L K w w := fun _ _ _ => rfl
theorem frm_tr {L : List Nat} {K : List (Nat × Nat)} {w w1 w2 : Wld} (h1 : Frm L K w w1) (h2 : Frm L K w1 w2) : Frm L K w w2 := fun n j h => (h2 n j h).trans (h1 n j h)
def frS (L : List Nat) (K : List (Nat × Nat)) (L' : List Nat) (K' : List (Nat × Nat)) : Bool := L.all (fun a => L'.any (fun b => Nat.beq b a)) && K.all (fun a => L'.any (fun b => Nat.beq b a.1) || K'.any (fun b => Nat.beq b.1 a.1 && Nat.beq b.2 a.2))
theorem frB_sub {L L' : List Nat} {K K' : List (Nat × Nat)} (h : frS L K L' K' = true) (n j : Nat) (hn : frB L' K' n j = false) : frB L K n j = false := by
  simp only [frB, frS, Bool.or_eq_false_iff, Bool.and_eq_true, List.all_eq_true, List.any_eq_false, List.any_eq_true, Bool.or_eq_true, Bool.and_eq_false_iff] at h hn ⊢
  obtain ⟨h1, h2⟩ := h
  obtain ⟨n1, n2⟩ := hn
  constructor
  · intro a ha e
    obtain ⟨b, hb, hb2⟩ := h1 a ha
    have e1 := Nat.eq_of_beq_eq_true e
    have e2 := Nat.eq_of_beq_eq_true hb2
    refine n1 b hb ?_
    rw [e2, e1]
    exact Nat.beq_refl n
  · intro a ha e
    have e1 := Nat.eq_of_beq_eq_true e.1
    have e2 := Nat.eq_of_beq_eq_true e.2
    rcases h2 a ha with ⟨b, hb, hb2⟩ | ⟨b, hb, hb2⟩
    · have e3 := Nat.eq_of_beq_eq_true hb2
      refine n1 b hb ?_
      rw [e3, e1]
      exact Nat.beq_refl n
    · have e3 := Nat.eq_of_beq_eq_true hb2.1
      have e4 := Nat.eq_of_beq_eq_true hb2.2
      refine n2 b hb ?_
      rw [e3, e1, e4, e2]
      exact ⟨Nat.beq_refl n, Nat.beq_refl j⟩
theorem frm_up {L L' : List Nat} {K K' : List (Nat × Nat)} {w w' : Wld} (h : Frm L K w w') (hs : frS L K L' K' = true) : Frm L' K' w w' := fun n j hn => h n j (frB_sub hs n j hn)
theorem frm_cell {L : List Nat} {K : List (Nat × Nat)} {w w' : Wld} (h : Frm L K w w') (n : Nat) (hn : ∀ j, frB L K n j = false) : w' n = w n := funext (fun j => h n j (hn j))
theorem wup_o (w : Wld) {n n' : Nat} (i : Nat) (v : Int32) (h : n' ≠ n) : wup w n i v n' = w n' := wup_other w i v h
theorem wup_s (w : Wld) (n i j : Nat) (v : Int32) : wup w n i v n j = if j = i then v else w n j := by rw [wup_same]; rfl
theorem wup_s1 (w : Wld) (n i : Nat) (v : Int32) : wup w n i v n i = v := by rw [wup_s, if_pos rfl]
theorem wup_s2 (w : Wld) (n : Nat) {i j : Nat} (v : Int32) (h : j ≠ i) : wup w n i v n j = w n j := by rw [wup_s, if_neg h]
theorem wcp_s (w : Wld) (n0 n1 sp dp k j : Nat) : wcp w n0 n1 sp dp k n1 j = if dp ≤ j ∧ j < dp + k then w n0 (sp + (j - dp)) else w n1 j := by rw [wcp_same]; rfl
theorem wcp_o (w : Wld) {n1 n' : Nat} (n0 sp dp k : Nat) (h : n' ≠ n1) : wcp w n0 n1 sp dp k n' = w n' := wcp_other w n0 sp dp k h
theorem frm_wup {L : List Nat} {K : List (Nat × Nat)} {w w1 : Wld} (h : Frm L K w w1) (n i : Nat) (v : Int32) (hb : frB L K n i = true) : Frm L K w (wup w1 n i v) := by
  intro n' j hn
  by_cases h1 : n' = n
  · subst h1
    by_cases h2 : j = i
    · subst h2; rw [hb] at hn; cases hn
    · rw [wup_s2 _ _ _ h2]; exact h _ _ hn
  · rw [wup_o _ _ _ h1]; exact h _ _ hn
theorem frm_wcp {L : List Nat} {K : List (Nat × Nat)} {w w1 : Wld} (h : Frm L K w w1) (n0 n1 sp dp k : Nat) (hb : L.any (fun a => Nat.beq a n1) = true) : Frm L K w (wcp w1 n0 n1 sp dp k) := by
  intro n' j hn
  by_cases h1 : n' = n1
  · subst h1
    simp only [frB, hb, Bool.true_or] at hn
    cases hn
  · rw [wcp_o _ _ _ _ _ h1]; exact h _ _ hn
