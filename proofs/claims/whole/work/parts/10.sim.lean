/-! ===== programs over the world as numbers, and what ties them to the machine ===== -/
noncomputable def gd {α : Type} (c : Prop) (x : Option α) : Option α := @ite _ c (Classical.propDecidable c) x none
noncomputable def br {α : Type} (c : Prop) (x y : Option α) : Option α := @ite _ c (Classical.propDecidable c) x y
def bi {α : Type} (t : Int32) (f : Int32 → Option α) : Option α := f t
def bw {α : Type} (t : Wld) (f : Wld → Option α) : Option α := f t
/-- a call that answers an int and changes the world; only answers; only changes; may throw -/
def bd {α : Type} (x : Option (Int32 × Wld)) (f : Int32 → Wld → Option α) : Option α := x.bind (fun q => f q.1 q.2)
def bp {α : Type} (x : Option Int32) (f : Int32 → Option α) : Option α := x.bind f
def bv {α : Type} (x : Option Wld) (f : Wld → Option α) : Option α := x.bind f
def bt (x : Option (Oc × Wld)) (f : Option Int32 → Wld → Option (Oc × Wld)) : Option (Oc × Wld) := x.bind (fun q => match q.1 with
  | .inl k => some (.inl k, q.2)
  | .inr v => f v q.2)
/-- what a method that only tests comes to -/
def ocN (q : Option Nat) : Oc := match q with
  | some k => .inl k
  | none => .inr none
def bn (x : Option (Option Nat)) (w : Wld) (f : Option (Oc × Wld)) : Option (Oc × Wld) := x.bind (fun q => match q with
  | some k => some (.inl k, w)
  | none => f)
def Gn (o : Oc) (wo w : Wld) : Option Nat → Prop := fun q => o = ocN q ∧ wo = w
def bl {α ρ : Type} (x : Option ρ) (f : ρ → Option α) : Option α := x.bind f
def bx {α ρ : Type} (x : Option (ρ ⊕ α)) (f : ρ → Option α) : Option α := x.bind (fun q => match q with
  | .inl a => f a
  | .inr b => some b)
theorem gd_pos {α : Type} {c : Prop} {x : Option α} (h : c) : gd c x = x := by unfold gd; exact if_pos h
theorem gd_some {α : Type} {c : Prop} {x : Option α} {a : α} (h : gd c x = some a) : c ∧ x = some a := by
  unfold gd at h
  by_cases hc : c
  · rw [if_pos hc] at h; exact ⟨hc, h⟩
  · rw [if_neg hc] at h; cases h
theorem br_pos {α : Type} {c : Prop} {x y : Option α} (h : c) : br c x y = x := by unfold br; exact if_pos h
theorem br_neg {α : Type} {c : Prop} {x y : Option α} (h : ¬ c) : br c x y = y := by unfold br; exact if_neg h
def iter {σ ρ : Type} (f : σ → Option (σ ⊕ ρ)) : Nat → σ → Option ρ
  | 0, _ => none
  | n + 1, s => match f s with
    | none => none
    | some (.inl s') => iter f n s'
    | some (.inr r) => some r
theorem iter_more {σ ρ : Type} (f : σ → Option (σ ⊕ ρ)) : ∀ (n : Nat) (s : σ) (r : ρ), iter f n s = some r → iter f (n + 1) s = some r := by
  intro n
  induction n with
  | zero => intro s r h; cases h
  | succ n ih =>
    intro s r h
    rw [iter] at h ⊢
    cases hf : f s with
    | none => rw [hf] at h; cases h
    | some x =>
      rw [hf] at h
      cases x with
      | inl s' => exact ih s' r h
      | inr r' => exact h
theorem iter_add {σ ρ : Type} (f : σ → Option (σ ⊕ ρ)) (n k : Nat) (s : σ) (r : ρ) (h : iter f n s = some r) : iter f (n + k) s = some r := by
  induction k with
  | zero => exact h
  | succ k ih => exact iter_more f _ s r ih
theorem iter_det {σ ρ : Type} {f : σ → Option (σ ⊕ ρ)} {n k : Nat} {s : σ} {r r' : ρ} (h : iter f n s = some r) (h' : iter f k s = some r') : r = r' := by
  have a := iter_add f n k s r h
  have b := iter_add f k n s r' h'
  rw [Nat.add_comm] at b
  exact Option.some.inj (a.symm.trans b)
noncomputable def loop {σ ρ : Type} (f : σ → Option (σ ⊕ ρ)) (s : σ) : Option ρ := @dite _ (∃ r n, iter f n s = some r) (Classical.propDecidable _) (fun h => some (Classical.choose h)) (fun _ => none)
theorem loop_iff {σ ρ : Type} {f : σ → Option (σ ⊕ ρ)} {s : σ} {r : ρ} : loop f s = some r ↔ ∃ n, iter f n s = some r := by
  unfold loop
  constructor
  · intro h
    split at h
    next hex =>
      cases h
      exact Classical.choose_spec hex
    next => cases h
  · intro ⟨n, hn⟩
    have hex : ∃ r n, iter f n s = some r := ⟨r, n, hn⟩
    rw [dif_pos hex]
    obtain ⟨k, hk⟩ := Classical.choose_spec hex
    exact congrArg some (iter_det hk hn)
theorem loop_eq {σ ρ : Type} (f : σ → Option (σ ⊕ ρ)) (s : σ) : loop f s = match f s with
    | none => none
    | some (.inl s') => loop f s'
    | some (.inr r) => some r := by
  apply Option.ext
  intro r
  rw [loop_iff]
  cases hf : f s with
  | none =>
    constructor
    · intro ⟨n, hn⟩
      cases n with
      | zero => cases hn
      | succ n => rw [iter, hf] at hn; cases hn
    · intro h; cases h
  | some x =>
    cases x with
    | inl s' =>
      show _ ↔ loop f s' = some r
      rw [loop_iff]
      constructor
      · intro ⟨n, hn⟩
        cases n with
        | zero => cases hn
        | succ n => rw [iter, hf] at hn; exact ⟨n, hn⟩
      · intro ⟨n, hn⟩
        exact ⟨n + 1, by rw [iter, hf]; exact hn⟩
    | inr r' =>
      show _ ↔ some r' = some r
      constructor
      · intro ⟨n, hn⟩
        cases n with
        | zero => cases hn
        | succ n => rw [iter, hf] at hn; exact hn
      · intro h
        exact ⟨1, by rw [iter, hf]; exact h⟩
/-- the machine at g follows the program x; at its end it is as G asks -/
def SimK (Ok : Cfg → Prop) (g : Cfg) {α : Type} (x : Option α) (G : α → Prop) : Prop := ∀ a : α, x = some a → G a → Ok g
def GLp {σ ρ : Type} (Ok : Cfg → Prop) (V : σ → Cfg) (G : ρ → Prop) : σ ⊕ ρ → Prop := fun x => match x with
  | .inl s => Ok (V s)
  | .inr r => G r
def GEp {ρ : Type} (Ok : Cfg → Prop) (E : ρ → Cfg) : ρ → Prop := fun a => Ok (E a)
def pickL (ks : List Nat) (lv : List (Nat × MV)) : List (Nat × MV) := ks.filterMap (fun k => lv[k]?)
def Gi (o : Oc) (wo : Wld) : Int32 × Wld → Prop := fun a => o = .inr (some a.1) ∧ wo = a.2
def Gp (o : Oc) (wo w : Wld) : Int32 → Prop := fun a => o = .inr (some a) ∧ wo = w
def Gv (o : Oc) (wo : Wld) : Wld → Prop := fun a => o = .inr none ∧ wo = a
def Gt (o : Oc) (wo : Wld) : Oc × Wld → Prop := fun a => o = a.1 ∧ wo = a.2
section Sim
variable {Z : ZT} {l : Launch} {oc nL : Nat} {cc : ByteArray} {ret : Option FieldType} {fr lc : Nat} {o : Oc} {wo : Wld} {Ok : Cfg → Prop}
variable {α : Type} {G : α → Prop} {pc pc' : Nat} {lv lv' : List (Nat × MV)} {st st' t : List MV} {w w' : Wld} {x y : Option α}
theorem sim_blk0 (hC : Clo Z l oc nL cc ret fr lc o wo Ok) (is : List AI) (lv' : List (Nat × MV)) (st' : List MV) (w' : Wld) (pc' : Nat) (hd : dcB oc nL cc pc is = true) (he : exB is lv st w = some ([], lv', st', w')) (hp : pc + lenB is = pc') (k : SimK Ok (pc', lv', st', w') x G) : SimK Ok (pc, lv, st, w) x G := by
  intro a ha hg
  refine hC.1 pc is lv st w [] lv' st' w' hd he (fun _ h => nomatch h) ?_
  rw [hp]
  exact k a ha hg
theorem sim_blk1 (hC : Clo Z l oc nL cc ret fr lc o wo Ok) (is : List AI) (lv' : List (Nat × MV)) (st' : List MV) (w' : Wld) (pc' : Nat) {c1 : Prop} (hd : dcB oc nL cc pc is = true) (he : exB is lv st w = some ([c1], lv', st', w')) (hp : pc + lenB is = pc') (k : SimK Ok (pc', lv', st', w') x G) : SimK Ok (pc, lv, st, w) (gd c1 x) G := by
  intro a ha hg
  obtain ⟨h1, ha⟩ := gd_some ha
  refine hC.1 pc is lv st w [c1] lv' st' w' hd he (fun q h => by rcases List.mem_cons.mp h with rfl | h; exact h1; cases h) ?_
  rw [hp]
  exact k a ha hg
theorem sim_blk2 (hC : Clo Z l oc nL cc ret fr lc o wo Ok) (is : List AI) (lv' : List (Nat × MV)) (st' : List MV) (w' : Wld) (pc' : Nat) {c1 c2 : Prop} (hd : dcB oc nL cc pc is = true) (he : exB is lv st w = some ([c1, c2], lv', st', w')) (hp : pc + lenB is = pc') (k : SimK Ok (pc', lv', st', w') x G) : SimK Ok (pc, lv, st, w) (gd c1 (gd c2 x)) G := by
  intro a ha hg
  obtain ⟨h1, ha⟩ := gd_some ha
  obtain ⟨h2, ha⟩ := gd_some ha
  refine hC.1 pc is lv st w [c1, c2] lv' st' w' hd he (fun q h => by
    rcases List.mem_cons.mp h with rfl | h
    · exact h1
    rcases List.mem_cons.mp h with rfl | h
    · exact h2
    cases h) ?_
  rw [hp]
  exact k a ha hg
theorem sim_blk3 (hC : Clo Z l oc nL cc ret fr lc o wo Ok) (is : List AI) (lv' : List (Nat × MV)) (st' : List MV) (w' : Wld) (pc' : Nat) {c1 c2 c3 : Prop} (hd : dcB oc nL cc pc is = true) (he : exB is lv st w = some ([c1, c2, c3], lv', st', w')) (hp : pc + lenB is = pc') (k : SimK Ok (pc', lv', st', w') x G) : SimK Ok (pc, lv, st, w) (gd c1 (gd c2 (gd c3 x))) G := by
  intro a ha hg
  obtain ⟨h1, ha⟩ := gd_some ha
  obtain ⟨h2, ha⟩ := gd_some ha
  obtain ⟨h3, ha⟩ := gd_some ha
  refine hC.1 pc is lv st w [c1, c2, c3] lv' st' w' hd he (fun q h => by
    rcases List.mem_cons.mp h with rfl | h
    · exact h1
    rcases List.mem_cons.mp h with rfl | h
    · exact h2
    rcases List.mem_cons.mp h with rfl | h
    · exact h3
    cases h) ?_
  rw [hp]
  exact k a ha hg
theorem sim_br (hC : Clo Z l oc nL cc ret fr lc o wo Ok) (i : Instr) (tgt : Nat) {q : Prop} (hd : decode cc pc = .ok (i, 3)) (hb : brn i st = some (q, t)) (ht : (pc : Int) + boff i = (tgt : Int)) (k1 : SimK Ok (tgt, lv, t, w) x G) (k2 : SimK Ok (pc + 3, lv, t, w) y G) : SimK Ok (pc, lv, st, w) (br q x y) G := by
  intro a ha hg
  refine hC.2.1 pc i tgt lv st w q t hd hb ht (fun h => ?_) (fun h => ?_)
  · rw [br_pos h] at ha; exact k1 a ha hg
  · rw [br_neg h] at ha; exact k2 a ha hg
theorem sim_goto (hC : Clo Z l oc nL cc ret fr lc o wo Ok) (off : Int) (tgt : Nat) (hd : decode cc pc = .ok (.goto off, 3)) (ht : (pc : Int) + off = (tgt : Int)) (k : SimK Ok (tgt, lv, st, w) x G) : SimK Ok (pc, lv, st, w) x G :=
  fun a ha hg => hC.2.2.1 pc off tgt lv st w hd ht (k a ha hg)
/-- a switch: the case is known -/
theorem sim_case (hC : Clo Z l oc nL cc ret fr lc o wo Ok) (dflt lo hi : Int) (offs : Array Int) (len : Nat) (off : Int) (tgt : Nat) {v n : Int32} (hv : v = n) (hd : decode cc pc = .ok (.tableswitch dflt lo hi offs, len)) (h1 : ¬ n.toInt < lo) (h2 : ¬ hi < n.toInt) (ho : offs[(n.toInt - lo).toNat]? = some off) (ht : (pc : Int) + off = (tgt : Int)) (k : SimK Ok (tgt, lv, st, w) x G) : SimK Ok (pc, lv, vI v :: st, w) x G := by
  intro a ha hg
  subst hv
  exact hC.2.2.2.1 pc dflt lo hi offs len off tgt v lv st w hd h1 h2 ho ht (k a ha hg)
theorem sim_dflt (hC : Clo Z l oc nL cc ret fr lc o wo Ok) (dflt lo hi : Int) (offs : Array Int) (len : Nat) (tgt : Nat) {v : Int32} (hd : decode cc pc = .ok (.tableswitch dflt lo hi offs, len)) (h : v.toInt < lo ∨ hi < v.toInt) (ht : (pc : Int) + dflt = (tgt : Int)) (k : SimK Ok (tgt, lv, st, w) x G) : SimK Ok (pc, lv, vI v :: st, w) x G :=
  fun a ha hg => hC.2.2.2.2.1 pc dflt lo hi offs len tgt v lv st w hd h ht (k a ha hg)
theorem sim_look (hC : Clo Z l oc nL cc ret fr lc o wo Ok) (dflt : Int) (ps : Array (Int × Int)) (len : Nat) (off : Int) (tgt : Nat) {v : Int32} (hd : decode cc pc = .ok (.lookupswitch dflt ps, len)) (hp : (ps.toList.zip (ps.toList.drop 1)).all (fun (a, next) => a.1 < next.1) = true) (ho : Op.lookupswitch.offset ps.toList dflt v.toInt = off) (ht : (pc : Int) + off = (tgt : Int)) (k : SimK Ok (tgt, lv, st, w) x G) : SimK Ok (pc, lv, vI v :: st, w) x G :=
  fun a ha hg => hC.2.2.2.2.2.1 pc dflt ps len off tgt v lv st w hd hp ho ht (k a ha hg)
theorem sim_cases {q : Prop} {g : Cfg} (k1 : q → SimK Ok g x G) (k2 : ¬ q → SimK Ok g y G) : SimK Ok g (br q x y) G := by
  intro a ha hg
  by_cases h : q
  · rw [br_pos h] at ha; exact k1 h a ha hg
  · rw [br_neg h] at ha; exact k2 h a ha hg
/-- a value is an int on the stack, of a method that changes the world, or doesn't, or may throw -/
theorem sim_reti (hC : Clo Z l oc nL cc ret fr lc o wo Ok) {v : Int32} (hd : decode cc pc = .ok (.ireturn, 1)) (hr : retB ret v) : SimK Ok (pc, lv, [vI v], w) (some (v, w)) (Gi o wo) := by
  intro a ha hg
  cases ha
  exact hC.2.2.2.2.2.2.1 pc lv v w hd hr hg.1 hg.2
theorem sim_retiz (hC : Clo Z l oc nL cc ret fr lc o wo Ok) {v : Int32} (hd : decode cc pc = .ok (.ireturn, 1)) (hr : ret = some .boolean) : SimK Ok (pc, lv, [vI v], w) (gd (v = 0 ∨ v = 1) (some (v, w))) (Gi o wo) := by
  intro a ha hg
  obtain ⟨hz, ha⟩ := gd_some ha
  cases ha
  exact hC.2.2.2.2.2.2.1 pc lv v w hd (by rw [hr]; exact hz) hg.1 hg.2
theorem sim_retp (hC : Clo Z l oc nL cc ret fr lc o wo Ok) {v : Int32} (hd : decode cc pc = .ok (.ireturn, 1)) (hr : retB ret v) : SimK Ok (pc, lv, [vI v], w) (some v) (Gp o wo w) := by
  intro a ha hg
  cases ha
  exact hC.2.2.2.2.2.2.1 pc lv v w hd hr hg.1 hg.2
theorem sim_retpz (hC : Clo Z l oc nL cc ret fr lc o wo Ok) {v : Int32} (hd : decode cc pc = .ok (.ireturn, 1)) (hr : ret = some .boolean) : SimK Ok (pc, lv, [vI v], w) (gd (v = 0 ∨ v = 1) (some v)) (Gp o wo w) := by
  intro a ha hg
  obtain ⟨hz, ha⟩ := gd_some ha
  cases ha
  exact hC.2.2.2.2.2.2.1 pc lv v w hd (by rw [hr]; exact hz) hg.1 hg.2
theorem sim_rett (hC : Clo Z l oc nL cc ret fr lc o wo Ok) {v : Int32} (hd : decode cc pc = .ok (.ireturn, 1)) (hr : retB ret v) : SimK Ok (pc, lv, [vI v], w) (some (.inr (some v), w)) (Gt o wo) := by
  intro a ha hg
  cases ha
  exact hC.2.2.2.2.2.2.1 pc lv v w hd hr hg.1 hg.2
theorem sim_retv (hC : Clo Z l oc nL cc none fr lc o wo Ok) (hd : decode cc pc = .ok (.return_, 1)) : SimK Ok (pc, lv, [], w) (some w) (Gv o wo) := by
  intro a ha hg
  cases ha
  exact hC.2.2.2.2.2.2.2.1 pc lv w hd rfl hg.1 hg.2
theorem sim_retvt (hC : Clo Z l oc nL cc none fr lc o wo Ok) (hd : decode cc pc = .ok (.return_, 1)) : SimK Ok (pc, lv, [], w) (some (.inr none, w)) (Gt o wo) := by
  intro a ha hg
  cases ha
  exact hC.2.2.2.2.2.2.2.1 pc lv w hd rfl hg.1 hg.2
/-- fewer locals -/
theorem sim_sub (hC : Clo Z l oc nL cc ret fr lc o wo Ok) (ks : List Nat) (k : SimK Ok (pc, pickL ks lv, st, w) x G) : SimK Ok (pc, lv, st, w) x G := by
  intro a ha hg
  refine hC.2.2.2.2.2.2.2.2.1 pc lv (pickL ks lv) st w (fun q hq => ?_) (k a ha hg)
  obtain ⟨i, -, hi⟩ := List.mem_filterMap.mp hq
  exact List.mem_of_getElem? hi
/-- from inside a loop's body: a return is a return of what is around it -/
theorem sim_in {σ ρ : Type} {V : σ → Cfg} {g : Cfg} {x : Option α} {f : α → σ ⊕ ρ} {Gr : ρ → Prop} (hf : ∀ a, GLp Ok V Gr (f a) → G a) (k : SimK Ok g x G) : SimK Ok g (x.map f) (GLp Ok V Gr) := by
  intro a ha hg
  cases hx : x with
  | none => rw [hx] at ha; cases ha
  | some b => rw [hx] at ha; cases ha; exact k b hx (hf b hg)
theorem sim_bi {C : Int32 → Cfg} {v : Int32} {f : Int32 → Option α} (k : ∀ y, SimK Ok (C y) (f y) G) : SimK Ok (C v) (bi v f) G := k v
theorem sim_bw {C : Wld → Cfg} {v : Wld} {f : Wld → Option α} (k : ∀ y, SimK Ok (C y) (f y) G) : SimK Ok (C v) (bw v f) G := k v
theorem sim_back {σ ρ : Type} {V : σ → Cfg} {Gr : ρ → Prop} (s : σ) : SimK Ok (V s) (some (.inl s : σ ⊕ ρ)) (GLp Ok V Gr) := by
  intro a ha hg
  cases ha
  exact hg
theorem sim_exit {σ ρ : Type} {V : σ → Cfg} {E : ρ → Cfg} (r : ρ) : SimK Ok (E r) (some (.inr r : σ ⊕ ρ)) (GLp Ok V (GEp Ok E)) := by
  intro a ha hg
  cases ha
  exact hg
theorem sim_exitx {σ ρ : Type} {V : σ → Cfg} {E : ρ → Cfg} (r : ρ) : SimK Ok (E r) (some (.inr (.inl r) : σ ⊕ (ρ ⊕ α))) (GLp Ok V (GLp Ok E G)) := by
  intro a ha hg
  cases ha
  exact hg
/-- leaving the loop by what is around it -/
theorem sim_outx {σ ρ : Type} {V : σ → Cfg} {E : ρ → Cfg} {g : Cfg} {v : α} (k : SimK Ok g (some v) G) : SimK Ok g (some (.inr (.inr v) : σ ⊕ (ρ ⊕ α))) (GLp Ok V (GLp Ok E G)) := by
  intro a ha hg
  cases ha
  exact k v rfl hg
theorem sim_loop {σ ρ : Type} {V : σ → Cfg} {f : σ → Option (σ ⊕ ρ)} {Gr : ρ → Prop} (h : ∀ s, SimK Ok (V s) (f s) (GLp Ok V Gr)) (s : σ) : SimK Ok (V s) (loop f s) Gr := by
  intro r hr hg
  obtain ⟨n, hn⟩ := loop_iff.mp hr
  clear hr
  induction n generalizing s with
  | zero => cases hn
  | succ n ih =>
    rw [iter] at hn
    cases hf : f s with
    | none => rw [hf] at hn; cases hn
    | some x =>
      rw [hf] at hn
      cases x with
      | inl s' => exact h s _ hf (ih s' hn)
      | inr r' =>
        cases hn
        exact h s _ hf hg
theorem sim_bl {ρ : Type} {E : ρ → Cfg} {g : Cfg} {x : Option ρ} {f : ρ → Option α} (h1 : SimK Ok g x (GEp Ok E)) (h2 : ∀ r, SimK Ok (E r) (f r) G) : SimK Ok g (bl x f) G := by
  intro a ha hg
  obtain ⟨r, hr, hf⟩ := Option.bind_eq_some_iff.mp ha
  exact h1 r hr (h2 r a hf hg)
theorem sim_bx {ρ : Type} {E : ρ → Cfg} {g : Cfg} {x : Option (ρ ⊕ α)} {f : ρ → Option α} (h1 : SimK Ok g x (GLp Ok E G)) (h2 : ∀ r, SimK Ok (E r) (f r) G) : SimK Ok g (bx x f) G := by
  intro a ha hg
  obtain ⟨r, hr, hf⟩ := Option.bind_eq_some_iff.mp ha
  cases r with
  | inl r => exact h1 (.inl r) hr (h2 r a hf hg)
  | inr b =>
    have hf : some b = some a := hf
    cases hf
    exact h1 (.inr a) hr hg
/-- calls -/
theorem sim_vd (hC : Clo Z l oc nL cc ret fr lc o wo Ok) (idx : Nat) (M : MI) (fr1 lc1 : Nat) (n : Nat) (as t : List MV) {x : Option (Int32 × Wld)} {f : Int32 → Wld → Option α} (hd : decode cc pc = .ok (.invokevirtual idx, 3)) (hm : (oc, idx, M, false) ∈ MLT) (hrc : rcvB n M.1.cls = true) (hpar : parB M as.length = true) (hst : st = as.reverse ++ vR n :: t) (hcat : Nat.ble (catS t) 8 = true) (hfr : Nat.ble (fr1 + 1) fr = true) (hlc : Nat.ble (8 + (M.2.2.1 + 11) + lc1) lc = true)
    (hcon : ∀ r w1, x = some (r, w1) → Con Z l M fr1 lc1 (vR n :: as) w (.inr (some r)) w1) (k : ∀ r w1, SimK Ok (pc + 3, lv, vI r :: t, w1) (f r w1) G) : SimK Ok (pc, lv, st, w) (bd x f) G := by
  intro a ha hg
  obtain ⟨⟨r, w1⟩, hr, hf⟩ := Option.bind_eq_some_iff.mp ha
  exact hC.2.2.2.2.2.2.2.2.2.1 pc idx M fr1 lc1 n as lv st t w _ w1 hd hm hrc hpar hst hcat hfr hlc (hcon r w1 hr) (fun v hv => by cases hv; exact k r w1 a hf hg) (fun k hk => nomatch hk)
theorem sim_vp (hC : Clo Z l oc nL cc ret fr lc o wo Ok) (idx : Nat) (M : MI) (fr1 lc1 : Nat) (n : Nat) (as t : List MV) {x : Option Int32} {f : Int32 → Option α} (hd : decode cc pc = .ok (.invokevirtual idx, 3)) (hm : (oc, idx, M, false) ∈ MLT) (hrc : rcvB n M.1.cls = true) (hpar : parB M as.length = true) (hst : st = as.reverse ++ vR n :: t) (hcat : Nat.ble (catS t) 8 = true) (hfr : Nat.ble (fr1 + 1) fr = true) (hlc : Nat.ble (8 + (M.2.2.1 + 11) + lc1) lc = true)
    (hcon : ∀ r, x = some r → Con Z l M fr1 lc1 (vR n :: as) w (.inr (some r)) w) (k : ∀ r, SimK Ok (pc + 3, lv, vI r :: t, w) (f r) G) : SimK Ok (pc, lv, st, w) (bp x f) G := by
  intro a ha hg
  obtain ⟨r, hr, hf⟩ := Option.bind_eq_some_iff.mp ha
  exact hC.2.2.2.2.2.2.2.2.2.1 pc idx M fr1 lc1 n as lv st t w _ w hd hm hrc hpar hst hcat hfr hlc (hcon r hr) (fun v hv => by cases hv; exact k r a hf hg) (fun k hk => nomatch hk)
theorem sim_vv (hC : Clo Z l oc nL cc ret fr lc o wo Ok) (idx : Nat) (M : MI) (fr1 lc1 : Nat) (n : Nat) (as t : List MV) {x : Option Wld} {f : Wld → Option α} (hd : decode cc pc = .ok (.invokevirtual idx, 3)) (hm : (oc, idx, M, false) ∈ MLT) (hrc : rcvB n M.1.cls = true) (hpar : parB M as.length = true) (hst : st = as.reverse ++ vR n :: t) (hcat : Nat.ble (catS t) 8 = true) (hfr : Nat.ble (fr1 + 1) fr = true) (hlc : Nat.ble (8 + (M.2.2.1 + 11) + lc1) lc = true)
    (hcon : ∀ w1, x = some w1 → Con Z l M fr1 lc1 (vR n :: as) w (.inr none) w1) (k : ∀ w1, SimK Ok (pc + 3, lv, t, w1) (f w1) G) : SimK Ok (pc, lv, st, w) (bv x f) G := by
  intro a ha hg
  obtain ⟨w1, hr, hf⟩ := Option.bind_eq_some_iff.mp ha
  exact hC.2.2.2.2.2.2.2.2.2.1 pc idx M fr1 lc1 n as lv st t w _ w1 hd hm hrc hpar hst hcat hfr hlc (hcon w1 hr) (fun v hv => by cases hv; exact k w1 a hf hg) (fun k hk => nomatch hk)
theorem sim_vt (hC : Clo Z l oc nL cc ret fr lc o wo Ok) (idx : Nat) (M : MI) (fr1 lc1 : Nat) (n : Nat) (as t : List MV) {x : Option (Oc × Wld)} {f : Option Int32 → Wld → Option (Oc × Wld)} (hd : decode cc pc = .ok (.invokevirtual idx, 3)) (hm : (oc, idx, M, false) ∈ MLT) (hrc : rcvB n M.1.cls = true) (hpar : parB M as.length = true) (hst : st = as.reverse ++ vR n :: t) (hcat : Nat.ble (catS t) 8 = true) (hfr : Nat.ble (fr1 + 1) fr = true) (hlc : Nat.ble (8 + (M.2.2.1 + 11) + lc1) lc = true)
    (hcon : ∀ q w1, x = some (q, w1) → Con Z l M fr1 lc1 (vR n :: as) w q w1) (k : ∀ v w1, SimK Ok (pc + 3, lv, retV v ++ t, w1) (f v w1) (Gt o wo)) : SimK Ok (pc, lv, st, w) (bt x f) (Gt o wo) := by
  intro a ha hg
  obtain ⟨⟨q, w1⟩, hr, hf⟩ := Option.bind_eq_some_iff.mp ha
  refine hC.2.2.2.2.2.2.2.2.2.1 pc idx M fr1 lc1 n as lv st t w q w1 hd hm hrc hpar hst hcat hfr hlc (hcon q w1 hr) (fun v hv => ?_) (fun k hk => ?_)
  · subst hv
    exact k v w1 a hf hg
  · subst hk
    have hf : some ((.inl k, w1) : Oc × Wld) = some a := hf
    cases hf
    exact hg
theorem sim_sd (hC : Clo Z l oc nL cc ret fr lc o wo Ok) (idx : Nat) (M : MI) (fr1 lc1 : Nat) (as t : List MV) {x : Option (Int32 × Wld)} {f : Int32 → Wld → Option α} (hd : decode cc pc = .ok (.invokestatic idx, 3)) (hm : (oc, idx, M, true) ∈ MLT) (hpar : parB M as.length = true) (hst : st = as.reverse ++ t) (hcat : Nat.ble (catS t) 8 = true) (hfr : Nat.ble (fr1 + 1) fr = true) (hlc : Nat.ble (8 + (M.2.2.1 + 11) + lc1) lc = true)
    (hcon : ∀ r w1, x = some (r, w1) → Con Z l M fr1 lc1 as w (.inr (some r)) w1) (k : ∀ r w1, SimK Ok (pc + 3, lv, vI r :: t, w1) (f r w1) G) : SimK Ok (pc, lv, st, w) (bd x f) G := by
  intro a ha hg
  obtain ⟨⟨r, w1⟩, hr, hf⟩ := Option.bind_eq_some_iff.mp ha
  exact hC.2.2.2.2.2.2.2.2.2.2.1 pc idx M fr1 lc1 as lv st t w _ w1 hd hm hpar hst hcat hfr hlc (hcon r w1 hr) (fun v hv => by cases hv; exact k r w1 a hf hg) (fun k hk => nomatch hk)
theorem sim_sp (hC : Clo Z l oc nL cc ret fr lc o wo Ok) (idx : Nat) (M : MI) (fr1 lc1 : Nat) (as t : List MV) {x : Option Int32} {f : Int32 → Option α} (hd : decode cc pc = .ok (.invokestatic idx, 3)) (hm : (oc, idx, M, true) ∈ MLT) (hpar : parB M as.length = true) (hst : st = as.reverse ++ t) (hcat : Nat.ble (catS t) 8 = true) (hfr : Nat.ble (fr1 + 1) fr = true) (hlc : Nat.ble (8 + (M.2.2.1 + 11) + lc1) lc = true)
    (hcon : ∀ r, x = some r → Con Z l M fr1 lc1 as w (.inr (some r)) w) (k : ∀ r, SimK Ok (pc + 3, lv, vI r :: t, w) (f r) G) : SimK Ok (pc, lv, st, w) (bp x f) G := by
  intro a ha hg
  obtain ⟨r, hr, hf⟩ := Option.bind_eq_some_iff.mp ha
  exact hC.2.2.2.2.2.2.2.2.2.2.1 pc idx M fr1 lc1 as lv st t w _ w hd hm hpar hst hcat hfr hlc (hcon r hr) (fun v hv => by cases hv; exact k r a hf hg) (fun k hk => nomatch hk)
theorem sim_sv (hC : Clo Z l oc nL cc ret fr lc o wo Ok) (idx : Nat) (M : MI) (fr1 lc1 : Nat) (as t : List MV) {x : Option Wld} {f : Wld → Option α} (hd : decode cc pc = .ok (.invokestatic idx, 3)) (hm : (oc, idx, M, true) ∈ MLT) (hpar : parB M as.length = true) (hst : st = as.reverse ++ t) (hcat : Nat.ble (catS t) 8 = true) (hfr : Nat.ble (fr1 + 1) fr = true) (hlc : Nat.ble (8 + (M.2.2.1 + 11) + lc1) lc = true)
    (hcon : ∀ w1, x = some w1 → Con Z l M fr1 lc1 as w (.inr none) w1) (k : ∀ w1, SimK Ok (pc + 3, lv, t, w1) (f w1) G) : SimK Ok (pc, lv, st, w) (bv x f) G := by
  intro a ha hg
  obtain ⟨w1, hr, hf⟩ := Option.bind_eq_some_iff.mp ha
  exact hC.2.2.2.2.2.2.2.2.2.2.1 pc idx M fr1 lc1 as lv st t w _ w1 hd hm hpar hst hcat hfr hlc (hcon w1 hr) (fun v hv => by cases hv; exact k w1 a hf hg) (fun k hk => nomatch hk)
theorem sim_st (hC : Clo Z l oc nL cc ret fr lc o wo Ok) (idx : Nat) (M : MI) (fr1 lc1 : Nat) (as t : List MV) {x : Option (Oc × Wld)} {f : Option Int32 → Wld → Option (Oc × Wld)} (hd : decode cc pc = .ok (.invokestatic idx, 3)) (hm : (oc, idx, M, true) ∈ MLT) (hpar : parB M as.length = true) (hst : st = as.reverse ++ t) (hcat : Nat.ble (catS t) 8 = true) (hfr : Nat.ble (fr1 + 1) fr = true) (hlc : Nat.ble (8 + (M.2.2.1 + 11) + lc1) lc = true)
    (hcon : ∀ q w1, x = some (q, w1) → Con Z l M fr1 lc1 as w q w1) (k : ∀ v w1, SimK Ok (pc + 3, lv, retV v ++ t, w1) (f v w1) (Gt o wo)) : SimK Ok (pc, lv, st, w) (bt x f) (Gt o wo) := by
  intro a ha hg
  obtain ⟨⟨q, w1⟩, hr, hf⟩ := Option.bind_eq_some_iff.mp ha
  refine hC.2.2.2.2.2.2.2.2.2.2.1 pc idx M fr1 lc1 as lv st t w q w1 hd hm hpar hst hcat hfr hlc (hcon q w1 hr) (fun v hv => ?_) (fun k hk => ?_)
  · subst hv
    exact k v w1 a hf hg
  · subst hk
    have hf : some ((.inl k, w1) : Oc × Wld) = some a := hf
    cases hf
    exact hg
theorem sim_vn (hC : Clo Z l oc nL cc ret fr lc o wo Ok) (idx : Nat) (M : MI) (fr1 lc1 : Nat) (n : Nat) (as t : List MV) {x : Option (Option Nat)} {f : Option (Oc × Wld)} (hd : decode cc pc = .ok (.invokevirtual idx, 3)) (hm : (oc, idx, M, false) ∈ MLT) (hrc : rcvB n M.1.cls = true) (hpar : parB M as.length = true) (hst : st = as.reverse ++ vR n :: t) (hcat : Nat.ble (catS t) 8 = true) (hfr : Nat.ble (fr1 + 1) fr = true) (hlc : Nat.ble (8 + (M.2.2.1 + 11) + lc1) lc = true)
    (hcon : ∀ q, x = some q → Con Z l M fr1 lc1 (vR n :: as) w (ocN q) w) (k : SimK Ok (pc + 3, lv, t, w) f (Gt o wo)) : SimK Ok (pc, lv, st, w) (bn x w f) (Gt o wo) := by
  intro a ha hg
  obtain ⟨q, hr, hf⟩ := Option.bind_eq_some_iff.mp ha
  refine hC.2.2.2.2.2.2.2.2.2.1 pc idx M fr1 lc1 n as lv st t w (ocN q) w hd hm hrc hpar hst hcat hfr hlc (hcon q hr) (fun v hv => ?_) (fun k9 hk => ?_)
  · cases q with
    | some j => cases hv
    | none => cases hv; exact k a hf hg
  · cases q with
    | some j =>
      have hf : some ((.inl j, w) : Oc × Wld) = some a := hf
      cases hk
      cases hf
      exact hg
    | none => cases hk
theorem sim_sn (hC : Clo Z l oc nL cc ret fr lc o wo Ok) (idx : Nat) (M : MI) (fr1 lc1 : Nat) (as t : List MV) {x : Option (Option Nat)} {f : Option (Oc × Wld)} (hd : decode cc pc = .ok (.invokestatic idx, 3)) (hm : (oc, idx, M, true) ∈ MLT) (hpar : parB M as.length = true) (hst : st = as.reverse ++ t) (hcat : Nat.ble (catS t) 8 = true) (hfr : Nat.ble (fr1 + 1) fr = true) (hlc : Nat.ble (8 + (M.2.2.1 + 11) + lc1) lc = true)
    (hcon : ∀ q, x = some q → Con Z l M fr1 lc1 as w (ocN q) w) (k : SimK Ok (pc + 3, lv, t, w) f (Gt o wo)) : SimK Ok (pc, lv, st, w) (bn x w f) (Gt o wo) := by
  intro a ha hg
  obtain ⟨q, hr, hf⟩ := Option.bind_eq_some_iff.mp ha
  refine hC.2.2.2.2.2.2.2.2.2.2.1 pc idx M fr1 lc1 as lv st t w (ocN q) w hd hm hpar hst hcat hfr hlc (hcon q hr) (fun v hv => ?_) (fun k9 hk => ?_)
  · cases q with
    | some j => cases hv
    | none => cases hv; exact k a hf hg
  · cases q with
    | some j =>
      have hf : some ((.inl j, w) : Oc × Wld) = some a := hf
      cases hk
      cases hf
      exact hg
    | none => cases hk
theorem sim_rettz (hC : Clo Z l oc nL cc ret fr lc o wo Ok) {v : Int32} (hd : decode cc pc = .ok (.ireturn, 1)) (hr : ret = some .boolean) : SimK Ok (pc, lv, [vI v], w) (gd (v = 0 ∨ v = 1) (some (.inr (some v), w))) (Gt o wo) := by
  intro a ha hg
  obtain ⟨hz, ha⟩ := gd_some ha
  cases ha
  exact hC.2.2.2.2.2.2.1 pc lv v w hd (by rw [hr]; exact hz) hg.1 hg.2
theorem sim_retn (hC : Clo Z l oc nL cc none fr lc o wo Ok) (hd : decode cc pc = .ok (.return_, 1)) : SimK Ok (pc, lv, [], w) (some none) (Gn o wo w) := by
  intro a ha hg
  cases ha
  exact hC.2.2.2.2.2.2.2.1 pc lv w hd rfl hg.1 hg.2
theorem sim_copy (hC : Clo Z l oc nL cc ret fr lc o wo Ok) (idx a b na nb d : Nat) {sp dp n : Int32} {f : Wld → Option α} (hd : decode cc pc = .ok (.invokestatic idx, 3)) (hi : (oc, idx) ∈ ACT) (h3 : d < 3) (ha : arrOf a = some (tyOf d, na)) (hb : arrOf b = some (tyOf d, nb)) (hfr : Nat.ble 1 fr = true) (hlc : Nat.ble (8 + (nativeFrameWords "java/lang/System" "arraycopy" 5 + 11)) lc = true) (hcat : Nat.ble (catS t) 8 = true)
    (k : ∀ w1, SimK Ok (pc + 3, lv, t, w1) (f w1) G) : SimK Ok (pc, lv, vI n :: vI dp :: vR b :: vI sp :: vR a :: t, w) (gd (cpO w a na nb d sp dp n) (bw (wcp w a b sp.toNatClampNeg dp.toNatClampNeg n.toNatClampNeg) f)) G := by
  intro q hq hg
  obtain ⟨hc, hq⟩ := gd_some hq
  exact hC.2.2.2.2.2.2.2.2.2.2.2.1 pc idx a b na nb d sp dp n lv t w hd hi h3 ha hb hfr hlc hcat hc (k _ q hq hg)
theorem sim_thrn (hC : Clo Z l oc nL cc ret fr lc o wo Ok) (ik ic k : Nat) (h1 : decode cc pc = .ok (.new ik, 3)) (h2 : decode cc (pc + 3) = .ok (.dup, 1)) (h3 : decode cc (pc + 4) = .ok (.invokespecial ic, 3)) (h4 : decode cc (pc + 7) = .ok (.athrow, 1)) (h5 : thrB oc ik ic k = true) (h6 : Nat.ble (catS st) 8 = true) (h7 : Nat.ble 6 fr = true) (h8 : Nat.ble 89 lc = true) : SimK Ok (pc, lv, st, w) (some (some k)) (Gn o wo w) := by
  intro a ha hg
  cases ha
  exact hC.2.2.2.2.2.2.2.2.2.2.2.2.1 pc ik ic k lv st w h1 h2 h3 h4 h5 h6 h7 h8 hg.1 hg.2
theorem sim_thrt (hC : Clo Z l oc nL cc ret fr lc o wo Ok) (ik ic k : Nat) (h1 : decode cc pc = .ok (.new ik, 3)) (h2 : decode cc (pc + 3) = .ok (.dup, 1)) (h3 : decode cc (pc + 4) = .ok (.invokespecial ic, 3)) (h4 : decode cc (pc + 7) = .ok (.athrow, 1)) (h5 : thrB oc ik ic k = true) (h6 : Nat.ble (catS st) 8 = true) (h7 : Nat.ble 6 fr = true) (h8 : Nat.ble 89 lc = true) : SimK Ok (pc, lv, st, w) (some (.inl k, w)) (Gt o wo) := by
  intro a ha hg
  cases ha
  exact hC.2.2.2.2.2.2.2.2.2.2.2.2.1 pc ik ic k lv st w h1 h2 h3 h4 h5 h6 h7 h8 hg.1 hg.2
theorem sim_max (hC : Clo Z l oc nL cc ret fr lc o wo Ok) (idx : Nat) {a b : Int32} (hd : decode cc pc = .ok (.invokestatic idx, 3)) (hm : (oc, idx, mJ9_max_7cf53, true) ∈ MLT) (hfr : Nat.ble 1 fr = true) (hlc : Nat.ble 21 lc = true) (hcat : Nat.ble (catS t) 8 = true) (k : SimK Ok (pc + 3, lv, vI (imax a b) :: t, w) x G) : SimK Ok (pc, lv, vI b :: vI a :: t, w) x G :=
  fun q hq hg => hC.2.2.2.2.2.2.2.2.2.2.2.2.2.1 pc idx a b lv t w hd hm hfr hlc hcat (k q hq hg)
theorem sim_min (hC : Clo Z l oc nL cc ret fr lc o wo Ok) (idx : Nat) {a b : Int32} (hd : decode cc pc = .ok (.invokestatic idx, 3)) (hm : (oc, idx, mJ9_min_7cf53, true) ∈ MLT) (hfr : Nat.ble 1 fr = true) (hlc : Nat.ble 21 lc = true) (hcat : Nat.ble (catS t) 8 = true) (k : SimK Ok (pc + 3, lv, vI (imin a b) :: t, w) x G) : SimK Ok (pc, lv, vI b :: vI a :: t, w) x G :=
  fun q hq hg => hC.2.2.2.2.2.2.2.2.2.2.2.2.2.2 pc idx a b lv t w hd hm hfr hlc hcat (k q hq hg)
end Sim
/-- a switch's default -/
def swB (cs : List Int32) (lo hi : Int) : Bool := (List.range (hi - lo + 1).toNat).all (fun i => cs.any (fun c => decide (c.toInt = lo + i)))
theorem sw_out {x : Int32} (cs : List Int32) (lo hi : Int) (hb : swB cs lo hi = true) (h : ∀ c ∈ cs, ¬ x = c) : x.toInt < lo ∨ hi < x.toInt := by
  by_cases h1 : x.toInt < lo
  · exact Or.inl h1
  by_cases h2 : hi < x.toInt
  · exact Or.inr h2
  exfalso
  have hm : (x.toInt - lo).toNat ∈ List.range (hi - lo + 1).toNat := by
    rw [List.mem_range]
    omega
  have h3 := List.all_eq_true.mp hb _ hm
  obtain ⟨c, hc, h4⟩ := List.any_eq_true.mp h3
  have h4 := of_decide_eq_true h4
  refine h c hc (Int32.toInt_inj.mp ?_)
  omega
theorem look_out2 {x : Int32} {o0 o1 d : Int} (h0 : ¬ x = 0) (h1 : ¬ x = 1) : Op.lookupswitch.offset (#[((0 : Int), o0), (1, o1)] : Array (Int × Int)).toList d x.toInt = d := by
  have a0 : ¬ (0 : Int) = x.toInt := fun h => h0 (Int32.toInt_inj.mp (by rw [← h]; rfl))
  have a1 : ¬ (1 : Int) = x.toInt := fun h => h1 (Int32.toInt_inj.mp (by rw [← h]; rfl))
  show Op.lookupswitch.offset [((0 : Int), o0), (1, o1)] d x.toInt = d
  rw [Op.lookupswitch.offset_cons, if_neg a0, Op.lookupswitch.offset_cons, if_neg a1, Op.lookupswitch.offset_nil]
