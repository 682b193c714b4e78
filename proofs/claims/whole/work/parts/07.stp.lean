/-- the local that an instruction writes -/
def stoL : Instr → Option Nat
  | .istore k => some k
  | .istore_n k => some k.val
  | .astore k => some k
  | .astore_n k => some k.val
  | .iinc k _ => some k
  | _ => none
theorem getL_pl {Z : ZT} {i : Nat} {v : MV} {lv : List (Nat × MV)} (hg : getL lv i = some v) : ∃ q : Nat, (cL Z lv)[q]? = some (i, cv Z v) := by
  have key : ∀ l : List (Nat × MV), getL l i = some v → (i, v) ∈ l := by
    intro l
    induction l with
    | nil => intro h; cases h
    | cons q t ih =>
      obtain ⟨j, u⟩ := q
      intro hg
      simp only [getL] at hg
      cases hb : Nat.beq j i with
      | true =>
        rw [hb] at hg
        cases hg
        rw [Nat.eq_of_beq_eq_true hb]
        exact List.mem_cons_self
      | false =>
        rw [hb] at hg
        exact List.mem_cons_of_mem _ (ih hg)
  exact List.getElem?_of_mem (List.mem_map.mpr ⟨(i, v), key lv hg, rfl⟩)
section Stp
variable {Z : ZT} {p : Program} {l : Launch} {e : Env} {R : Room} {s : State} {m : MethodId} {args : Array Value} {below : List Frame} {meth : Method} {c : Code} {cells slots : Nat} {Q : State → Prop}
variable {oc nL : Nat} {cc : ByteArray}
theorem setL_lt {i : Nat} {v : MV} {lv lv' : List (Nat × MV)} (_ : setL i v lv = some lv') : True := trivial
set_option maxHeartbeats 4000000 in
theorem stp_ok (F : Fx Z p l s m args meth c oc nL cc) {i : Instr} {pc a b d : Nat} {v : Int32} {lv lv' : List (Nat × MV)} {st st' : List MV} {w w' : Wld} {cs : List Prop} (hd : decode cc pc = .ok (i, ilen i)) (ha : ann oc i a b d v = true) (hn : ∀ k, stoL i = some k → k < nL) (hs : stp i a b d v lv st w = some (cs, lv', st', w')) (hcs : ∀ q ∈ cs, q)
    (k : Okc Z p l e R s m args below meth c cells slots nL Q (pc + ilen i, lv', st', w')) : Okc Z p l e R s m args below meth c cells slots nL Q (pc, lv, st, w) := by
  have F0 := F
  obtain ⟨hx, hb, hml, hown, hts, hK, hD, hlk, hk⟩ := F
  cases i with
  | iconst n =>
    cases hs
    simp only [ann, decide_eq_true_eq] at ha
    intro H locs ls hP hS hl
    exact lv_iconst hx hb hd ha (k H locs ls hP hS hl)
  | bipush n =>
    cases hs
    simp only [ann, decide_eq_true_eq] at ha
    intro H locs ls hP hS hl
    exact lv_bipush hx hb hd ha (k H locs ls hP hS hl)
  | sipush n =>
    cases hs
    simp only [ann, decide_eq_true_eq] at ha
    intro H locs ls hP hS hl
    exact lv_sipush hx hb hd ha (k H locs ls hP hS hl)
  | ldc idx =>
    cases hs
    simp only [ann, decide_eq_true_eq] at ha
    intro H locs ls hP hS hl
    exact lv_ldc hx hb hown (hts _ (CLT_tbl ha)) hd (k H locs ls hP hS hl)
  | ldc_w idx =>
    cases hs
    simp only [ann, decide_eq_true_eq] at ha
    intro H locs ls hP hS hl
    exact lv_ldcw hx hb hown (hts _ (CLT_tbl ha)) hd (k H locs ls hP hS hl)
  | ldc2_w idx =>
    cases hs
    simp only [ann, decide_eq_true_eq] at ha
    intro H locs ls hP hS hl
    exact lv_ldc2 hx hb hown (hts _ (CLL_tbl ha)) hd (k H locs ls hP hS hl)
  | lconst n =>
    cases hs
    simp only [ann, decide_eq_true_eq] at ha
    intro H locs ls hP hS hl
    exact lv_lconst hx hb hd ha (k H locs ls hP hS hl)
  | iload j =>
    simp only [stp, ldi] at hs
    split at hs
    next x hg => cases hs; intro H locs ls hP hS hl; exact lv_iload hx hb hd (getL_at hl hg) (k H locs ls hP hS hl)
    next => cases hs
  | iload_n j =>
    simp only [stp, ldi] at hs
    split at hs
    next x hg => cases hs; intro H locs ls hP hS hl; exact lv_iload_n hx hb hd rfl (getL_at hl hg) (k H locs ls hP hS hl)
    next => cases hs
  | lload j =>
    simp only [stp, ldl] at hs
    split at hs
    next x hg => cases hs; intro H locs ls hP hS hl; exact lv_lload hx hb hd (getL_at hl hg) (k H locs ls hP hS hl)
    next => cases hs
  | lload_n j =>
    simp only [stp, ldl] at hs
    split at hs
    next x hg => cases hs; intro H locs ls hP hS hl; exact lv_lload_n hx hb hd rfl (getL_at hl hg) (k H locs ls hP hS hl)
    next => cases hs
  | aload j =>
    simp only [stp, lda] at hs
    split at hs
    next x hg =>
      cases hs
      intro H locs ls hP hS hl
      have hg2 := getL_at hl hg
      have hk2 := k H locs ls hP hS hl
      rcases x with x | x | x
      · exact lv_aload hx hb hd hg2 hk2
      · exact lv_aload hx hb hd hg2 hk2
      · exact lv_aload hx hb hd hg2 hk2
    next => cases hs
  | aload_n j =>
    simp only [stp, lda] at hs
    split at hs
    next x hg =>
      cases hs
      intro H locs ls hP hS hl
      have hg2 := getL_at hl hg
      have hk2 := k H locs ls hP hS hl
      rcases x with x | x | x
      · exact lv_aload_n hx hb hd rfl hg2 hk2
      · exact lv_aload_n hx hb hd rfl hg2 hk2
      · exact lv_aload_n hx hb hd rfl hg2 hk2
    next => cases hs
  | istore j =>
    simp only [stp, sti] at hs
    split at hs
    next x t =>
      split at hs
      next lv2 hset =>
        cases hs
        intro H locs ls hP hS hl
        refine lv_istore hx hb hd hl (hn _ rfl) rfl (fun ls2 hl2 => ?_)
        exact k H locs ls2 hP hS (setL_has hset hl2)
      next => cases hs
    next => cases hs
  | istore_n j =>
    simp only [stp, sti] at hs
    split at hs
    next x t =>
      split at hs
      next lv2 hset =>
        cases hs
        intro H locs ls hP hS hl
        refine lv_istore_n hx hb hd rfl hl (hn _ rfl) rfl (fun ls2 hl2 => ?_)
        exact k H locs ls2 hP hS (setL_has hset hl2)
      next => cases hs
    next => cases hs
  | astore j =>
    simp only [stp, sta] at hs
    split at hs
    next x t =>
      split at hs
      next lv2 hset =>
        cases hs
        intro H locs ls hP hS hl
        rcases x with x | x | x
        · refine lv_astore hx hb hd hl (hn _ rfl) rfl (fun ls2 hl2 => ?_)
          exact k H locs ls2 hP hS (setL_has hset hl2)
        · refine lv_astore hx hb hd hl (hn _ rfl) rfl (fun ls2 hl2 => ?_)
          exact k H locs ls2 hP hS (setL_has hset hl2)
        · refine lv_astore hx hb hd hl (hn _ rfl) rfl (fun ls2 hl2 => ?_)
          exact k H locs ls2 hP hS (setL_has hset hl2)
      next => cases hs
    next => cases hs
  | astore_n j =>
    simp only [stp, sta] at hs
    split at hs
    next x t =>
      split at hs
      next lv2 hset =>
        cases hs
        intro H locs ls hP hS hl
        rcases x with x | x | x
        · refine lv_astore_n hx hb hd rfl hl (hn _ rfl) rfl (fun ls2 hl2 => ?_)
          exact k H locs ls2 hP hS (setL_has hset hl2)
        · refine lv_astore_n hx hb hd rfl hl (hn _ rfl) rfl (fun ls2 hl2 => ?_)
          exact k H locs ls2 hP hS (setL_has hset hl2)
        · refine lv_astore_n hx hb hd rfl hl (hn _ rfl) rfl (fun ls2 hl2 => ?_)
          exact k H locs ls2 hP hS (setL_has hset hl2)
      next => cases hs
    next => cases hs
  | iinc j n =>
    simp only [stp] at hs
    simp only [ann, decide_eq_true_eq] at ha
    split at hs
    next x hg =>
      split at hs
      next lv2 hset =>
        cases hs
        intro H locs ls hP hS hl
        obtain ⟨q, hq⟩ : ∃ q : Nat, (cL Z lv)[q]? = some (j, Value.int x) := getL_pl hg
        refine lv_iinc hx hb hd hl hq (by rw [ha]) (hn _ rfl) rfl (fun ls2 hl2 => ?_)
        exact k H locs ls2 hP hS (setL_has hset hl2)
      next => cases hs
    next => cases hs
  | iadd =>
    simp only [stp, op2] at hs
    split at hs
    next y x t => cases hs; intro H locs ls hP hS hl; exact lv_iadd hx hb hd (k H locs ls hP hS hl)
    next => cases hs
  | isub =>
    simp only [stp, op2] at hs
    split at hs
    next y x t => cases hs; intro H locs ls hP hS hl; exact lv_isub hx hb hd (k H locs ls hP hS hl)
    next => cases hs
  | imul =>
    simp only [stp, op2] at hs
    split at hs
    next y x t => cases hs; intro H locs ls hP hS hl; exact lv_imul hx hb hd (k H locs ls hP hS hl)
    next => cases hs
  | iand =>
    simp only [stp, op2] at hs
    split at hs
    next y x t => cases hs; intro H locs ls hP hS hl; exact lv_iand hx hb hd (k H locs ls hP hS hl)
    next => cases hs
  | ior =>
    simp only [stp, op2] at hs
    split at hs
    next y x t => cases hs; intro H locs ls hP hS hl; exact lv_ior hx hb hd (k H locs ls hP hS hl)
    next => cases hs
  | ixor =>
    simp only [stp, op2] at hs
    split at hs
    next y x t => cases hs; intro H locs ls hP hS hl; exact lv_ixor hx hb hd (k H locs ls hP hS hl)
    next => cases hs
  | ishl =>
    simp only [stp, op2] at hs
    split at hs
    next y x t => cases hs; intro H locs ls hP hS hl; exact lv_ishl hx hb hd (k H locs ls hP hS hl)
    next => cases hs
  | ishr =>
    simp only [stp, op2] at hs
    split at hs
    next y x t => cases hs; intro H locs ls hP hS hl; exact lv_ishr hx hb hd (k H locs ls hP hS hl)
    next => cases hs
  | iushr =>
    simp only [stp, op2] at hs
    split at hs
    next y x t => cases hs; intro H locs ls hP hS hl; exact lv_iushr hx hb hd rfl (k H locs ls hP hS hl)
    next => cases hs
  | idiv =>
    simp only [stp, opd] at hs
    split at hs
    next y x t => cases hs; intro H locs ls hP hS hl; exact lv_idiv hx hb hd (hcs _ List.mem_cons_self) (k H locs ls hP hS hl)
    next => cases hs
  | irem =>
    simp only [stp, opd] at hs
    split at hs
    next y x t => cases hs; intro H locs ls hP hS hl; exact lv_irem hx hb hd (hcs _ List.mem_cons_self) (k H locs ls hP hS hl)
    next => cases hs
  | ineg =>
    simp only [stp] at hs
    split at hs
    next x t => cases hs; intro H locs ls hP hS hl; exact lv_ineg hx hb hd (k H locs ls hP hS hl)
    next => cases hs
  | i2b =>
    simp only [stp] at hs
    split at hs
    next x t => cases hs; intro H locs ls hP hS hl; exact lv_i2b hx hb hd rfl (k H locs ls hP hS hl)
    next => cases hs
  | i2l =>
    simp only [stp] at hs
    split at hs
    next x t => cases hs; intro H locs ls hP hS hl; exact lv_i2l hx hb hd rfl (k H locs ls hP hS hl)
    next => cases hs
  | lcmp =>
    simp only [stp] at hs
    split at hs
    next y x t => cases hs; intro H locs ls hP hS hl; exact W.lcmp hx hb hd (k H locs ls hP hS hl)
    next => cases hs
  | dup =>
    simp only [stp] at hs
    split at hs
    next x t => cases hs; intro H locs ls hP hS hl; exact lv_dup hx hb hd rfl (k H locs ls hP hS hl)
    next x t =>
      cases hs
      intro H locs ls hP hS hl
      have hk2 := k H locs ls hP hS hl
      rcases x with x | x | x
      · exact lv_dup hx hb hd rfl hk2
      · exact lv_dup hx hb hd rfl hk2
      · exact lv_dup hx hb hd rfl hk2
    next => cases hs
  | pop =>
    simp only [stp] at hs
    split at hs
    next x t => cases hs; intro H locs ls hP hS hl; exact lv_pop (va := .int x) hx hb hd rfl (k H locs ls hP hS hl)
    next x t =>
      cases hs
      intro H locs ls hP hS hl
      have hk2 := k H locs ls hP hS hl
      rcases x with x | x | x
      · exact lv_pop (va := .ref (Z.2.1 x)) hx hb hd rfl hk2
      · exact lv_pop (va := .ref (Z.2.2.1 x.toNatClampNeg)) hx hb hd rfl hk2
      · exact lv_pop (va := .ref (Z.2.2.2.1 x)) hx hb hd rfl hk2
    next => cases hs
  | dup_x1 =>
    simp only [stp] at hs
    split at hs
    next x r t =>
      cases hs
      intro H locs ls hP hS hl
      have hk2 := k H locs ls hP hS hl
      rcases r with r | r | r
      · exact lv_dup_x1 hx hb hd rfl rfl hk2
      · exact lv_dup_x1 hx hb hd rfl rfl hk2
      · exact lv_dup_x1 hx hb hd rfl rfl hk2
    next => cases hs
  | dup2 =>
    simp only [stp] at hs
    split at hs
    next x r t =>
      cases hs
      intro H locs ls hP hS hl
      have hk2 := k H locs ls hP hS hl
      rcases r with r | r | r
      · exact lv_dup2_11 hx hb hd rfl rfl hk2
      · exact lv_dup2_11 hx hb hd rfl rfl hk2
      · exact lv_dup2_11 hx hb hd rfl rfl hk2
    next => cases hs
  | getfield idx =>
    simp only [stp, gef] at hs
    split at hs
    next n t =>
      cases hq : Nat.beq n a with
      | false => rw [hq] at hs; cases hs
      | true =>
        rw [hq] at hs
        have hq := Nat.eq_of_beq_eq_true hq
        subst hq
        cases hs
        exact ok_get F0 hd ha k
    next => cases hs
  | putfield idx =>
    simp only [stp] at hs
    simp only [ann, Bool.and_eq_true, Bool.not_eq_true', decide_eq_true_eq] at ha
    obtain ⟨⟨h1, h2⟩, h3⟩ := ha
    match d, hs, h3 with
    | 0, hs, h3 =>
      simp only [puf] at hs
      simp only [Bool.and_eq_true, decide_eq_true_eq, beq_iff_eq] at h3
      split at hs
      next x n t hz9 =>
        cases hq : Nat.beq n a with
        | false => rw [hq] at hs; cases hs
        | true =>
          rw [hq] at hs
          have hq := Nat.eq_of_beq_eq_true hq
          subst hq
          cases hs
          exact ok_put (ty := .int) (fd := none) F0 hd h1 h2 h3.1 (by rw [h3.2]; decide +kernel) rfl rfl rfl k
      next => cases hs
    | 1, hs, h3 =>
      simp only [puf] at hs
      simp only [Bool.and_eq_true, decide_eq_true_eq, beq_iff_eq] at h3
      split at hs
      next x n t hz9 =>
        cases hq : Nat.beq n a with
        | false => rw [hq] at hs; cases hs
        | true =>
          rw [hq] at hs
          have hq := Nat.eq_of_beq_eq_true hq
          subst hq
          cases hs
          exact ok_put (ty := .object "DreamMatins$Word") (fd := some none) F0 hd h1 h2 h3.1 (by rw [h3.2]; decide +kernel) rfl rfl rfl k
      next => cases hs
    | d + 2, hs, h3 =>
      simp only [puf] at hs
      simp only [Bool.and_eq_true, decide_eq_true_eq, beq_iff_eq] at h3
      split at hs
      next x n t hz9 =>
        cases hq : Nat.beq n a with
        | false => rw [hq] at hs; cases hs
        | true =>
          rw [hq] at hs
          have hq := Nat.eq_of_beq_eq_true hq
          subst hq
          cases hs
          have hz := hcs _ List.mem_cons_self
          exact ok_put (ty := .boolean) (fd := none) F0 hd h1 h2 h3.1 (by rw [h3.2]; decide +kernel) (by rcases hz with rfl | rfl <;> rfl) (by rcases hz with rfl | rfl <;> rfl) rfl k
      next => cases hs
  | iaload =>
    simp only [stp, ald] at hs
    simp only [ann, decide_eq_true_eq] at ha
    split at hs
    next i n t =>
      cases hq : Nat.beq n a with
      | false => rw [hq] at hs; cases hs
      | true =>
        rw [hq] at hs
        have hq := Nat.eq_of_beq_eq_true hq
        subst hq
        cases hs
        exact ok_iald F0 hd ha (hcs _ List.mem_cons_self) k
    next => cases hs
  | laload =>
    simp only [stp, lald] at hs
    simp only [ann, decide_eq_true_eq] at ha
    split at hs
    next i n t =>
      cases hq : Nat.beq n a with
      | false => rw [hq] at hs; cases hs
      | true =>
        rw [hq] at hs
        have hq := Nat.eq_of_beq_eq_true hq
        subst hq
        cases hs
        exact ok_lald F0 hd ha (hcs _ List.mem_cons_self) k
    next => cases hs
  | baload =>
    simp only [stp, ald] at hs
    simp only [ann, Bool.and_eq_true, Bool.or_eq_true, decide_eq_true_eq] at ha
    split at hs
    next i n t =>
      cases hq : Nat.beq n a with
      | false => rw [hq] at hs; cases hs
      | true =>
        rw [hq] at hs
        have hq := Nat.eq_of_beq_eq_true hq
        subst hq
        cases hs
        rcases ha with ⟨rfl | rfl, ha⟩
        · exact ok_bald F0 hd ha (hcs _ List.mem_cons_self) k
        · exact ok_zald F0 hd ha (hcs _ List.mem_cons_self) k
    next => cases hs
  | iastore =>
    simp only [stp, ast] at hs
    simp only [ann, decide_eq_true_eq] at ha
    split at hs
    next x i n t =>
      cases hq : Nat.beq n a with
      | false => rw [hq] at hs; cases hs
      | true =>
        rw [hq] at hs
        have hq := Nat.eq_of_beq_eq_true hq
        subst hq
        cases hs
        exact ok_iast F0 hd ha (hcs _ List.mem_cons_self) k
    next => cases hs
  | bastore =>
    simp only [stp, ast] at hs
    simp only [ann, Bool.and_eq_true, Bool.or_eq_true, decide_eq_true_eq] at ha
    split at hs
    next x i n t =>
      cases hq : Nat.beq n a with
      | false => rw [hq] at hs; cases hs
      | true =>
        rw [hq] at hs
        have hq := Nat.eq_of_beq_eq_true hq
        subst hq
        cases hs
        rcases ha with ⟨rfl | rfl, ha⟩
        · exact ok_bast F0 hd ha (hcs _ List.mem_cons_self) k
        · exact ok_zast F0 hd ha (hcs _ List.mem_cons_self) k
    next => cases hs
  | lastore =>
    simp only [stp, last9] at hs
    simp only [ann, decide_eq_true_eq] at ha
    split at hs
    next x i n t =>
      cases hq : Nat.beq n a with
      | false => rw [hq] at hs; cases hs
      | true =>
        rw [hq] at hs
        have hq := Nat.eq_of_beq_eq_true hq
        subst hq
        cases hs
        exact ok_last F0 hd ha (hcs _ List.mem_cons_self) (hcs _ (List.mem_cons_of_mem _ List.mem_cons_self)) k
    next => cases hs
  | arraylength =>
    simp only [stp] at hs
    simp only [ann, Bool.and_eq_true, decide_eq_true_eq] at ha
    split at hs
    next n t =>
      cases hq : Nat.beq n a with
      | false => rw [hq] at hs; cases hs
      | true =>
        rw [hq] at hs
        have hq := Nat.eq_of_beq_eq_true hq
        subst hq
        cases hs
        exact ok_alen F0 hd ha.1.1 ha.1.2 ha.2 k
    next => cases hs
  | _ => cases hs
end Stp
