/-! ===== the start: cell by cell ===== -/
def rawL (adE adS : Nat → Nat) (cT : FieldType → ClassId) (q0 q8 q17 : Nat) (S4 S12 : Nat → Nat) : va_W := [(q0, .inr (9, [.ref (S4 1), .int 0, .int (-1), .ref (S4 2), .ref (S4 13), .ref (S4 14), .ref (S4 22), .ref (S4 32), .int 0, .ref (S4 42), .ref (S4 44), .ref (S4 45), .ref (S4 46), .ref (S4 47)])), (S4 1, .inl (cT .byte, 700, .inl (fun _ => 0))), (S4 2, .inr (5, [.ref (S4 3), .int 0, .int 0, .int 0, .int 0, .int 0, .int (-1), .ref (S4 5), .ref (S4 11)])), (S4 3, .inr (8, [.ref (S4 4), .int 0, .int 0, .int 0, .int 0, .ref (adE 0), .int (-1), .int 0])), (S4 4, .inl (cT .byte, 700, .inl (fun _ => 0))), (S4 5, .inr (3, [.int 0, .int 0, .int 20, .int 10, .ref (S4 6), .ref (S4 7), .ref (S4 8)])), (S4 6, .inl (cT .int, 9, .inl (fun _ => 0))), (S4 7, .inl (cT .int, 8, .inl (fun _ => 0))), (S4 8, .inr (6, [.ref (S4 9), .ref (S4 10), .int 0])), (S4 9, .inl (cT .int, 700, .inl (fun _ => 0))), (S4 10, .inl (cT .int, 40, .inl (fun _ => 0))), (S4 11, .inr (7, [.ref (S4 12)])), (S4 12, .inl (cT .int, 53, .inl (fun _ => 0))), (S4 13, .inr (4, [.ref (S4 14), .ref (S4 20), .ref (S4 21), .int 0])), (S4 14, .inr (3, [.int 0, .int 0, .int 20, .int 10, .ref (S4 15), .ref (S4 16), .ref (S4 17)])), (S4 15, .inl (cT .int, 9, .inl (fun _ => 0))), (S4 16, .inl (cT .int, 8, .inl (fun _ => 0))), (S4 17, .inr (6, [.ref (S4 18), .ref (S4 19), .int 0])), (S4 18, .inl (cT .int, 700, .inl (fun _ => 0))), (S4 19, .inl (cT .int, 40, .inl (fun _ => 0))), (S4 20, .inl (cT .int, 8, .inl (fun _ => 0))), (S4 21, .inl (cT .int, 8, .inl (fun _ => 0))), (S4 22, .inr (1, [.ref (S4 23), .ref (S4 25), .ref (S4 27), .ref (S4 31)])), (S4 23, .inr (7, [.ref (S4 24)])), (S4 24, .inl (cT .int, 53, .inl (fun _ => 0))), (S4 25, .inr (0, [.ref (S4 26), .int 0, .int 0])), (S4 26, .inl (cT .int, 2120, .inl (fun _ => 0))), (S4 27, .inr (2, [.ref (S4 28), .ref (S4 29), .ref (S4 30), .int 0])), (S4 28, .inl (cT .int, 8, .inl (fun _ => 0))), (S4 29, .inl (cT .int, 8, .inl (fun _ => 0))), (S4 30, .inl (cT .boolean, 8, .inl (fun _ => 0))), (S4 31, .inl (cT .int, 3, .inl (fun _ => 0))), (S4 32, .inr (1, [.ref (S4 33), .ref (S4 35), .ref (S4 37), .ref (S4 41)])), (S4 33, .inr (7, [.ref (S4 34)])), (S4 34, .inl (cT .int, 53, .inl (fun _ => 0))), (S4 35, .inr (0, [.ref (S4 36), .int 0, .int 0])), (S4 36, .inl (cT .int, 2120, .inl (fun _ => 0))), (S4 37, .inr (2, [.ref (S4 38), .ref (S4 39), .ref (S4 40), .int 0])), (S4 38, .inl (cT .int, 8, .inl (fun _ => 0))), (S4 39, .inl (cT .int, 8, .inl (fun _ => 0))), (S4 40, .inl (cT .boolean, 8, .inl (fun _ => 0))), (S4 41, .inl (cT .int, 3, .inl (fun _ => 0))), (S4 42, .inr (7, [.ref (S4 43)])), (S4 43, .inl (cT .int, 53, .inl (fun _ => 0))), (S4 44, .inl (cT .int, 100, .inl (fun _ => 0))), (S4 45, .inl (cT .int, 256, .inl (fun _ => 0))), (S4 46, .inl (cT .int, 8, .inl (fun _ => 0))), (S4 47, .inl (cT .int, 1440, .inl (fun _ => 0))), (q8, .inr (10, [.ref (S12 1), .ref (S12 2), .int 0, .ref (S12 3), .ref (S12 4), .ref (S12 5), .ref (S12 6), .ref (S12 7), .ref (S12 8), .ref (S12 9), .ref (S12 10), .ref (S12 11), .ref (S12 12), .ref (S12 13), .int 0, .int 0, .int 0, .int 0, .int 0, .int 0, .int 0, .int 0, .int 0, .int (-1), .ref (S12 14), .ref (S12 15), .ref (S12 16), .ref (S12 17), .ref (S12 18), .ref (S12 19), .ref (S12 20), .int 0, .int 0, .int 0, .int 0, .int 0, .ref (S12 21), .ref (S12 22), .int 0, .int 0, .int 0, .ref (S12 23), .ref (S12 24), .ref (S12 25), .ref (S12 26), .ref (S12 27), .ref (S12 28), .ref (S12 29), .ref (S12 30), .ref (S12 31), .ref (S12 32), .ref (S12 33), .int 0, .ref (S12 34), .int 0, .int 0, .int 0, .int 0, .ref (S12 35), .ref (S12 36), .ref (S12 37), .ref (S12 38), .ref (S12 39), .ref (S12 40)])), (S12 1, .inl (cT (.object "java/lang/String"), 4, .inr (.inr (.inr (.inr (fun i => some (adS (0 + i)))))))), (S12 2, .inl (cT (.object "java/lang/String"), 8, .inr (.inr (.inr (.inr (fun i => some (adS (4 + i)))))))), (S12 3, .inl (cT .int, 10, .inl (upd (upd (fun _ => 0) 2 20) 3 10))), (S12 4, .inl (cT .int, 18, .inl (fun _ => 0))), (S12 5, .inl (cT .int, 18, .inl (fun _ => 0))), (S12 6, .inl (cT .int, 18, .inl (fun _ => 0))), (S12 7, .inl (cT .int, 16, .inl (fun _ => 0))), (S12 8, .inl (cT .int, 16, .inl (fun _ => 0))), (S12 9, .inl (cT .int, 16, .inl (fun _ => 0))), (S12 10, .inl (cT .int, 16, .inl (fun _ => 0))), (S12 11, .inl (cT .int, 1400, .inl (fun _ => 0))), (S12 12, .inl (cT .int, 3, .inl (fun _ => 0))), (S12 13, .inl (cT .int, 700, .inl (fun _ => 0))), (S12 14, .inl (cT .int, 8, .inl (fun _ => 0))), (S12 15, .inl (cT .int, 8, .inl (fun _ => 0))), (S12 16, .inl (cT .int, 8, .inl (fun _ => 0))), (S12 17, .inl (cT .int, 8, .inl (fun _ => 0))), (S12 18, .inl (cT .int, 9, .inl (fun _ => 0))), (S12 19, .inl (cT .int, 9, .inl (fun _ => 0))), (S12 20, .inl (cT .int, 2120, .inl (fun _ => 0))), (S12 21, .inl (cT .int, 8, .inl (fun _ => 0))), (S12 22, .inl (cT .int, 64, .inl (fun _ => 0))), (S12 23, .inl (cT .int, 100, .inl (fun _ => 0))), (S12 24, .inl (cT .int, 53, .inl (fun _ => 0))), (S12 25, .inl (cT .int, 100, .inl (fun _ => 0))), (S12 26, .inl (cT .int, 8, .inl (fun _ => 0))), (S12 27, .inl (cT .int, 8, .inl (fun _ => 0))), (S12 28, .inl (cT .int, 8, .inl (fun _ => 0))), (S12 29, .inl (cT .int, 8, .inl (fun _ => 0))), (S12 30, .inl (cT .int, 53, .inl (fun _ => 0))), (S12 31, .inl (cT .boolean, 8, .inl (fun _ => 0))), (S12 32, .inl (cT .int, 80, .inl (fun _ => 0))), (S12 33, .inl (cT .int, 1600, .inl (fun _ => 0))), (S12 34, .inl (cT .int, 8, .inl (fun _ => 0))), (S12 35, .inl (cT .int, 53, .inl (fun _ => 0))), (S12 36, .inl (cT .int, 2120, .inl (fun _ => 0))), (S12 37, .inl (cT .int, 8, .inl (fun _ => 0))), (S12 38, .inl (cT .int, 8, .inl (fun _ => 0))), (S12 39, .inl (cT .int, 3, .inl (fun _ => 0))), (S12 40, .inl (cT .boolean, 8, .inl (fun _ => 0))), (q17, .inl (cT .long, 1, .inr (.inl (fun _ => 0))))]
def kap (n : Nat) : Nat := if n < 42 then n + 48 else n - 42
def mpI {α β : Type} (f : Nat → α → β) : Nat → List α → List β
  | _, [] => []
  | k, a :: t => f k a :: mpI f (k + 1) t
theorem mpI_eq {α β : Type} (f : Nat → α → β) : ∀ (l : List α) (k : Nat), mpI f k l = l.mapIdx (fun i => f (i + k)) := by
  intro l
  induction l with
  | nil => intro k; rfl
  | cons a t ih =>
    intro k
    rw [mpI, ih, List.mapIdx_cons, Nat.zero_add]
    congr 2
    funext i
    rw [show i + 1 + k = i + (k + 1) by omega]
def cE2 (Z : ZT) (w : Nat → Int32) : CD → va_E
  | .inr (.inl (ci, fds)) => .inr (ci, mpI (fun k fd => cF Z (w k) fd) 0 fds)
  | x => cE Z w x
theorem cE2_eq (Z : ZT) (w : Nat → Int32) (x : CD) : cE2 Z w x = cE Z w x := by
  rcases x with x | (⟨ci, fds⟩ | x)
  · rfl
  · show Sum.inr (ci, mpI (fun k fd => cF Z (w k) fd) 0 fds) = Sum.inr (ci, fds.mapIdx (fun k fd => cF Z (w k) fd))
    rw [mpI_eq]
    rfl
  · rfl
theorem cW_at2 (Z : ZT) (w : Wld) (n : Nat) : (cW Z w)[n]? = (cds[n]?).map (fun cd => (Z.2.1 n, cE2 Z (w n) cd)) := by
  rw [cW_at]
  congr 1
  funext cd
  rw [cE2_eq]
section Cells
variable {D : va_G} {adE adS : Nat → Nat} {cT : FieldType → ClassId} {q0 q8 q17 : Nat} {S4 S12 : Nat → Nat}
set_option maxHeartbeats 4000000 in
set_option maxRecDepth 100000 in
theorem cel_0 : (rawL adE adS cT q0 q8 q17 S4 S12)[48]? = (cW (Zs D adE adS cT q0 q8 q17 S4 S12) w0)[0]? := by
  rw [cW_at2]
  rfl
set_option maxHeartbeats 4000000 in
set_option maxRecDepth 100000 in
theorem cel_1 : (rawL adE adS cT q0 q8 q17 S4 S12)[49]? = (cW (Zs D adE adS cT q0 q8 q17 S4 S12) w0)[1]? := by
  rw [cW_at2]
  rfl
set_option maxHeartbeats 4000000 in
set_option maxRecDepth 100000 in
theorem cel_2 : (rawL adE adS cT q0 q8 q17 S4 S12)[50]? = (cW (Zs D adE adS cT q0 q8 q17 S4 S12) w0)[2]? := by
  rw [cW_at2]
  rfl
set_option maxHeartbeats 4000000 in
set_option maxRecDepth 100000 in
theorem cel_3 : (rawL adE adS cT q0 q8 q17 S4 S12)[51]? = (cW (Zs D adE adS cT q0 q8 q17 S4 S12) w0)[3]? := by
  rw [cW_at2]
  rfl
set_option maxHeartbeats 4000000 in
set_option maxRecDepth 100000 in
theorem cel_4 : (rawL adE adS cT q0 q8 q17 S4 S12)[52]? = (cW (Zs D adE adS cT q0 q8 q17 S4 S12) w0)[4]? := by
  rw [cW_at2]
  rfl
set_option maxHeartbeats 4000000 in
set_option maxRecDepth 100000 in
theorem cel_5 : (rawL adE adS cT q0 q8 q17 S4 S12)[53]? = (cW (Zs D adE adS cT q0 q8 q17 S4 S12) w0)[5]? := by
  rw [cW_at2]
  rfl
set_option maxHeartbeats 4000000 in
set_option maxRecDepth 100000 in
theorem cel_6 : (rawL adE adS cT q0 q8 q17 S4 S12)[54]? = (cW (Zs D adE adS cT q0 q8 q17 S4 S12) w0)[6]? := by
  rw [cW_at2]
  rfl
set_option maxHeartbeats 4000000 in
set_option maxRecDepth 100000 in
theorem cel_7 : (rawL adE adS cT q0 q8 q17 S4 S12)[55]? = (cW (Zs D adE adS cT q0 q8 q17 S4 S12) w0)[7]? := by
  rw [cW_at2]
  rfl
set_option maxHeartbeats 4000000 in
set_option maxRecDepth 100000 in
theorem cel_8 : (rawL adE adS cT q0 q8 q17 S4 S12)[56]? = (cW (Zs D adE adS cT q0 q8 q17 S4 S12) w0)[8]? := by
  rw [cW_at2]
  rfl
set_option maxHeartbeats 4000000 in
set_option maxRecDepth 100000 in
theorem cel_9 : (rawL adE adS cT q0 q8 q17 S4 S12)[57]? = (cW (Zs D adE adS cT q0 q8 q17 S4 S12) w0)[9]? := by
  rw [cW_at2]
  rfl
set_option maxHeartbeats 4000000 in
set_option maxRecDepth 100000 in
theorem cel_10 : (rawL adE adS cT q0 q8 q17 S4 S12)[58]? = (cW (Zs D adE adS cT q0 q8 q17 S4 S12) w0)[10]? := by
  rw [cW_at2]
  rfl
set_option maxHeartbeats 4000000 in
set_option maxRecDepth 100000 in
theorem cel_11 : (rawL adE adS cT q0 q8 q17 S4 S12)[59]? = (cW (Zs D adE adS cT q0 q8 q17 S4 S12) w0)[11]? := by
  rw [cW_at2]
  rfl
set_option maxHeartbeats 4000000 in
set_option maxRecDepth 100000 in
theorem cel_12 : (rawL adE adS cT q0 q8 q17 S4 S12)[60]? = (cW (Zs D adE adS cT q0 q8 q17 S4 S12) w0)[12]? := by
  rw [cW_at2]
  rfl
set_option maxHeartbeats 4000000 in
set_option maxRecDepth 100000 in
theorem cel_13 : (rawL adE adS cT q0 q8 q17 S4 S12)[61]? = (cW (Zs D adE adS cT q0 q8 q17 S4 S12) w0)[13]? := by
  rw [cW_at2]
  rfl
set_option maxHeartbeats 4000000 in
set_option maxRecDepth 100000 in
theorem cel_14 : (rawL adE adS cT q0 q8 q17 S4 S12)[62]? = (cW (Zs D adE adS cT q0 q8 q17 S4 S12) w0)[14]? := by
  rw [cW_at2]
  rfl
set_option maxHeartbeats 4000000 in
set_option maxRecDepth 100000 in
theorem cel_15 : (rawL adE adS cT q0 q8 q17 S4 S12)[63]? = (cW (Zs D adE adS cT q0 q8 q17 S4 S12) w0)[15]? := by
  rw [cW_at2]
  rfl
set_option maxHeartbeats 4000000 in
set_option maxRecDepth 100000 in
theorem cel_16 : (rawL adE adS cT q0 q8 q17 S4 S12)[64]? = (cW (Zs D adE adS cT q0 q8 q17 S4 S12) w0)[16]? := by
  rw [cW_at2]
  rfl
set_option maxHeartbeats 4000000 in
set_option maxRecDepth 100000 in
theorem cel_17 : (rawL adE adS cT q0 q8 q17 S4 S12)[65]? = (cW (Zs D adE adS cT q0 q8 q17 S4 S12) w0)[17]? := by
  rw [cW_at2]
  rfl
set_option maxHeartbeats 4000000 in
set_option maxRecDepth 100000 in
theorem cel_18 : (rawL adE adS cT q0 q8 q17 S4 S12)[66]? = (cW (Zs D adE adS cT q0 q8 q17 S4 S12) w0)[18]? := by
  rw [cW_at2]
  rfl
set_option maxHeartbeats 4000000 in
set_option maxRecDepth 100000 in
theorem cel_19 : (rawL adE adS cT q0 q8 q17 S4 S12)[67]? = (cW (Zs D adE adS cT q0 q8 q17 S4 S12) w0)[19]? := by
  rw [cW_at2]
  rfl
set_option maxHeartbeats 4000000 in
set_option maxRecDepth 100000 in
theorem cel_20 : (rawL adE adS cT q0 q8 q17 S4 S12)[68]? = (cW (Zs D adE adS cT q0 q8 q17 S4 S12) w0)[20]? := by
  rw [cW_at2]
  rfl
set_option maxHeartbeats 4000000 in
set_option maxRecDepth 100000 in
theorem cel_21 : (rawL adE adS cT q0 q8 q17 S4 S12)[69]? = (cW (Zs D adE adS cT q0 q8 q17 S4 S12) w0)[21]? := by
  rw [cW_at2]
  rfl
set_option maxHeartbeats 4000000 in
set_option maxRecDepth 100000 in
theorem cel_22 : (rawL adE adS cT q0 q8 q17 S4 S12)[70]? = (cW (Zs D adE adS cT q0 q8 q17 S4 S12) w0)[22]? := by
  rw [cW_at2]
  rfl
set_option maxHeartbeats 4000000 in
set_option maxRecDepth 100000 in
theorem cel_23 : (rawL adE adS cT q0 q8 q17 S4 S12)[71]? = (cW (Zs D adE adS cT q0 q8 q17 S4 S12) w0)[23]? := by
  rw [cW_at2]
  rfl
set_option maxHeartbeats 4000000 in
set_option maxRecDepth 100000 in
theorem cel_24 : (rawL adE adS cT q0 q8 q17 S4 S12)[72]? = (cW (Zs D adE adS cT q0 q8 q17 S4 S12) w0)[24]? := by
  rw [cW_at2]
  rfl
set_option maxHeartbeats 4000000 in
set_option maxRecDepth 100000 in
theorem cel_25 : (rawL adE adS cT q0 q8 q17 S4 S12)[73]? = (cW (Zs D adE adS cT q0 q8 q17 S4 S12) w0)[25]? := by
  rw [cW_at2]
  rfl
set_option maxHeartbeats 4000000 in
set_option maxRecDepth 100000 in
theorem cel_26 : (rawL adE adS cT q0 q8 q17 S4 S12)[74]? = (cW (Zs D adE adS cT q0 q8 q17 S4 S12) w0)[26]? := by
  rw [cW_at2]
  rfl
set_option maxHeartbeats 4000000 in
set_option maxRecDepth 100000 in
theorem cel_27 : (rawL adE adS cT q0 q8 q17 S4 S12)[75]? = (cW (Zs D adE adS cT q0 q8 q17 S4 S12) w0)[27]? := by
  rw [cW_at2]
  rfl
set_option maxHeartbeats 4000000 in
set_option maxRecDepth 100000 in
theorem cel_28 : (rawL adE adS cT q0 q8 q17 S4 S12)[76]? = (cW (Zs D adE adS cT q0 q8 q17 S4 S12) w0)[28]? := by
  rw [cW_at2]
  rfl
set_option maxHeartbeats 4000000 in
set_option maxRecDepth 100000 in
theorem cel_29 : (rawL adE adS cT q0 q8 q17 S4 S12)[77]? = (cW (Zs D adE adS cT q0 q8 q17 S4 S12) w0)[29]? := by
  rw [cW_at2]
  rfl
set_option maxHeartbeats 4000000 in
set_option maxRecDepth 100000 in
theorem cel_30 : (rawL adE adS cT q0 q8 q17 S4 S12)[78]? = (cW (Zs D adE adS cT q0 q8 q17 S4 S12) w0)[30]? := by
  rw [cW_at2]
  rfl
set_option maxHeartbeats 4000000 in
set_option maxRecDepth 100000 in
theorem cel_31 : (rawL adE adS cT q0 q8 q17 S4 S12)[79]? = (cW (Zs D adE adS cT q0 q8 q17 S4 S12) w0)[31]? := by
  rw [cW_at2]
  rfl
set_option maxHeartbeats 4000000 in
set_option maxRecDepth 100000 in
theorem cel_32 : (rawL adE adS cT q0 q8 q17 S4 S12)[80]? = (cW (Zs D adE adS cT q0 q8 q17 S4 S12) w0)[32]? := by
  rw [cW_at2]
  rfl
set_option maxHeartbeats 4000000 in
set_option maxRecDepth 100000 in
theorem cel_33 : (rawL adE adS cT q0 q8 q17 S4 S12)[81]? = (cW (Zs D adE adS cT q0 q8 q17 S4 S12) w0)[33]? := by
  rw [cW_at2]
  rfl
set_option maxHeartbeats 4000000 in
set_option maxRecDepth 100000 in
theorem cel_34 : (rawL adE adS cT q0 q8 q17 S4 S12)[82]? = (cW (Zs D adE adS cT q0 q8 q17 S4 S12) w0)[34]? := by
  rw [cW_at2]
  rfl
set_option maxHeartbeats 4000000 in
set_option maxRecDepth 100000 in
theorem cel_35 : (rawL adE adS cT q0 q8 q17 S4 S12)[83]? = (cW (Zs D adE adS cT q0 q8 q17 S4 S12) w0)[35]? := by
  rw [cW_at2]
  rfl
set_option maxHeartbeats 4000000 in
set_option maxRecDepth 100000 in
theorem cel_36 : (rawL adE adS cT q0 q8 q17 S4 S12)[84]? = (cW (Zs D adE adS cT q0 q8 q17 S4 S12) w0)[36]? := by
  rw [cW_at2]
  rfl
set_option maxHeartbeats 4000000 in
set_option maxRecDepth 100000 in
theorem cel_37 : (rawL adE adS cT q0 q8 q17 S4 S12)[85]? = (cW (Zs D adE adS cT q0 q8 q17 S4 S12) w0)[37]? := by
  rw [cW_at2]
  rfl
set_option maxHeartbeats 4000000 in
set_option maxRecDepth 100000 in
theorem cel_38 : (rawL adE adS cT q0 q8 q17 S4 S12)[86]? = (cW (Zs D adE adS cT q0 q8 q17 S4 S12) w0)[38]? := by
  rw [cW_at2]
  rfl
set_option maxHeartbeats 4000000 in
set_option maxRecDepth 100000 in
theorem cel_39 : (rawL adE adS cT q0 q8 q17 S4 S12)[87]? = (cW (Zs D adE adS cT q0 q8 q17 S4 S12) w0)[39]? := by
  rw [cW_at2]
  rfl
set_option maxHeartbeats 4000000 in
set_option maxRecDepth 100000 in
theorem cel_40 : (rawL adE adS cT q0 q8 q17 S4 S12)[88]? = (cW (Zs D adE adS cT q0 q8 q17 S4 S12) w0)[40]? := by
  rw [cW_at2]
  rfl
set_option maxHeartbeats 4000000 in
set_option maxRecDepth 100000 in
theorem cel_41 : (rawL adE adS cT q0 q8 q17 S4 S12)[89]? = (cW (Zs D adE adS cT q0 q8 q17 S4 S12) w0)[41]? := by
  rw [cW_at2]
  rfl
set_option maxHeartbeats 4000000 in
set_option maxRecDepth 100000 in
theorem cel_42 : (rawL adE adS cT q0 q8 q17 S4 S12)[0]? = (cW (Zs D adE adS cT q0 q8 q17 S4 S12) w0)[42]? := by
  rw [cW_at2]
  rfl
set_option maxHeartbeats 4000000 in
set_option maxRecDepth 100000 in
theorem cel_43 : (rawL adE adS cT q0 q8 q17 S4 S12)[1]? = (cW (Zs D adE adS cT q0 q8 q17 S4 S12) w0)[43]? := by
  rw [cW_at2]
  rfl
set_option maxHeartbeats 4000000 in
set_option maxRecDepth 100000 in
theorem cel_44 : (rawL adE adS cT q0 q8 q17 S4 S12)[2]? = (cW (Zs D adE adS cT q0 q8 q17 S4 S12) w0)[44]? := by
  rw [cW_at2]
  rfl
set_option maxHeartbeats 4000000 in
set_option maxRecDepth 100000 in
theorem cel_45 : (rawL adE adS cT q0 q8 q17 S4 S12)[3]? = (cW (Zs D adE adS cT q0 q8 q17 S4 S12) w0)[45]? := by
  rw [cW_at2]
  rfl
set_option maxHeartbeats 4000000 in
set_option maxRecDepth 100000 in
theorem cel_46 : (rawL adE adS cT q0 q8 q17 S4 S12)[4]? = (cW (Zs D adE adS cT q0 q8 q17 S4 S12) w0)[46]? := by
  rw [cW_at2]
  rfl
set_option maxHeartbeats 4000000 in
set_option maxRecDepth 100000 in
theorem cel_47 : (rawL adE adS cT q0 q8 q17 S4 S12)[5]? = (cW (Zs D adE adS cT q0 q8 q17 S4 S12) w0)[47]? := by
  rw [cW_at2]
  rfl
set_option maxHeartbeats 4000000 in
set_option maxRecDepth 100000 in
theorem cel_48 : (rawL adE adS cT q0 q8 q17 S4 S12)[6]? = (cW (Zs D adE adS cT q0 q8 q17 S4 S12) w0)[48]? := by
  rw [cW_at2]
  rfl
set_option maxHeartbeats 4000000 in
set_option maxRecDepth 100000 in
theorem cel_49 : (rawL adE adS cT q0 q8 q17 S4 S12)[7]? = (cW (Zs D adE adS cT q0 q8 q17 S4 S12) w0)[49]? := by
  rw [cW_at2]
  rfl
set_option maxHeartbeats 4000000 in
set_option maxRecDepth 100000 in
theorem cel_50 : (rawL adE adS cT q0 q8 q17 S4 S12)[8]? = (cW (Zs D adE adS cT q0 q8 q17 S4 S12) w0)[50]? := by
  rw [cW_at2]
  rfl
set_option maxHeartbeats 4000000 in
set_option maxRecDepth 100000 in
theorem cel_51 : (rawL adE adS cT q0 q8 q17 S4 S12)[9]? = (cW (Zs D adE adS cT q0 q8 q17 S4 S12) w0)[51]? := by
  rw [cW_at2]
  rfl
set_option maxHeartbeats 4000000 in
set_option maxRecDepth 100000 in
theorem cel_52 : (rawL adE adS cT q0 q8 q17 S4 S12)[10]? = (cW (Zs D adE adS cT q0 q8 q17 S4 S12) w0)[52]? := by
  rw [cW_at2]
  rfl
set_option maxHeartbeats 4000000 in
set_option maxRecDepth 100000 in
theorem cel_53 : (rawL adE adS cT q0 q8 q17 S4 S12)[11]? = (cW (Zs D adE adS cT q0 q8 q17 S4 S12) w0)[53]? := by
  rw [cW_at2]
  rfl
set_option maxHeartbeats 4000000 in
set_option maxRecDepth 100000 in
theorem cel_54 : (rawL adE adS cT q0 q8 q17 S4 S12)[12]? = (cW (Zs D adE adS cT q0 q8 q17 S4 S12) w0)[54]? := by
  rw [cW_at2]
  rfl
set_option maxHeartbeats 4000000 in
set_option maxRecDepth 100000 in
theorem cel_55 : (rawL adE adS cT q0 q8 q17 S4 S12)[13]? = (cW (Zs D adE adS cT q0 q8 q17 S4 S12) w0)[55]? := by
  rw [cW_at2]
  rfl
set_option maxHeartbeats 4000000 in
set_option maxRecDepth 100000 in
theorem cel_56 : (rawL adE adS cT q0 q8 q17 S4 S12)[14]? = (cW (Zs D adE adS cT q0 q8 q17 S4 S12) w0)[56]? := by
  rw [cW_at2]
  rfl
set_option maxHeartbeats 4000000 in
set_option maxRecDepth 100000 in
theorem cel_57 : (rawL adE adS cT q0 q8 q17 S4 S12)[15]? = (cW (Zs D adE adS cT q0 q8 q17 S4 S12) w0)[57]? := by
  rw [cW_at2]
  rfl
set_option maxHeartbeats 4000000 in
set_option maxRecDepth 100000 in
theorem cel_58 : (rawL adE adS cT q0 q8 q17 S4 S12)[16]? = (cW (Zs D adE adS cT q0 q8 q17 S4 S12) w0)[58]? := by
  rw [cW_at2]
  rfl
set_option maxHeartbeats 4000000 in
set_option maxRecDepth 100000 in
theorem cel_59 : (rawL adE adS cT q0 q8 q17 S4 S12)[17]? = (cW (Zs D adE adS cT q0 q8 q17 S4 S12) w0)[59]? := by
  rw [cW_at2]
  rfl
set_option maxHeartbeats 4000000 in
set_option maxRecDepth 100000 in
theorem cel_60 : (rawL adE adS cT q0 q8 q17 S4 S12)[18]? = (cW (Zs D adE adS cT q0 q8 q17 S4 S12) w0)[60]? := by
  rw [cW_at2]
  rfl
set_option maxHeartbeats 4000000 in
set_option maxRecDepth 100000 in
theorem cel_61 : (rawL adE adS cT q0 q8 q17 S4 S12)[19]? = (cW (Zs D adE adS cT q0 q8 q17 S4 S12) w0)[61]? := by
  rw [cW_at2]
  rfl
set_option maxHeartbeats 4000000 in
set_option maxRecDepth 100000 in
theorem cel_62 : (rawL adE adS cT q0 q8 q17 S4 S12)[20]? = (cW (Zs D adE adS cT q0 q8 q17 S4 S12) w0)[62]? := by
  rw [cW_at2]
  rfl
set_option maxHeartbeats 4000000 in
set_option maxRecDepth 100000 in
theorem cel_63 : (rawL adE adS cT q0 q8 q17 S4 S12)[21]? = (cW (Zs D adE adS cT q0 q8 q17 S4 S12) w0)[63]? := by
  rw [cW_at2]
  rfl
set_option maxHeartbeats 4000000 in
set_option maxRecDepth 100000 in
theorem cel_64 : (rawL adE adS cT q0 q8 q17 S4 S12)[22]? = (cW (Zs D adE adS cT q0 q8 q17 S4 S12) w0)[64]? := by
  rw [cW_at2]
  rfl
set_option maxHeartbeats 4000000 in
set_option maxRecDepth 100000 in
theorem cel_65 : (rawL adE adS cT q0 q8 q17 S4 S12)[23]? = (cW (Zs D adE adS cT q0 q8 q17 S4 S12) w0)[65]? := by
  rw [cW_at2]
  rfl
set_option maxHeartbeats 4000000 in
set_option maxRecDepth 100000 in
theorem cel_66 : (rawL adE adS cT q0 q8 q17 S4 S12)[24]? = (cW (Zs D adE adS cT q0 q8 q17 S4 S12) w0)[66]? := by
  rw [cW_at2]
  rfl
set_option maxHeartbeats 4000000 in
set_option maxRecDepth 100000 in
theorem cel_67 : (rawL adE adS cT q0 q8 q17 S4 S12)[25]? = (cW (Zs D adE adS cT q0 q8 q17 S4 S12) w0)[67]? := by
  rw [cW_at2]
  rfl
set_option maxHeartbeats 4000000 in
set_option maxRecDepth 100000 in
theorem cel_68 : (rawL adE adS cT q0 q8 q17 S4 S12)[26]? = (cW (Zs D adE adS cT q0 q8 q17 S4 S12) w0)[68]? := by
  rw [cW_at2]
  rfl
set_option maxHeartbeats 4000000 in
set_option maxRecDepth 100000 in
theorem cel_69 : (rawL adE adS cT q0 q8 q17 S4 S12)[27]? = (cW (Zs D adE adS cT q0 q8 q17 S4 S12) w0)[69]? := by
  rw [cW_at2]
  rfl
set_option maxHeartbeats 4000000 in
set_option maxRecDepth 100000 in
theorem cel_70 : (rawL adE adS cT q0 q8 q17 S4 S12)[28]? = (cW (Zs D adE adS cT q0 q8 q17 S4 S12) w0)[70]? := by
  rw [cW_at2]
  rfl
set_option maxHeartbeats 4000000 in
set_option maxRecDepth 100000 in
theorem cel_71 : (rawL adE adS cT q0 q8 q17 S4 S12)[29]? = (cW (Zs D adE adS cT q0 q8 q17 S4 S12) w0)[71]? := by
  rw [cW_at2]
  rfl
set_option maxHeartbeats 4000000 in
set_option maxRecDepth 100000 in
theorem cel_72 : (rawL adE adS cT q0 q8 q17 S4 S12)[30]? = (cW (Zs D adE adS cT q0 q8 q17 S4 S12) w0)[72]? := by
  rw [cW_at2]
  rfl
set_option maxHeartbeats 4000000 in
set_option maxRecDepth 100000 in
theorem cel_73 : (rawL adE adS cT q0 q8 q17 S4 S12)[31]? = (cW (Zs D adE adS cT q0 q8 q17 S4 S12) w0)[73]? := by
  rw [cW_at2]
  rfl
set_option maxHeartbeats 4000000 in
set_option maxRecDepth 100000 in
theorem cel_74 : (rawL adE adS cT q0 q8 q17 S4 S12)[32]? = (cW (Zs D adE adS cT q0 q8 q17 S4 S12) w0)[74]? := by
  rw [cW_at2]
  rfl
set_option maxHeartbeats 4000000 in
set_option maxRecDepth 100000 in
theorem cel_75 : (rawL adE adS cT q0 q8 q17 S4 S12)[33]? = (cW (Zs D adE adS cT q0 q8 q17 S4 S12) w0)[75]? := by
  rw [cW_at2]
  rfl
set_option maxHeartbeats 4000000 in
set_option maxRecDepth 100000 in
theorem cel_76 : (rawL adE adS cT q0 q8 q17 S4 S12)[34]? = (cW (Zs D adE adS cT q0 q8 q17 S4 S12) w0)[76]? := by
  rw [cW_at2]
  rfl
set_option maxHeartbeats 4000000 in
set_option maxRecDepth 100000 in
theorem cel_77 : (rawL adE adS cT q0 q8 q17 S4 S12)[35]? = (cW (Zs D adE adS cT q0 q8 q17 S4 S12) w0)[77]? := by
  rw [cW_at2]
  rfl
set_option maxHeartbeats 4000000 in
set_option maxRecDepth 100000 in
theorem cel_78 : (rawL adE adS cT q0 q8 q17 S4 S12)[36]? = (cW (Zs D adE adS cT q0 q8 q17 S4 S12) w0)[78]? := by
  rw [cW_at2]
  rfl
set_option maxHeartbeats 4000000 in
set_option maxRecDepth 100000 in
theorem cel_79 : (rawL adE adS cT q0 q8 q17 S4 S12)[37]? = (cW (Zs D adE adS cT q0 q8 q17 S4 S12) w0)[79]? := by
  rw [cW_at2]
  rfl
set_option maxHeartbeats 4000000 in
set_option maxRecDepth 100000 in
theorem cel_80 : (rawL adE adS cT q0 q8 q17 S4 S12)[38]? = (cW (Zs D adE adS cT q0 q8 q17 S4 S12) w0)[80]? := by
  rw [cW_at2]
  rfl
set_option maxHeartbeats 4000000 in
set_option maxRecDepth 100000 in
theorem cel_81 : (rawL adE adS cT q0 q8 q17 S4 S12)[39]? = (cW (Zs D adE adS cT q0 q8 q17 S4 S12) w0)[81]? := by
  rw [cW_at2]
  rfl
set_option maxHeartbeats 4000000 in
set_option maxRecDepth 100000 in
theorem cel_82 : (rawL adE adS cT q0 q8 q17 S4 S12)[40]? = (cW (Zs D adE adS cT q0 q8 q17 S4 S12) w0)[82]? := by
  rw [cW_at2]
  rfl
set_option maxHeartbeats 4000000 in
set_option maxRecDepth 100000 in
theorem cel_83 : (rawL adE adS cT q0 q8 q17 S4 S12)[41]? = (cW (Zs D adE adS cT q0 q8 q17 S4 S12) w0)[83]? := by
  rw [cW_at2]
  rfl
set_option maxHeartbeats 4000000 in
set_option maxRecDepth 100000 in
theorem cel_84 : (rawL adE adS cT q0 q8 q17 S4 S12)[42]? = (cW (Zs D adE adS cT q0 q8 q17 S4 S12) w0)[84]? := by
  rw [cW_at2]
  rfl
set_option maxHeartbeats 4000000 in
set_option maxRecDepth 100000 in
theorem cel_85 : (rawL adE adS cT q0 q8 q17 S4 S12)[43]? = (cW (Zs D adE adS cT q0 q8 q17 S4 S12) w0)[85]? := by
  rw [cW_at2]
  rfl
set_option maxHeartbeats 4000000 in
set_option maxRecDepth 100000 in
theorem cel_86 : (rawL adE adS cT q0 q8 q17 S4 S12)[44]? = (cW (Zs D adE adS cT q0 q8 q17 S4 S12) w0)[86]? := by
  rw [cW_at2]
  rfl
set_option maxHeartbeats 4000000 in
set_option maxRecDepth 100000 in
theorem cel_87 : (rawL adE adS cT q0 q8 q17 S4 S12)[45]? = (cW (Zs D adE adS cT q0 q8 q17 S4 S12) w0)[87]? := by
  rw [cW_at2]
  rfl
set_option maxHeartbeats 4000000 in
set_option maxRecDepth 100000 in
theorem cel_88 : (rawL adE adS cT q0 q8 q17 S4 S12)[46]? = (cW (Zs D adE adS cT q0 q8 q17 S4 S12) w0)[88]? := by
  rw [cW_at2]
  rfl
set_option maxHeartbeats 4000000 in
set_option maxRecDepth 100000 in
theorem cel_89 : (rawL adE adS cT q0 q8 q17 S4 S12)[47]? = (cW (Zs D adE adS cT q0 q8 q17 S4 S12) w0)[89]? := by
  rw [cW_at2]
  rfl
set_option maxHeartbeats 4000000 in
set_option maxRecDepth 100000 in
theorem cel_all : ∀ n, n < 90 → (rawL adE adS cT q0 q8 q17 S4 S12)[kap n]? = (cW (Zs D adE adS cT q0 q8 q17 S4 S12) w0)[n]? := by
  intro n hn
  by_cases h0 : n = 0
  · subst h0; exact cel_0
  by_cases h1 : n = 1
  · subst h1; exact cel_1
  by_cases h2 : n = 2
  · subst h2; exact cel_2
  by_cases h3 : n = 3
  · subst h3; exact cel_3
  by_cases h4 : n = 4
  · subst h4; exact cel_4
  by_cases h5 : n = 5
  · subst h5; exact cel_5
  by_cases h6 : n = 6
  · subst h6; exact cel_6
  by_cases h7 : n = 7
  · subst h7; exact cel_7
  by_cases h8 : n = 8
  · subst h8; exact cel_8
  by_cases h9 : n = 9
  · subst h9; exact cel_9
  by_cases h10 : n = 10
  · subst h10; exact cel_10
  by_cases h11 : n = 11
  · subst h11; exact cel_11
  by_cases h12 : n = 12
  · subst h12; exact cel_12
  by_cases h13 : n = 13
  · subst h13; exact cel_13
  by_cases h14 : n = 14
  · subst h14; exact cel_14
  by_cases h15 : n = 15
  · subst h15; exact cel_15
  by_cases h16 : n = 16
  · subst h16; exact cel_16
  by_cases h17 : n = 17
  · subst h17; exact cel_17
  by_cases h18 : n = 18
  · subst h18; exact cel_18
  by_cases h19 : n = 19
  · subst h19; exact cel_19
  by_cases h20 : n = 20
  · subst h20; exact cel_20
  by_cases h21 : n = 21
  · subst h21; exact cel_21
  by_cases h22 : n = 22
  · subst h22; exact cel_22
  by_cases h23 : n = 23
  · subst h23; exact cel_23
  by_cases h24 : n = 24
  · subst h24; exact cel_24
  by_cases h25 : n = 25
  · subst h25; exact cel_25
  by_cases h26 : n = 26
  · subst h26; exact cel_26
  by_cases h27 : n = 27
  · subst h27; exact cel_27
  by_cases h28 : n = 28
  · subst h28; exact cel_28
  by_cases h29 : n = 29
  · subst h29; exact cel_29
  by_cases h30 : n = 30
  · subst h30; exact cel_30
  by_cases h31 : n = 31
  · subst h31; exact cel_31
  by_cases h32 : n = 32
  · subst h32; exact cel_32
  by_cases h33 : n = 33
  · subst h33; exact cel_33
  by_cases h34 : n = 34
  · subst h34; exact cel_34
  by_cases h35 : n = 35
  · subst h35; exact cel_35
  by_cases h36 : n = 36
  · subst h36; exact cel_36
  by_cases h37 : n = 37
  · subst h37; exact cel_37
  by_cases h38 : n = 38
  · subst h38; exact cel_38
  by_cases h39 : n = 39
  · subst h39; exact cel_39
  by_cases h40 : n = 40
  · subst h40; exact cel_40
  by_cases h41 : n = 41
  · subst h41; exact cel_41
  by_cases h42 : n = 42
  · subst h42; exact cel_42
  by_cases h43 : n = 43
  · subst h43; exact cel_43
  by_cases h44 : n = 44
  · subst h44; exact cel_44
  by_cases h45 : n = 45
  · subst h45; exact cel_45
  by_cases h46 : n = 46
  · subst h46; exact cel_46
  by_cases h47 : n = 47
  · subst h47; exact cel_47
  by_cases h48 : n = 48
  · subst h48; exact cel_48
  by_cases h49 : n = 49
  · subst h49; exact cel_49
  by_cases h50 : n = 50
  · subst h50; exact cel_50
  by_cases h51 : n = 51
  · subst h51; exact cel_51
  by_cases h52 : n = 52
  · subst h52; exact cel_52
  by_cases h53 : n = 53
  · subst h53; exact cel_53
  by_cases h54 : n = 54
  · subst h54; exact cel_54
  by_cases h55 : n = 55
  · subst h55; exact cel_55
  by_cases h56 : n = 56
  · subst h56; exact cel_56
  by_cases h57 : n = 57
  · subst h57; exact cel_57
  by_cases h58 : n = 58
  · subst h58; exact cel_58
  by_cases h59 : n = 59
  · subst h59; exact cel_59
  by_cases h60 : n = 60
  · subst h60; exact cel_60
  by_cases h61 : n = 61
  · subst h61; exact cel_61
  by_cases h62 : n = 62
  · subst h62; exact cel_62
  by_cases h63 : n = 63
  · subst h63; exact cel_63
  by_cases h64 : n = 64
  · subst h64; exact cel_64
  by_cases h65 : n = 65
  · subst h65; exact cel_65
  by_cases h66 : n = 66
  · subst h66; exact cel_66
  by_cases h67 : n = 67
  · subst h67; exact cel_67
  by_cases h68 : n = 68
  · subst h68; exact cel_68
  by_cases h69 : n = 69
  · subst h69; exact cel_69
  by_cases h70 : n = 70
  · subst h70; exact cel_70
  by_cases h71 : n = 71
  · subst h71; exact cel_71
  by_cases h72 : n = 72
  · subst h72; exact cel_72
  by_cases h73 : n = 73
  · subst h73; exact cel_73
  by_cases h74 : n = 74
  · subst h74; exact cel_74
  by_cases h75 : n = 75
  · subst h75; exact cel_75
  by_cases h76 : n = 76
  · subst h76; exact cel_76
  by_cases h77 : n = 77
  · subst h77; exact cel_77
  by_cases h78 : n = 78
  · subst h78; exact cel_78
  by_cases h79 : n = 79
  · subst h79; exact cel_79
  by_cases h80 : n = 80
  · subst h80; exact cel_80
  by_cases h81 : n = 81
  · subst h81; exact cel_81
  by_cases h82 : n = 82
  · subst h82; exact cel_82
  by_cases h83 : n = 83
  · subst h83; exact cel_83
  by_cases h84 : n = 84
  · subst h84; exact cel_84
  by_cases h85 : n = 85
  · subst h85; exact cel_85
  by_cases h86 : n = 86
  · subst h86; exact cel_86
  by_cases h87 : n = 87
  · subst h87; exact cel_87
  by_cases h88 : n = 88
  · subst h88; exact cel_88
  by_cases h89 : n = 89
  · subst h89; exact cel_89
  omega
end Cells
theorem cW_len (Z : ZT) (w : Wld) : (cW Z w).length = 90 := by
  unfold cW
  rw [List.length_mapIdx]
  decide
theorem va_P_at {D : va_G} {cl : List vw_C} {ws ws' : va_W} {H : Heap} {f : Nat → Nat} (hP : va_P D cl ws H) (hl : ws'.length = 90) (h : ∀ n, n < 90 → ws[f n]? = ws'[n]?) : va_P D cl ws' H := by
  intro n x hx
  have hn : n < 90 := by rw [← hl]; exact (List.getElem?_eq_some_iff.mp hx).1
  exact hP (f n) x ((h n hn).trans hx)
theorem va_D_at {A : Nat → Prop} {ws ws' : va_W} (hD : va_D A ws) (hl : ws'.length = 90) (h : ∀ n, n < 90 → ws[kap n]? = ws'[n]?) : va_D A ws' := by
  have hb : ∀ n x, ws'[n]? = some x → n < 90 := fun n x hx => by rw [← hl]; exact (List.getElem?_eq_some_iff.mp hx).1
  have ki : ∀ i j, i < 90 → j < 90 → kap i = kap j → i = j := by
    intro i j hi hj e
    unfold kap at e
    split at e <;> split at e <;> omega
  refine ⟨fun i j p q h1 h2 h3 => ?_, fun k q h1 => ?_⟩
  · have i1 := hb i _ h1
    have j1 := hb j _ h2
    exact ki i j i1 j1 (hD.1 (kap i) (kap j) p q ((h i i1).trans h1) ((h j j1).trans h2) h3)
  · exact hD.2 (kap k) q ((h k (hb k _ h1)).trans h1)
theorem start_w {D : va_G} {adE adS : Nat → Nat} {cT : FieldType → ClassId} {A : Nat → Prop} {H : Heap} {q0 q8 q17 : Nat} {S4 S12 : Nat → Nat} (hP : va_P D vwCl (rawL adE adS cT q0 q8 q17 S4 S12) H) (hD : va_D A (rawL adE adS cT q0 q8 q17 S4 S12)) : va_P D vwCl (cW (Zs D adE adS cT q0 q8 q17 S4 S12) w0) H ∧ va_D A (cW (Zs D adE adS cT q0 q8 q17 S4 S12) w0) :=
  ⟨va_P_at (f := kap) hP (cW_len _ _) cel_all, va_D_at hD (cW_len _ _) cel_all⟩
