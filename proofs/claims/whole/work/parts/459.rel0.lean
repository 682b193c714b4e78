/-! ===== the world at the start ===== -/
def w0L : List (Nat → Int32) := [fun k => ([0, 0, 0, 0, 0, 0, 0, 0, 0, 0, 0, 0, 0, 0, 0, 0, 0, 0, 0, 0, 0, 0, 0, -1, 0, 0, 0, 0, 0, 0, 0, 0, 0, 0, 0, 0, 0, 0, 0, 0, 0, 0, 0, 0, 0, 0, 0, 0, 0, 0, 0, 0, 0, 0, 0, 0, 0, 0, 0, 0, 0, 0, 0, 0] : List Int32).getD k 0, fun _ => 0, fun _ => 0, upd (upd (fun _ => 0) 2 20) 3 10, fun _ => 0, fun _ => 0, fun _ => 0, fun _ => 0, fun _ => 0, fun _ => 0, fun _ => 0, fun _ => 0, fun _ => 0, fun _ => 0, fun _ => 0, fun _ => 0, fun _ => 0, fun _ => 0, fun _ => 0, fun _ => 0, fun _ => 0, fun _ => 0, fun _ => 0, fun _ => 0, fun _ => 0, fun _ => 0, fun _ => 0, fun _ => 0, fun _ => 0, fun _ => 0, fun _ => 0, fun _ => 0, fun _ => 0, fun _ => 0, fun _ => 0, fun _ => 0, fun _ => 0, fun _ => 0, fun _ => 0, fun _ => 0, fun _ => 0, fun _ => 0, fun k => ([0, 0, -1, 0, 0, 0, 0, 0, 0, 0, 0, 0, 0, 0] : List Int32).getD k 0, fun _ => 0, fun k => ([0, 0, 0, 0, 0, 0, -1, 0, 0] : List Int32).getD k 0, fun k => ([0, 0, 0, 0, 0, 0, -1, 0] : List Int32).getD k 0, fun _ => 0, fun k => ([0, 0, 20, 10, 0, 0, 0] : List Int32).getD k 0, fun _ => 0, fun _ => 0, fun _ => 0, fun _ => 0, fun _ => 0, fun _ => 0, fun _ => 0, fun _ => 0, fun k => ([0, 0, 20, 10, 0, 0, 0] : List Int32).getD k 0, fun _ => 0, fun _ => 0, fun _ => 0, fun _ => 0, fun _ => 0, fun _ => 0, fun _ => 0, fun _ => 0, fun _ => 0, fun _ => 0, fun _ => 0, fun _ => 0, fun _ => 0, fun _ => 0, fun _ => 0, fun _ => 0, fun _ => 0, fun _ => 0, fun _ => 0, fun _ => 0, fun _ => 0, fun _ => 0, fun _ => 0, fun _ => 0, fun _ => 0, fun _ => 0, fun _ => 0, fun _ => 0, fun _ => 0, fun _ => 0, fun _ => 0, fun _ => 0, fun _ => 0]
def w0 : Wld := fun n => w0L.getD n (fun _ => 0)
def h0 : Hs := ((0, 0, 20, 10), fun _ => 0, fun _ => 0, fun _ => 0, 0)
theorem rel0 : Rel w0 := by
  refine ⟨h0, ⟨Nat.zero_le _, Nat.zero_le _, fun r hr => absurd hr (Nat.not_lt_zero r), fun r hr => absurd hr (Nat.not_lt_zero r), Nat.zero_le _, fun r hr => absurd hr (Nat.not_lt_zero r)⟩, ?_, ?_, ⟨?_, ?_⟩, ?_, ?_, ?_, ?_, ?_⟩
  · exact ⟨rfl, rfl, rfl, rfl, fun r hr => absurd hr (Nat.not_lt_zero r), fun r hr => absurd hr (Nat.not_lt_zero r), rfl, fun r hr => absurd hr (Nat.not_lt_zero r)⟩
  · exact ⟨rfl, rfl, rfl, rfl, rfl, fun r hr => absurd hr (Nat.not_lt_zero r), fun r hr => absurd hr (Nat.not_lt_zero r), fun r hr => absurd hr (Nat.not_lt_zero r)⟩
  · exact ⟨fun r hr => absurd hr (Nat.not_lt_zero r), fun r hr => absurd hr (Nat.not_lt_zero r), fun r hr => absurd hr (Nat.not_lt_zero r), fun r hr => absurd hr (Nat.not_lt_zero r), fun r hr => absurd hr (Nat.not_lt_zero r), ⟨0, by omega, rfl⟩, ⟨0, by omega, rfl⟩⟩
  · exact ⟨fun r hr => absurd hr (Nat.not_lt_zero r), fun r hr => absurd hr (Nat.not_lt_zero r), rfl, rfl, rfl⟩
  · exact ⟨0, 0, by omega, by omega, rfl, rfl, rfl, fun r hr => absurd hr (Nat.not_lt_zero r)⟩
  · exact ⟨0, by omega, rfl, rfl, fun r hr => absurd hr (Nat.not_lt_zero r)⟩
  · intro k hk
    rcases k with _ | _ | _ | k
    · rfl
    · rfl
    · rfl
    · omega
  · exact Or.inl ⟨rfl, rfl⟩
  · exact ⟨⟨0, by omega, rfl, rfl, fun r hr => absurd hr (Nat.not_lt_zero r)⟩, rfl⟩
