/-! the enum Word, the Strings -/
def nmE : List String := ["OTHER", "ROOM", "BASS", "TENOR", "ALTO", "TREBLE", "TIRES", "RESTS", "DREAMS", "OR", "AND", "NOT", "SLEEP", "FISH", "VOICE", "VERSE", "NIGHT", "MET", "LAST"]
def voE : List Int32 := [-1, -1, 0, 1, 2, 3, -1, -1, -1, -1, -1, -1, -1, -1, -1, -1, -1, -1, -1]
def vaE : List Int32 := [-1, -5, -1, -1, -1, -1, -1, -1, -1, -1, -1, -1, -2, -3, -4, -6, -7, -8, -9]
def FE : List (String × String × String × List Int32) := [("DreamMatins$Word", "voice", "I", voE), ("DreamMatins$Word", "value", "I", vaE)]
def ltrs : List Nat := [18, 7, 0, 1, 2, 3, 12, 13, 14, 17, 16, 15, 4, 5, 6, 8, 9, 10, 11]
def lenJS : List Nat := [4, 5, 4, 6, 5, 4, 5, 4, 5, 5, 3, 4, 5, 5, 6, 3, 3, 2, 0]
def bytJS : List (List Int32) := [[98, 97, 115, 115], [116, 101, 110, 111, 114], [97, 108, 116, 111], [116, 114, 101, 98, 108, 101], [115, 108, 101, 101, 112], [102, 105, 115, 104], [118, 111, 105, 99, 101], [114, 111, 111, 109], [118, 101, 114, 115, 101], [110, 105, 103, 104, 116], [109, 101, 116], [108, 97, 115, 116], [116, 105, 114, 101, 115], [114, 101, 115, 116, 115], [100, 114, 101, 97, 109, 115], [110, 111, 116], [97, 110, 100], [111, 114], []]
def WNest : Cond := .fieldLinkNest "DreamMatins$Tokens" 74 "DreamMatins" "WORDS" "[LDreamMatins$Word;" "DreamMatins"
theorem WNest_in : WNest ∈ lw_tbl := in_t3 114 rfl
def LDS : List (Nat × Nat × String × Nat) := [(10, 280, "tires", 12), (10, 282, "rests", 13), (10, 284, "dreams", 14), (10, 29, "room", 7), (10, 274, "or", 17), (10, 269, "and", 16), (10, 261, "not", 15)]
def GSE : List (Nat × Nat × Nat) := [(8, 28, 0), (5, 78, 1), (5, 93, 6), (5, 99, 7), (5, 105, 8), (5, 172, 11), (5, 169, 10), (5, 153, 9)]
def gseWord (q : Nat × Nat × Nat) : Cond := .fieldLink (RN q.1) q.2.1 "DreamMatins$Word" (nmE.getD q.2.2 "") "LDreamMatins$Word;"
theorem GSE_in : ∀ q ∈ GSE, gseWord q ∈ lw_tbl ∧ q.2.2 < 19 := List.forall_mem_cons.mpr ⟨⟨in_t1 47 rfl, by decide⟩, List.forall_mem_cons.mpr ⟨⟨in_t3 175 rfl, by decide⟩, List.forall_mem_cons.mpr ⟨⟨in_t3 194 rfl, by decide⟩, List.forall_mem_cons.mpr ⟨⟨in_t3 200 rfl, by decide⟩, List.forall_mem_cons.mpr ⟨⟨in_t3 206 rfl, by decide⟩, List.forall_mem_cons.mpr ⟨⟨in_t3 228 rfl, by decide⟩, List.forall_mem_cons.mpr ⟨⟨in_t4 18 rfl, by decide⟩, List.forall_mem_cons.mpr ⟨⟨in_t4 20 rfl, by decide⟩, fun _ h => absurd h List.not_mem_nil⟩⟩⟩⟩⟩⟩⟩⟩
def efD (k : Nat) : String × String := match k with
  | 0 => ("voice", "I")
  | 1 => ("value", "I")
  | _ => ("letters", "Ljava/lang/String;")
def EFL : List (Nat × Nat × Nat) := [(8, 78, 2), (5, 86, 0), (5, 190, 1)]
def eflWord (q : Nat × Nat × Nat) : Cond := .fieldLink (RN q.1) q.2.1 "DreamMatins$Word" (efD q.2.2).1 (efD q.2.2).2
theorem EFL_in : ∀ q ∈ EFL, eflWord q ∈ lw_tbl := List.forall_mem_cons.mpr ⟨in_t8 57 rfl, List.forall_mem_cons.mpr ⟨in_t8 60 rfl, List.forall_mem_cons.mpr ⟨in_t8 61 rfl, fun _ h => absurd h List.not_mem_nil⟩⟩⟩
theorem sw_value : Cond.fieldLink "java/lang/String" 9 "java/lang/String" "value" "[B" ∈ lw_tbl := in_t8 58 rfl
theorem sw_coder : Cond.fieldLink "java/lang/String" 15 "java/lang/String" "coder" "B" ∈ lw_tbl := in_t8 59 rfl
theorem sw_compact : Cond.fieldLink "java/lang/String" 38 "java/lang/String" "COMPACT_STRINGS" "Z" ∈ lw_tbl := in_t3 124 rfl
theorem sw_sio : Cond.fieldLink "java/lang/String" 1053 "jdk/internal/util/Preconditions" "SIOOBE_FORMATTER" "Ljava/util/function/BiFunction;" ∈ lw_tbl := in_t3 140 rfl
