section
/-! ===== BEGIN words of one list among another's, by their places ===== -/
theorem goodIn_r {big : List Cond} (ws : List Cond) (ps : List Nat) (hp : ws = ps.filterMap (fun i => big[i]?)) (h : ws.all goodWord = true) : GoodIn big ws := by
  intro w hw
  have h1 := List.all_eq_true.mp h w hw
  rw [hp] at hw
  obtain ⟨i, -, hi⟩ := List.mem_filterMap.mp hw
  have hm : w ∈ big := by first | exact List.mem_of_getElem? hi | exact List.getElem?_mem hi
  exact ⟨hm, good_of_word h1⟩
theorem goodIn_app {big a b : List Cond} (ha : GoodIn big a) (hb : GoodIn big b) : GoodIn big (a ++ b) := fun w h => (List.mem_append.mp h).elim (ha w) (hb w)
theorem goodIn_ca {big a b : List Cond} {c : Cond} (ha : GoodIn big (c :: a)) (hb : GoodIn big b) : GoodIn big (c :: (a ++ b)) := fun w h => (List.mem_cons.mp h).elim (fun e => ha w (List.mem_cons.mpr (Or.inl e))) (fun h => (List.mem_append.mp h).elim (fun h => ha w (List.mem_cons.mpr (Or.inr h))) (hb w))
theorem goodIn_sub {big ws : List Cond} (hm : ∀ w ∈ ws, w ∈ big) (h : ws.all goodWord = true) : GoodIn big ws := fun w hw => ⟨hm w hw, good_of_word (List.all_eq_true.mp h w hw)⟩
/-! ===== END ===== -/
def RX0 : String := "NamesInMouths$Dyke"
def TX0 : u_T := fun k => match k with
  | 0 => ("NamesInMouths$Dyke", "row", "[I", true)
  | 1 => ("NamesInMouths$Dyke", "least", "[I", true)
  | _ => ("NamesInMouths$Dyke", "runs", "[I", true)
def tyX0 : Nat → FieldType := fun k => match k with
  | 0 => .array .int
  | 1 => .array .int
  | _ => .array .int
abbrev wsX00 : List Cond := u_ws RX0 TX0 3
theorem nmX0 : ∀ a, a < 3 → ∀ b, b < 3 → a ≠ b → (TX0 a).2.1 ≠ (TX0 b).2.1 := by decide +kernel
theorem tyX0_ok : ∀ k, k < 3 → parseFieldDescriptor (TX0 k).2.2.1 = some (tyX0 k) := by decide +kernel
abbrev cX0_init : ByteArray := prog_2_method_1_code
def yX0_init : MethodName := ⟨RX0, "<init>", "()V"⟩
abbrev cX0_sharesMouths : ByteArray := prog_2_method_2_code
def yX0_sharesMouths : MethodName := ⟨RX0, "sharesMouths", "(LNamesInMouths$Fen;)I"⟩
abbrev cX0_costs : ByteArray := prog_2_method_3_code
def yX0_costs : MethodName := ⟨RX0, "costs", "(LNamesInMouths$Fen;III)I"⟩
abbrev cX0_cheapest : ByteArray := prog_2_method_4_code
def yX0_cheapest : MethodName := ⟨RX0, "cheapest", "(LNamesInMouths$Fen;II)I"⟩
abbrev cX0_fewestCriers : ByteArray := prog_2_method_5_code
def yX0_fewestCriers : MethodName := ⟨RX0, "fewestCriers", "(LNamesInMouths$Fen;I)I"⟩
abbrev cX0_hearers : ByteArray := prog_2_method_6_code
def yX0_hearers : MethodName := ⟨RX0, "hearers", "(LNamesInMouths$Fen;II)I"⟩
abbrev cX0_heardBy : ByteArray := prog_2_method_7_code
def yX0_heardBy : MethodName := ⟨RX0, "heardBy", "(II)I"⟩
abbrev cX0_linesUp : ByteArray := prog_2_method_8_code
def yX0_linesUp : MethodName := ⟨RX0, "linesUp", "(LNamesInMouths$Fen;)V"⟩
abbrev cX0_longestFrom : ByteArray := prog_2_method_9_code
def yX0_longestFrom : MethodName := ⟨RX0, "longestFrom", "(LNamesInMouths$Fen;)I"⟩
def RX1 : String := "NamesInMouths$Ear"
def TX1 : u_T := fun k => match k with
  | 0 => ("NamesInMouths$Ear", "whats", "[I", true)
  | 1 => ("NamesInMouths$Ear", "of", "[I", true)
  | _ => ("NamesInMouths$Ear", "size", "I", false)
def tyX1 : Nat → FieldType := fun k => match k with
  | 0 => .array .int
  | 1 => .array .int
  | _ => .int
abbrev wsX10 : List Cond := u_ws RX1 TX1 3
theorem nmX1 : ∀ a, a < 3 → ∀ b, b < 3 → a ≠ b → (TX1 a).2.1 ≠ (TX1 b).2.1 := by decide +kernel
theorem tyX1_ok : ∀ k, k < 3 → parseFieldDescriptor (TX1 k).2.2.1 = some (tyX1 k) := by decide +kernel
abbrev cX1_init : ByteArray := prog_3_method_1_code
def yX1_init : MethodName := ⟨RX1, "<init>", "()V"⟩
abbrev cX1_values : ByteArray := prog_3_method_2_code
def yX1_values : MethodName := ⟨RX1, "values", "(I)I"⟩
abbrev cX1_hears : ByteArray := prog_3_method_3_code
def yX1_hears : MethodName := ⟨RX1, "hears", "(II)Z"⟩
abbrev cX1_isSo : ByteArray := prog_3_method_4_code
def yX1_isSo : MethodName := ⟨RX1, "isSo", "(LNamesInMouths$Fen;LNamesInMouths$Rule;III)Z"⟩
abbrev cX1_fitting : ByteArray := prog_3_method_5_code
def yX1_fitting : MethodName := ⟨RX1, "fitting", "(LNamesInMouths$Fen;LNamesInMouths$Rule;)I"⟩
abbrev cX1_mostLeft : ByteArray := prog_3_method_6_code
def yX1_mostLeft : MethodName := ⟨RX1, "mostLeft", "(LNamesInMouths$Fen;LNamesInMouths$Rule;III)I"⟩
def RX2 : String := "NamesInMouths$Fen"
def TX2 : u_T := fun k => match k with
  | 0 => ("NamesInMouths$Fen", "place", "[I", true)
  | 1 => ("NamesInMouths$Fen", "voice", "[I", true)
  | 2 => ("NamesInMouths$Fen", "purse", "[I", true)
  | 3 => ("NamesInMouths$Fen", "holder", "[I", true)
  | 4 => ("NamesInMouths$Fen", "age", "[I", true)
  | 5 => ("NamesInMouths$Fen", "size", "I", false)
  | 6 => ("NamesInMouths$Fen", "day", "I", false)
  | _ => ("NamesInMouths$Fen", "said", "I", false)
def tyX2 : Nat → FieldType := fun k => match k with
  | 0 => .array .int
  | 1 => .array .int
  | 2 => .array .int
  | 3 => .array .int
  | 4 => .array .int
  | 5 => .int
  | 6 => .int
  | _ => .int
abbrev wsX20 : List Cond := u_ws RX2 TX2 8
theorem nmX2 : ∀ a, a < 8 → ∀ b, b < 8 → a ≠ b → (TX2 a).2.1 ≠ (TX2 b).2.1 := by decide +kernel
theorem tyX2_ok : ∀ k, k < 8 → parseFieldDescriptor (TX2 k).2.2.1 = some (tyX2 k) := by decide +kernel
abbrev cX2_init : ByteArray := prog_4_method_1_code
def yX2_init : MethodName := ⟨RX2, "<init>", "()V"⟩
abbrev cX2_has : ByteArray := prog_4_method_2_code
def yX2_has : MethodName := ⟨RX2, "has", "(I)Z"⟩
abbrev cX2_adds : ByteArray := prog_4_method_3_code
def yX2_adds : MethodName := ⟨RX2, "adds", "(III)V"⟩
abbrev cX2_takes : ByteArray := prog_4_method_4_code
def yX2_takes : MethodName := ⟨RX2, "takes", "(LNamesInMouths$Fen;)V"⟩
abbrev cX2_writes : ByteArray := prog_4_method_5_code
def yX2_writes : MethodName := ⟨RX2, "writes", "([II)V"⟩
abbrev cX2_readsBack : ByteArray := prog_4_method_6_code
def yX2_readsBack : MethodName := ⟨RX2, "readsBack", "([II)V"⟩
abbrev cX2_far : ByteArray := prog_4_method_7_code
def yX2_far : MethodName := ⟨RX2, "far", "(II)I"⟩
abbrev cX2_held : ByteArray := prog_4_method_8_code
def yX2_held : MethodName := ⟨RX2, "held", "(I)I"⟩
abbrev cX2_can : ByteArray := prog_4_method_9_code
def yX2_can : MethodName := ⟨RX2, "can", "(LNamesInMouths$Rule;II)Z"⟩
abbrev cX2_sayable : ByteArray := prog_4_method_10_code
def yX2_sayable : MethodName := ⟨RX2, "sayable", "(LNamesInMouths$Rule;I)I"⟩
abbrev cX2_sayers : ByteArray := prog_4_method_11_code
def yX2_sayers : MethodName := ⟨RX2, "sayers", "(LNamesInMouths$Rule;I)I"⟩
abbrev cX2_pairs : ByteArray := prog_4_method_12_code
def yX2_pairs : MethodName := ⟨RX2, "pairs", "(LNamesInMouths$Rule;)I"⟩
abbrev cX2_homes : ByteArray := prog_4_method_13_code
def yX2_homes : MethodName := ⟨RX2, "homes", "()I"⟩
abbrev cX2_purses : ByteArray := prog_4_method_14_code
def yX2_purses : MethodName := ⟨RX2, "purses", "()I"⟩
abbrev cX2_sum : ByteArray := prog_4_method_15_code
def yX2_sum : MethodName := ⟨RX2, "sum", "([I)I"⟩
abbrev cX2_ring : ByteArray := prog_4_method_16_code
def yX2_ring : MethodName := ⟨RX2, "ring", "(I)I"⟩
abbrev cX2_say : ByteArray := prog_4_method_17_code
def yX2_say : MethodName := ⟨RX2, "say", "(II)V"⟩
abbrev cX2_saidBy : ByteArray := prog_4_method_18_code
def yX2_saidBy : MethodName := ⟨RX2, "saidBy", "(LNamesInMouths$Rule;II)I"⟩
abbrev cX2_signedFor : ByteArray := prog_4_method_19_code
def yX2_signedFor : MethodName := ⟨RX2, "signedFor", "(II)I"⟩
abbrev cX2_movedTo : ByteArray := prog_4_method_20_code
def yX2_movedTo : MethodName := ⟨RX2, "movedTo", "(II)I"⟩
abbrev cX2_rollCalled : ByteArray := prog_4_method_21_code
def yX2_rollCalled : MethodName := ⟨RX2, "rollCalled", "(LNamesInMouths$Rule;I)I"⟩
abbrev cX2_passDays : ByteArray := prog_4_method_22_code
def yX2_passDays : MethodName := ⟨RX2, "passDays", "(LNamesInMouths$Rule;II)V"⟩
abbrev cX2_passDay : ByteArray := prog_4_method_23_code
def yX2_passDay : MethodName := ⟨RX2, "passDay", "(LNamesInMouths$Rule;I)V"⟩
def RX3 : String := "NamesInMouths$Past"
def TX3 : u_T := fun k => match k with
  | 0 => ("NamesInMouths$Past", "slots", "[I", true)
  | 1 => ("NamesInMouths$Past", "free", "I", false)
  | 2 => ("NamesInMouths$Past", "shelved", "I", false)
  | _ => ("NamesInMouths$Past", "size", "I", false)
def tyX3 : Nat → FieldType := fun k => match k with
  | 0 => .array .int
  | 1 => .int
  | 2 => .int
  | _ => .int
abbrev wsX30 : List Cond := u_ws RX3 TX3 4
theorem nmX3 : ∀ a, a < 4 → ∀ b, b < 4 → a ≠ b → (TX3 a).2.1 ≠ (TX3 b).2.1 := by decide +kernel
theorem tyX3_ok : ∀ k, k < 4 → parseFieldDescriptor (TX3 k).2.2.1 = some (tyX3 k) := by decide +kernel
abbrev cX3_init : ByteArray := prog_5_method_1_code
def yX3_init : MethodName := ⟨RX3, "<init>", "()V"⟩
abbrev cX3_marks : ByteArray := prog_5_method_2_code
def yX3_marks : MethodName := ⟨RX3, "marks", "(LNamesInMouths$Fen;)V"⟩
abbrev cX3_keepMarked : ByteArray := prog_5_method_3_code
def yX3_keepMarked : MethodName := ⟨RX3, "keepMarked", "()V"⟩
abbrev cX3_bringsBack : ByteArray := prog_5_method_4_code
def yX3_bringsBack : MethodName := ⟨RX3, "bringsBack", "(LNamesInMouths$Fen;)Z"⟩
abbrev cX3_shelves : ByteArray := prog_5_method_5_code
def yX3_shelves : MethodName := ⟨RX3, "shelves", "(ILNamesInMouths$Fen;)Z"⟩
abbrev cX3_unshelves : ByteArray := prog_5_method_6_code
def yX3_unshelves : MethodName := ⟨RX3, "unshelves", "(ILNamesInMouths$Fen;)Z"⟩
abbrev cX3_forgetsAll : ByteArray := prog_5_method_7_code
def yX3_forgetsAll : MethodName := ⟨RX3, "forgetsAll", "()V"⟩
def RX4 : String := "NamesInMouths$Plays"
def TX4 : u_T := fun k => match k with
  | 0 => ("NamesInMouths$Plays", "ways", "[J", true)
  | 1 => ("NamesInMouths$Plays", "next", "[J", true)
  | 2 => ("NamesInMouths$Plays", "won", "[I", true)
  | 3 => ("NamesInMouths$Plays", "hushReady", "Z", false)
  | 4 => ("NamesInMouths$Plays", "bestAgainst", "[I", true)
  | _ => ("NamesInMouths$Plays", "lot", "I", false)
def tyX4 : Nat → FieldType := fun k => match k with
  | 0 => .array .long
  | 1 => .array .long
  | 2 => .array .int
  | 3 => .boolean
  | 4 => .array .int
  | _ => .int
abbrev wsX40 : List Cond := u_ws RX4 TX4 6
theorem nmX4 : ∀ a, a < 6 → ∀ b, b < 6 → a ≠ b → (TX4 a).2.1 ≠ (TX4 b).2.1 := by decide +kernel
theorem tyX4_ok : ∀ k, k < 6 → parseFieldDescriptor (TX4 k).2.2.1 = some (tyX4 k) := by decide +kernel
abbrev cX4_init : ByteArray := prog_6_method_1_code
def yX4_init : MethodName := ⟨RX4, "<init>", "()V"⟩
abbrev cX4_walked : ByteArray := prog_6_method_2_code
def yX4_walked : MethodName := ⟨RX4, "walked", "(IIII)J"⟩
abbrev cX4_readiesHush : ByteArray := prog_6_method_3_code
def yX4_readiesHush : MethodName := ⟨RX4, "readiesHush", "()V"⟩
abbrev cX4_wins : ByteArray := prog_6_method_4_code
def yX4_wins : MethodName := ⟨RX4, "wins", "(II)Z"⟩
abbrev cX4_winningTake : ByteArray := prog_6_method_5_code
def yX4_winningTake : MethodName := ⟨RX4, "winningTake", "(II)I"⟩
abbrev cX4_gain : ByteArray := prog_6_method_6_code
def yX4_gain : MethodName := ⟨RX4, "gain", "(III)I"⟩
abbrev cX4_readiesRests : ByteArray := prog_6_method_7_code
def yX4_readiesRests : MethodName := ⟨RX4, "readiesRests", "(I)V"⟩
abbrev cX4_isRest : ByteArray := prog_6_method_8_code
def yX4_isRest : MethodName := ⟨RX4, "isRest", "(III)Z"⟩
abbrev cX4_draw : ByteArray := prog_6_method_9_code
def yX4_draw : MethodName := ⟨RX4, "draw", "(I)I"⟩
def RX5 : String := "NamesInMouths$Rule"
def TX5 : u_T := fun k => match k with
  | 0 => ("NamesInMouths$Rule", "steps", "[I", true)
  | 1 => ("NamesInMouths$Rule", "stack", "[I", true)
  | _ => ("NamesInMouths$Rule", "size", "I", false)
def tyX5 : Nat → FieldType := fun k => match k with
  | 0 => .array .int
  | 1 => .array .int
  | _ => .int
abbrev wsX50 : List Cond := u_ws RX5 TX5 3
theorem nmX5 : ∀ a, a < 3 → ∀ b, b < 3 → a ≠ b → (TX5 a).2.1 ≠ (TX5 b).2.1 := by decide +kernel
theorem tyX5_ok : ∀ k, k < 3 → parseFieldDescriptor (TX5 k).2.2.1 = some (tyX5 k) := by decide +kernel
abbrev cX5_init : ByteArray := prog_7_method_1_code
def yX5_init : MethodName := ⟨RX5, "<init>", "()V"⟩
abbrev cX5_becomesNone : ByteArray := prog_7_method_2_code
def yX5_becomesNone : MethodName := ⟨RX5, "becomesNone", "()V"⟩
abbrev cX5_puts : ByteArray := prog_7_method_3_code
def yX5_puts : MethodName := ⟨RX5, "puts", "(I)V"⟩
abbrev cX5_worth : ByteArray := prog_7_method_4_code
def yX5_worth : MethodName := ⟨RX5, "worth", "(LNamesInMouths$Fen;II)I"⟩
abbrev cX5_joined : ByteArray := prog_7_method_5_code
def yX5_joined : MethodName := ⟨RX5, "joined", "(III)I"⟩
abbrev cX5_thing : ByteArray := prog_7_method_6_code
def yX5_thing : MethodName := ⟨RX5, "thing", "(ILNamesInMouths$Fen;II)I"⟩
def RX6 : String := "NamesInMouths$RuleReader"
def TX6 : u_T := fun k => match k with
  | 0 => ("NamesInMouths$RuleReader", "text", "LNamesInMouths$Text;", false)
  | 1 => ("NamesInMouths$RuleReader", "rule", "LNamesInMouths$Rule;", false)
  | _ => ("NamesInMouths$RuleReader", "at", "I", false)
def tyX6 : Nat → FieldType := fun k => match k with
  | 0 => .object "NamesInMouths$Text"
  | 1 => .object "NamesInMouths$Rule"
  | _ => .int
abbrev wsX60 : List Cond := u_ws RX6 TX6 3
theorem nmX6 : ∀ a, a < 3 → ∀ b, b < 3 → a ≠ b → (TX6 a).2.1 ≠ (TX6 b).2.1 := by decide +kernel
theorem tyX6_ok : ∀ k, k < 3 → parseFieldDescriptor (TX6 k).2.2.1 = some (tyX6 k) := by decide +kernel
abbrev cX6_init : ByteArray := prog_8_method_1_code
def yX6_init : MethodName := ⟨RX6, "<init>", "()V"⟩
abbrev cX6_reads : ByteArray := prog_8_method_2_code
def yX6_reads : MethodName := ⟨RX6, "reads", "(LNamesInMouths$Text;LNamesInMouths$Rule;)I"⟩
abbrev cX6_next : ByteArray := prog_8_method_3_code
def yX6_next : MethodName := ⟨RX6, "next", "()I"⟩
abbrev cX6_readsComparison : ByteArray := prog_8_method_4_code
def yX6_readsComparison : MethodName := ⟨RX6, "readsComparison", "(I)Z"⟩
abbrev cX6_readsSum : ByteArray := prog_8_method_5_code
def yX6_readsSum : MethodName := ⟨RX6, "readsSum", "(I)Z"⟩
abbrev cX6_readsProduct : ByteArray := prog_8_method_6_code
def yX6_readsProduct : MethodName := ⟨RX6, "readsProduct", "(I)Z"⟩
abbrev cX6_readsSigned : ByteArray := prog_8_method_7_code
def yX6_readsSigned : MethodName := ⟨RX6, "readsSigned", "(I)Z"⟩
abbrev cX6_readsThing : ByteArray := prog_8_method_8_code
def yX6_readsThing : MethodName := ⟨RX6, "readsThing", "(I)Z"⟩
abbrev cX6_readsBracket : ByteArray := prog_8_method_9_code
def yX6_readsBracket : MethodName := ⟨RX6, "readsBracket", "(I)Z"⟩
abbrev cX6_readsNumber : ByteArray := prog_8_method_10_code
def yX6_readsNumber : MethodName := ⟨RX6, "readsNumber", "()Z"⟩
def RX7 : String := "NamesInMouths$Seen"
def TX7 : u_T := fun k => match k with
  | 0 => ("NamesInMouths$Seen", "voice", "[I", true)
  | 1 => ("NamesInMouths$Seen", "far", "[I", true)
  | 2 => ("NamesInMouths$Seen", "could", "[I", true)
  | 3 => ("NamesInMouths$Seen", "low", "[I", true)
  | 4 => ("NamesInMouths$Seen", "high", "[I", true)
  | _ => ("NamesInMouths$Seen", "size", "I", false)
def tyX7 : Nat → FieldType := fun k => match k with
  | 0 => .array .int
  | 1 => .array .int
  | 2 => .array .int
  | 3 => .array .int
  | 4 => .array .int
  | _ => .int
abbrev wsX70 : List Cond := u_ws RX7 TX7 6
theorem nmX7 : ∀ a, a < 6 → ∀ b, b < 6 → a ≠ b → (TX7 a).2.1 ≠ (TX7 b).2.1 := by decide +kernel
theorem tyX7_ok : ∀ k, k < 6 → parseFieldDescriptor (TX7 k).2.2.1 = some (tyX7 k) := by decide +kernel
abbrev cX7_init : ByteArray := prog_9_method_1_code
def yX7_init : MethodName := ⟨RX7, "<init>", "()V"⟩
abbrev cX7_sees : ByteArray := prog_9_method_2_code
def yX7_sees : MethodName := ⟨RX7, "sees", "(III)Z"⟩
abbrev cX7_reach : ByteArray := prog_9_method_3_code
def yX7_reach : MethodName := ⟨RX7, "reach", "(III)I"⟩
abbrev cX7_fitLaws : ByteArray := prog_9_method_4_code
def yX7_fitLaws : MethodName := ⟨RX7, "fitLaws", "()I"⟩
abbrev cX7_leastPair : ByteArray := prog_9_method_5_code
def yX7_leastPair : MethodName := ⟨RX7, "leastPair", "()I"⟩
abbrev cX7_lawsThatHear : ByteArray := prog_9_method_6_code
def yX7_lawsThatHear : MethodName := ⟨RX7, "lawsThatHear", "(II)I"⟩
def RX8 : String := "NamesInMouths$Text"
def TX8 : u_T := fun k => match k with
  | 0 => ("NamesInMouths$Text", "signs", "[C", true)
  | _ => ("NamesInMouths$Text", "length", "I", false)
def tyX8 : Nat → FieldType := fun k => match k with
  | 0 => .array .char
  | _ => .int
abbrev wsX80 : List Cond := u_ws RX8 TX8 2
theorem nmX8 : ∀ a, a < 2 → ∀ b, b < 2 → a ≠ b → (TX8 a).2.1 ≠ (TX8 b).2.1 := by decide +kernel
theorem tyX8_ok : ∀ k, k < 2 → parseFieldDescriptor (TX8 k).2.2.1 = some (tyX8 k) := by decide +kernel
abbrev cX8_init : ByteArray := prog_10_method_1_code
def yX8_init : MethodName := ⟨RX8, "<init>", "()V"⟩
abbrev cX8_adds : ByteArray := prog_10_method_2_code
def yX8_adds : MethodName := ⟨RX8, "adds", "(I)Z"⟩
abbrev cX8_cuts : ByteArray := prog_10_method_3_code
def yX8_cuts : MethodName := ⟨RX8, "cuts", "(I)Z"⟩
abbrev cX8_at : ByteArray := prog_10_method_4_code
def yX8_at : MethodName := ⟨RX8, "at", "(I)I"⟩
abbrev cX8_isDigit : ByteArray := prog_10_method_5_code
def yX8_isDigit : MethodName := ⟨RX8, "isDigit", "(I)Z"⟩
abbrev cX8_digit : ByteArray := prog_10_method_6_code
def yX8_digit : MethodName := ⟨RX8, "digit", "(I)I"⟩
abbrev cX8_twoDigits : ByteArray := prog_10_method_7_code
def yX8_twoDigits : MethodName := ⟨RX8, "twoDigits", "(I)I"⟩
def RX9 : String := "NamesInMouths$Told"
def TX9 : u_T := fun k => match k with
  | 0 => ("NamesInMouths$Told", "numbers", "[J", true)
  | _ => ("NamesInMouths$Told", "size", "I", false)
def tyX9 : Nat → FieldType := fun k => match k with
  | 0 => .array .long
  | _ => .int
abbrev wsX90 : List Cond := u_ws RX9 TX9 2
theorem nmX9 : ∀ a, a < 2 → ∀ b, b < 2 → a ≠ b → (TX9 a).2.1 ≠ (TX9 b).2.1 := by decide +kernel
theorem tyX9_ok : ∀ k, k < 2 → parseFieldDescriptor (TX9 k).2.2.1 = some (tyX9 k) := by decide +kernel
abbrev cX9_init : ByteArray := prog_11_method_1_code
def yX9_init : MethodName := ⟨RX9, "<init>", "()V"⟩
abbrev cX9_clears : ByteArray := prog_11_method_2_code
def yX9_clears : MethodName := ⟨RX9, "clears", "()V"⟩
abbrev cX9_adds : ByteArray := prog_11_method_3_code
def yX9_adds : MethodName := ⟨RX9, "adds", "(J)V"⟩
abbrev cX9_tells : ByteArray := prog_11_method_4_code
def yX9_tells : MethodName := ⟨RX9, "tells", "(J)V"⟩
abbrev cX9_tells_ : ByteArray := prog_11_method_5_code
def yX9_tells_ : MethodName := ⟨RX9, "tells", "(JJ)V"⟩
def RX10 : String := "NamesInMouths$Ways"
def TX10 : u_T := fun k => match k with
  | 0 => ("NamesInMouths$Ways", "from", "[I", true)
  | 1 => ("NamesInMouths$Ways", "queue", "[I", true)
  | 2 => ("NamesInMouths$Ways", "queued", "I", false)
  | 3 => ("NamesInMouths$Ways", "met", "I", false)
  | 4 => ("NamesInMouths$Ways", "way", "[I", true)
  | 5 => ("NamesInMouths$Ways", "those", "[I", true)
  | 6 => ("NamesInMouths$Ways", "turn", "[I", true)
  | 7 => ("NamesInMouths$Ways", "tried", "[J", true)
  | 8 => ("NamesInMouths$Ways", "best", "[I", true)
  | 9 => ("NamesInMouths$Ways", "turns", "I", false)
  | 10 => ("NamesInMouths$Ways", "most", "I", false)
  | 11 => ("NamesInMouths$Ways", "homesAtFirst", "I", false)
  | 12 => ("NamesInMouths$Ways", "fen", "LNamesInMouths$Fen;", false)
  | _ => ("NamesInMouths$Ways", "rule", "LNamesInMouths$Rule;", false)
def tyX10 : Nat → FieldType := fun k => match k with
  | 0 => .array .int
  | 1 => .array .int
  | 2 => .int
  | 3 => .int
  | 4 => .array .int
  | 5 => .array .int
  | 6 => .array .int
  | 7 => .array .long
  | 8 => .array .int
  | 9 => .int
  | 10 => .int
  | 11 => .int
  | 12 => .object "NamesInMouths$Fen"
  | _ => .object "NamesInMouths$Rule"
abbrev wsX100 : List Cond := u_ws RX10 TX10 14
theorem nmX10 : ∀ a, a < 14 → ∀ b, b < 14 → a ≠ b → (TX10 a).2.1 ≠ (TX10 b).2.1 := by decide +kernel
theorem tyX10_ok : ∀ k, k < 14 → parseFieldDescriptor (TX10 k).2.2.1 = some (tyX10 k) := by decide +kernel
abbrev cX10_init : ByteArray := prog_12_method_1_code
def yX10_init : MethodName := ⟨RX10, "<init>", "()V"⟩
abbrev cX10_sayer : ByteArray := prog_12_method_2_code
def yX10_sayer : MethodName := ⟨RX10, "sayer", "(I)I"⟩
abbrev cX10_toHold : ByteArray := prog_12_method_3_code
def yX10_toHold : MethodName := ⟨RX10, "toHold", "(LNamesInMouths$Fen;LNamesInMouths$Rule;II)I"⟩
abbrev cX10_meets : ByteArray := prog_12_method_4_code
def yX10_meets : MethodName := ⟨RX10, "meets", "(II)V"⟩
abbrev cX10_traces : ByteArray := prog_12_method_5_code
def yX10_traces : MethodName := ⟨RX10, "traces", "(II)I"⟩
abbrev cX10_sayBack : ByteArray := prog_12_method_6_code
def yX10_sayBack : MethodName := ⟨RX10, "sayBack", "(LNamesInMouths$Fen;LNamesInMouths$Rule;)I"⟩
abbrev cX10_takesTurn : ByteArray := prog_12_method_7_code
def yX10_takesTurn : MethodName := ⟨RX10, "takesTurn", "(III)V"⟩
abbrev cX10_saysOwn : ByteArray := prog_12_method_8_code
def yX10_saysOwn : MethodName := ⟨RX10, "saysOwn", "(IIII)V"⟩
def RX11 : String := "NamesInMouths"
def TX11 : u_T := fun k => match k with
  | 0 => ("NamesInMouths", "text", "LNamesInMouths$Text;", true)
  | 1 => ("NamesInMouths", "told", "LNamesInMouths$Told;", true)
  | 2 => ("NamesInMouths", "fen", "LNamesInMouths$Fen;", true)
  | 3 => ("NamesInMouths", "trial", "LNamesInMouths$Fen;", true)
  | 4 => ("NamesInMouths", "reader", "LNamesInMouths$RuleReader;", true)
  | 5 => ("NamesInMouths", "past", "LNamesInMouths$Past;", true)
  | 6 => ("NamesInMouths", "ways", "LNamesInMouths$Ways;", true)
  | 7 => ("NamesInMouths", "dyke", "LNamesInMouths$Dyke;", true)
  | 8 => ("NamesInMouths", "ear", "LNamesInMouths$Ear;", true)
  | 9 => ("NamesInMouths", "seen", "LNamesInMouths$Seen;", true)
  | 10 => ("NamesInMouths", "plays", "LNamesInMouths$Plays;", true)
  | 11 => ("NamesInMouths", "ruling", "LNamesInMouths$Rule;", false)
  | _ => ("NamesInMouths", "spare", "LNamesInMouths$Rule;", false)
def tyX11 : Nat → FieldType := fun k => match k with
  | 0 => .object "NamesInMouths$Text"
  | 1 => .object "NamesInMouths$Told"
  | 2 => .object "NamesInMouths$Fen"
  | 3 => .object "NamesInMouths$Fen"
  | 4 => .object "NamesInMouths$RuleReader"
  | 5 => .object "NamesInMouths$Past"
  | 6 => .object "NamesInMouths$Ways"
  | 7 => .object "NamesInMouths$Dyke"
  | 8 => .object "NamesInMouths$Ear"
  | 9 => .object "NamesInMouths$Seen"
  | 10 => .object "NamesInMouths$Plays"
  | 11 => .object "NamesInMouths$Rule"
  | _ => .object "NamesInMouths$Rule"
abbrev wsX110 : List Cond := u_ws RX11 TX11 13
theorem nmX11 : ∀ a, a < 13 → ∀ b, b < 13 → a ≠ b → (TX11 a).2.1 ≠ (TX11 b).2.1 := by decide +kernel
theorem tyX11_ok : ∀ k, k < 13 → parseFieldDescriptor (TX11 k).2.2.1 = some (tyX11 k) := by decide +kernel
abbrev cX11_init : ByteArray := prog_1_method_1_code
def yX11_init : MethodName := ⟨RX11, "<init>", "()V"⟩
abbrev cX11_sign : ByteArray := prog_1_method_2_code
def yX11_sign : MethodName := ⟨RX11, "sign", "(I)I"⟩
abbrev cX11_end : ByteArray := prog_1_method_3_code
def yX11_end : MethodName := ⟨RX11, "end", "(I)Z"⟩
abbrev cX11_people : ByteArray := prog_1_method_4_code
def yX11_people : MethodName := ⟨RX11, "people", "()I"⟩
abbrev cX11_rule : ByteArray := prog_1_method_5_code
def yX11_rule : MethodName := ⟨RX11, "rule", "()I"⟩
abbrev cX11_one : ByteArray := prog_1_method_6_code
def yX11_one : MethodName := ⟨RX11, "one", "(II)I"⟩
abbrev cX11_name : ByteArray := prog_1_method_7_code
def yX11_name : MethodName := ⟨RX11, "name", "(II)I"⟩
abbrev cX11_sheet : ByteArray := prog_1_method_8_code
def yX11_sheet : MethodName := ⟨RX11, "sheet", "(IIII)I"⟩
abbrev cX11_says : ByteArray := prog_1_method_9_code
def yX11_says : MethodName := ⟨RX11, "says", "(II)I"⟩
abbrev cX11_signs : ByteArray := prog_1_method_10_code
def yX11_signs : MethodName := ⟨RX11, "signs", "(II)I"⟩
abbrev cX11_moves : ByteArray := prog_1_method_11_code
def yX11_moves : MethodName := ⟨RX11, "moves", "(II)I"⟩
abbrev cX11_calls : ByteArray := prog_1_method_12_code
def yX11_calls : MethodName := ⟨RX11, "calls", "(I)I"⟩
abbrev cX11_days : ByteArray := prog_1_method_13_code
def yX11_days : MethodName := ⟨RX11, "days", "(I)I"⟩
abbrev cX11_week : ByteArray := prog_1_method_14_code
def yX11_week : MethodName := ⟨RX11, "week", "()I"⟩
abbrev cX11_undo : ByteArray := prog_1_method_15_code
def yX11_undo : MethodName := ⟨RX11, "undo", "()I"⟩
abbrev cX11_brings : ByteArray := prog_1_method_16_code
def yX11_brings : MethodName := ⟨RX11, "brings", "(II)I"⟩
abbrev cX11_later : ByteArray := prog_1_method_17_code
def yX11_later : MethodName := ⟨RX11, "later", "(II)I"⟩
abbrev cX11_home : ByteArray := prog_1_method_18_code
def yX11_home : MethodName := ⟨RX11, "home", "(I)I"⟩
abbrev cX11_poor : ByteArray := prog_1_method_19_code
def yX11_poor : MethodName := ⟨RX11, "poor", "(I)I"⟩
abbrev cX11_leads : ByteArray := prog_1_method_20_code
def yX11_leads : MethodName := ⟨RX11, "leads", "(I)I"⟩
abbrev cX11_rings : ByteArray := prog_1_method_21_code
def yX11_rings : MethodName := ⟨RX11, "rings", "()I"⟩
abbrev cX11_robs : ByteArray := prog_1_method_22_code
def yX11_robs : MethodName := ⟨RX11, "robs", "(I)I"⟩
abbrev cX11_order : ByteArray := prog_1_method_23_code
def yX11_order : MethodName := ⟨RX11, "order", "()I"⟩
abbrev cX11_silences : ByteArray := prog_1_method_24_code
def yX11_silences : MethodName := ⟨RX11, "silences", "(I)I"⟩
abbrev cX11_goes : ByteArray := prog_1_method_25_code
def yX11_goes : MethodName := ⟨RX11, "goes", "(I)I"⟩
abbrev cX11_peace : ByteArray := prog_1_method_26_code
def yX11_peace : MethodName := ⟨RX11, "peace", "()I"⟩
abbrev cX11_wed : ByteArray := prog_1_method_27_code
def yX11_wed : MethodName := ⟨RX11, "wed", "()I"⟩
abbrev cX11_loud : ByteArray := prog_1_method_28_code
def yX11_loud : MethodName := ⟨RX11, "loud", "()I"⟩
abbrev cX11_mouths : ByteArray := prog_1_method_29_code
def yX11_mouths : MethodName := ⟨RX11, "mouths", "()I"⟩
abbrev cX11_criers : ByteArray := prog_1_method_30_code
def yX11_criers : MethodName := ⟨RX11, "criers", "(I)I"⟩
abbrev cX11_line : ByteArray := prog_1_method_31_code
def yX11_line : MethodName := ⟨RX11, "line", "()I"⟩
abbrev cX11_rich : ByteArray := prog_1_method_32_code
def yX11_rich : MethodName := ⟨RX11, "rich", "()I"⟩
abbrev cX11_heard : ByteArray := prog_1_method_33_code
def yX11_heard : MethodName := ⟨RX11, "heard", "(II)I"⟩
abbrev cX11_forget : ByteArray := prog_1_method_34_code
def yX11_forget : MethodName := ⟨RX11, "forget", "()I"⟩
abbrev cX11_fits : ByteArray := prog_1_method_35_code
def yX11_fits : MethodName := ⟨RX11, "fits", "()I"⟩
abbrev cX11_asks : ByteArray := prog_1_method_36_code
def yX11_asks : MethodName := ⟨RX11, "asks", "()I"⟩
abbrev cX11_saw : ByteArray := prog_1_method_37_code
def yX11_saw : MethodName := ⟨RX11, "saw", "(III)I"⟩
abbrev cX11_denies : ByteArray := prog_1_method_38_code
def yX11_denies : MethodName := ⟨RX11, "denies", "()I"⟩
abbrev cX11_laws : ByteArray := prog_1_method_39_code
def yX11_laws : MethodName := ⟨RX11, "laws", "()I"⟩
abbrev cX11_tries : ByteArray := prog_1_method_40_code
def yX11_tries : MethodName := ⟨RX11, "tries", "()I"⟩
abbrev cX11_walks : ByteArray := prog_1_method_41_code
def yX11_walks : MethodName := ⟨RX11, "walks", "(IIII)I"⟩
abbrev cX11_hush : ByteArray := prog_1_method_42_code
def yX11_hush : MethodName := ⟨RX11, "hush", "(II)I"⟩
abbrev cX11_rests : ByteArray := prog_1_method_43_code
def yX11_rests : MethodName := ⟨RX11, "rests", "(I)I"⟩
abbrev cX11_law : ByteArray := prog_1_method_44_code
def yX11_law : MethodName := ⟨RX11, "law", "()I"⟩
abbrev cX11_years : ByteArray := prog_1_method_45_code
def yX11_years : MethodName := ⟨RX11, "years", "(II)I"⟩
abbrev cX11_keep : ByteArray := prog_1_method_46_code
def yX11_keep : MethodName := ⟨RX11, "keep", "(I)Z"⟩
abbrev cX11_again : ByteArray := prog_1_method_47_code
def yX11_again : MethodName := ⟨RX11, "again", "(I)Z"⟩
abbrev cX11_count : ByteArray := prog_1_method_48_code
def yX11_count : MethodName := ⟨RX11, "count", "(I)I"⟩
abbrev cX11_row : ByteArray := prog_1_method_49_code
def yX11_row : MethodName := ⟨RX11, "row", "(I)J"⟩
abbrev cX11_peopleWrongAt : ByteArray := prog_1_method_50_code
def yX11_peopleWrongAt : MethodName := ⟨RX11, "peopleWrongAt", "()I"⟩
abbrev cX11_standsInLine : ByteArray := prog_1_method_51_code
def yX11_standsInLine : MethodName := ⟨RX11, "standsInLine", "(I)Z"⟩
abbrev cX11_takePeople : ByteArray := prog_1_method_52_code
def yX11_takePeople : MethodName := ⟨RX11, "takePeople", "()I"⟩
abbrev cX11_fillPurses : ByteArray := prog_1_method_53_code
def yX11_fillPurses : MethodName := ⟨RX11, "fillPurses", "(IIII)V"⟩
abbrev cX11_keepDone : ByteArray := prog_1_method_54_code
def yX11_keepDone : MethodName := ⟨RX11, "keepDone", "(I)I"⟩
abbrev cX11_weekWrongAt : ByteArray := prog_1_method_55_code
def yX11_weekWrongAt : MethodName := ⟨RX11, "weekWrongAt", "()I"⟩
abbrev cX11_actDigits : ByteArray := prog_1_method_56_code
def yX11_actDigits : MethodName := ⟨RX11, "actDigits", "(I)I"⟩
abbrev cX11_act : ByteArray := prog_1_method_57_code
def yX11_act : MethodName := ⟨RX11, "act", "(I)I"⟩
abbrev cX11_triesDrawn : ByteArray := prog_1_method_58_code
def yX11_triesDrawn : MethodName := ⟨RX11, "triesDrawn", "(I)V"⟩
abbrev cX11_daysUntilHome : ByteArray := prog_1_method_59_code
def yX11_daysUntilHome : MethodName := ⟨RX11, "daysUntilHome", "(I)I"⟩
abbrev cX11_homesAfter : ByteArray := prog_1_method_60_code
def yX11_homesAfter : MethodName := ⟨RX11, "homesAfter", "(II)I"⟩
abbrev cX11_greatestCommon : ByteArray := prog_1_method_61_code
def yX11_greatestCommon : MethodName := ⟨RX11, "greatestCommon", "(JJ)J"⟩
def RX12 : String := "NamesInMouthsModel"
def TX12 : u_T := fun k => match k with
  | 0 => ("NamesInMouthsModel", "now", "[I", true)
  | 1 => ("NamesInMouthsModel", "people", "I", false)
  | 2 => ("NamesInMouthsModel", "voice", "[I", true)
  | 3 => ("NamesInMouthsModel", "text", "[B", true)
  | 4 => ("NamesInMouthsModel", "typed", "I", false)
  | 5 => ("NamesInMouthsModel", "row", "[J", true)
  | 6 => ("NamesInMouthsModel", "rowMany", "I", false)
  | 7 => ("NamesInMouthsModel", "thrown", "I", false)
  | 8 => ("NamesInMouthsModel", "read", "[B", false)
  | 9 => ("NamesInMouthsModel", "length", "I", false)
  | 10 => ("NamesInMouthsModel", "top", "I", false)
  | 11 => ("NamesInMouthsModel", "at", "I", false)
  | 12 => ("NamesInMouthsModel", "wrong", "I", false)
  | 13 => ("NamesInMouthsModel", "comes", "[I", true)
  | 14 => ("NamesInMouthsModel", "rule", "[B", false)
  | 15 => ("NamesInMouthsModel", "otherRule", "[B", false)
  | 16 => ("NamesInMouthsModel", "ruleSize", "I", false)
  | 17 => ("NamesInMouthsModel", "isAsked", "Z", false)
  | 18 => ("NamesInMouthsModel", "asked", "[I", true)
  | 19 => ("NamesInMouthsModel", "undos", "[I", true)
  | 20 => ("NamesInMouthsModel", "undoMany", "I", false)
  | 21 => ("NamesInMouthsModel", "aside", "[I", true)
  | 22 => ("NamesInMouthsModel", "then", "[I", true)
  | 23 => ("NamesInMouthsModel", "acts", "[I", true)
  | 24 => ("NamesInMouthsModel", "trail", "[I", true)
  | 25 => ("NamesInMouthsModel", "line", "[I", true)
  | 26 => ("NamesInMouthsModel", "steps", "[I", true)
  | 27 => ("NamesInMouthsModel", "bestLine", "[I", true)
  | 28 => ("NamesInMouthsModel", "whoAll", "[I", true)
  | 29 => ("NamesInMouthsModel", "mostHome", "I", false)
  | 30 => ("NamesInMouthsModel", "mouthed", "[I", true)
  | 31 => ("NamesInMouthsModel", "dyke", "[I", true)
  | 32 => ("NamesInMouthsModel", "longest", "[I", true)
  | 33 => ("NamesInMouthsModel", "heardOf", "[I", true)
  | 34 => ("NamesInMouthsModel", "heardBy", "[I", true)
  | 35 => ("NamesInMouthsModel", "heardMany", "I", false)
  | 36 => ("NamesInMouthsModel", "sawOf", "[I", true)
  | 37 => ("NamesInMouthsModel", "sawAs", "[I", true)
  | 38 => ("NamesInMouthsModel", "sawMany", "I", false)
  | 39 => ("NamesInMouthsModel", "parts", "[J", true)
  | 40 => ("NamesInMouthsModel", "nextParts", "[J", true)
  | 41 => ("NamesInMouthsModel", "loses", "[Z", true)
  | 42 => ("NamesInMouthsModel", "drawn", "I", false)
  | 43 => ("NamesInMouthsModel", "came", "I", false)
  | 44 => ("NamesInMouthsModel", "kept", "[I", true)
  | 45 => ("NamesInMouthsModel", "isKept", "[Z", true)
  | _ => ("NamesInMouthsModel", "keptCame", "[I", true)
def tyX12 : Nat → FieldType := fun k => match k with
  | 0 => .array .int
  | 1 => .int
  | 2 => .array .int
  | 3 => .array .byte
  | 4 => .int
  | 5 => .array .long
  | 6 => .int
  | 7 => .int
  | 8 => .array .byte
  | 9 => .int
  | 10 => .int
  | 11 => .int
  | 12 => .int
  | 13 => .array .int
  | 14 => .array .byte
  | 15 => .array .byte
  | 16 => .int
  | 17 => .boolean
  | 18 => .array .int
  | 19 => .array .int
  | 20 => .int
  | 21 => .array .int
  | 22 => .array .int
  | 23 => .array .int
  | 24 => .array .int
  | 25 => .array .int
  | 26 => .array .int
  | 27 => .array .int
  | 28 => .array .int
  | 29 => .int
  | 30 => .array .int
  | 31 => .array .int
  | 32 => .array .int
  | 33 => .array .int
  | 34 => .array .int
  | 35 => .int
  | 36 => .array .int
  | 37 => .array .int
  | 38 => .int
  | 39 => .array .long
  | 40 => .array .long
  | 41 => .array .boolean
  | 42 => .int
  | 43 => .int
  | 44 => .array .int
  | 45 => .array .boolean
  | _ => .array .int
abbrev wsX120 : List Cond := u_ws RX12 TX12 47
theorem nmX12 : ∀ a, a < 47 → ∀ b, b < 47 → a ≠ b → (TX12 a).2.1 ≠ (TX12 b).2.1 := by decide +kernel
theorem tyX12_ok : ∀ k, k < 47 → parseFieldDescriptor (TX12 k).2.2.1 = some (tyX12 k) := by decide +kernel
abbrev cX12_init : ByteArray := prog_14_method_1_code
def yX12_init : MethodName := ⟨RX12, "<init>", "()V"⟩
abbrev cX12_thrown : ByteArray := prog_14_method_2_code
def yX12_thrown : MethodName := ⟨RX12, "thrown", "()I"⟩
abbrev cX12_in : ByteArray := prog_14_method_3_code
def yX12_in : MethodName := ⟨RX12, "in", "(III)Z"⟩
abbrev cX12_has : ByteArray := prog_14_method_4_code
def yX12_has : MethodName := ⟨RX12, "has", "(II)Z"⟩
abbrev cX12_lost : ByteArray := prog_14_method_5_code
def yX12_lost : MethodName := ⟨RX12, "lost", "()I"⟩
abbrev cX12_tell : ByteArray := prog_14_method_6_code
def yX12_tell : MethodName := ⟨RX12, "tell", "(J)V"⟩
abbrev cX12_isOne : ByteArray := prog_14_method_7_code
def yX12_isOne : MethodName := ⟨RX12, "isOne", "(I)Z"⟩
abbrev cX12_all : ByteArray := prog_14_method_8_code
def yX12_all : MethodName := ⟨RX12, "all", "()I"⟩
abbrev cX12_sign : ByteArray := prog_14_method_9_code
def yX12_sign : MethodName := ⟨RX12, "sign", "(I)I"⟩
abbrev cX12_end : ByteArray := prog_14_method_10_code
def yX12_end : MethodName := ⟨RX12, "end", "(I)Z"⟩
abbrev cX12_begin : ByteArray := prog_14_method_11_code
def yX12_begin : MethodName := ⟨RX12, "begin", "([BII)V"⟩
abbrev cX12_beginText : ByteArray := prog_14_method_12_code
def yX12_beginText : MethodName := ⟨RX12, "beginText", "(I)V"⟩
abbrev cX12_here : ByteArray := prog_14_method_13_code
def yX12_here : MethodName := ⟨RX12, "here", "()I"⟩
abbrev cX12_fine : ByteArray := prog_14_method_14_code
def yX12_fine : MethodName := ⟨RX12, "fine", "()Z"⟩
abbrev cX12_fault : ByteArray := prog_14_method_15_code
def yX12_fault : MethodName := ⟨RX12, "fault", "(I)V"⟩
abbrev cX12_passes : ByteArray := prog_14_method_16_code
def yX12_passes : MethodName := ⟨RX12, "passes", "(C)Z"⟩
abbrev cX12_need : ByteArray := prog_14_method_17_code
def yX12_need : MethodName := ⟨RX12, "need", "(C)V"⟩
abbrev cX12_oneOf : ByteArray := prog_14_method_18_code
def yX12_oneOf : MethodName := ⟨RX12, "oneOf", "(CI)I"⟩
abbrev cX12_number : ByteArray := prog_14_method_19_code
def yX12_number : MethodName := ⟨RX12, "number", "(I)I"⟩
abbrev cX12_wasRight : ByteArray := prog_14_method_20_code
def yX12_wasRight : MethodName := ⟨RX12, "wasRight", "()Z"⟩
abbrev cX12_people : ByteArray := prog_14_method_21_code
def yX12_people : MethodName := ⟨RX12, "people", "()I"⟩
abbrev cX12_held : ByteArray := prog_14_method_22_code
def yX12_held : MethodName := ⟨RX12, "held", "(I)I"⟩
abbrev cX12_sum : ByteArray := prog_14_method_23_code
def yX12_sum : MethodName := ⟨RX12, "sum", "(I)I"⟩
abbrev cX12_product : ByteArray := prog_14_method_24_code
def yX12_product : MethodName := ⟨RX12, "product", "(I)I"⟩
abbrev cX12_letterOf : ByteArray := prog_14_method_25_code
def yX12_letterOf : MethodName := ⟨RX12, "letterOf", "(I)I"⟩
abbrev cX12_thing : ByteArray := prog_14_method_26_code
def yX12_thing : MethodName := ⟨RX12, "thing", "(I)I"⟩
abbrev cX12_readRule : ByteArray := prog_14_method_27_code
def yX12_readRule : MethodName := ⟨RX12, "readRule", "()Z"⟩
abbrev cX12_rule : ByteArray := prog_14_method_28_code
def yX12_rule : MethodName := ⟨RX12, "rule", "()I"⟩
abbrev cX12_farOf : ByteArray := prog_14_method_29_code
def yX12_farOf : MethodName := ⟨RX12, "farOf", "([III)I"⟩
abbrev cX12_heldBy : ByteArray := prog_14_method_30_code
def yX12_heldBy : MethodName := ⟨RX12, "heldBy", "([II)I"⟩
abbrev cX12_canSay : ByteArray := prog_14_method_31_code
def yX12_canSay : MethodName := ⟨RX12, "canSay", "([III)Z"⟩
abbrev cX12_sayable : ByteArray := prog_14_method_32_code
def yX12_sayable : MethodName := ⟨RX12, "sayable", "([II)I"⟩
abbrev cX12_sayers : ByteArray := prog_14_method_33_code
def yX12_sayers : MethodName := ⟨RX12, "sayers", "(I)I"⟩
abbrev cX12_one : ByteArray := prog_14_method_34_code
def yX12_one : MethodName := ⟨RX12, "one", "(II)I"⟩
abbrev cX12_name : ByteArray := prog_14_method_35_code
def yX12_name : MethodName := ⟨RX12, "name", "(II)I"⟩
abbrev cX12_sumOf : ByteArray := prog_14_method_36_code
def yX12_sumOf : MethodName := ⟨RX12, "sumOf", "([II)I"⟩
abbrev cX12_sheet : ByteArray := prog_14_method_37_code
def yX12_sheet : MethodName := ⟨RX12, "sheet", "(IIII)I"⟩
abbrev cX12_lay : ByteArray := prog_14_method_38_code
def yX12_lay : MethodName := ⟨RX12, "lay", "([I[II)V"⟩
abbrev cX12_remember : ByteArray := prog_14_method_39_code
def yX12_remember : MethodName := ⟨RX12, "remember", "([I)V"⟩
abbrev cX12_goSaying : ByteArray := prog_14_method_40_code
def yX12_goSaying : MethodName := ⟨RX12, "goSaying", "([III)V"⟩
abbrev cX12_refusesSaying : ByteArray := prog_14_method_41_code
def yX12_refusesSaying : MethodName := ⟨RX12, "refusesSaying", "([III)I"⟩
abbrev cX12_says : ByteArray := prog_14_method_42_code
def yX12_says : MethodName := ⟨RX12, "says", "(II)I"⟩
abbrev cX12_refusesDeed : ByteArray := prog_14_method_43_code
def yX12_refusesDeed : MethodName := ⟨RX12, "refusesDeed", "(II)I"⟩
abbrev cX12_goDeed : ByteArray := prog_14_method_44_code
def yX12_goDeed : MethodName := ⟨RX12, "goDeed", "(II)I"⟩
abbrev cX12_signs : ByteArray := prog_14_method_45_code
def yX12_signs : MethodName := ⟨RX12, "signs", "(II)I"⟩
abbrev cX12_refusesMove : ByteArray := prog_14_method_46_code
def yX12_refusesMove : MethodName := ⟨RX12, "refusesMove", "([III)I"⟩
abbrev cX12_moves : ByteArray := prog_14_method_47_code
def yX12_moves : MethodName := ⟨RX12, "moves", "(II)I"⟩
abbrev cX12_goRoll : ByteArray := prog_14_method_48_code
def yX12_goRoll : MethodName := ⟨RX12, "goRoll", "([II)I"⟩
abbrev cX12_refusesRoll : ByteArray := prog_14_method_49_code
def yX12_refusesRoll : MethodName := ⟨RX12, "refusesRoll", "(I)I"⟩
abbrev cX12_calls : ByteArray := prog_14_method_50_code
def yX12_calls : MethodName := ⟨RX12, "calls", "(I)I"⟩
abbrev cX12_goDay : ByteArray := prog_14_method_51_code
def yX12_goDay : MethodName := ⟨RX12, "goDay", "([II)V"⟩
abbrev cX12_goDays : ByteArray := prog_14_method_52_code
def yX12_goDays : MethodName := ⟨RX12, "goDays", "([III)V"⟩
abbrev cX12_atHome : ByteArray := prog_14_method_53_code
def yX12_atHome : MethodName := ⟨RX12, "atHome", "([I)I"⟩
abbrev cX12_days : ByteArray := prog_14_method_54_code
def yX12_days : MethodName := ⟨RX12, "days", "(I)I"⟩
abbrev cX12_week : ByteArray := prog_14_method_55_code
def yX12_week : MethodName := ⟨RX12, "week", "()I"⟩
abbrev cX12_readAct : ByteArray := prog_14_method_56_code
def yX12_readAct : MethodName := ⟨RX12, "readAct", "(I)V"⟩
abbrev cX12_act : ByteArray := prog_14_method_57_code
def yX12_act : MethodName := ⟨RX12, "act", "(III)Z"⟩
abbrev cX12_undo : ByteArray := prog_14_method_58_code
def yX12_undo : MethodName := ⟨RX12, "undo", "()I"⟩
abbrev cX12_canBring : ByteArray := prog_14_method_59_code
def yX12_canBring : MethodName := ⟨RX12, "canBring", "(IIII)Z"⟩
abbrev cX12_brings : ByteArray := prog_14_method_60_code
def yX12_brings : MethodName := ⟨RX12, "brings", "(II)I"⟩
abbrev cX12_later : ByteArray := prog_14_method_61_code
def yX12_later : MethodName := ⟨RX12, "later", "(II)I"⟩
abbrev cX12_home : ByteArray := prog_14_method_62_code
def yX12_home : MethodName := ⟨RX12, "home", "(I)I"⟩
abbrev cX12_poor : ByteArray := prog_14_method_63_code
def yX12_poor : MethodName := ⟨RX12, "poor", "(I)I"⟩
abbrev cX12_peace : ByteArray := prog_14_method_64_code
def yX12_peace : MethodName := ⟨RX12, "peace", "()I"⟩
abbrev cX12_goLead : ByteArray := prog_14_method_65_code
def yX12_goLead : MethodName := ⟨RX12, "goLead", "(I)I"⟩
abbrev cX12_leads : ByteArray := prog_14_method_66_code
def yX12_leads : MethodName := ⟨RX12, "leads", "(I)I"⟩
abbrev cX12_ringOf : ByteArray := prog_14_method_67_code
def yX12_ringOf : MethodName := ⟨RX12, "ringOf", "(I)I"⟩
abbrev cX12_rings : ByteArray := prog_14_method_68_code
def yX12_rings : MethodName := ⟨RX12, "rings", "()I"⟩
abbrev cX12_wed : ByteArray := prog_14_method_69_code
def yX12_wed : MethodName := ⟨RX12, "wed", "()I"⟩
abbrev cX12_loud : ByteArray := prog_14_method_70_code
def yX12_loud : MethodName := ⟨RX12, "loud", "()I"⟩
abbrev cX12_robs : ByteArray := prog_14_method_71_code
def yX12_robs : MethodName := ⟨RX12, "robs", "(I)I"⟩
abbrev cX12_goOrder : ByteArray := prog_14_method_72_code
def yX12_goOrder : MethodName := ⟨RX12, "goOrder", "(III)V"⟩
abbrev cX12_order : ByteArray := prog_14_method_73_code
def yX12_order : MethodName := ⟨RX12, "order", "()I"⟩
abbrev cX12_homeIn : ByteArray := prog_14_method_74_code
def yX12_homeIn : MethodName := ⟨RX12, "homeIn", "(II)I"⟩
abbrev cX12_silences : ByteArray := prog_14_method_75_code
def yX12_silences : MethodName := ⟨RX12, "silences", "(I)I"⟩
abbrev cX12_goes : ByteArray := prog_14_method_76_code
def yX12_goes : MethodName := ⟨RX12, "goes", "(I)I"⟩
abbrev cX12_canMouth : ByteArray := prog_14_method_77_code
def yX12_canMouth : MethodName := ⟨RX12, "canMouth", "(III)Z"⟩
abbrev cX12_mouths : ByteArray := prog_14_method_78_code
def yX12_mouths : MethodName := ⟨RX12, "mouths", "()I"⟩
abbrev cX12_criers : ByteArray := prog_14_method_79_code
def yX12_criers : MethodName := ⟨RX12, "criers", "(I)I"⟩
abbrev cX12_layDyke : ByteArray := prog_14_method_80_code
def yX12_layDyke : MethodName := ⟨RX12, "layDyke", "()V"⟩
abbrev cX12_line : ByteArray := prog_14_method_81_code
def yX12_line : MethodName := ⟨RX12, "line", "()I"⟩
abbrev cX12_rich : ByteArray := prog_14_method_82_code
def yX12_rich : MethodName := ⟨RX12, "rich", "()I"⟩
abbrev cX12_heard : ByteArray := prog_14_method_83_code
def yX12_heard : MethodName := ⟨RX12, "heard", "(II)I"⟩
abbrev cX12_forget : ByteArray := prog_14_method_84_code
def yX12_forget : MethodName := ⟨RX12, "forget", "()I"⟩
abbrev cX12_fits : ByteArray := prog_14_method_85_code
def yX12_fits : MethodName := ⟨RX12, "fits", "(III)Z"⟩
abbrev cX12_fitting : ByteArray := prog_14_method_86_code
def yX12_fitting : MethodName := ⟨RX12, "fitting", "()I"⟩
abbrev cX12_fits_ : ByteArray := prog_14_method_87_code
def yX12_fits_ : MethodName := ⟨RX12, "fits", "()I"⟩
abbrev cX12_asks : ByteArray := prog_14_method_88_code
def yX12_asks : MethodName := ⟨RX12, "asks", "()I"⟩
abbrev cX12_saw : ByteArray := prog_14_method_89_code
def yX12_saw : MethodName := ⟨RX12, "saw", "(III)I"⟩
abbrev cX12_denies : ByteArray := prog_14_method_90_code
def yX12_denies : MethodName := ⟨RX12, "denies", "()I"⟩
abbrev cX12_says_ : ByteArray := prog_14_method_91_code
def yX12_says_ : MethodName := ⟨RX12, "says", "(IIZ)I"⟩
abbrev cX12_isLaw : ByteArray := prog_14_method_92_code
def yX12_isLaw : MethodName := ⟨RX12, "isLaw", "(I)Z"⟩
abbrev cX12_laws : ByteArray := prog_14_method_93_code
def yX12_laws : MethodName := ⟨RX12, "laws", "()I"⟩
abbrev cX12_tries : ByteArray := prog_14_method_94_code
def yX12_tries : MethodName := ⟨RX12, "tries", "()I"⟩
abbrev cX12_common : ByteArray := prog_14_method_95_code
def yX12_common : MethodName := ⟨RX12, "common", "(JJ)J"⟩
abbrev cX12_walks : ByteArray := prog_14_method_96_code
def yX12_walks : MethodName := ⟨RX12, "walks", "(IIII)I"⟩
abbrev cX12_moveOf : ByteArray := prog_14_method_97_code
def yX12_moveOf : MethodName := ⟨RX12, "moveOf", "(II)I"⟩
abbrev cX12_hush : ByteArray := prog_14_method_98_code
def yX12_hush : MethodName := ⟨RX12, "hush", "(II)I"⟩
abbrev cX12_gets : ByteArray := prog_14_method_99_code
def yX12_gets : MethodName := ⟨RX12, "gets", "(III)I"⟩
abbrev cX12_isBest : ByteArray := prog_14_method_100_code
def yX12_isBest : MethodName := ⟨RX12, "isBest", "(III)Z"⟩
abbrev cX12_rests : ByteArray := prog_14_method_101_code
def yX12_rests : MethodName := ⟨RX12, "rests", "(I)I"⟩
abbrev cX12_pairs : ByteArray := prog_14_method_102_code
def yX12_pairs : MethodName := ⟨RX12, "pairs", "()I"⟩
abbrev cX12_law : ByteArray := prog_14_method_103_code
def yX12_law : MethodName := ⟨RX12, "law", "()I"⟩
abbrev cX12_draw : ByteArray := prog_14_method_104_code
def yX12_draw : MethodName := ⟨RX12, "draw", "(I)I"⟩
abbrev cX12_years : ByteArray := prog_14_method_105_code
def yX12_years : MethodName := ⟨RX12, "years", "(II)I"⟩
abbrev cX12_keep : ByteArray := prog_14_method_106_code
def yX12_keep : MethodName := ⟨RX12, "keep", "(I)Z"⟩
abbrev cX12_again : ByteArray := prog_14_method_107_code
def yX12_again : MethodName := ⟨RX12, "again", "(I)Z"⟩
abbrev cX12_voices : ByteArray := prog_14_method_108_code
def yX12_voices : MethodName := ⟨RX12, "voices", "()I"⟩
abbrev cX12_count : ByteArray := prog_14_method_109_code
def yX12_count : MethodName := ⟨RX12, "count", "(I)I"⟩
abbrev cX12_row : ByteArray := prog_14_method_110_code
def yX12_row : MethodName := ⟨RX12, "row", "(I)J"⟩
def RJx145de : String := "java/io/Serializable"
def TJx145de : u_T := fun k => match k with
  | _ => ("", "", "", false)
def tyJx145de : Nat → FieldType := fun k => match k with
  | _ => .int
abbrev wsJx145de0 : List Cond := u_ws RJx145de TJx145de 0
theorem nmJx145de : ∀ a, a < 0 → ∀ b, b < 0 → a ≠ b → (TJx145de a).2.1 ≠ (TJx145de b).2.1 := by decide +kernel
theorem tyJx145de_ok : ∀ k, k < 0 → parseFieldDescriptor (TJx145de k).2.2.1 = some (tyJx145de k) := by decide +kernel
def RJ6 : String := "java/lang/Integer"
def TJ6 : u_T := fun k => match k with
  | _ => ("", "", "", false)
def tyJ6 : Nat → FieldType := fun k => match k with
  | _ => .int
abbrev wsJ60 : List Cond := u_ws RJ6 TJ6 0
theorem nmJ6 : ∀ a, a < 0 → ∀ b, b < 0 → a ≠ b → (TJ6 a).2.1 ≠ (TJ6 b).2.1 := by decide +kernel
theorem tyJ6_ok : ∀ k, k < 0 → parseFieldDescriptor (TJ6 k).2.2.1 = some (tyJ6 k) := by decide +kernel
abbrev cJ6_numberOfTrailingZeros_0f7a4 : ByteArray := prog_17_method_48_code
def yJ6_numberOfTrailingZeros_0f7a4 : MethodName := ⟨RJ6, "numberOfTrailingZeros", "(I)I"⟩
abbrev cJ6_bitCount_0f7a4 : ByteArray := prog_17_method_49_code
def yJ6_bitCount_0f7a4 : MethodName := ⟨RJ6, "bitCount", "(I)I"⟩
def RJ9 : String := "java/lang/Math"
def TJ9 : u_T := fun k => match k with
  | _ => ("", "", "", false)
def tyJ9 : Nat → FieldType := fun k => match k with
  | _ => .int
abbrev wsJ90 : List Cond := u_ws RJ9 TJ9 0
theorem nmJ9 : ∀ a, a < 0 → ∀ b, b < 0 → a ≠ b → (TJ9 a).2.1 ≠ (TJ9 b).2.1 := by decide +kernel
theorem tyJ9_ok : ∀ k, k < 0 → parseFieldDescriptor (TJ9 k).2.2.1 = some (tyJ9 k) := by decide +kernel
abbrev cJ9_abs_0f7a4 : ByteArray := prog_18_method_59_code
def yJ9_abs_0f7a4 : MethodName := ⟨RJ9, "abs", "(I)I"⟩
abbrev cJ9_max_7cf53 : ByteArray := prog_18_method_65_code
def yJ9_max_7cf53 : MethodName := ⟨RJ9, "max", "(II)I"⟩
abbrev cJ9_min_7cf53 : ByteArray := prog_18_method_69_code
def yJ9_min_7cf53 : MethodName := ⟨RJ9, "min", "(II)I"⟩
def RJ10 : String := "java/lang/System"
def TJ10 : u_T := fun k => match k with
  | _ => ("", "", "", false)
def tyJ10 : Nat → FieldType := fun k => match k with
  | _ => .int
abbrev wsJ100 : List Cond := u_ws RJ10 TJ10 0
theorem nmJ10 : ∀ a, a < 0 → ∀ b, b < 0 → a ≠ b → (TJ10 a).2.1 ≠ (TJ10 b).2.1 := by decide +kernel
theorem tyJ10_ok : ∀ k, k < 0 → parseFieldDescriptor (TJ10 k).2.2.1 = some (tyJ10 k) := by decide +kernel
def RL : String := "NamesInMouthsLaw"
abbrev cL_one : ByteArray := method_3_code
def yL_one : MethodName := ⟨RL, "one", "(LNamesInMouths;II[J)I"⟩
abbrev cL_name : ByteArray := method_4_code
def yL_name : MethodName := ⟨RL, "name", "(LNamesInMouths;II[J)I"⟩
abbrev cL_row : ByteArray := method_5_code
def yL_row : MethodName := ⟨RL, "row", "(LNamesInMouths;I[J)I"⟩
abbrev cL_law : ByteArray := code
def yL_law : MethodName := ⟨RL, "law", "([I)Z"⟩
def wsL_law0_r1 : List Cond := [Cond.classLink RL 8 RX11, Cond.instantiable RX11 13, Cond.initialized RX11, Cond.classLink RL 23 RX12, Cond.instantiable RX12 47, Cond.initialized RX12, Cond.arrayClass .long, Cond.methodLink RL 22 yX11_init, Cond.instanceMethod yX11_init, Cond.code yX11_init cX11_init 1 none, Cond.methodLink RX11 1 objectInit, Cond.instanceMethod objectInit, Cond.code objectInit ⟨#[0xb1]⟩ 1 none, Cond.classLink RX11 7 RX8, Cond.instantiable RX8 2, Cond.initialized RX8, Cond.fieldLink RX11 10 "NamesInMouths" "text" "LNamesInMouths$Text;", Cond.classLink RX11 16 RX9, Cond.instantiable RX9 2, Cond.initialized RX9, Cond.fieldLink RX11 19 "NamesInMouths" "told" "LNamesInMouths$Told;", Cond.classLink RX11 23 RX2, Cond.instantiable RX2 8, Cond.initialized RX2]
def wsL_law0_r2 : List Cond := [Cond.fieldLink RX11 26 "NamesInMouths" "fen" "LNamesInMouths$Fen;", Cond.fieldLink RX11 30 "NamesInMouths" "trial" "LNamesInMouths$Fen;", Cond.classLink RX11 33 RX6, Cond.instantiable RX6 3, Cond.initialized RX6, Cond.fieldLink RX11 36 "NamesInMouths" "reader" "LNamesInMouths$RuleReader;", Cond.classLink RX11 40 RX3, Cond.instantiable RX3 4, Cond.initialized RX3, Cond.fieldLink RX11 43 "NamesInMouths" "past" "LNamesInMouths$Past;", Cond.classLink RX11 47 RX10, Cond.instantiable RX10 14, Cond.initialized RX10, Cond.fieldLink RX11 50 "NamesInMouths" "ways" "LNamesInMouths$Ways;", Cond.classLink RX11 54 RX0, Cond.instantiable RX0 3, Cond.initialized RX0, Cond.fieldLink RX11 57 "NamesInMouths" "dyke" "LNamesInMouths$Dyke;", Cond.classLink RX11 61 RX1, Cond.instantiable RX1 3, Cond.initialized RX1, Cond.fieldLink RX11 64 "NamesInMouths" "ear" "LNamesInMouths$Ear;", Cond.classLink RX11 68 RX7, Cond.instantiable RX7 6]
def wsL_law0_r3 : List Cond := [Cond.initialized RX7, Cond.fieldLink RX11 71 "NamesInMouths" "seen" "LNamesInMouths$Seen;", Cond.classLink RX11 75 RX4, Cond.instantiable RX4 6, Cond.initialized RX4, Cond.fieldLink RX11 78 "NamesInMouths" "plays" "LNamesInMouths$Plays;", Cond.classLink RX11 82 RX5, Cond.instantiable RX5 3, Cond.initialized RX5, Cond.fieldLink RX11 85 "NamesInMouths" "ruling" "LNamesInMouths$Rule;", Cond.fieldLink RX11 89 "NamesInMouths" "spare" "LNamesInMouths$Rule;", Cond.instanceMethod yX8_init, Cond.code yX8_init cX8_init 1 none, Cond.methodLink RX8 1 objectInit, Cond.arrayClass .char, Cond.fieldLink RX8 9 "NamesInMouths$Text" "signs" "[C", Cond.instanceMethod yX9_init, Cond.code yX9_init cX9_init 1 none, Cond.methodLink RX9 3 objectInit, Cond.fieldLink RX9 11 "NamesInMouths$Told" "numbers" "[J", Cond.instanceMethod yX2_init, Cond.code yX2_init cX2_init 1 none, Cond.methodLink RX2 3 objectInit, Cond.arrayClass .int]
def wsL_law0_r4 : List Cond := [Cond.fieldLink RX2 9 "NamesInMouths$Fen" "place" "[I", Cond.fieldLink RX2 15 "NamesInMouths$Fen" "voice" "[I", Cond.fieldLink RX2 18 "NamesInMouths$Fen" "purse" "[I", Cond.fieldLink RX2 21 "NamesInMouths$Fen" "holder" "[I", Cond.fieldLink RX2 24 "NamesInMouths$Fen" "age" "[I", Cond.instanceMethod yX6_init, Cond.code yX6_init cX6_init 1 none, Cond.methodLink RX6 3 objectInit, Cond.instanceMethod yX3_init, Cond.code yX3_init cX3_init 1 none, Cond.methodLink RX3 3 objectInit, Cond.fieldLink RX3 11 "NamesInMouths$Past" "slots" "[I", Cond.instanceMethod yX10_init, Cond.code yX10_init cX10_init 1 none, Cond.methodLink RX10 5 objectInit, Cond.fieldLink RX10 11 "NamesInMouths$Ways" "from" "[I", Cond.fieldLink RX10 15 "NamesInMouths$Ways" "queue" "[I", Cond.fieldLink RX10 18 "NamesInMouths$Ways" "way" "[I", Cond.fieldLink RX10 21 "NamesInMouths$Ways" "those" "[I", Cond.fieldLink RX10 24 "NamesInMouths$Ways" "turn" "[I", Cond.fieldLink RX10 27 "NamesInMouths$Ways" "tried" "[J", Cond.fieldLink RX10 31 "NamesInMouths$Ways" "best" "[I", Cond.instanceMethod yX0_init, Cond.code yX0_init cX0_init 1 none]
def wsL_law0_r5 : List Cond := [Cond.methodLink RX0 3 objectInit, Cond.fieldLink RX0 9 "NamesInMouths$Dyke" "row" "[I", Cond.fieldLink RX0 15 "NamesInMouths$Dyke" "least" "[I", Cond.fieldLink RX0 18 "NamesInMouths$Dyke" "runs" "[I", Cond.instanceMethod yX1_init, Cond.code yX1_init cX1_init 1 none, Cond.methodLink RX1 3 objectInit, Cond.fieldLink RX1 11 "NamesInMouths$Ear" "whats" "[I", Cond.fieldLink RX1 15 "NamesInMouths$Ear" "of" "[I", Cond.instanceMethod yX7_init, Cond.code yX7_init cX7_init 1 none, Cond.methodLink RX7 3 objectInit, Cond.fieldLink RX7 9 "NamesInMouths$Seen" "voice" "[I", Cond.fieldLink RX7 13 "NamesInMouths$Seen" "far" "[I", Cond.fieldLink RX7 16 "NamesInMouths$Seen" "could" "[I", Cond.fieldLink RX7 19 "NamesInMouths$Seen" "low" "[I", Cond.fieldLink RX7 22 "NamesInMouths$Seen" "high" "[I", Cond.instanceMethod yX4_init, Cond.code yX4_init cX4_init 1 none, Cond.methodLink RX4 3 objectInit, Cond.fieldLink RX4 9 "NamesInMouths$Plays" "ways" "[J", Cond.fieldLink RX4 15 "NamesInMouths$Plays" "next" "[J", Cond.fieldLink RX4 18 "NamesInMouths$Plays" "won" "[I", Cond.fieldLink RX4 22 "NamesInMouths$Plays" "bestAgainst" "[I"]
def wsL_law0_r6 : List Cond := [Cond.methodLink RX11 84 yX5_init, Cond.instanceMethod yX5_init, Cond.code yX5_init cX5_init 1 none, Cond.methodLink RX5 3 objectInit, Cond.fieldLink RX5 9 "NamesInMouths$Rule" "steps" "[I", Cond.fieldLink RX5 15 "NamesInMouths$Rule" "stack" "[I", Cond.methodLink RX5 18 yX5_becomesNone, Cond.instanceMethod yX5_becomesNone, Cond.selects RX5 yX5_becomesNone yX5_becomesNone, Cond.code yX5_becomesNone cX5_becomesNone 1 none, Cond.fieldLink RX5 21 "NamesInMouths$Rule" "size" "I", Cond.methodLink RX5 25 yX5_puts, Cond.instanceMethod yX5_puts, Cond.selects RX5 yX5_puts yX5_puts, Cond.code yX5_puts cX5_puts 2 none, Cond.methodLink RL 25 yX12_init, Cond.instanceMethod yX12_init, Cond.code yX12_init cX12_init 1 none, Cond.methodLink RX12 3 objectInit, Cond.fieldLink RX12 9 "NamesInMouthsModel" "now" "[I", Cond.fieldLink RX12 13 "NamesInMouthsModel" "voice" "[I", Cond.arrayClass .byte, Cond.fieldLink RX12 16 "NamesInMouthsModel" "text" "[B", Cond.fieldLink RX12 20 "NamesInMouthsModel" "row" "[J"]
def wsL_law0_r7 : List Cond := [Cond.fieldLink RX12 24 "NamesInMouthsModel" "comes" "[I", Cond.fieldLink RX12 27 "NamesInMouthsModel" "rule" "[B", Cond.fieldLink RX12 30 "NamesInMouthsModel" "otherRule" "[B", Cond.fieldLink RX12 33 "NamesInMouthsModel" "asked" "[I", Cond.fieldLink RX12 36 "NamesInMouthsModel" "undos" "[I", Cond.fieldLink RX12 39 "NamesInMouthsModel" "aside" "[I", Cond.fieldLink RX12 42 "NamesInMouthsModel" "then" "[I", Cond.fieldLink RX12 45 "NamesInMouthsModel" "acts" "[I", Cond.fieldLink RX12 48 "NamesInMouthsModel" "trail" "[I", Cond.fieldLink RX12 51 "NamesInMouthsModel" "line" "[I", Cond.fieldLink RX12 54 "NamesInMouthsModel" "steps" "[I", Cond.fieldLink RX12 57 "NamesInMouthsModel" "bestLine" "[I", Cond.fieldLink RX12 60 "NamesInMouthsModel" "whoAll" "[I", Cond.fieldLink RX12 63 "NamesInMouthsModel" "mouthed" "[I", Cond.fieldLink RX12 66 "NamesInMouthsModel" "dyke" "[I", Cond.fieldLink RX12 69 "NamesInMouthsModel" "longest" "[I", Cond.fieldLink RX12 72 "NamesInMouthsModel" "heardOf" "[I", Cond.fieldLink RX12 75 "NamesInMouthsModel" "heardBy" "[I", Cond.fieldLink RX12 78 "NamesInMouthsModel" "sawOf" "[I", Cond.fieldLink RX12 81 "NamesInMouthsModel" "sawAs" "[I", Cond.fieldLink RX12 84 "NamesInMouthsModel" "parts" "[J", Cond.fieldLink RX12 87 "NamesInMouthsModel" "nextParts" "[J", Cond.arrayClass .boolean, Cond.fieldLink RX12 90 "NamesInMouthsModel" "loses" "[Z"]
def wsL_law0_r8 : List Cond := [Cond.fieldLink RX12 94 "NamesInMouthsModel" "kept" "[I", Cond.fieldLink RX12 97 "NamesInMouthsModel" "isKept" "[Z", Cond.fieldLink RX12 100 "NamesInMouthsModel" "keptCame" "[I", Cond.methodLink RL 26 yX11_sign, Cond.instanceMethod yX11_sign, Cond.selects RX11 yX11_sign yX11_sign, Cond.code yX11_sign cX11_sign 2 (some .int), Cond.fieldLink RX11 96 "NamesInMouths$Text" "length" "I", Cond.methodLink RX11 92 yX8_adds, Cond.instanceMethod yX8_adds, Cond.selects RX8 yX8_adds yX8_adds, Cond.code yX8_adds cX8_adds 3 (some .boolean), Cond.fieldLink RX8 13 "NamesInMouths$Text" "length" "I", Cond.methodLink RL 30 yX12_sign, Cond.instanceMethod yX12_sign, Cond.selects RX12 yX12_sign yX12_sign, Cond.code yX12_sign cX12_sign 3 (some .int), Cond.fieldLink RX12 103 "NamesInMouthsModel" "thrown" "I", Cond.fieldLink RX12 117 "NamesInMouthsModel" "typed" "I", Cond.methodLink RL 31 yX11_end, Cond.instanceMethod yX11_end, Cond.selects RX11 yX11_end yX11_end, Cond.code yX11_end cX11_end 2 (some .boolean), Cond.methodLink RX11 100 yX8_cuts]
def wsL_law0_r9 : List Cond := [Cond.instanceMethod yX8_cuts, Cond.selects RX8 yX8_cuts yX8_cuts, Cond.code yX8_cuts cX8_cuts 2 (some .boolean), Cond.methodLink RL 35 yX12_end, Cond.instanceMethod yX12_end, Cond.selects RX12 yX12_end yX12_end, Cond.code yX12_end cX12_end 2 (some .boolean), Cond.methodLink RX12 113 yX12_in, Cond.static yX12_in, Cond.code yX12_in cX12_in 3 (some .boolean), Cond.methodLink RL 36 yX11_people, Cond.instanceMethod yX11_people, Cond.selects RX11 yX11_people yX11_people, Cond.code yX11_people cX11_people 3 (some .int), Cond.methodLink RX11 103 yX11_peopleWrongAt, Cond.instanceMethod yX11_peopleWrongAt, Cond.selects RX11 yX11_peopleWrongAt yX11_peopleWrongAt, Cond.code yX11_peopleWrongAt cX11_peopleWrongAt 3 (some .int), Cond.methodLink RX11 388 Lib.Math.min.name, Cond.static Lib.Math.min.name, Cond.initialized "java/lang/Math", Cond.code Lib.Math.min.name Lib.Math.min.code 2 (some .int), Cond.methodLink RX11 391 yX11_standsInLine, Cond.instanceMethod yX11_standsInLine]
def wsL_law0_r10 : List Cond := [Cond.selects RX11 yX11_standsInLine yX11_standsInLine, Cond.code yX11_standsInLine cX11_standsInLine 4 (some .boolean), Cond.fieldLink RX11 250 "NamesInMouths$Fen" "size" "I", Cond.methodLink RX11 204 yX8_at, Cond.instanceMethod yX8_at, Cond.selects RX8 yX8_at yX8_at, Cond.code yX8_at cX8_at 2 (some .int), Cond.methodLink RX11 394 yX8_isDigit, Cond.instanceMethod yX8_isDigit, Cond.selects RX8 yX8_isDigit yX8_isDigit, Cond.code yX8_isDigit cX8_isDigit 3 (some .boolean), Cond.methodLink RX8 17 yX8_at, Cond.methodLink RX11 107 yX11_takePeople, Cond.instanceMethod yX11_takePeople, Cond.selects RX11 yX11_takePeople yX11_takePeople, Cond.code yX11_takePeople cX11_takePeople 3 (some .int), Cond.methodLink RX11 397 yX8_digit, Cond.instanceMethod yX8_digit, Cond.selects RX8 yX8_digit yX8_digit, Cond.code yX8_digit cX8_digit 2 (some .int), Cond.methodLink RX8 21 yX8_isDigit, Cond.methodLink RX11 400 yX8_twoDigits, Cond.instanceMethod yX8_twoDigits, Cond.selects RX8 yX8_twoDigits yX8_twoDigits]
def wsL_law0_r11 : List Cond := [Cond.code yX8_twoDigits cX8_twoDigits 2 (some .int), Cond.methodLink RX8 25 yX8_digit, Cond.methodLink RX11 403 yX2_adds, Cond.instanceMethod yX2_adds, Cond.selects RX2 yX2_adds yX2_adds, Cond.code yX2_adds cX2_adds 4 none, Cond.fieldLink RX2 27 "NamesInMouths$Fen" "size" "I", Cond.methodLink RX11 110 yX3_forgetsAll, Cond.instanceMethod yX3_forgetsAll, Cond.selects RX3 yX3_forgetsAll yX3_forgetsAll, Cond.code yX3_forgetsAll cX3_forgetsAll 1 none, Cond.fieldLink RX3 23 "NamesInMouths$Past" "size" "I", Cond.fieldLink RX3 35 "NamesInMouths$Past" "shelved" "I", Cond.methodLink RL 40 yX12_people, Cond.instanceMethod yX12_people, Cond.selects RX12 yX12_people yX12_people, Cond.code yX12_people cX12_people 4 (some .int), Cond.fieldLink RX12 123 "NamesInMouthsModel" "length" "I", Cond.fieldLink RX12 110 "NamesInMouthsModel" "people" "I", Cond.fieldLink RX12 129 "NamesInMouthsModel" "at" "I", Cond.fieldLink RX12 132 "NamesInMouthsModel" "wrong" "I", Cond.fieldLink RX12 165 "NamesInMouthsModel" "undoMany" "I", Cond.fieldLink RX12 168 "NamesInMouthsModel" "came" "I", Cond.methodLink RX12 159 yX12_beginText]
def wsL_law0_r12 : List Cond := [Cond.instanceMethod yX12_beginText, Cond.selects RX12 yX12_beginText yX12_beginText, Cond.code yX12_beginText cX12_beginText 2 none, Cond.methodLink RX12 135 yX12_begin, Cond.instanceMethod yX12_begin, Cond.selects RX12 yX12_begin yX12_begin, Cond.code yX12_begin cX12_begin 4 none, Cond.fieldLink RX12 120 "NamesInMouthsModel" "read" "[B", Cond.fieldLink RX12 126 "NamesInMouthsModel" "top" "I", Cond.methodLink RX12 139 yX12_fine, Cond.instanceMethod yX12_fine, Cond.selects RX12 yX12_fine yX12_fine, Cond.code yX12_fine cX12_fine 1 (some .boolean), Cond.methodLink RX12 151 yX12_fault, Cond.instanceMethod yX12_fault, Cond.selects RX12 yX12_fault yX12_fault, Cond.code yX12_fault cX12_fault 2 none, Cond.methodLink RX12 155 yX12_oneOf, Cond.instanceMethod yX12_oneOf, Cond.selects RX12 yX12_oneOf yX12_oneOf, Cond.code yX12_oneOf cX12_oneOf 3 (some .int), Cond.methodLink RX12 143 yX12_here, Cond.instanceMethod yX12_here, Cond.selects RX12 yX12_here yX12_here]
def wsL_law0_r13 : List Cond := [Cond.code yX12_here cX12_here 1 (some .int), Cond.methodLink RX12 147 yX12_passes, Cond.instanceMethod yX12_passes, Cond.selects RX12 yX12_passes yX12_passes, Cond.code yX12_passes cX12_passes 2 (some .boolean), Cond.methodLink RX12 162 yX12_wasRight, Cond.instanceMethod yX12_wasRight, Cond.selects RX12 yX12_wasRight yX12_wasRight, Cond.code yX12_wasRight cX12_wasRight 1 (some .boolean), Cond.methodLink RL 41 yX11_rule, Cond.instanceMethod yX11_rule, Cond.selects RX11 yX11_rule yX11_rule, Cond.code yX11_rule cX11_rule 3 (some .int), Cond.methodLink RX11 113 yX6_reads, Cond.instanceMethod yX6_reads, Cond.selects RX6 yX6_reads yX6_reads, Cond.code yX6_reads cX6_reads 4 (some .int), Cond.fieldLink RX6 9 "NamesInMouths$Text" "length" "I", Cond.fieldLink RX6 20 "NamesInMouths$RuleReader" "text" "LNamesInMouths$Text;", Cond.fieldLink RX6 26 "NamesInMouths$RuleReader" "rule" "LNamesInMouths$Rule;", Cond.fieldLink RX6 30 "NamesInMouths$RuleReader" "at" "I", Cond.fieldLink RX6 33 "NamesInMouths$Rule" "size" "I", Cond.methodLink RX6 15 yX5_becomesNone, Cond.methodLink RX6 36 yX6_readsComparison]
def wsL_law0_r14 : List Cond := [Cond.instanceMethod yX6_readsComparison, Cond.selects RX6 yX6_readsComparison yX6_readsComparison, Cond.code yX6_readsComparison cX6_readsComparison 3 (some .boolean), Cond.methodLink RX6 43 yX6_readsSum, Cond.instanceMethod yX6_readsSum, Cond.selects RX6 yX6_readsSum yX6_readsSum, Cond.methodLink RX6 46 yX6_next, Cond.instanceMethod yX6_next, Cond.selects RX6 yX6_next yX6_next, Cond.code yX6_next cX6_next 1 (some .int), Cond.methodLink RX6 40 yX8_at, Cond.methodLink RX6 50 yX5_puts, Cond.code yX6_readsBracket cX6_readsBracket 2 (some .boolean), Cond.code yX6_readsProduct cX6_readsProduct 5 (some .boolean), Cond.methodLink RX6 57 yX6_readsSigned, Cond.instanceMethod yX6_readsSigned, Cond.selects RX6 yX6_readsSigned yX6_readsSigned, Cond.code yX6_readsSigned cX6_readsSigned 4 (some .boolean), Cond.methodLink RX6 60 yX6_readsThing, Cond.instanceMethod yX6_readsThing, Cond.selects RX6 yX6_readsThing yX6_readsThing, Cond.code yX6_readsSum cX6_readsSum 5 (some .boolean), Cond.methodLink RX6 54 yX6_readsProduct, Cond.instanceMethod yX6_readsProduct]
def wsL_law0_r15 : List Cond := [Cond.selects RX6 yX6_readsProduct yX6_readsProduct, Cond.code yX6_readsThing cX6_readsThing 3 (some .boolean), Cond.methodLink RX6 63 yX6_readsBracket, Cond.instanceMethod yX6_readsBracket, Cond.selects RX6 yX6_readsBracket yX6_readsBracket, Cond.methodLink RX6 66 yX6_readsNumber, Cond.instanceMethod yX6_readsNumber, Cond.selects RX6 yX6_readsNumber yX6_readsNumber, Cond.code yX6_readsNumber cX6_readsNumber 4 (some .boolean), Cond.methodLink RL 44 yX12_rule, Cond.instanceMethod yX12_rule, Cond.selects RX12 yX12_rule yX12_rule, Cond.code yX12_rule cX12_rule 3 (some .int), Cond.fieldLink RX12 201 "NamesInMouthsModel" "ruleSize" "I", Cond.methodLink RX12 198 yX12_readRule, Cond.instanceMethod yX12_readRule, Cond.selects RX12 yX12_readRule yX12_readRule, Cond.code yX12_readRule cX12_readRule 1 (some .boolean), Cond.fieldLink RX12 194 "NamesInMouthsModel" "isAsked" "Z", Cond.methodLink RX12 181 yX12_held, Cond.instanceMethod yX12_held, Cond.selects RX12 yX12_held yX12_held, Cond.code yX12_held cX12_held 3 (some .int), Cond.methodLink RX12 171 yX12_sum]
def wsL_law0_r16 : List Cond := [Cond.instanceMethod yX12_sum, Cond.selects RX12 yX12_sum yX12_sum, Cond.code yX12_product cX12_product 5 (some .int), Cond.methodLink RX12 178 yX12_thing, Cond.instanceMethod yX12_thing, Cond.selects RX12 yX12_thing yX12_thing, Cond.code yX12_sum cX12_sum 5 (some .int), Cond.methodLink RX12 175 yX12_product, Cond.instanceMethod yX12_product, Cond.selects RX12 yX12_product yX12_product, Cond.code yX12_thing cX12_thing 4 (some .int), Cond.methodLink RX12 184 yX12_need, Cond.instanceMethod yX12_need, Cond.selects RX12 yX12_need yX12_need, Cond.code yX12_need cX12_need 2 none, Cond.methodLink RX12 188 yX12_number, Cond.instanceMethod yX12_number, Cond.selects RX12 yX12_number yX12_number, Cond.code yX12_number cX12_number 4 (some .int), Cond.methodLink RX12 191 yX12_letterOf, Cond.static yX12_letterOf, Cond.code yX12_letterOf cX12_letterOf 1 (some .int), Cond.methodLink RL 45 yL_one, Cond.static yL_one]
def wsL_law0_r17 : List Cond := [Cond.initialized RL, Cond.codeWith yL_one cL_one 5 (some .int) [(0, 10, 13, 13)], Cond.classLink RL 13 "java/util/NoSuchElementException", Cond.methodLink RL 7 yX11_one, Cond.instanceMethod yX11_one, Cond.selects RX11 yX11_one yX11_one, Cond.code yX11_one cX11_one 3 (some .int), Cond.classLink RX11 120 "java/util/NoSuchElementException", Cond.initialized "java/util/NoSuchElementException", Cond.fieldLink RX11 123 "NamesInMouths$Fen" "place" "[I", Cond.fieldLink RX11 127 "NamesInMouths$Fen" "voice" "[I", Cond.fieldLink RX11 130 "NamesInMouths$Fen" "purse" "[I", Cond.methodLink RX11 117 yX2_has, Cond.instanceMethod yX2_has, Cond.selects RX2 yX2_has yX2_has, Cond.code yX2_has cX2_has 2 (some .boolean), Cond.methodLink RX11 133 yX2_held, Cond.instanceMethod yX2_held, Cond.selects RX2 yX2_held yX2_held, Cond.code yX2_held cX2_held 4 (some .int), Cond.methodLink RX11 137 yX2_sayable, Cond.instanceMethod yX2_sayable, Cond.selects RX2 yX2_sayable yX2_sayable, Cond.code yX2_sayable cX2_sayable 5 (some .int)]
def wsL_law0_r18 : List Cond := [Cond.methodLink RX2 55 yX2_can, Cond.instanceMethod yX2_can, Cond.selects RX2 yX2_can yX2_can, Cond.code yX2_can cX2_can 4 (some .boolean), Cond.methodLink RX2 49 yX5_worth, Cond.instanceMethod yX5_worth, Cond.selects RX5 yX5_worth yX5_worth, Cond.code yX5_worth cX5_worth 7 (some .int), Cond.methodLink RX5 29 yX5_thing, Cond.static yX5_thing, Cond.code yX5_thing cX5_thing 5 (some .int), Cond.fieldLink RX5 37 "NamesInMouths$Fen" "holder" "[I", Cond.fieldLink RX5 42 "NamesInMouths$Fen" "voice" "[I", Cond.fieldLink RX5 45 "NamesInMouths$Fen" "place" "[I", Cond.methodLink RX5 48 Lib.Math.abs.name, Cond.static Lib.Math.abs.name, Cond.code Lib.Math.abs.name Lib.Math.abs.code 1 (some .int), Cond.fieldLink RX5 62 "NamesInMouths$Fen" "age" "[I", Cond.fieldLink RX5 65 "NamesInMouths$Fen" "day" "I", Cond.methodLink RX5 54 yX2_held, Cond.methodLink RX5 57 yJ6_bitCount_0f7a4, Cond.static yJ6_bitCount_0f7a4, Cond.initialized RJ6, Cond.code yJ6_bitCount_0f7a4 cJ6_bitCount_0f7a4 1 (some .int)]
def wsL_law0_r19 : List Cond := [Cond.constant RJ6 265 (1431655765), Cond.constant RJ6 266 (858993459), Cond.constant RJ6 267 (252645135), Cond.methodLink RX5 33 yX5_joined, Cond.static yX5_joined, Cond.code yX5_joined cX5_joined 3 (some .int), Cond.methodLink RL 50 yX12_one, Cond.instanceMethod yX12_one, Cond.selects RX12 yX12_one yX12_one, Cond.code yX12_one cX12_one 3 (some .int), Cond.methodLink RX12 226 yX12_isOne, Cond.instanceMethod yX12_isOne, Cond.selects RX12 yX12_isOne yX12_isOne, Cond.code yX12_isOne cX12_isOne 2 (some .boolean), Cond.methodLink RX12 230 yX12_lost, Cond.instanceMethod yX12_lost, Cond.selects RX12 yX12_lost yX12_lost, Cond.code yX12_lost cX12_lost 1 (some .int), Cond.methodLink RX12 213 yX12_heldBy, Cond.instanceMethod yX12_heldBy, Cond.selects RX12 yX12_heldBy yX12_heldBy, Cond.code yX12_heldBy cX12_heldBy 5 (some .int), Cond.methodLink RX12 233 yX12_sayable, Cond.instanceMethod yX12_sayable]
def wsL_law0_r20 : List Cond := [Cond.selects RX12 yX12_sayable yX12_sayable, Cond.code yX12_sayable cX12_sayable 5 (some .int), Cond.methodLink RX12 222 yX12_canSay, Cond.instanceMethod yX12_canSay, Cond.selects RX12 yX12_canSay yX12_canSay, Cond.code yX12_canSay cX12_canSay 6 (some .boolean), Cond.methodLink RX12 209 yX12_farOf, Cond.static yX12_farOf, Cond.code yX12_farOf cX12_farOf 3 (some .int), Cond.methodLink RX12 204 Lib.Math.abs.name, Cond.methodLink RX12 217 yJ6_bitCount_0f7a4, Cond.methodLink RL 51 yX12_thrown, Cond.instanceMethod yX12_thrown, Cond.selects RX12 yX12_thrown yX12_thrown, Cond.code yX12_thrown cX12_thrown 1 (some .int), Cond.methodLink RL 54 yL_name, Cond.static yL_name, Cond.codeWith yL_name cL_name 5 (some .int) [(0, 10, 13, 13)], Cond.methodLink RL 15 yX11_name, Cond.instanceMethod yX11_name, Cond.selects RX11 yX11_name yX11_name, Cond.code yX11_name cX11_name 3 (some .int), Cond.fieldLink RX11 141 "NamesInMouths$Fen" "holder" "[I", Cond.fieldLink RX11 144 "NamesInMouths$Fen" "age" "[I"]
def wsL_law0_r21 : List Cond := [Cond.methodLink RX11 147 yX2_sayers, Cond.instanceMethod yX2_sayers, Cond.selects RX2 yX2_sayers yX2_sayers, Cond.code yX2_sayers cX2_sayers 5 (some .int), Cond.methodLink RX11 150 yX2_far, Cond.instanceMethod yX2_far, Cond.selects RX2 yX2_far yX2_far, Cond.code yX2_far cX2_far 3 (some .int), Cond.methodLink RX2 43 Lib.Math.abs.name, Cond.methodLink RL 56 yX12_name, Cond.instanceMethod yX12_name, Cond.selects RX12 yX12_name yX12_name, Cond.code yX12_name cX12_name 3 (some .int), Cond.methodLink RX12 236 yX12_sayers, Cond.instanceMethod yX12_sayers, Cond.selects RX12 yX12_sayers yX12_sayers, Cond.code yX12_sayers cX12_sayers 4 (some .int), Cond.methodLink RL 57 yX11_sheet, Cond.instanceMethod yX11_sheet, Cond.selects RX11 yX11_sheet yX11_sheet, Cond.code yX11_sheet cX11_sheet 5 (some .int), Cond.methodLink RX11 154 yX11_fillPurses, Cond.instanceMethod yX11_fillPurses, Cond.selects RX11 yX11_fillPurses yX11_fillPurses]
def wsL_law0_r22 : List Cond := [Cond.code yX11_fillPurses cX11_fillPurses 7 none, Cond.methodLink RX11 327 Lib.Math.max.name, Cond.static Lib.Math.max.name, Cond.code Lib.Math.max.name Lib.Math.max.code 2 (some .int), Cond.methodLink RX11 158 yX2_purses, Cond.instanceMethod yX2_purses, Cond.selects RX2 yX2_purses yX2_purses, Cond.code yX2_purses cX2_purses 1 (some .int), Cond.methodLink RX2 68 yX2_sum, Cond.instanceMethod yX2_sum, Cond.selects RX2 yX2_sum yX2_sum, Cond.code yX2_sum cX2_sum 4 (some .int), Cond.methodLink RL 61 yX12_sheet, Cond.instanceMethod yX12_sheet, Cond.selects RX12 yX12_sheet yX12_sheet, Cond.code yX12_sheet cX12_sheet 8 (some .int), Cond.methodLink RX12 239 Lib.Math.min.name, Cond.methodLink RX12 243 Lib.Math.max.name, Cond.methodLink RX12 246 yX12_sumOf, Cond.instanceMethod yX12_sumOf, Cond.selects RX12 yX12_sumOf yX12_sumOf, Cond.code yX12_sumOf cX12_sumOf 5 (some .int), Cond.methodLink RL 62 yX11_says, Cond.instanceMethod yX11_says]
def wsL_law0_r23 : List Cond := [Cond.selects RX11 yX11_says yX11_says, Cond.code yX11_says cX11_says 3 (some .int), Cond.methodLink RX11 161 yX3_marks, Cond.instanceMethod yX3_marks, Cond.selects RX3 yX3_marks yX3_marks, Cond.code yX3_marks cX3_marks 2 none, Cond.fieldLink RX3 15 "NamesInMouths$Past" "free" "I", Cond.methodLink RX3 19 yX2_writes, Cond.instanceMethod yX2_writes, Cond.selects RX2 yX2_writes yX2_writes, Cond.code yX2_writes cX2_writes 3 none, Cond.methodLink RX2 31 arraycopyName, Cond.native arraycopyName, Cond.static arraycopyName, Cond.initialized "java/lang/System", Cond.fieldLink RX2 37 "NamesInMouths$Fen" "day" "I", Cond.fieldLink RX2 40 "NamesInMouths$Fen" "said" "I", Cond.methodLink RX11 165 yX2_saidBy, Cond.instanceMethod yX2_saidBy, Cond.selects RX2 yX2_saidBy yX2_saidBy, Cond.code yX2_saidBy cX2_saidBy 5 (some .int), Cond.methodLink RX2 76 yX2_has, Cond.methodLink RX2 80 yX2_say, Cond.instanceMethod yX2_say]
def wsL_law0_r24 : List Cond := [Cond.selects RX2 yX2_say yX2_say, Cond.code yX2_say cX2_say 3 none, Cond.methodLink RX2 72 Lib.Math.min.name, Cond.methodLink RX11 169 yX11_keepDone, Cond.instanceMethod yX11_keepDone, Cond.selects RX11 yX11_keepDone yX11_keepDone, Cond.code yX11_keepDone cX11_keepDone 2 (some .int), Cond.methodLink RX11 188 yX3_keepMarked, Cond.instanceMethod yX3_keepMarked, Cond.selects RX3 yX3_keepMarked yX3_keepMarked, Cond.code yX3_keepMarked cX3_keepMarked 1 none, Cond.methodLink RX3 26 Lib.Math.min.name, Cond.methodLink RL 65 yX12_says, Cond.instanceMethod yX12_says, Cond.selects RX12 yX12_says yX12_says, Cond.code yX12_says cX12_says 5 (some .int), Cond.methodLink RX12 253 yX12_refusesSaying, Cond.instanceMethod yX12_refusesSaying, Cond.selects RX12 yX12_refusesSaying yX12_refusesSaying, Cond.code yX12_refusesSaying cX12_refusesSaying 4 (some .int), Cond.methodLink RX12 256 yX12_remember, Cond.instanceMethod yX12_remember, Cond.selects RX12 yX12_remember yX12_remember, Cond.code yX12_remember cX12_remember 3 none]
def wsL_law0_r25 : List Cond := [Cond.methodLink RX12 249 yX12_lay, Cond.static yX12_lay, Cond.code yX12_lay cX12_lay 4 none, Cond.methodLink RX12 260 yX12_goSaying, Cond.static yX12_goSaying, Cond.code yX12_goSaying cX12_goSaying 3 none, Cond.methodLink RL 66 yX11_signs, Cond.instanceMethod yX11_signs, Cond.selects RX11 yX11_signs yX11_signs, Cond.code yX11_signs cX11_signs 3 (some .int), Cond.methodLink RX11 172 yX2_signedFor, Cond.instanceMethod yX2_signedFor, Cond.selects RX2 yX2_signedFor yX2_signedFor, Cond.code yX2_signedFor cX2_signedFor 4 (some .int), Cond.methodLink RL 69 yX12_signs, Cond.instanceMethod yX12_signs, Cond.selects RX12 yX12_signs yX12_signs, Cond.code yX12_signs cX12_signs 4 (some .int), Cond.methodLink RX12 264 yX12_refusesDeed, Cond.instanceMethod yX12_refusesDeed, Cond.selects RX12 yX12_refusesDeed yX12_refusesDeed, Cond.code yX12_refusesDeed cX12_refusesDeed 4 (some .int), Cond.methodLink RX12 267 yX12_goDeed, Cond.instanceMethod yX12_goDeed]
def wsL_law0_r26 : List Cond := [Cond.selects RX12 yX12_goDeed yX12_goDeed, Cond.code yX12_goDeed cX12_goDeed 4 (some .int), Cond.methodLink RL 70 yX11_moves, Cond.instanceMethod yX11_moves, Cond.selects RX11 yX11_moves yX11_moves, Cond.code yX11_moves cX11_moves 3 (some .int), Cond.methodLink RX11 175 yX2_movedTo, Cond.instanceMethod yX2_movedTo, Cond.selects RX2 yX2_movedTo yX2_movedTo, Cond.code yX2_movedTo cX2_movedTo 4 (some .int), Cond.methodLink RL 73 yX12_moves, Cond.instanceMethod yX12_moves, Cond.selects RX12 yX12_moves yX12_moves, Cond.code yX12_moves cX12_moves 5 (some .int), Cond.methodLink RX12 270 yX12_refusesMove, Cond.instanceMethod yX12_refusesMove, Cond.selects RX12 yX12_refusesMove yX12_refusesMove, Cond.code yX12_refusesMove cX12_refusesMove 4 (some .int), Cond.methodLink RL 74 yX11_calls, Cond.instanceMethod yX11_calls, Cond.selects RX11 yX11_calls yX11_calls, Cond.code yX11_calls cX11_calls 2 (some .int), Cond.methodLink RX11 178 yX2_rollCalled, Cond.instanceMethod yX2_rollCalled]
def wsL_law0_r27 : List Cond := [Cond.selects RX2 yX2_rollCalled yX2_rollCalled, Cond.code yX2_rollCalled cX2_rollCalled 5 (some .int), Cond.methodLink RL 77 yX12_calls, Cond.instanceMethod yX12_calls, Cond.selects RX12 yX12_calls yX12_calls, Cond.code yX12_calls cX12_calls 3 (some .int), Cond.methodLink RX12 276 yX12_refusesRoll, Cond.instanceMethod yX12_refusesRoll, Cond.selects RX12 yX12_refusesRoll yX12_refusesRoll, Cond.code yX12_refusesRoll cX12_refusesRoll 2 (some .int), Cond.methodLink RX12 273 yX12_goRoll, Cond.instanceMethod yX12_goRoll, Cond.selects RX12 yX12_goRoll yX12_goRoll, Cond.code yX12_goRoll cX12_goRoll 5 (some .int), Cond.methodLink RL 78 yX11_days, Cond.instanceMethod yX11_days, Cond.selects RX11 yX11_days yX11_days, Cond.code yX11_days cX11_days 3 (some .int), Cond.fieldLink RX11 181 "NamesInMouths$Fen" "said" "I", Cond.methodLink RX11 184 yX2_passDays, Cond.instanceMethod yX2_passDays, Cond.selects RX2 yX2_passDays yX2_passDays, Cond.code yX2_passDays cX2_passDays 5 none, Cond.methodLink RX2 84 yX2_passDay]
def wsL_law0_r28 : List Cond := [Cond.instanceMethod yX2_passDay, Cond.selects RX2 yX2_passDay yX2_passDay, Cond.code yX2_passDay cX2_passDay 5 none, Cond.methodLink RX11 191 yX9_tells_, Cond.instanceMethod yX9_tells_, Cond.selects RX9 yX9_tells_ yX9_tells_, Cond.code yX9_tells_ cX9_tells_ 5 none, Cond.fieldLink RX9 15 "NamesInMouths$Told" "size" "I", Cond.methodLink RX9 19 yX9_adds, Cond.instanceMethod yX9_adds, Cond.selects RX9 yX9_adds yX9_adds, Cond.code yX9_adds cX9_adds 3 none, Cond.methodLink RX11 195 yX2_homes, Cond.instanceMethod yX2_homes, Cond.selects RX2 yX2_homes yX2_homes, Cond.code yX2_homes cX2_homes 3 (some .int), Cond.methodLink RL 81 yX12_days, Cond.instanceMethod yX12_days, Cond.selects RX12 yX12_days yX12_days, Cond.code yX12_days cX12_days 3 (some .int), Cond.fieldLink RX12 107 "NamesInMouthsModel" "rowMany" "I", Cond.methodLink RX12 283 yX12_goDays, Cond.instanceMethod yX12_goDays, Cond.selects RX12 yX12_goDays yX12_goDays]
def wsL_law0_r29 : List Cond := [Cond.code yX12_goDays cX12_goDays 5 none, Cond.methodLink RX12 279 yX12_goDay, Cond.instanceMethod yX12_goDay, Cond.selects RX12 yX12_goDay yX12_goDay, Cond.code yX12_goDay cX12_goDay 5 none, Cond.methodLink RX12 286 yX12_tell, Cond.instanceMethod yX12_tell, Cond.selects RX12 yX12_tell yX12_tell, Cond.code yX12_tell cX12_tell 3 none, Cond.methodLink RX12 290 yX12_atHome, Cond.instanceMethod yX12_atHome, Cond.selects RX12 yX12_atHome yX12_atHome, Cond.code yX12_atHome cX12_atHome 4 (some .int), Cond.methodLink RL 82 yX11_week, Cond.instanceMethod yX11_week, Cond.selects RX11 yX11_week yX11_week, Cond.code yX11_week cX11_week 5 (some .int), Cond.methodLink RX11 198 yX11_weekWrongAt, Cond.instanceMethod yX11_weekWrongAt, Cond.selects RX11 yX11_weekWrongAt yX11_weekWrongAt, Cond.code yX11_weekWrongAt cX11_weekWrongAt 4 (some .int), Cond.methodLink RX11 207 yX11_actDigits, Cond.static yX11_actDigits, Cond.code yX11_actDigits cX11_actDigits 1 (some .int)]
def wsL_law0_r30 : List Cond := [Cond.methodLink RX11 201 yX11_act, Cond.instanceMethod yX11_act, Cond.selects RX11 yX11_act yX11_act, Cond.code yX11_act cX11_act 3 (some .int), Cond.methodLink RL 85 yX12_week, Cond.instanceMethod yX12_week, Cond.selects RX12 yX12_week yX12_week, Cond.code yX12_week cX12_week 3 (some .int), Cond.methodLink RX12 294 yX12_readAct, Cond.instanceMethod yX12_readAct, Cond.selects RX12 yX12_readAct yX12_readAct, Cond.code yX12_readAct cX12_readAct 3 none, Cond.methodLink RX12 297 yX12_act, Cond.instanceMethod yX12_act, Cond.selects RX12 yX12_act yX12_act, Cond.code yX12_act cX12_act 4 (some .boolean), Cond.methodLink RL 86 yX11_undo, Cond.instanceMethod yX11_undo, Cond.selects RX11 yX11_undo yX11_undo, Cond.code yX11_undo cX11_undo 1 (some .int), Cond.fieldLink RX11 214 "NamesInMouths$Past" "size" "I", Cond.methodLink RX11 210 yX3_bringsBack, Cond.instanceMethod yX3_bringsBack, Cond.selects RX3 yX3_bringsBack yX3_bringsBack]
def wsL_law0_r31 : List Cond := [Cond.code yX3_bringsBack cX3_bringsBack 2 (some .boolean), Cond.methodLink RX3 32 yX2_readsBack, Cond.instanceMethod yX2_readsBack, Cond.selects RX2 yX2_readsBack yX2_readsBack, Cond.code yX2_readsBack cX2_readsBack 3 none, Cond.methodLink RL 89 yX12_undo, Cond.instanceMethod yX12_undo, Cond.selects RX12 yX12_undo yX12_undo, Cond.code yX12_undo cX12_undo 2 (some .int), Cond.methodLink RL 90 yX11_brings, Cond.instanceMethod yX11_brings, Cond.selects RX11 yX11_brings yX11_brings, Cond.code yX11_brings cX11_brings 5 (some .int), Cond.methodLink RX11 217 yX2_takes, Cond.instanceMethod yX2_takes, Cond.selects RX2 yX2_takes yX2_takes, Cond.code yX2_takes cX2_takes 2 none, Cond.methodLink RX11 220 yX10_toHold, Cond.instanceMethod yX10_toHold, Cond.selects RX10 yX10_toHold yX10_toHold, Cond.code yX10_toHold cX10_toHold 9 (some .int), Cond.fieldLink RX10 34 "NamesInMouths$Fen" "holder" "[I", Cond.fieldLink RX10 39 "NamesInMouths$Ways" "met" "I", Cond.fieldLink RX10 43 "NamesInMouths$Ways" "queued" "I"]
def wsL_law0_r32 : List Cond := [Cond.fieldLink RX10 54 "NamesInMouths$Fen" "age" "[I", Cond.methodLink RX10 46 yX2_sayers, Cond.methodLink RX10 50 yX10_meets, Cond.instanceMethod yX10_meets, Cond.selects RX10 yX10_meets yX10_meets, Cond.code yX10_meets cX10_meets 4 none, Cond.methodLink RX10 57 yX10_traces, Cond.instanceMethod yX10_traces, Cond.selects RX10 yX10_traces yX10_traces, Cond.code yX10_traces cX10_traces 5 (some .int), Cond.methodLink RX11 224 yX9_clears, Cond.instanceMethod yX9_clears, Cond.selects RX9 yX9_clears yX9_clears, Cond.code yX9_clears cX9_clears 1 none, Cond.methodLink RX11 227 yX10_sayer, Cond.instanceMethod yX10_sayer, Cond.selects RX10 yX10_sayer yX10_sayer, Cond.code yX10_sayer cX10_sayer 2 (some .int), Cond.methodLink RX11 230 yX9_adds, Cond.methodLink RL 93 yX12_brings, Cond.instanceMethod yX12_brings, Cond.selects RX12 yX12_brings yX12_brings, Cond.code yX12_brings cX12_brings 5 (some .int), Cond.methodLink RX12 300 yX12_canBring]
def wsL_law0_r33 : List Cond := [Cond.instanceMethod yX12_canBring, Cond.selects RX12 yX12_canBring yX12_canBring, Cond.code yX12_canBring cX12_canBring 7 (some .boolean), Cond.methodLink RL 94 yX11_later, Cond.instanceMethod yX11_later, Cond.selects RX11 yX11_later yX11_later, Cond.code yX11_later cX11_later 3 (some .int), Cond.methodLink RL 97 yX12_later, Cond.instanceMethod yX12_later, Cond.selects RX12 yX12_later yX12_later, Cond.code yX12_later cX12_later 3 (some .int), Cond.methodLink RL 98 yX11_home, Cond.instanceMethod yX11_home, Cond.selects RX11 yX11_home yX11_home, Cond.code yX11_home cX11_home 3 (some .int), Cond.methodLink RX11 233 yX11_daysUntilHome, Cond.instanceMethod yX11_daysUntilHome, Cond.selects RX11 yX11_daysUntilHome yX11_daysUntilHome, Cond.code yX11_daysUntilHome cX11_daysUntilHome 3 (some .int), Cond.methodLink RX11 243 yX2_passDay, Cond.methodLink RX11 236 yJ6_bitCount_0f7a4, Cond.methodLink RX11 241 yX9_tells, Cond.instanceMethod yX9_tells, Cond.selects RX9 yX9_tells yX9_tells]
def wsL_law0_r34 : List Cond := [Cond.code yX9_tells cX9_tells 3 none, Cond.methodLink RL 101 yX12_home, Cond.instanceMethod yX12_home, Cond.selects RX12 yX12_home yX12_home, Cond.code yX12_home cX12_home 3 (some .int), Cond.methodLink RL 102 yX11_poor, Cond.instanceMethod yX11_poor, Cond.selects RX11 yX11_poor yX11_poor, Cond.code yX11_poor cX11_poor 3 (some .int), Cond.methodLink RL 105 yX12_poor, Cond.instanceMethod yX12_poor, Cond.selects RX12 yX12_poor yX12_poor, Cond.code yX12_poor cX12_poor 3 (some .int), Cond.methodLink RL 106 yX11_leads, Cond.instanceMethod yX11_leads, Cond.selects RX11 yX11_leads yX11_leads, Cond.code yX11_leads cX11_leads 6 (some .int), Cond.methodLink RX11 247 yX2_ring, Cond.instanceMethod yX2_ring, Cond.selects RX2 yX2_ring yX2_ring, Cond.code yX2_ring cX2_ring 5 (some .int), Cond.methodLink RL 109 yX12_leads, Cond.instanceMethod yX12_leads, Cond.selects RX12 yX12_leads yX12_leads]
def wsL_law0_r35 : List Cond := [Cond.code yX12_leads cX12_leads 3 (some .int), Cond.methodLink RX12 307 yX12_goLead, Cond.instanceMethod yX12_goLead, Cond.selects RX12 yX12_goLead yX12_goLead, Cond.code yX12_goLead cX12_goLead 4 (some .int), Cond.methodLink RL 110 yX11_rings, Cond.instanceMethod yX11_rings, Cond.selects RX11 yX11_rings yX11_rings, Cond.code yX11_rings cX11_rings 6 (some .int), Cond.methodLink RX11 251 yJ6_numberOfTrailingZeros_0f7a4, Cond.static yJ6_numberOfTrailingZeros_0f7a4, Cond.code yJ6_numberOfTrailingZeros_0f7a4 cJ6_numberOfTrailingZeros_0f7a4 2 (some .int), Cond.constant RJ6 264 (65536), Cond.methodLink RL 113 yX12_rings, Cond.instanceMethod yX12_rings, Cond.selects RX12 yX12_rings yX12_rings, Cond.code yX12_rings cX12_rings 6 (some .int), Cond.methodLink RX12 314 yX12_ringOf, Cond.instanceMethod yX12_ringOf, Cond.selects RX12 yX12_ringOf yX12_ringOf, Cond.code yX12_ringOf cX12_ringOf 4 (some .int), Cond.methodLink RX12 310 yX12_has, Cond.static yX12_has, Cond.code yX12_has cX12_has 2 (some .boolean)]
def wsL_law0_r36 : List Cond := [Cond.methodLink RX12 317 yJ6_numberOfTrailingZeros_0f7a4, Cond.methodLink RL 114 yX11_robs, Cond.instanceMethod yX11_robs, Cond.selects RX11 yX11_robs yX11_robs, Cond.code yX11_robs cX11_robs 5 (some .int), Cond.methodLink RL 117 yX12_robs, Cond.instanceMethod yX12_robs, Cond.selects RX12 yX12_robs yX12_robs, Cond.code yX12_robs cX12_robs 5 (some .int), Cond.methodLink RL 118 yX11_order, Cond.instanceMethod yX11_order, Cond.selects RX11 yX11_order yX11_order, Cond.code yX11_order cX11_order 3 (some .int), Cond.fieldLink RX11 258 "NamesInMouths$Ways" "turns" "I", Cond.fieldLink RX11 261 "NamesInMouths$Ways" "best" "[I", Cond.methodLink RX11 254 yX10_sayBack, Cond.instanceMethod yX10_sayBack, Cond.selects RX10 yX10_sayBack yX10_sayBack, Cond.code yX10_sayBack cX10_sayBack 4 (some .int), Cond.fieldLink RX10 61 "NamesInMouths$Ways" "fen" "LNamesInMouths$Fen;", Cond.fieldLink RX10 65 "NamesInMouths$Ways" "rule" "LNamesInMouths$Rule;", Cond.fieldLink RX10 69 "NamesInMouths$Ways" "turns" "I", Cond.fieldLink RX10 72 "NamesInMouths$Fen" "size" "I", Cond.fieldLink RX10 85 "NamesInMouths$Ways" "homesAtFirst" "I"]
def wsL_law0_r37 : List Cond := [Cond.fieldLink RX10 88 "NamesInMouths$Ways" "most" "I", Cond.methodLink RX10 75 yX2_homes, Cond.methodLink RX10 79 yJ6_bitCount_0f7a4, Cond.methodLink RX10 91 yX10_takesTurn, Cond.instanceMethod yX10_takesTurn, Cond.selects RX10 yX10_takesTurn yX10_takesTurn, Cond.code yX10_takesTurn cX10_takesTurn 7 none, Cond.methodLink RX10 95 arraycopyName, Cond.methodLink RX10 101 yX10_saysOwn, Cond.instanceMethod yX10_saysOwn, Cond.selects RX10 yX10_saysOwn yX10_saysOwn, Cond.code yX10_saysOwn cX10_saysOwn 8 none, Cond.methodLink RX10 105 yX2_can, Cond.methodLink RL 121 yX12_order, Cond.instanceMethod yX12_order, Cond.selects RX12 yX12_order yX12_order, Cond.code yX12_order cX12_order 3 (some .int), Cond.fieldLink RX12 320 "NamesInMouthsModel" "mostHome" "I", Cond.methodLink RX12 323 yX12_goOrder, Cond.instanceMethod yX12_goOrder, Cond.selects RX12 yX12_goOrder yX12_goOrder, Cond.code yX12_goOrder cX12_goOrder 6 none, Cond.methodLink RL 122 yX11_silences, Cond.instanceMethod yX11_silences]
def wsL_law0_r38 : List Cond := [Cond.selects RX11 yX11_silences yX11_silences, Cond.code yX11_silences cX11_silences 6 (some .int), Cond.methodLink RX11 264 yX11_homesAfter, Cond.instanceMethod yX11_homesAfter, Cond.selects RX11 yX11_homesAfter yX11_homesAfter, Cond.code yX11_homesAfter cX11_homesAfter 3 (some .int), Cond.methodLink RL 125 yX12_silences, Cond.instanceMethod yX12_silences, Cond.selects RX12 yX12_silences yX12_silences, Cond.code yX12_silences cX12_silences 6 (some .int), Cond.methodLink RX12 327 yX12_homeIn, Cond.instanceMethod yX12_homeIn, Cond.selects RX12 yX12_homeIn yX12_homeIn, Cond.code yX12_homeIn cX12_homeIn 3 (some .int), Cond.methodLink RL 126 yX11_goes, Cond.instanceMethod yX11_goes, Cond.selects RX11 yX11_goes yX11_goes, Cond.code yX11_goes cX11_goes 7 (some .int), Cond.methodLink RX11 267 Lib.Math.abs.name, Cond.methodLink RL 129 yX12_goes, Cond.instanceMethod yX12_goes, Cond.selects RX12 yX12_goes yX12_goes, Cond.code yX12_goes cX12_goes 6 (some .int), Cond.methodLink RL 130 yX11_peace]
def wsL_law0_r39 : List Cond := [Cond.instanceMethod yX11_peace, Cond.selects RX11 yX11_peace yX11_peace, Cond.code yX11_peace cX11_peace 2 (some .int), Cond.methodLink RL 133 yX12_peace, Cond.instanceMethod yX12_peace, Cond.selects RX12 yX12_peace yX12_peace, Cond.code yX12_peace cX12_peace 2 (some .int), Cond.methodLink RX12 304 yX12_all, Cond.instanceMethod yX12_all, Cond.selects RX12 yX12_all yX12_all, Cond.code yX12_all cX12_all 1 (some .int), Cond.methodLink RL 134 yX11_wed, Cond.instanceMethod yX11_wed, Cond.selects RX11 yX11_wed yX11_wed, Cond.code yX11_wed cX11_wed 4 (some .int), Cond.methodLink RL 137 yX12_wed, Cond.instanceMethod yX12_wed, Cond.selects RX12 yX12_wed yX12_wed, Cond.code yX12_wed cX12_wed 4 (some .int), Cond.methodLink RL 138 yX11_loud, Cond.instanceMethod yX11_loud, Cond.selects RX11 yX11_loud yX11_loud, Cond.code yX11_loud cX11_loud 6 (some .int), Cond.methodLink RL 141 yX12_loud]
def wsL_law0_r40 : List Cond := [Cond.instanceMethod yX12_loud, Cond.selects RX12 yX12_loud yX12_loud, Cond.code yX12_loud cX12_loud 5 (some .int), Cond.methodLink RL 142 yX11_mouths, Cond.instanceMethod yX11_mouths, Cond.selects RX11 yX11_mouths yX11_mouths, Cond.code yX11_mouths cX11_mouths 3 (some .int), Cond.fieldLink RX11 276 "NamesInMouths$Dyke" "row" "[I", Cond.methodLink RX11 272 yX0_sharesMouths, Cond.instanceMethod yX0_sharesMouths, Cond.selects RX0 yX0_sharesMouths yX0_sharesMouths, Cond.code yX0_sharesMouths cX0_sharesMouths 6 (some .int), Cond.fieldLink RX0 21 "NamesInMouths$Fen" "size" "I", Cond.methodLink RX0 37 Lib.Math.min.name, Cond.methodLink RX0 27 yJ6_bitCount_0f7a4, Cond.methodLink RX0 33 yX0_costs, Cond.instanceMethod yX0_costs, Cond.selects RX0 yX0_costs yX0_costs, Cond.code yX0_costs cX0_costs 6 (some .int), Cond.methodLink RX0 47 yX2_far, Cond.methodLink RX0 43 yX0_cheapest, Cond.instanceMethod yX0_cheapest, Cond.selects RX0 yX0_cheapest yX0_cheapest, Cond.code yX0_cheapest cX0_cheapest 5 (some .int)]
def wsL_law0_r41 : List Cond := [Cond.methodLink RL 145 yX12_mouths, Cond.instanceMethod yX12_mouths, Cond.selects RX12 yX12_mouths yX12_mouths, Cond.code yX12_mouths cX12_mouths 5 (some .int), Cond.constant RX12 330 (1000000), Cond.methodLink RX12 331 yX12_canMouth, Cond.instanceMethod yX12_canMouth, Cond.selects RX12 yX12_canMouth yX12_canMouth, Cond.code yX12_canMouth cX12_canMouth 4 (some .boolean), Cond.methodLink RL 146 yX11_criers, Cond.instanceMethod yX11_criers, Cond.selects RX11 yX11_criers yX11_criers, Cond.code yX11_criers cX11_criers 3 (some .int), Cond.methodLink RX11 279 yX0_fewestCriers, Cond.instanceMethod yX0_fewestCriers, Cond.selects RX0 yX0_fewestCriers yX0_fewestCriers, Cond.code yX0_fewestCriers cX0_fewestCriers 6 (some .int), Cond.methodLink RX0 50 yX0_hearers, Cond.static yX0_hearers, Cond.code yX0_hearers cX0_hearers 5 (some .int), Cond.methodLink RX0 53 yX0_heardBy, Cond.instanceMethod yX0_heardBy, Cond.selects RX0 yX0_heardBy yX0_heardBy, Cond.code yX0_heardBy cX0_heardBy 5 (some .int)]
def wsL_law0_r42 : List Cond := [Cond.methodLink RL 149 yX12_criers, Cond.instanceMethod yX12_criers, Cond.selects RX12 yX12_criers yX12_criers, Cond.code yX12_criers cX12_criers 8 (some .int), Cond.methodLink RL 150 yX11_line, Cond.instanceMethod yX11_line, Cond.selects RX11 yX11_line yX11_line, Cond.code yX11_line cX11_line 2 (some .int), Cond.methodLink RX11 283 yX0_linesUp, Cond.instanceMethod yX0_linesUp, Cond.selects RX0 yX0_linesUp yX0_linesUp, Cond.code yX0_linesUp cX0_linesUp 5 none, Cond.fieldLink RX0 56 "NamesInMouths$Fen" "place" "[I", Cond.methodLink RL 153 yX12_line, Cond.instanceMethod yX12_line, Cond.selects RX12 yX12_line yX12_line, Cond.code yX12_line cX12_line 2 (some .int), Cond.methodLink RX12 334 yX12_layDyke, Cond.instanceMethod yX12_layDyke, Cond.selects RX12 yX12_layDyke yX12_layDyke, Cond.code yX12_layDyke cX12_layDyke 3 none, Cond.methodLink RL 154 yX11_rich, Cond.instanceMethod yX11_rich, Cond.selects RX11 yX11_rich yX11_rich]
def wsL_law0_r43 : List Cond := [Cond.code yX11_rich cX11_rich 6 (some .int), Cond.fieldLink RX11 289 "NamesInMouths$Dyke" "runs" "[I", Cond.methodLink RX11 286 yX0_longestFrom, Cond.instanceMethod yX0_longestFrom, Cond.selects RX0 yX0_longestFrom yX0_longestFrom, Cond.code yX0_longestFrom cX0_longestFrom 5 (some .int), Cond.fieldLink RX0 59 "NamesInMouths$Fen" "purse" "[I", Cond.methodLink RX0 62 Lib.Math.max.name, Cond.methodLink RL 157 yX12_rich, Cond.instanceMethod yX12_rich, Cond.selects RX12 yX12_rich yX12_rich, Cond.code yX12_rich cX12_rich 4 (some .int), Cond.methodLink RL 158 yX11_heard, Cond.instanceMethod yX11_heard, Cond.selects RX11 yX11_heard yX11_heard, Cond.code yX11_heard cX11_heard 3 (some .int), Cond.fieldLink RX11 296 "NamesInMouths$Ear" "size" "I", Cond.methodLink RX11 292 yX1_hears, Cond.instanceMethod yX1_hears, Cond.selects RX1 yX1_hears yX1_hears, Cond.code yX1_hears cX1_hears 3 (some .boolean), Cond.fieldLink RX1 22 "NamesInMouths$Ear" "size" "I", Cond.methodLink RX1 18 yX1_values, Cond.static yX1_values]
def wsL_law0_r44 : List Cond := [Cond.code yX1_values cX1_values 1 (some .int), Cond.methodLink RL 161 yX12_heard, Cond.instanceMethod yX12_heard, Cond.selects RX12 yX12_heard yX12_heard, Cond.code yX12_heard cX12_heard 4 (some .int), Cond.fieldLink RX12 337 "NamesInMouthsModel" "heardMany" "I", Cond.methodLink RL 162 yX11_forget, Cond.instanceMethod yX11_forget, Cond.selects RX11 yX11_forget yX11_forget, Cond.code yX11_forget cX11_forget 2 (some .int), Cond.methodLink RL 165 yX12_forget, Cond.instanceMethod yX12_forget, Cond.selects RX12 yX12_forget yX12_forget, Cond.code yX12_forget cX12_forget 2 (some .int), Cond.methodLink RL 166 yX11_fits, Cond.instanceMethod yX11_fits, Cond.selects RX11 yX11_fits yX11_fits, Cond.code yX11_fits cX11_fits 2 (some .int), Cond.methodLink RX11 297 yX1_fitting, Cond.instanceMethod yX1_fitting, Cond.selects RX1 yX1_fitting yX1_fitting, Cond.code yX1_fitting cX1_fitting 7 (some .int), Cond.fieldLink RX1 48 "NamesInMouths$Fen" "size" "I", Cond.methodLink RX1 49 yX1_isSo]
def wsL_law0_r45 : List Cond := [Cond.static yX1_isSo, Cond.code yX1_isSo cX1_isSo 5 (some .boolean), Cond.fieldLink RX1 26 "NamesInMouths$Fen" "holder" "[I", Cond.fieldLink RX1 31 "NamesInMouths$Fen" "age" "[I", Cond.fieldLink RX1 34 "NamesInMouths$Fen" "purse" "[I", Cond.fieldLink RX1 37 "NamesInMouths$Fen" "place" "[I", Cond.methodLink RX1 40 yX2_has, Cond.methodLink RX1 44 yX2_can, Cond.methodLink RL 169 yX12_fits_, Cond.instanceMethod yX12_fits_, Cond.selects RX12 yX12_fits_ yX12_fits_, Cond.code yX12_fits_ cX12_fits_ 2 (some .int), Cond.methodLink RX12 343 yX12_fitting, Cond.instanceMethod yX12_fitting, Cond.selects RX12 yX12_fitting yX12_fitting, Cond.code yX12_fitting cX12_fitting 5 (some .int), Cond.methodLink RX12 340 yX12_fits, Cond.instanceMethod yX12_fits, Cond.selects RX12 yX12_fits yX12_fits, Cond.code yX12_fits cX12_fits 4 (some .boolean), Cond.methodLink RL 170 yX11_asks, Cond.instanceMethod yX11_asks, Cond.selects RX11 yX11_asks yX11_asks, Cond.code yX11_asks cX11_asks 10 (some .int)]
def wsL_law0_r46 : List Cond := [Cond.fieldLink RX11 300 "NamesInMouths$Ear" "ASKED" "[I", Cond.methodLink RX11 303 yX1_values, Cond.methodLink RX11 306 yX1_mostLeft, Cond.instanceMethod yX1_mostLeft, Cond.selects RX1 yX1_mostLeft yX1_mostLeft, Cond.code yX1_mostLeft cX1_mostLeft 8 (some .int), Cond.methodLink RX1 58 Lib.Math.max.name, Cond.methodLink RX1 53 yJ6_bitCount_0f7a4, Cond.methodLink RL 173 yX12_asks, Cond.instanceMethod yX12_asks, Cond.selects RX12 yX12_asks yX12_asks, Cond.code yX12_asks cX12_asks 7 (some .int), Cond.methodLink RL 174 yX11_saw, Cond.instanceMethod yX11_saw, Cond.selects RX11 yX11_saw yX11_saw, Cond.code yX11_saw cX11_saw 4 (some .int), Cond.fieldLink RX11 314 "NamesInMouths$Seen" "size" "I", Cond.methodLink RX11 310 yX7_sees, Cond.instanceMethod yX7_sees, Cond.selects RX7 yX7_sees yX7_sees, Cond.code yX7_sees cX7_sees 4 (some .boolean), Cond.fieldLink RX7 25 "NamesInMouths$Seen" "size" "I", Cond.methodLink RL 178 yX12_saw, Cond.instanceMethod yX12_saw]
def wsL_law0_r47 : List Cond := [Cond.selects RX12 yX12_saw yX12_saw, Cond.code yX12_saw cX12_saw 4 (some .int), Cond.fieldLink RX12 346 "NamesInMouthsModel" "sawMany" "I", Cond.methodLink RL 179 yX11_denies, Cond.instanceMethod yX11_denies, Cond.selects RX11 yX11_denies yX11_denies, Cond.code yX11_denies cX11_denies 2 (some .int), Cond.methodLink RL 182 yX12_denies, Cond.instanceMethod yX12_denies, Cond.selects RX12 yX12_denies yX12_denies, Cond.code yX12_denies cX12_denies 2 (some .int), Cond.methodLink RL 183 yX11_laws, Cond.instanceMethod yX11_laws, Cond.selects RX11 yX11_laws yX11_laws, Cond.code yX11_laws cX11_laws 3 (some .int), Cond.fieldLink RX11 321 "NamesInMouths$Seen" "low" "[I", Cond.methodLink RX11 315 yX7_fitLaws, Cond.instanceMethod yX7_fitLaws, Cond.selects RX7 yX7_fitLaws yX7_fitLaws, Cond.code yX7_fitLaws cX7_fitLaws 5 (some .int), Cond.methodLink RX7 33 Lib.Math.min.name, Cond.methodLink RX7 39 Lib.Math.max.name, Cond.methodLink RX7 29 yX7_reach, Cond.static yX7_reach]
def wsL_law0_r48 : List Cond := [Cond.code yX7_reach cX7_reach 3 (some .int), Cond.methodLink RX11 318 yX7_leastPair, Cond.instanceMethod yX7_leastPair, Cond.selects RX7 yX7_leastPair yX7_leastPair, Cond.code yX7_leastPair cX7_leastPair 2 (some .int), Cond.methodLink RL 186 yX12_laws, Cond.instanceMethod yX12_laws, Cond.selects RX12 yX12_laws yX12_laws, Cond.code yX12_laws cX12_laws 3 (some .int), Cond.methodLink RX12 353 yX12_isLaw, Cond.instanceMethod yX12_isLaw, Cond.selects RX12 yX12_isLaw yX12_isLaw, Cond.code yX12_isLaw cX12_isLaw 3 (some .boolean), Cond.methodLink RX12 349 yX12_says_, Cond.static yX12_says_, Cond.code yX12_says_ cX12_says_ 4 (some .int), Cond.methodLink RL 187 yX11_tries, Cond.instanceMethod yX11_tries, Cond.selects RX11 yX11_tries yX11_tries, Cond.code yX11_tries cX11_tries 8 (some .int), Cond.methodLink RX11 324 yX7_lawsThatHear, Cond.instanceMethod yX7_lawsThatHear, Cond.selects RX7 yX7_lawsThatHear yX7_lawsThatHear, Cond.code yX7_lawsThatHear cX7_lawsThatHear 6 (some .int)]
def wsL_law0_r49 : List Cond := [Cond.methodLink RL 190 yX12_tries, Cond.instanceMethod yX12_tries, Cond.selects RX12 yX12_tries yX12_tries, Cond.code yX12_tries cX12_tries 7 (some .int), Cond.methodLink RL 191 yX11_walks, Cond.instanceMethod yX11_walks, Cond.selects RX11 yX11_walks yX11_walks, Cond.code yX11_walks cX11_walks 11 (some .int), Cond.constantLong RX11 334 (10), Cond.methodLink RX11 330 yX4_walked, Cond.instanceMethod yX4_walked, Cond.selects RX4 yX4_walked yX4_walked, Cond.code yX4_walked cX4_walked 7 (some .long), Cond.methodLink RX4 25 Lib.Math.min.name, Cond.methodLink RX4 31 Lib.Math.max.name, Cond.methodLink RX4 34 arraycopyName, Cond.methodLink RX11 336 yX11_greatestCommon, Cond.static yX11_greatestCommon, Cond.code yX11_greatestCommon cX11_greatestCommon 11 (some .long), Cond.methodLink RL 194 yX12_walks, Cond.instanceMethod yX12_walks, Cond.selects RX12 yX12_walks yX12_walks, Cond.code yX12_walks cX12_walks 9 (some .int), Cond.constantLong RX12 360 (10)]
def wsL_law0_r50 : List Cond := [Cond.methodLink RX12 356 yX12_common, Cond.static yX12_common, Cond.code yX12_common cX12_common 4 (some .long), Cond.methodLink RL 195 yX11_hush, Cond.instanceMethod yX11_hush, Cond.selects RX11 yX11_hush yX11_hush, Cond.code yX11_hush cX11_hush 5 (some .int), Cond.methodLink RX11 340 yX4_readiesHush, Cond.instanceMethod yX4_readiesHush, Cond.selects RX4 yX4_readiesHush yX4_readiesHush, Cond.code yX4_readiesHush cX4_readiesHush 4 none, Cond.fieldLink RX4 40 "NamesInMouths$Plays" "hushReady" "Z", Cond.methodLink RX4 44 yX4_winningTake, Cond.instanceMethod yX4_winningTake, Cond.selects RX4 yX4_winningTake yX4_winningTake, Cond.code yX4_winningTake cX4_winningTake 5 (some .int), Cond.methodLink RX4 47 yX4_wins, Cond.instanceMethod yX4_wins, Cond.selects RX4 yX4_wins yX4_wins, Cond.code yX4_wins cX4_wins 3 (some .boolean), Cond.methodLink RX11 343 yX4_winningTake, Cond.methodLink RX11 346 yX4_wins, Cond.methodLink RL 198 yX12_hush, Cond.instanceMethod yX12_hush]
def wsL_law0_r51 : List Cond := [Cond.selects RX12 yX12_hush yX12_hush, Cond.code yX12_hush cX12_hush 5 (some .int), Cond.methodLink RX12 362 yX12_moveOf, Cond.instanceMethod yX12_moveOf, Cond.selects RX12 yX12_moveOf yX12_moveOf, Cond.code yX12_moveOf cX12_moveOf 5 (some .int), Cond.methodLink RL 199 yX11_rests, Cond.instanceMethod yX11_rests, Cond.selects RX11 yX11_rests yX11_rests, Cond.code yX11_rests cX11_rests 5 (some .int), Cond.methodLink RX11 349 yX4_readiesRests, Cond.instanceMethod yX4_readiesRests, Cond.selects RX4 yX4_readiesRests yX4_readiesRests, Cond.code yX4_readiesRests cX4_readiesRests 4 none, Cond.methodLink RX4 51 yX4_gain, Cond.static yX4_gain, Cond.code yX4_gain cX4_gain 4 (some .int), Cond.methodLink RX11 353 yX4_isRest, Cond.instanceMethod yX4_isRest, Cond.selects RX4 yX4_isRest yX4_isRest, Cond.code yX4_isRest cX4_isRest 4 (some .boolean), Cond.methodLink RL 202 yX12_rests, Cond.instanceMethod yX12_rests, Cond.selects RX12 yX12_rests yX12_rests]
def wsL_law0_r52 : List Cond := [Cond.code yX12_rests cX12_rests 5 (some .int), Cond.methodLink RX12 369 yX12_isBest, Cond.static yX12_isBest, Cond.code yX12_isBest cX12_isBest 4 (some .boolean), Cond.methodLink RX12 365 yX12_gets, Cond.static yX12_gets, Cond.code yX12_gets cX12_gets 3 (some .int), Cond.methodLink RL 203 yX11_law, Cond.instanceMethod yX11_law, Cond.selects RX11 yX11_law yX11_law, Cond.code yX11_law cX11_law 5 (some .int), Cond.methodLink RX11 356 yX2_pairs, Cond.instanceMethod yX2_pairs, Cond.selects RX2 yX2_pairs yX2_pairs, Cond.code yX2_pairs cX2_pairs 4 (some .int), Cond.methodLink RX2 59 yX2_sayable, Cond.methodLink RX2 63 yJ6_bitCount_0f7a4, Cond.methodLink RL 206 yX12_law, Cond.instanceMethod yX12_law, Cond.selects RX12 yX12_law yX12_law, Cond.code yX12_law cX12_law 7 (some .int), Cond.methodLink RX12 372 yX12_pairs, Cond.instanceMethod yX12_pairs, Cond.selects RX12 yX12_pairs yX12_pairs]
def wsL_law0_r53 : List Cond := [Cond.code yX12_pairs cX12_pairs 3 (some .int), Cond.methodLink RL 207 yX11_years, Cond.instanceMethod yX11_years, Cond.selects RX11 yX11_years yX11_years, Cond.code yX11_years cX11_years 4 (some .int), Cond.fieldLink RX11 360 "NamesInMouths$Plays" "lot" "I", Cond.methodLink RX11 363 yX4_draw, Cond.instanceMethod yX4_draw, Cond.selects RX4 yX4_draw yX4_draw, Cond.code yX4_draw cX4_draw 2 (some .int), Cond.fieldLink RX4 55 "NamesInMouths$Plays" "lot" "I", Cond.constant RX4 59 (1103515245), Cond.methodLink RX11 366 yX11_triesDrawn, Cond.instanceMethod yX11_triesDrawn, Cond.selects RX11 yX11_triesDrawn yX11_triesDrawn, Cond.code yX11_triesDrawn cX11_triesDrawn 3 none, Cond.methodLink RL 210 yX12_years, Cond.instanceMethod yX12_years, Cond.selects RX12 yX12_years yX12_years, Cond.code yX12_years cX12_years 7 (some .int), Cond.fieldLink RX12 375 "NamesInMouthsModel" "drawn" "I", Cond.methodLink RX12 379 yX12_draw, Cond.instanceMethod yX12_draw, Cond.selects RX12 yX12_draw yX12_draw]
def wsL_law0_r54 : List Cond := [Cond.code yX12_draw cX12_draw 2 (some .int), Cond.constant RX12 378 (1103515245), Cond.methodLink RL 211 yX11_keep, Cond.instanceMethod yX11_keep, Cond.selects RX11 yX11_keep yX11_keep, Cond.code yX11_keep cX11_keep 2 (some .boolean), Cond.methodLink RX11 369 yX3_shelves, Cond.instanceMethod yX3_shelves, Cond.selects RX3 yX3_shelves yX3_shelves, Cond.code yX3_shelves cX3_shelves 3 (some .boolean), Cond.methodLink RL 214 yX12_keep, Cond.instanceMethod yX12_keep, Cond.selects RX12 yX12_keep yX12_keep, Cond.code yX12_keep cX12_keep 2 (some .boolean), Cond.methodLink RL 215 yX11_again, Cond.instanceMethod yX11_again, Cond.selects RX11 yX11_again yX11_again, Cond.code yX11_again cX11_again 2 (some .boolean), Cond.methodLink RX11 373 yX3_unshelves, Cond.instanceMethod yX3_unshelves, Cond.selects RX3 yX3_unshelves yX3_unshelves, Cond.code yX3_unshelves cX3_unshelves 3 (some .boolean), Cond.methodLink RL 218 yX12_again, Cond.instanceMethod yX12_again]
def wsL_law0_r55 : List Cond := [Cond.selects RX12 yX12_again yX12_again, Cond.code yX12_again cX12_again 3 (some .boolean), Cond.methodLink RL 219 yX11_count, Cond.instanceMethod yX11_count, Cond.selects RX11 yX11_count yX11_count, Cond.code yX11_count cX11_count 2 (some .int), Cond.fieldLink RX11 376 "NamesInMouths$Fen" "day" "I", Cond.fieldLink RX11 383 "NamesInMouths$Told" "size" "I", Cond.methodLink RX11 379 yX2_sum, Cond.methodLink RL 222 yX12_count, Cond.instanceMethod yX12_count, Cond.selects RX12 yX12_count yX12_count, Cond.code yX12_count cX12_count 2 (some .int), Cond.methodLink RX12 382 yX12_voices, Cond.instanceMethod yX12_voices, Cond.selects RX12 yX12_voices yX12_voices, Cond.code yX12_voices cX12_voices 3 (some .int), Cond.methodLink RL 223 yL_row, Cond.static yL_row, Cond.codeWith yL_row cL_row 4 (some .int) [(0, 8, 11, 13)], Cond.methodLink RL 18 yX11_row, Cond.instanceMethod yX11_row, Cond.selects RX11 yX11_row yX11_row, Cond.code yX11_row cX11_row 2 (some .long)]
def wsL_law0_r56 : List Cond := [Cond.fieldLink RX11 384 "NamesInMouths$Told" "numbers" "[J", Cond.methodLink RL 226 yX12_row, Cond.instanceMethod yX12_row, Cond.selects RX12 yX12_row yX12_row, Cond.code yX12_row cX12_row 2 (some .long)]
def wsL_law0 : List Cond := (wsL_law0_r1 ++ (wsL_law0_r2 ++ (wsL_law0_r3 ++ (wsL_law0_r4 ++ (wsL_law0_r5 ++ (wsL_law0_r6 ++ (wsL_law0_r7 ++ (wsL_law0_r8 ++ (wsL_law0_r9 ++ (wsL_law0_r10 ++ (wsL_law0_r11 ++ (wsL_law0_r12 ++ (wsL_law0_r13 ++ (wsL_law0_r14 ++ (wsL_law0_r15 ++ (wsL_law0_r16 ++ (wsL_law0_r17 ++ (wsL_law0_r18 ++ (wsL_law0_r19 ++ (wsL_law0_r20 ++ (wsL_law0_r21 ++ (wsL_law0_r22 ++ (wsL_law0_r23 ++ (wsL_law0_r24 ++ (wsL_law0_r25 ++ (wsL_law0_r26 ++ (wsL_law0_r27 ++ (wsL_law0_r28 ++ (wsL_law0_r29 ++ (wsL_law0_r30 ++ (wsL_law0_r31 ++ (wsL_law0_r32 ++ (wsL_law0_r33 ++ (wsL_law0_r34 ++ (wsL_law0_r35 ++ (wsL_law0_r36 ++ (wsL_law0_r37 ++ (wsL_law0_r38 ++ (wsL_law0_r39 ++ (wsL_law0_r40 ++ (wsL_law0_r41 ++ (wsL_law0_r42 ++ (wsL_law0_r43 ++ (wsL_law0_r44 ++ (wsL_law0_r45 ++ (wsL_law0_r46 ++ (wsL_law0_r47 ++ (wsL_law0_r48 ++ (wsL_law0_r49 ++ (wsL_law0_r50 ++ (wsL_law0_r51 ++ (wsL_law0_r52 ++ (wsL_law0_r53 ++ (wsL_law0_r54 ++ (wsL_law0_r55 ++ wsL_law0_r56))))))))))))))))))))))))))))))))))))))))))))))))))))))) ++ wsX110 ++ wsX120 ++ wsX80 ++ wsX90 ++ wsX20 ++ wsX60 ++ wsX30 ++ wsX100 ++ wsX00 ++ wsX10 ++ wsX70 ++ wsX40 ++ wsX50 ++ ([] : List Cond)
abbrev vwCl : List vw_C := [(RX0, TX0, 3), (RX1, TX1, 3), (RX2, TX2, 8), (RX3, TX3, 4), (RX4, TX4, 6), (RX5, TX5, 3), (RX6, TX6, 3), (RX7, TX7, 6), (RX8, TX8, 2), (RX9, TX9, 2), (RX10, TX10, 14), (RX11, TX11, 13), (RX12, TX12, 47)]
end
section
/-! THE STORE: int fields, rows of ints, rows of longs, fields that hold a reference (0: null) -/
abbrev Sto : Type := (Nat → Nat → Int32) × (Nat → Nat → Int32) × (Nat → Nat → Int64) × (Nat → Nat → Nat)
def gI (σ : Sto) (a j : Nat) : Int32 := σ.1 a j
def gA (σ : Sto) (a : Nat) : Nat → Int32 := σ.2.1 a
def gJ (σ : Sto) (a : Nat) : Nat → Int64 := σ.2.2.1 a
def gR (σ : Sto) (a j : Nat) : Nat := σ.2.2.2 a j
def sI (σ : Sto) (a j : Nat) (v : Int32) : Sto := (fun x y => if x = a ∧ y = j then v else σ.1 x y, σ.2)
def sA (σ : Sto) (a : Nat) (f : Nat → Int32) : Sto := (σ.1, fun x => if x = a then f else σ.2.1 x, σ.2.2)
def sJ (σ : Sto) (a : Nat) (f : Nat → Int64) : Sto := (σ.1, σ.2.1, fun x => if x = a then f else σ.2.2.1 x, σ.2.2.2)
def sR (σ : Sto) (a j : Nat) (v : Nat) : Sto := (σ.1, σ.2.1, σ.2.2.1, fun x y => if x = a ∧ y = j then v else σ.2.2.2 x y)
theorem gI_sI (σ : Sto) (a j x y : Nat) (v : Int32) : gI (sI σ a j v) x y = if x = a ∧ y = j then v else gI σ x y := rfl
theorem gI_sA (σ : Sto) (a x y : Nat) (f : Nat → Int32) : gI (sA σ a f) x y = gI σ x y := rfl
theorem gI_sJ (σ : Sto) (a x y : Nat) (f : Nat → Int64) : gI (sJ σ a f) x y = gI σ x y := rfl
theorem gI_sR (σ : Sto) (a j x y v : Nat) : gI (sR σ a j v) x y = gI σ x y := rfl
theorem gA_sI (σ : Sto) (a j x : Nat) (v : Int32) : gA (sI σ a j v) x = gA σ x := rfl
theorem gA_sA (σ : Sto) (a x : Nat) (f : Nat → Int32) : gA (sA σ a f) x = if x = a then f else gA σ x := rfl
theorem gA_sJ (σ : Sto) (a x : Nat) (f : Nat → Int64) : gA (sJ σ a f) x = gA σ x := rfl
theorem gA_sR (σ : Sto) (a j x v : Nat) : gA (sR σ a j v) x = gA σ x := rfl
theorem gJ_sI (σ : Sto) (a j x : Nat) (v : Int32) : gJ (sI σ a j v) x = gJ σ x := rfl
theorem gJ_sA (σ : Sto) (a x : Nat) (f : Nat → Int32) : gJ (sA σ a f) x = gJ σ x := rfl
theorem gJ_sJ (σ : Sto) (a x : Nat) (f : Nat → Int64) : gJ (sJ σ a f) x = if x = a then f else gJ σ x := rfl
theorem gJ_sR (σ : Sto) (a j x v : Nat) : gJ (sR σ a j v) x = gJ σ x := rfl
theorem gR_sI (σ : Sto) (a j x y : Nat) (v : Int32) : gR (sI σ a j v) x y = gR σ x y := rfl
theorem gR_sA (σ : Sto) (a x y : Nat) (f : Nat → Int32) : gR (sA σ a f) x y = gR σ x y := rfl
theorem gR_sJ (σ : Sto) (a x y : Nat) (f : Nat → Int64) : gR (sJ σ a f) x y = gR σ x y := rfl
theorem gR_sR (σ : Sto) (a j x y v : Nat) : gR (sR σ a j v) x y = if x = a ∧ y = j then v else gR σ x y := rfl

/-! THE SHAPE: what lies at each place of the store: (0, number of the class), or (1 int, 2 byte, 3 char, 4 boolean, 5 long; how many); the kinds of fields by classes: 0 a number, 1 a reference that changes, d + 2 the thing d places on -/
def shpL : List (Nat × Nat) := [(0, 11), (0, 8), (3, 80), (0, 9), (5, 9), (0, 2), (1, 7), (1, 7), (1, 7), (1, 7), (1, 7), (0, 2), (1, 7), (1, 7), (1, 7), (1, 7), (1, 7), (0, 6), (0, 3), (1, 450), (0, 10), (1, 7), (1, 7), (1, 4), (1, 6), (1, 6), (5, 64), (1, 6), (0, 0), (1, 7), (1, 128), (1, 7), (0, 1), (1, 12), (1, 12), (0, 7), (1, 10), (1, 10), (1, 10), (1, 16), (1, 16), (0, 4), (5, 10), (5, 10), (1, 21), (1, 10), (0, 5), (1, 40), (1, 40), (0, 5), (1, 40), (1, 40), (0, 12), (1, 30), (1, 7), (2, 80), (5, 16), (1, 21), (2, 40), (2, 40), (1, 7), (1, 360), (1, 30), (1, 30), (1, 240), (1, 150), (1, 7), (1, 7), (1, 7), (1, 7), (1, 1024), (1, 7), (1, 7), (1, 12), (1, 12), (1, 10), (1, 10), (5, 10), (5, 10), (4, 441), (1, 60), (4, 2), (1, 2), (5, 1)]
def kdL : List (List Nat) := [[3, 4, 5], [3, 4, 0], [3, 4, 5, 6, 7, 0, 0, 0], [3, 0, 0, 0], [3, 4, 5, 0, 6, 0], [3, 4, 0], [1, 1, 0], [3, 4, 5, 6, 7, 0], [3, 0], [3, 0], [3, 4, 0, 0, 5, 6, 7, 8, 9, 0, 0, 0, 1, 1], [3, 5, 7, 13, 19, 20, 22, 30, 34, 37, 43, 1, 1], [3, 0, 4, 5, 0, 6, 0, 0, 1, 0, 0, 0, 0, 7, 1, 1, 0, 0, 10, 11, 0, 12, 13, 14, 15, 16, 17, 18, 19, 0, 20, 21, 22, 23, 24, 0, 25, 26, 0, 27, 28, 29, 0, 0, 30, 31, 32]]
def kdOf (ci : Nat) : List Nat := kdL.getD ci []
def rfv (ad : Nat → Nat) (r : Nat) : Value := match r with
  | 0 => .null
  | n + 1 => .ref (ad n)
def fvl (ad : Nat → Nat) (σ : Sto) (a j kd : Nat) : Value := match kd with
  | 0 => .int (gI σ a j)
  | 1 => rfv ad (gR σ a j)
  | d + 2 => .ref (ad (a + d))
def fls (ad : Nat → Nat) (σ : Sto) (a ci : Nat) : List Value := (kdOf ci).mapIdx (fun j kd => fvl ad σ a j kd)
def cel (cy : Nat → ClassId) (ad : Nat → Nat) (σ : Sto) (a : Nat) (sh : Nat × Nat) : va_E :=
  if sh.1 = 0 then .inr (sh.2, fls ad σ a sh.2) else if sh.1 = 5 then .inl (cy 4, sh.2, .inr (.inl (gJ σ a))) else .inl (cy (sh.1 - 1), sh.2, .inl (gA σ a))
def wsOf (cy : Nat → ClassId) (ad : Nat → Nat) (σ : Sto) : va_W := shpL.mapIdx (fun a sh => (ad a, cel cy ad σ a sh))
def tysOf (cy : Nat → ClassId) : List (ClassId × FieldType) := [(cy 0, .int), (cy 1, .byte), (cy 2, .char), (cy 3, .boolean), (cy 4, .long)]
def rv (ad : Nat → Nat) (v : Value) : Value := match v with
  | .ref k => .ref (ad k)
  | w => w
theorem rv_cat (ad : Nat → Nat) (v : Value) : (rv ad v).category = v.category := by cases v <;> rfl
theorem ws_at {cy : Nat → ClassId} {ad : Nat → Nat} {σ : Sto} {a : Nat} {sh : Nat × Nat} (h : shpL[a]? = some sh) : (wsOf cy ad σ)[a]? = some (ad a, cel cy ad σ a sh) := by
  simp [wsOf, List.getElem?_mapIdx, h]
theorem ws_ob {cy : Nat → ClassId} {ad : Nat → Nat} {σ : Sto} {a ci : Nat} (h : shpL[a]? = some (0, ci)) : (wsOf cy ad σ)[a]? = some (ad a, .inr (ci, fls ad σ a ci)) := ws_at h
theorem ws_lo {cy : Nat → ClassId} {ad : Nat → Nat} {σ : Sto} {a n : Nat} (h : shpL[a]? = some (5, n)) : (wsOf cy ad σ)[a]? = some (ad a, .inl (cy 4, n, .inr (.inl (gJ σ a)))) := ws_at h
theorem ws_in {cy : Nat → ClassId} {ad : Nat → Nat} {σ : Sto} {a n t : Nat} (ht : t < 4) (h : shpL[a]? = some (t + 1, n)) : (wsOf cy ad σ)[a]? = some (ad a, .inl (cy t, n, .inl (gA σ a))) := by
  rw [ws_at h]
  have h5 : ¬ t + 1 = 5 := by omega
  simp [cel, h5, show ¬ t = 4 by omega]
theorem fl_at {ad : Nat → Nat} {σ : Sto} {a ci j kd : Nat} (h : (kdOf ci)[j]? = some kd) : (fls ad σ a ci)[j]? = some (fvl ad σ a j kd) := by
  simp [fls, List.getElem?_mapIdx, h]
theorem fl_len {ad : Nat → Nat} {σ : Sto} {a ci : Nat} : (fls ad σ a ci).length = (kdOf ci).length := by simp [fls]
theorem ws_set {cy : Nat → ClassId} {ad : Nat → Nat} {σ σ' : Sto} {a : Nat} {sh : Nat × Nat} {E : va_E} (h : shpL[a]? = some sh) (he : E = cel cy ad σ' a sh) (ho : ∀ b, b ≠ a → ∀ s, cel cy ad σ b s = cel cy ad σ' b s) : (wsOf cy ad σ).set a (ad a, E) = wsOf cy ad σ' := by
  apply List.ext_getElem?
  intro i
  by_cases hi : a = i
  · subst hi
    have hl : a < (wsOf cy ad σ).length := by simp [wsOf]; exact (List.getElem?_eq_some_iff.mp h).1
    rw [List.getElem?_set_self hl, ws_at h, he]
  · rw [List.getElem?_set_ne hi]
    simp only [wsOf, List.getElem?_mapIdx]
    cases shpL[i]? with
    | none => rfl
    | some s => simp [ho i (fun e => hi e.symm) s]
theorem ws_sI {cy : Nat → ClassId} {ad : Nat → Nat} {σ : Sto} {a ci j : Nat} {v : Int32} (h : shpL[a]? = some (0, ci)) (hk : (kdOf ci)[j]? = some 0) : (wsOf cy ad σ).set a (ad a, .inr (ci, (fls ad σ a ci).set j (.int v))) = wsOf cy ad (sI σ a j v) := by
  refine ws_set h ?_ ?_
  · show Sum.inr (ci, _) = Sum.inr (ci, fls ad (sI σ a j v) a ci)
    have e : (fls ad σ a ci).set j (.int v) = fls ad (sI σ a j v) a ci := by
      apply List.ext_getElem?
      intro i
      by_cases hi : j = i
      · subst hi
        rw [List.getElem?_set_self (by rw [fl_len]; exact (List.getElem?_eq_some_iff.mp hk).1), fl_at hk]
        simp [fvl, gI_sI]
      · rw [List.getElem?_set_ne hi]
        simp only [fls, List.getElem?_mapIdx]
        cases (kdOf ci)[i]? with
        | none => rfl
        | some kd =>
          have hn : ¬ (i = j) := fun e => hi e.symm
          simp only [Option.map_some]
          congr 1
          match kd with
          | 0 => simp [fvl, gI_sI, hn]
          | 1 => rfl
          | d + 2 => rfl
    rw [e]
  · intro b hb s
    have : fls ad σ b s.2 = fls ad (sI σ a j v) b s.2 := by
      simp only [fls]
      congr 1
      funext i kd
      match kd with
      | 0 => simp [fvl, gI_sI, hb]
      | 1 => rfl
      | d + 2 => rfl
    simp only [cel, this]
    rfl
theorem ws_sR {cy : Nat → ClassId} {ad : Nat → Nat} {σ : Sto} {a ci j r : Nat} (h : shpL[a]? = some (0, ci)) (hk : (kdOf ci)[j]? = some 1) : (wsOf cy ad σ).set a (ad a, .inr (ci, (fls ad σ a ci).set j (rfv ad r))) = wsOf cy ad (sR σ a j r) := by
  refine ws_set h ?_ ?_
  · show Sum.inr (ci, _) = Sum.inr (ci, fls ad (sR σ a j r) a ci)
    have e : (fls ad σ a ci).set j (rfv ad r) = fls ad (sR σ a j r) a ci := by
      apply List.ext_getElem?
      intro i
      by_cases hi : j = i
      · subst hi
        rw [List.getElem?_set_self (by rw [fl_len]; exact (List.getElem?_eq_some_iff.mp hk).1), fl_at hk]
        simp [fvl, gR_sR]
      · rw [List.getElem?_set_ne hi]
        simp only [fls, List.getElem?_mapIdx]
        cases (kdOf ci)[i]? with
        | none => rfl
        | some kd =>
          have hn : ¬ (i = j) := fun e => hi e.symm
          simp only [Option.map_some]
          congr 1
          match kd with
          | 0 => rfl
          | 1 => simp [fvl, gR_sR, hn]
          | d + 2 => rfl
    rw [e]
  · intro b hb s
    have : fls ad σ b s.2 = fls ad (sR σ a j r) b s.2 := by
      simp only [fls]
      congr 1
      funext i kd
      match kd with
      | 0 => rfl
      | 1 => simp [fvl, gR_sR, hb]
      | d + 2 => rfl
    simp only [cel, this]
    rfl
theorem ws_sA {cy : Nat → ClassId} {ad : Nat → Nat} {σ : Sto} {a n t : Nat} {f : Nat → Int32} (ht : t < 4) (h : shpL[a]? = some (t + 1, n)) : (wsOf cy ad σ).set a (ad a, .inl (cy t, n, .inl f)) = wsOf cy ad (sA σ a f) := by
  refine ws_set h ?_ ?_
  · simp [cel, show ¬ t = 4 by omega, gA_sA]
  · intro b hb s
    simp only [cel, gA_sA, if_neg hb]
    rfl
theorem ws_sJ {cy : Nat → ClassId} {ad : Nat → Nat} {σ : Sto} {a n : Nat} {f : Nat → Int64} (h : shpL[a]? = some (5, n)) : (wsOf cy ad σ).set a (ad a, .inl (cy 4, n, .inr (.inl f))) = wsOf cy ad (sJ σ a f) := by
  refine ws_set h ?_ ?_
  · simp [cel, gJ_sJ]
  · intro b hb s
    simp only [cel, gJ_sJ, if_neg hb]
    rfl

/-! METHODS, CONTEXTS, JUDGEMENTS -/
abbrev UW : List Cond := wsL_law0
abbrev Mt : Type := String × MethodName × List Cond × ByteArray × Nat × Option FieldType
def mO (M : Mt) : String := M.1
def mY (M : Mt) : MethodName := M.2.1
def mW (M : Mt) : List Cond := M.2.2.1
def mB (M : Mt) : ByteArray := M.2.2.2.1
def mL (M : Mt) : Nat := M.2.2.2.2.1
def mR (M : Mt) : Option FieldType := M.2.2.2.2.2
def rmk (k : Nat) : Room := { frames := k, cells := 0, slots := 0, locals := 64 * k }
def Aad (ad : Nat → Nat) : Nat → Prop := fun q => ∃ a, a < shpL.length ∧ q = ad a
def askF : Nat → Value := fun j => .int (match j with | 0 => 0 | 1 => 3 | _ => 4)
def Zf (ad : Nat → Nat) (U : State) (H : Heap) : Prop := va_Z "NamesInMouths$Ear" "ASKED" "[I" (.ref (ad 999)) (Aad ad) U H ∧ va_T .int (ad 999) 3 askF (Aad ad) U H
def Cx (M : Mt) (p : Program) (s : State) (m : MethodId) (args : Array Value) (meth : Method) (c : Code) (D : va_G) (cy : Nat → ClassId) (ad : Nat → Nat) : Prop :=
  p.tables.exec = Jvm.exec ∧ c.code = mB M ∧ c.maxLocals = mL M ∧ meth.sig.returnType = mR M ∧ meth.locks = false ∧ s.vm.findClass (mO M) = some m.cls ∧ (∀ w ∈ mW M, w.before args s = true) ∧ va_K D vwCl (tysOf cy) s ∧ Zf ad s s.heap
def VL (ad : Nat → Nat) (L : List (Option Value)) (ls : Array Slot) (n : Nat) : Prop := ls.size = n ∧ lv_wf ls ∧ ∀ (i : Nat) (v : Value), L[i]? = some (some v) → ls[i]? = some (.val (rv ad v))
def Wd (D : va_G) (cy : Nat → ClassId) (ad : Nat → Nat) (H0 : Heap) (σ : Sto) (H : Heap) (locs : List Loc) : Prop := va_P D vwCl (wsOf cy ad σ) H ∧ va_D (Aad ad) (wsOf cy ad σ) ∧ va_S (Aad ad) H0 H locs
def QM (D : va_G) (cy : Nat → ClassId) (ad : Nat → Nat) (Q : Option Value → Sto → Prop) : Array Value → State → Outcome → State → Prop := fun _ st oc t =>
  (∃ (v : Option Value) (σ' : Sto), oc = .returned (v.map (rv ad)) ∧ Q v σ' ∧ va_P D vwCl (wsOf cy ad σ') t.heap ∧ va_D (Aad ad) (wsOf cy ad σ')) ∧ va_F (Aad ad) st t
def WW (M : Mt) (k : Nat) (Q : Option Value → Sto → Prop) (pc : Nat) (L : List (Option Value)) (S : List Value) (σ : Sto) : Prop :=
  ∀ (l : Launch) (p : Program) (e : Env) (s : State) (m : MethodId) (args : Array Value) (below : List Frame) (meth : Method) (c : Code) (D : va_G) (cy : Nat → ClassId) (ad : Nat → Nat), Cx M p s m args meth c D cy ad →
    ∀ (H : Heap) (locs : List Loc) (ls : Array Slot), VL ad L ls (mL M) → Wd D cy ad s.heap σ H locs →
      W p l e (rmk k) s m args below meth c H locs 0 0 (MQ below (QM D cy ad Q) args s 0 0 (Aad ad)) (F0 m pc ls (S.map (rv ad)))
def PreM (D : va_G) (cy : Nat → ClassId) (ad : Nat → Nat) (args : List Value) (σ : Sto) : Array Value → State → Prop :=
  va_Pc (args.map (rv ad)) (fun U => va_P D vwCl (wsOf cy ad σ) U.heap ∧ va_K D vwCl (tysOf cy) U ∧ va_D (Aad ad) (wsOf cy ad σ) ∧ Zf ad U U.heap)
/-- THE CONTRACT of a method, k frames deep at most: from the store σ and the arguments it returns, and Q says what -/
def EvM (k : Nat) (M : Mt) (args : List Value) (σ : Sto) (Q : Option Value → Sto → Prop) : Prop :=
  ∀ (l : Launch) (D : va_G) (cy : Nat → ClassId) (ad : Nat → Nat), Met l (mY M) (mW M) (rmk k) (PreM D cy ad args σ) (QM D cy ad Q) 0 0 (Aad ad)
/-- the words that a method's own caller needs of it -/
def MOK (M : Mt) : Prop := plainName (mY M).cls = true ∧ mW M = Cond.code (mY M) (mB M) (mL M) (mR M) :: UW ∧ (mY M).cls = mO M ∧ Cond.code (mY M) (mB M) (mL M) (mR M) ∈ UW ∧ mL M ≤ 45
theorem UW_all : UW.all goodWord = true := by decide +kernel
theorem UW_good {w : Cond} (h : w ∈ UW) : (w.onTables && w.keeps) = true ∨ ∃ ty, w = .arrayClass ty := good_of_word (List.all_eq_true.mp UW_all w h)
theorem MOK.good {M M' : Mt} (h : MOK M) (h' : MOK M') : GoodIn (mW M) (mW M') := by
  intro w hw
  rw [h'.2.1] at hw
  rw [h.2.1]
  rcases List.mem_cons.mp hw with rfl | hw
  · exact ⟨List.mem_cons_of_mem _ h'.2.2.2.1, UW_good h'.2.2.2.1⟩
  · exact ⟨List.mem_cons_of_mem _ hw, UW_good hw⟩
theorem MOK.w {M : Mt} (h : MOK M) {args : Array Value} {s : State} (hts : ∀ w ∈ mW M, w.before args s = true) {w : Cond} (hw : w ∈ UW) : w.before args s = true := hts w (by rw [h.2.1]; exact List.mem_cons_of_mem _ hw)
theorem Zf.kept {ad : Nat → Nat} {U : State} {H H1 : Heap} (h : Zf ad U H) (hq : ∀ a : Nat, a < H.size → ¬ Aad ad a → H1[a]? = H[a]?) : Zf ad U H1 := ⟨h.1.kept hq, h.2.kept hq⟩
theorem Zf.moved {ad : Nat → Nat} {u U : State} {H : Heap} (hvm : u.vm.Alike U.vm) (h : Zf ad u H) : Zf ad U H := ⟨h.1.moved hvm, h.2.moved hvm⟩
/-! the locals -/
def entA : List Value → List (Option Value)
  | [] => []
  | .long x :: vs => some (.long x) :: none :: entA vs
  | .double x :: vs => some (.double x) :: none :: entA vs
  | v :: vs => some v :: entA vs
def entL (n : Nat) (vs : List Value) : List (Option Value) := entA vs ++ List.replicate (n - (entA vs).length) none
def clr (L : List (Option Value)) (i : Nat) : List (Option Value) := match i with
  | 0 => L
  | j + 1 => match L[j]? with
    | some (some (.long _)) => L.set j none
    | some (some (.double _)) => L.set j none
    | _ => L
def st1 (L : List (Option Value)) (i : Nat) (v : Value) : List (Option Value) := (clr L i).set i (some v)
def st2 (L : List (Option Value)) (i : Nat) (v : Value) : List (Option Value) := ((clr L i).set i (some v)).set (i + 1) none
def toA (ad : Nat → Nat) (L : List (Option Value)) : List (Nat × Value) := (List.range L.length).filterMap (fun i => match L[i]? with
  | some (some v) => some (i, rv ad v)
  | _ => none)
theorem toA_mem {ad : Nat → Nat} {L : List (Option Value)} {i : Nat} {w : Value} : (i, w) ∈ toA ad L ↔ ∃ v, L[i]? = some (some v) ∧ w = rv ad v := by
  unfold toA
  rw [List.mem_filterMap]
  constructor
  · rintro ⟨j, hj, h⟩
    split at h
    · rename_i v hv
      cases h
      exact ⟨v, hv, rfl⟩
    · cases h
  · rintro ⟨v, hv, rfl⟩
    refine ⟨i, List.mem_range.mpr (List.getElem?_eq_some_iff.mp hv).1, ?_⟩
    rw [hv]
theorem VL.has {ad : Nat → Nat} {L : List (Option Value)} {ls : Array Slot} {n : Nat} (h : VL ad L ls n) : lv_has ls n (toA ad L) := ⟨h.1, h.2.1, fun q hq => by
  obtain ⟨i, w⟩ := q
  obtain ⟨v, hv, rfl⟩ := toA_mem.mp hq
  exact h.2.2 i v hv⟩
theorem clr_get {L : List (Option Value)} {i j : Nat} {v : Value} (h : (clr L i)[j]? = some (some v)) : L[j]? = some (some v) ∧ (j + 1 = i → (∀ x, v ≠ .long x) ∧ ∀ x, v ≠ .double x) := by
  unfold clr at h
  split at h
  · exact ⟨h, fun e => by omega⟩
  · rename_i i
    split at h
    · rename_i x hx
      by_cases hj : i = j
      · subst hj
        rw [List.getElem?_set_self (List.getElem?_eq_some_iff.mp hx).1] at h
        cases h
      · rw [List.getElem?_set_ne hj] at h
        exact ⟨h, fun e => by omega⟩
    · rename_i x hx
      by_cases hj : i = j
      · subst hj
        rw [List.getElem?_set_self (List.getElem?_eq_some_iff.mp hx).1] at h
        cases h
      · rw [List.getElem?_set_ne hj] at h
        exact ⟨h, fun e => by omega⟩
    · rename_i hn1 hn2
      refine ⟨h, fun e => ?_⟩
      have : j = i := by omega
      subst this
      exact ⟨fun x hv => hn1 x (hv ▸ h), fun x hv => hn2 x (hv ▸ h)⟩
theorem cat_long {ad : Nat → Nat} {v : Value} (h : (rv ad v).category = 2) : (∃ x, v = .long x) ∨ ∃ x, v = .double x := by
  cases v with
  | long x => exact Or.inl ⟨x, rfl⟩
  | double x => exact Or.inr ⟨x, rfl⟩
  | _ => cases h
theorem VL.s1 {ad : Nat → Nat} {L : List (Option Value)} {ls ls' : Array Slot} {n i : Nat} {v : Value} (hi : i < n) (h : VL ad L ls n) (h' : lv_has ls' n ((i, rv ad v) :: (toA ad L).filter (fun q => !(q.1 == i) && !(q.1 + 1 == i && q.2.category == 2)))) : VL ad (st1 L i v) ls' n := by
  refine ⟨h'.1, h'.2.1, fun j w hj => ?_⟩
  unfold st1 at hj
  by_cases hji : i = j
  · subst hji
    have hl := (List.getElem?_eq_some_iff.mp hj).1
    rw [List.length_set] at hl
    rw [List.getElem?_set_self hl] at hj
    cases hj
    exact h'.2.2 (i, rv ad v) List.mem_cons_self
  · rw [List.getElem?_set_ne hji] at hj
    obtain ⟨h1, h2⟩ := clr_get hj
    refine h'.2.2 (j, rv ad w) (List.mem_cons_of_mem _ (List.mem_filter.mpr ⟨toA_mem.mpr ⟨w, h1, rfl⟩, ?_⟩))
    have e1 : (j == i) = false := by simpa using fun e => hji e.symm
    simp only [e1, Bool.not_false, Bool.true_and, Bool.not_eq_true', Bool.and_eq_false_iff]
    by_cases hc : j + 1 = i
    · right
      have : (rv ad w).category ≠ 2 := fun hcat => by
        rcases cat_long hcat with ⟨x, rfl⟩ | ⟨x, rfl⟩
        · exact (h2 hc).1 x rfl
        · exact (h2 hc).2 x rfl
      simpa using this
    · left
      simpa using hc
theorem VL.s2 {ad : Nat → Nat} {L : List (Option Value)} {ls ls' : Array Slot} {n i : Nat} {v : Value} (hi : i + 1 < n) (h : VL ad L ls n) (h' : lv_has ls' n ((i, rv ad v) :: (toA ad L).filter (fun q => !(q.1 == i) && (!(q.1 == i + 1) && !(q.1 + 1 == i && q.2.category == 2))))) : VL ad (st2 L i v) ls' n := by
  refine ⟨h'.1, h'.2.1, fun j w hj => ?_⟩
  unfold st2 at hj
  by_cases hj1 : i + 1 = j
  · subst hj1
    have hl := (List.getElem?_eq_some_iff.mp hj).1
    rw [List.length_set] at hl
    rw [List.getElem?_set_self hl] at hj
    cases hj
  rw [List.getElem?_set_ne hj1] at hj
  by_cases hji : i = j
  · subst hji
    have hl := (List.getElem?_eq_some_iff.mp hj).1
    rw [List.length_set] at hl
    rw [List.getElem?_set_self hl] at hj
    cases hj
    exact h'.2.2 (i, rv ad v) List.mem_cons_self
  · rw [List.getElem?_set_ne hji] at hj
    obtain ⟨h1, h2⟩ := clr_get hj
    refine h'.2.2 (j, rv ad w) (List.mem_cons_of_mem _ (List.mem_filter.mpr ⟨toA_mem.mpr ⟨w, h1, rfl⟩, ?_⟩))
    have e1 : (j == i) = false := by simpa using fun e => hji e.symm
    have e2 : (j == i + 1) = false := by simpa using fun e => hj1 e.symm
    simp only [e1, e2, Bool.not_false, Bool.true_and, Bool.not_eq_true', Bool.and_eq_false_iff]
    by_cases hc : j + 1 = i
    · right
      have : (rv ad w).category ≠ 2 := fun hcat => by
        rcases cat_long hcat with ⟨x, rfl⟩ | ⟨x, rfl⟩
        · exact (h2 hc).1 x rfl
        · exact (h2 hc).2 x rfl
      simpa using this
    · left
      simpa using hc

theorem ent_len (ad : Nat → Nat) (vs : List Value) : (lg_sl (vs.map (rv ad))).length = (entA vs).length := by
  induction vs with
  | nil => rfl
  | cons v vs ih =>
    have e : lg_sl ((v :: vs).map (rv ad)) = (if (rv ad v).category = 2 then [.val (rv ad v), .second] else [.val (rv ad v)]) ++ lg_sl (vs.map (rv ad)) := by simp [lg_sl]
    rw [e, List.length_append, ih]
    cases v <;> simp [rv, Value.category, entA] <;> omega
theorem ent_mem (ad : Nat → Nat) : ∀ (vs : List Value) (off i : Nat) (v : Value), (entA vs)[i]? = some (some v) → (off + i, rv ad v) ∈ lv_args off (vs.map (rv ad)) := by
  intro vs
  induction vs with
  | nil => intro off i v h; simp [entA] at h
  | cons w vs ih =>
    intro off i v h
    have one : ∀ (hc : (rv ad w).category ≠ 2) (he : entA (w :: vs) = some w :: entA vs), (off + i, rv ad v) ∈ lv_args off ((w :: vs).map (rv ad)) := by
      intro hc he
      rw [he] at h
      rw [List.map_cons, lv_args, if_neg hc]
      cases i with
      | zero => rw [List.getElem?_cons_zero] at h; cases h; exact List.mem_cons_self
      | succ i =>
        rw [List.getElem?_cons_succ] at h
        have := ih (off + 1) i v h
        rw [show off + 1 + i = off + (i + 1) by omega] at this
        exact List.mem_cons_of_mem _ this
    have two : ∀ (hc : (rv ad w).category = 2) (he : entA (w :: vs) = some w :: none :: entA vs), (off + i, rv ad v) ∈ lv_args off ((w :: vs).map (rv ad)) := by
      intro hc he
      rw [he] at h
      rw [List.map_cons, lv_args, if_pos hc]
      match i, h with
      | 0, h => rw [List.getElem?_cons_zero] at h; cases h; exact List.mem_cons_self
      | 1, h => rw [List.getElem?_cons_succ, List.getElem?_cons_zero] at h; cases h
      | i + 2, h =>
        rw [List.getElem?_cons_succ, List.getElem?_cons_succ] at h
        have := ih (off + 2) i v h
        rw [show off + 2 + i = off + (i + 2) by omega] at this
        exact List.mem_cons_of_mem _ this
    cases w with
    | long x => exact two rfl rfl
    | double x => exact two rfl rfl
    | _ => exact one (by simp [rv, Value.category]) rfl
theorem VL.ent (ad : Nat → Nat) {vs : List Value} {n : Nat} (h : (entA vs).length ≤ n) : VL ad (entL n vs) ((lg_sl (vs.map (rv ad)) ++ List.replicate (n - (lg_sl (vs.map (rv ad))).length) Slot.unset).toArray) n := by
  have h1 := lv_entry (vs.map (rv ad)) (n := n) (by rw [ent_len]; exact h)
  refine ⟨h1.1, h1.2.1, fun i v hv => ?_⟩
  unfold entL at hv
  by_cases hi : i < (entA vs).length
  · rw [List.getElem?_append_left hi] at hv
    have := ent_mem ad vs 0 i v hv
    rw [Nat.zero_add] at this
    exact h1.2.2 (i, rv ad v) this
  · rw [List.getElem?_append_right (by omega)] at hv
    have := List.mem_of_getElem? hv
    simp at this
theorem EvM.of {M : Mt} {k : Nat} {args : List Value} {σ : Sto} {Q : Option Value → Sto → Prop} (hM : MOK M) (hlen : (entA args).length ≤ mL M) (h : WW M k Q 0 (entL (mL M) args) [] σ) : EvM k M args σ Q := by
  intro l D cy ad
  refine Met.ofW (cc := mB M) (maxL := mL M) (ret := mR M) hM.1 hM.2.1 ?_
  intro p e s m args' below meth c s₁ B hml hv
  obtain ⟨rfl, hP, hK, hD, hZ⟩ := hv
  have hown : s.vm.findClass (mO M) = some m.cls := hM.2.2.1 ▸ findClass_of_methodNamed B.named
  rw [lg_entry_eq]
  exact h l p e s m _ below meth c D cy ad ⟨B.exec, B.bytes, hml, B.returns, B.notSynchronized, hown, atoms_spec (ws := mW M) B.pre, hK, hZ⟩ s.heap [] _ (VL.ent ad hlen) ⟨hP, hD, va_S.rf⟩
end
section
/-! PREDICATE TRANSFORMERS: k frames left, Q the method's end, K what goes on -/
abbrev Op : Type := Nat → (Option Value → Sto → Prop) → (Nat → List (Option Value) → List Value → Sto → Prop) → Nat → List (Option Value) → List Value → Sto → Prop
def OpOK (M : Mt) (pc : Nat) (op : Op) : Prop := ∀ (k : Nat) (Q : Option Value → Sto → Prop) (K : Nat → List (Option Value) → List Value → Sto → Prop) (L : List (Option Value)) (S : List Value) (σ : Sto),
  op k Q K pc L S σ → (∀ pc' L' S' σ', K pc' L' S' σ' → WW M k Q pc' L' S' σ') → WW M k Q pc L S σ
def isC (a ci : Nat) : Bool := match shpL[a]? with
  | some (0, c) => Nat.beq c ci
  | _ => false
theorem isC_ok {a ci : Nat} (h : isC a ci = true) : shpL[a]? = some (0, ci) := by
  unfold isC at h
  split at h
  · rename_i c hc
    rw [hc, Nat.eq_of_beq_eq_true h]
  · cases h
def arr (a t : Nat) : Option Nat := match shpL[a]? with
  | some (t', n) => match Nat.beq t' t with
    | true => some n
    | false => none
  | none => none
theorem arr_ok {a t n : Nat} (h : arr a t = some n) : shpL[a]? = some (t, n) := by
  unfold arr at h
  split at h
  · rename_i t' n' hc
    split at h
    · rename_i hb
      cases h
      rw [hc, Nat.eq_of_beq_eq_true hb]
    · cases h
  · cases h
def inL (l : List Nat) (x : Nat) : Bool := match l with
  | [] => false
  | y :: l => match Nat.beq y x with
    | true => true
    | false => inL l x
def fnd (T : List (Nat × Op)) (pc : Nat) : Option Op := match T with
  | [] => none
  | r :: T => match Nat.beq r.1 pc with
    | true => some r.2
    | false => fnd T pc
theorem fnd_ok {T : List (Nat × Op)} {pc : Nat} {op : Op} (h : fnd T pc = some op) : (pc, op) ∈ T := by
  induction T with
  | nil => cases h
  | cons r T ih =>
    unfold fnd at h
    split at h
    · rename_i hb
      cases h
      rw [← Nat.eq_of_beq_eq_true hb]
      exact List.mem_cons_self
    · exact List.mem_cons_of_mem _ (ih h)
/-- what must hold for the machine to come from here to Q, or to a place of 'cut' with K; n instructions at most -/
def wp (T : List (Nat × Op)) (cut : List Nat) (k : Nat) (Q : Option Value → Sto → Prop) (K : Nat → List (Option Value) → List Value → Sto → Prop) : Nat → Nat → List (Option Value) → List Value → Sto → Prop
  | 0, _, _, _, _ => False
  | n + 1, pc, L, S, σ => match fnd T pc with
    | none => False
    | some op => op k Q (fun pc' L' S' σ' => match inL cut pc' with
      | true => K pc' L' S' σ'
      | false => wp T cut k Q K n pc' L' S' σ') pc L S σ
theorem wp_ok {M : Mt} {T : List (Nat × Op)} (hT : ∀ r ∈ T, OpOK M r.1 r.2) {cut : List Nat} {k : Nat} {Q : Option Value → Sto → Prop} {K : Nat → List (Option Value) → List Value → Sto → Prop} (hK : ∀ pc L S σ, K pc L S σ → WW M k Q pc L S σ) : ∀ n pc L S σ, wp T cut k Q K n pc L S σ → WW M k Q pc L S σ := by
  intro n
  induction n with
  | zero => intro pc L S σ h; exact h.elim
  | succ n ih =>
    intro pc L S σ h
    unfold wp at h
    split at h
    · exact h.elim
    · rename_i op hop
      refine hT _ (fnd_ok hop) k Q _ L S σ h (fun pc' L' S' σ' h' => ?_)
      split at h'
      · exact hK _ _ _ _ h'
      · exact ih _ _ _ _ h'

def op_iadd : Op := fun _ _ K pc L S σ => match S with
  | .int y :: .int x :: S => K (pc + 1) L (.int (x + y) :: S) σ
  | _ => False
theorem ok_iadd {M : Mt} {pc : Nat} (hd : decode (mB M) pc = .ok (.iadd, 1)) : OpOK M pc (op_iadd) := by
  intro k Q K L S σ h hk
  unfold op_iadd at h
  split at h
  · intro l p e s m args below meth c D cy ad C H locs ls hl hW
    exact lv_iadd C.1 C.2.1 hd (hk _ _ _ _ h l p e s m args below meth c D cy ad C H locs ls hl hW)
  · exact h.elim
def op_isub : Op := fun _ _ K pc L S σ => match S with
  | .int y :: .int x :: S => K (pc + 1) L (.int (x - y) :: S) σ
  | _ => False
theorem ok_isub {M : Mt} {pc : Nat} (hd : decode (mB M) pc = .ok (.isub, 1)) : OpOK M pc (op_isub) := by
  intro k Q K L S σ h hk
  unfold op_isub at h
  split at h
  · intro l p e s m args below meth c D cy ad C H locs ls hl hW
    exact lv_isub C.1 C.2.1 hd (hk _ _ _ _ h l p e s m args below meth c D cy ad C H locs ls hl hW)
  · exact h.elim
def op_imul : Op := fun _ _ K pc L S σ => match S with
  | .int y :: .int x :: S => K (pc + 1) L (.int (x * y) :: S) σ
  | _ => False
theorem ok_imul {M : Mt} {pc : Nat} (hd : decode (mB M) pc = .ok (.imul, 1)) : OpOK M pc (op_imul) := by
  intro k Q K L S σ h hk
  unfold op_imul at h
  split at h
  · intro l p e s m args below meth c D cy ad C H locs ls hl hW
    exact lv_imul C.1 C.2.1 hd (hk _ _ _ _ h l p e s m args below meth c D cy ad C H locs ls hl hW)
  · exact h.elim
def op_iand : Op := fun _ _ K pc L S σ => match S with
  | .int y :: .int x :: S => K (pc + 1) L (.int (x &&& y) :: S) σ
  | _ => False
theorem ok_iand {M : Mt} {pc : Nat} (hd : decode (mB M) pc = .ok (.iand, 1)) : OpOK M pc (op_iand) := by
  intro k Q K L S σ h hk
  unfold op_iand at h
  split at h
  · intro l p e s m args below meth c D cy ad C H locs ls hl hW
    exact lv_iand C.1 C.2.1 hd (hk _ _ _ _ h l p e s m args below meth c D cy ad C H locs ls hl hW)
  · exact h.elim
def op_ior : Op := fun _ _ K pc L S σ => match S with
  | .int y :: .int x :: S => K (pc + 1) L (.int (x ||| y) :: S) σ
  | _ => False
theorem ok_ior {M : Mt} {pc : Nat} (hd : decode (mB M) pc = .ok (.ior, 1)) : OpOK M pc (op_ior) := by
  intro k Q K L S σ h hk
  unfold op_ior at h
  split at h
  · intro l p e s m args below meth c D cy ad C H locs ls hl hW
    exact lv_ior C.1 C.2.1 hd (hk _ _ _ _ h l p e s m args below meth c D cy ad C H locs ls hl hW)
  · exact h.elim
def op_ixor : Op := fun _ _ K pc L S σ => match S with
  | .int y :: .int x :: S => K (pc + 1) L (.int (x ^^^ y) :: S) σ
  | _ => False
theorem ok_ixor {M : Mt} {pc : Nat} (hd : decode (mB M) pc = .ok (.ixor, 1)) : OpOK M pc (op_ixor) := by
  intro k Q K L S σ h hk
  unfold op_ixor at h
  split at h
  · intro l p e s m args below meth c D cy ad C H locs ls hl hW
    exact lv_ixor C.1 C.2.1 hd (hk _ _ _ _ h l p e s m args below meth c D cy ad C H locs ls hl hW)
  · exact h.elim
def op_ishl : Op := fun _ _ K pc L S σ => match S with
  | .int y :: .int x :: S => K (pc + 1) L (.int (x <<< (y &&& 31)) :: S) σ
  | _ => False
theorem ok_ishl {M : Mt} {pc : Nat} (hd : decode (mB M) pc = .ok (.ishl, 1)) : OpOK M pc (op_ishl) := by
  intro k Q K L S σ h hk
  unfold op_ishl at h
  split at h
  · intro l p e s m args below meth c D cy ad C H locs ls hl hW
    exact lv_ishl C.1 C.2.1 hd (hk _ _ _ _ h l p e s m args below meth c D cy ad C H locs ls hl hW)
  · exact h.elim
def op_ishr : Op := fun _ _ K pc L S σ => match S with
  | .int y :: .int x :: S => K (pc + 1) L (.int (x >>> (y &&& 31)) :: S) σ
  | _ => False
theorem ok_ishr {M : Mt} {pc : Nat} (hd : decode (mB M) pc = .ok (.ishr, 1)) : OpOK M pc (op_ishr) := by
  intro k Q K L S σ h hk
  unfold op_ishr at h
  split at h
  · intro l p e s m args below meth c D cy ad C H locs ls hl hW
    exact lv_ishr C.1 C.2.1 hd (hk _ _ _ _ h l p e s m args below meth c D cy ad C H locs ls hl hW)
  · exact h.elim
def op_iushr : Op := fun _ _ K pc L S σ => match S with
  | .int y :: .int x :: S => K (pc + 1) L (.int ((x.toUInt32 >>> (y.toUInt32 &&& Int32.toUInt32 31)).toInt32) :: S) σ
  | _ => False
theorem ok_iushr {M : Mt} {pc : Nat} (hd : decode (mB M) pc = .ok (.iushr, 1)) : OpOK M pc (op_iushr) := by
  intro k Q K L S σ h hk
  unfold op_iushr at h
  split at h
  · intro l p e s m args below meth c D cy ad C H locs ls hl hW
    exact lv_iushr C.1 C.2.1 hd rfl (hk _ _ _ _ h l p e s m args below meth c D cy ad C H locs ls hl hW)
  · exact h.elim
def op_idiv : Op := fun _ _ K pc L S σ => match S with
  | .int y :: .int x :: S => ¬ y = 0 ∧ K (pc + 1) L (.int (x / y) :: S) σ
  | _ => False
theorem ok_idiv {M : Mt} {pc : Nat} (hd : decode (mB M) pc = .ok (.idiv, 1)) : OpOK M pc (op_idiv) := by
  intro k Q K L S σ h hk
  unfold op_idiv at h
  split at h
  · obtain ⟨hc, h⟩ := h
    intro l p e s m args below meth c D cy ad C H locs ls hl hW
    exact lv_idiv C.1 C.2.1 hd hc (hk _ _ _ _ h l p e s m args below meth c D cy ad C H locs ls hl hW)
  · exact h.elim
def op_irem : Op := fun _ _ K pc L S σ => match S with
  | .int y :: .int x :: S => ¬ y = 0 ∧ K (pc + 1) L (.int (x - x / y * y) :: S) σ
  | _ => False
theorem ok_irem {M : Mt} {pc : Nat} (hd : decode (mB M) pc = .ok (.irem, 1)) : OpOK M pc (op_irem) := by
  intro k Q K L S σ h hk
  unfold op_irem at h
  split at h
  · obtain ⟨hc, h⟩ := h
    intro l p e s m args below meth c D cy ad C H locs ls hl hW
    exact lv_irem C.1 C.2.1 hd hc (hk _ _ _ _ h l p e s m args below meth c D cy ad C H locs ls hl hW)
  · exact h.elim
def op_ineg : Op := fun _ _ K pc L S σ => match S with
  | .int x :: S => K (pc + 1) L (.int (-x) :: S) σ
  | _ => False
theorem ok_ineg {M : Mt} {pc : Nat} (hd : decode (mB M) pc = .ok (.ineg, 1)) : OpOK M pc (op_ineg) := by
  intro k Q K L S σ h hk
  unfold op_ineg at h
  split at h
  · intro l p e s m args below meth c D cy ad C H locs ls hl hW
    exact lv_ineg C.1 C.2.1 hd (hk _ _ _ _ h l p e s m args below meth c D cy ad C H locs ls hl hW)
  · exact h.elim
def op_ladd : Op := fun _ _ K pc L S σ => match S with
  | .long y :: .long x :: S => K (pc + 1) L (.long (x + y) :: S) σ
  | _ => False
theorem ok_ladd {M : Mt} {pc : Nat} (hd : decode (mB M) pc = .ok (.ladd, 1)) : OpOK M pc (op_ladd) := by
  intro k Q K L S σ h hk
  unfold op_ladd at h
  split at h
  · intro l p e s m args below meth c D cy ad C H locs ls hl hW
    exact lv_ladd C.1 C.2.1 hd (hk _ _ _ _ h l p e s m args below meth c D cy ad C H locs ls hl hW)
  · exact h.elim
def op_lmul : Op := fun _ _ K pc L S σ => match S with
  | .long y :: .long x :: S => K (pc + 1) L (.long (x * y) :: S) σ
  | _ => False
theorem ok_lmul {M : Mt} {pc : Nat} (hd : decode (mB M) pc = .ok (.lmul, 1)) : OpOK M pc (op_lmul) := by
  intro k Q K L S σ h hk
  unfold op_lmul at h
  split at h
  · intro l p e s m args below meth c D cy ad C H locs ls hl hW
    exact lv_lmul C.1 C.2.1 hd (hk _ _ _ _ h l p e s m args below meth c D cy ad C H locs ls hl hW)
  · exact h.elim
def op_land : Op := fun _ _ K pc L S σ => match S with
  | .long y :: .long x :: S => K (pc + 1) L (.long (x &&& y) :: S) σ
  | _ => False
theorem ok_land {M : Mt} {pc : Nat} (hd : decode (mB M) pc = .ok (.land, 1)) : OpOK M pc (op_land) := by
  intro k Q K L S σ h hk
  unfold op_land at h
  split at h
  · intro l p e s m args below meth c D cy ad C H locs ls hl hW
    exact lv_land C.1 C.2.1 hd (hk _ _ _ _ h l p e s m args below meth c D cy ad C H locs ls hl hW)
  · exact h.elim
def op_lor : Op := fun _ _ K pc L S σ => match S with
  | .long y :: .long x :: S => K (pc + 1) L (.long (x ||| y) :: S) σ
  | _ => False
theorem ok_lor {M : Mt} {pc : Nat} (hd : decode (mB M) pc = .ok (.lor, 1)) : OpOK M pc (op_lor) := by
  intro k Q K L S σ h hk
  unfold op_lor at h
  split at h
  · intro l p e s m args below meth c D cy ad C H locs ls hl hW
    exact lv_lor C.1 C.2.1 hd (hk _ _ _ _ h l p e s m args below meth c D cy ad C H locs ls hl hW)
  · exact h.elim
def op_ldiv : Op := fun _ _ K pc L S σ => match S with
  | .long y :: .long x :: S => ¬ y = 0 ∧ K (pc + 1) L (.long (x / y) :: S) σ
  | _ => False
theorem ok_ldiv {M : Mt} {pc : Nat} (hd : decode (mB M) pc = .ok (.ldiv, 1)) : OpOK M pc (op_ldiv) := by
  intro k Q K L S σ h hk
  unfold op_ldiv at h
  split at h
  · obtain ⟨hc, h⟩ := h
    intro l p e s m args below meth c D cy ad C H locs ls hl hW
    exact lv_ldiv C.1 C.2.1 hd hc (hk _ _ _ _ h l p e s m args below meth c D cy ad C H locs ls hl hW)
  · exact h.elim
def op_lrem : Op := fun _ _ K pc L S σ => match S with
  | .long y :: .long x :: S => ¬ y = 0 ∧ K (pc + 1) L (.long (x - x / y * y) :: S) σ
  | _ => False
theorem ok_lrem {M : Mt} {pc : Nat} (hd : decode (mB M) pc = .ok (.lrem, 1)) : OpOK M pc (op_lrem) := by
  intro k Q K L S σ h hk
  unfold op_lrem at h
  split at h
  · obtain ⟨hc, h⟩ := h
    intro l p e s m args below meth c D cy ad C H locs ls hl hW
    exact lv_lrem C.1 C.2.1 hd hc (hk _ _ _ _ h l p e s m args below meth c D cy ad C H locs ls hl hW)
  · exact h.elim
def op_lshl : Op := fun _ _ K pc L S σ => match S with
  | .int y :: .long x :: S => K (pc + 1) L (.long (x <<< (y.toInt64 &&& 63)) :: S) σ
  | _ => False
theorem ok_lshl {M : Mt} {pc : Nat} (hd : decode (mB M) pc = .ok (.lshl, 1)) : OpOK M pc (op_lshl) := by
  intro k Q K L S σ h hk
  unfold op_lshl at h
  split at h
  · intro l p e s m args below meth c D cy ad C H locs ls hl hW
    exact lv_lshl C.1 C.2.1 hd rfl (hk _ _ _ _ h l p e s m args below meth c D cy ad C H locs ls hl hW)
  · exact h.elim
def op_lshr : Op := fun _ _ K pc L S σ => match S with
  | .int y :: .long x :: S => K (pc + 1) L (.long (x >>> (y.toInt64 &&& 63)) :: S) σ
  | _ => False
theorem ok_lshr {M : Mt} {pc : Nat} (hd : decode (mB M) pc = .ok (.lshr, 1)) : OpOK M pc (op_lshr) := by
  intro k Q K L S σ h hk
  unfold op_lshr at h
  split at h
  · intro l p e s m args below meth c D cy ad C H locs ls hl hW
    exact lv_lshr C.1 C.2.1 hd rfl (hk _ _ _ _ h l p e s m args below meth c D cy ad C H locs ls hl hW)
  · exact h.elim
def op_lcmp : Op := fun _ _ K pc L S σ => match S with
  | .long y :: .long x :: S => K (pc + 1) L (.int (lg_cmp x y) :: S) σ
  | _ => False
theorem ok_lcmp {M : Mt} {pc : Nat} (hd : decode (mB M) pc = .ok (.lcmp, 1)) : OpOK M pc (op_lcmp) := by
  intro k Q K L S σ h hk
  unfold op_lcmp at h
  split at h
  · intro l p e s m args below meth c D cy ad C H locs ls hl hW
    exact W.lcmp C.1 C.2.1 hd (hk _ _ _ _ h l p e s m args below meth c D cy ad C H locs ls hl hW)
  · exact h.elim
def op_i2l : Op := fun _ _ K pc L S σ => match S with
  | .int x :: S => K (pc + 1) L (.long x.toInt64 :: S) σ
  | _ => False
theorem ok_i2l {M : Mt} {pc : Nat} (hd : decode (mB M) pc = .ok (.i2l, 1)) : OpOK M pc (op_i2l) := by
  intro k Q K L S σ h hk
  unfold op_i2l at h
  split at h
  · intro l p e s m args below meth c D cy ad C H locs ls hl hW
    exact lv_i2l C.1 C.2.1 hd rfl (hk _ _ _ _ h l p e s m args below meth c D cy ad C H locs ls hl hW)
  · exact h.elim
def op_l2i : Op := fun _ _ K pc L S σ => match S with
  | .long x :: S => K (pc + 1) L (.int x.toInt32 :: S) σ
  | _ => False
theorem ok_l2i {M : Mt} {pc : Nat} (hd : decode (mB M) pc = .ok (.l2i, 1)) : OpOK M pc (op_l2i) := by
  intro k Q K L S σ h hk
  unfold op_l2i at h
  split at h
  · intro l p e s m args below meth c D cy ad C H locs ls hl hW
    exact lv_l2i C.1 C.2.1 hd rfl (hk _ _ _ _ h l p e s m args below meth c D cy ad C H locs ls hl hW)
  · exact h.elim
def op_i2b : Op := fun _ _ K pc L S σ => match S with
  | .int x :: S => K (pc + 1) L (.int x.toInt8.toInt32 :: S) σ
  | _ => False
theorem ok_i2b {M : Mt} {pc : Nat} (hd : decode (mB M) pc = .ok (.i2b, 1)) : OpOK M pc (op_i2b) := by
  intro k Q K L S σ h hk
  unfold op_i2b at h
  split at h
  · intro l p e s m args below meth c D cy ad C H locs ls hl hW
    exact lv_i2b C.1 C.2.1 hd rfl (hk _ _ _ _ h l p e s m args below meth c D cy ad C H locs ls hl hW)
  · exact h.elim
def op_i2s : Op := fun _ _ K pc L S σ => match S with
  | .int x :: S => K (pc + 1) L (.int x.toInt16.toInt32 :: S) σ
  | _ => False
theorem ok_i2s {M : Mt} {pc : Nat} (hd : decode (mB M) pc = .ok (.i2s, 1)) : OpOK M pc (op_i2s) := by
  intro k Q K L S σ h hk
  unfold op_i2s at h
  split at h
  · intro l p e s m args below meth c D cy ad C H locs ls hl hW
    exact lv_i2s C.1 C.2.1 hd rfl (hk _ _ _ _ h l p e s m args below meth c D cy ad C H locs ls hl hW)
  · exact h.elim
def op_i2c : Op := fun _ _ K pc L S σ => match S with
  | .int x :: S => K (pc + 1) L (.int (x.toUInt32 % 65536).toInt32 :: S) σ
  | _ => False
theorem ok_i2c {M : Mt} {pc : Nat} (hd : decode (mB M) pc = .ok (.i2c, 1)) : OpOK M pc (op_i2c) := by
  intro k Q K L S σ h hk
  unfold op_i2c at h
  split at h
  · intro l p e s m args below meth c D cy ad C H locs ls hl hW
    exact lv_i2c C.1 C.2.1 hd rfl (hk _ _ _ _ h l p e s m args below meth c D cy ad C H locs ls hl hW)
  · exact h.elim
def op_ic (v : Int32) (n : Nat) : Op := fun _ _ K pc L S σ => K (pc + n) L (.int v :: S) σ
def op_lc (v : Int64) (n : Nat) : Op := fun _ _ K pc L S σ => K (pc + n) L (.long v :: S) σ
theorem ok_iconst {M : Mt} {pc : Nat} {n : Int} {v : Int32} (hd : decode (mB M) pc = .ok (.iconst n, 1)) (hv : Int32.ofInt n = v) : OpOK M pc (op_ic v 1) := by
  intro k Q K L S σ h hk
  intro l p e s m args below meth c D cy ad C H locs ls hl hW
  exact lv_iconst C.1 C.2.1 hd hv (hk _ _ _ _ h l p e s m args below meth c D cy ad C H locs ls hl hW)
theorem ok_bipush {M : Mt} {pc : Nat} {n : Int} {v : Int32} (hd : decode (mB M) pc = .ok (.bipush n, 2)) (hv : (Int8.ofInt n).toInt32 = v) : OpOK M pc (op_ic v 2) := by
  intro k Q K L S σ h hk
  intro l p e s m args below meth c D cy ad C H locs ls hl hW
  exact lv_bipush C.1 C.2.1 hd hv (hk _ _ _ _ h l p e s m args below meth c D cy ad C H locs ls hl hW)
theorem ok_sipush {M : Mt} {pc : Nat} {n : Int} {v : Int32} (hd : decode (mB M) pc = .ok (.sipush n, 3)) (hv : (Int16.ofInt n).toInt32 = v) : OpOK M pc (op_ic v 3) := by
  intro k Q K L S σ h hk
  intro l p e s m args below meth c D cy ad C H locs ls hl hW
  exact lv_sipush C.1 C.2.1 hd hv (hk _ _ _ _ h l p e s m args below meth c D cy ad C H locs ls hl hW)
theorem ok_ldc {M : Mt} {pc i : Nat} {v : Int32} (hM : MOK M) (hw : Cond.constant (mO M) i v ∈ UW) (hd : decode (mB M) pc = .ok (.ldc i, 2)) : OpOK M pc (op_ic v 2) := by
  intro k Q K L S σ h hk
  intro l p e s m args below meth c D cy ad C H locs ls hl hW
  exact lv_ldc C.1 C.2.1 C.2.2.2.2.2.1 (hM.w C.2.2.2.2.2.2.1 hw) hd (hk _ _ _ _ h l p e s m args below meth c D cy ad C H locs ls hl hW)
theorem ok_ldcw {M : Mt} {pc i : Nat} {v : Int32} (hM : MOK M) (hw : Cond.constant (mO M) i v ∈ UW) (hd : decode (mB M) pc = .ok (.ldc_w i, 3)) : OpOK M pc (op_ic v 3) := by
  intro k Q K L S σ h hk
  intro l p e s m args below meth c D cy ad C H locs ls hl hW
  exact lv_ldcw C.1 C.2.1 C.2.2.2.2.2.1 (hM.w C.2.2.2.2.2.2.1 hw) hd (hk _ _ _ _ h l p e s m args below meth c D cy ad C H locs ls hl hW)
theorem ok_lconst {M : Mt} {pc : Nat} {n : Fin 2} {v : Int64} (hd : decode (mB M) pc = .ok (.lconst n, 1)) (hv : Int64.ofNat (n : Nat) = v) : OpOK M pc (op_lc v 1) := by
  intro k Q K L S σ h hk
  intro l p e s m args below meth c D cy ad C H locs ls hl hW
  exact lv_lconst C.1 C.2.1 hd hv (hk _ _ _ _ h l p e s m args below meth c D cy ad C H locs ls hl hW)
theorem ok_ldc2 {M : Mt} {pc i : Nat} {v : Int64} (hM : MOK M) (hw : Cond.constantLong (mO M) i v ∈ UW) (hd : decode (mB M) pc = .ok (.ldc2_w i, 3)) : OpOK M pc (op_lc v 3) := by
  intro k Q K L S σ h hk
  intro l p e s m args below meth c D cy ad C H locs ls hl hW
  exact lv_ldc2 C.1 C.2.1 C.2.2.2.2.2.1 (hM.w C.2.2.2.2.2.2.1 hw) hd (hk _ _ _ _ h l p e s m args below meth c D cy ad C H locs ls hl hW)
def op_ild (i n : Nat) : Op := fun _ _ K pc L S σ => match L[i]? with
  | some (some (.int x)) => K (pc + n) L (.int x :: S) σ
  | _ => False
theorem ok_ildn {M : Mt} {pc i : Nat} {q : Fin 4} (hd : decode (mB M) pc = .ok (.iload_n q, 1)) (hi : (q : Nat) = i) : OpOK M pc (op_ild i 1) := by
  intro k Q K L S σ h hk
  unfold op_ild at h
  split at h
  · rename_i x hx
    intro l p e s m args below meth c D cy ad C H locs ls hl hW
    exact lv_iload_n C.1 C.2.1 hd hi (hl.2.2 _ _ hx) (hk _ _ _ _ h l p e s m args below meth c D cy ad C H locs ls hl hW)
  · exact h.elim
theorem ok_ild {M : Mt} {pc i : Nat} (hd : decode (mB M) pc = .ok (.iload i, 2)) : OpOK M pc (op_ild i 2) := by
  intro k Q K L S σ h hk
  unfold op_ild at h
  split at h
  · rename_i x hx
    intro l p e s m args below meth c D cy ad C H locs ls hl hW
    exact lv_iload C.1 C.2.1 hd (hl.2.2 _ _ hx) (hk _ _ _ _ h l p e s m args below meth c D cy ad C H locs ls hl hW)
  · exact h.elim
def op_ist (i n : Nat) : Op := fun _ _ K pc L S σ => match S with
  | .int x :: S => K (pc + n) (st1 L i (.int x)) S σ
  | _ => False
theorem ok_istn {M : Mt} {pc i : Nat} {q : Fin 4} (hd : decode (mB M) pc = .ok (.istore_n q, 1)) (hi : (q : Nat) = i) (hb : i < mL M) : OpOK M pc (op_ist i 1) := by
  intro k Q K L S σ h hk
  unfold op_ist at h
  split at h
  · rename_i x S
    intro l p e s m args below meth c D cy ad C H locs ls hl hW
    exact lv_istore_n C.1 C.2.1 hd hi hl.has hb rfl (fun ls2 hl2 => hk _ _ _ _ h l p e s m args below meth c D cy ad C H locs ls2 (VL.s1 (v := .int x) hb hl hl2) hW)
  · exact h.elim
theorem ok_ist {M : Mt} {pc i : Nat} (hd : decode (mB M) pc = .ok (.istore i, 2)) (hb : i < mL M) : OpOK M pc (op_ist i 2) := by
  intro k Q K L S σ h hk
  unfold op_ist at h
  split at h
  · rename_i x S
    intro l p e s m args below meth c D cy ad C H locs ls hl hW
    exact lv_istore C.1 C.2.1 hd hl.has hb rfl (fun ls2 hl2 => hk _ _ _ _ h l p e s m args below meth c D cy ad C H locs ls2 (VL.s1 (v := .int x) hb hl hl2) hW)
  · exact h.elim
def op_lld (i n : Nat) : Op := fun _ _ K pc L S σ => match L[i]? with
  | some (some (.long x)) => K (pc + n) L (.long x :: S) σ
  | _ => False
theorem ok_lldn {M : Mt} {pc i : Nat} {q : Fin 4} (hd : decode (mB M) pc = .ok (.lload_n q, 1)) (hi : (q : Nat) = i) : OpOK M pc (op_lld i 1) := by
  intro k Q K L S σ h hk
  unfold op_lld at h
  split at h
  · rename_i x hx
    intro l p e s m args below meth c D cy ad C H locs ls hl hW
    exact lv_lload_n C.1 C.2.1 hd hi (hl.2.2 _ _ hx) (hk _ _ _ _ h l p e s m args below meth c D cy ad C H locs ls hl hW)
  · exact h.elim
theorem ok_lld {M : Mt} {pc i : Nat} (hd : decode (mB M) pc = .ok (.lload i, 2)) : OpOK M pc (op_lld i 2) := by
  intro k Q K L S σ h hk
  unfold op_lld at h
  split at h
  · rename_i x hx
    intro l p e s m args below meth c D cy ad C H locs ls hl hW
    exact lv_lload C.1 C.2.1 hd (hl.2.2 _ _ hx) (hk _ _ _ _ h l p e s m args below meth c D cy ad C H locs ls hl hW)
  · exact h.elim
def op_lst (i n : Nat) : Op := fun _ _ K pc L S σ => match S with
  | .long x :: S => K (pc + n) (st2 L i (.long x)) S σ
  | _ => False
theorem ok_lstn {M : Mt} {pc i : Nat} {q : Fin 4} (hd : decode (mB M) pc = .ok (.lstore_n q, 1)) (hi : (q : Nat) = i) (hb : i + 1 < mL M) : OpOK M pc (op_lst i 1) := by
  intro k Q K L S σ h hk
  unfold op_lst at h
  split at h
  · rename_i x S
    intro l p e s m args below meth c D cy ad C H locs ls hl hW
    exact lv_lstore_n C.1 C.2.1 hd hi hl.has hb rfl (fun ls2 hl2 => hk _ _ _ _ h l p e s m args below meth c D cy ad C H locs ls2 (VL.s2 (v := .long x) hb hl hl2) hW)
  · exact h.elim
theorem ok_lst {M : Mt} {pc i : Nat} (hd : decode (mB M) pc = .ok (.lstore i, 2)) (hb : i + 1 < mL M) : OpOK M pc (op_lst i 2) := by
  intro k Q K L S σ h hk
  unfold op_lst at h
  split at h
  · rename_i x S
    intro l p e s m args below meth c D cy ad C H locs ls hl hW
    exact lv_lstore C.1 C.2.1 hd hl.has hb rfl (fun ls2 hl2 => hk _ _ _ _ h l p e s m args below meth c D cy ad C H locs ls2 (VL.s2 (v := .long x) hb hl hl2) hW)
  · exact h.elim
def op_ald (i n : Nat) : Op := fun _ _ K pc L S σ => match L[i]? with
  | some (some (.ref x)) => K (pc + n) L (.ref x :: S) σ
  | _ => False
theorem ok_aldn {M : Mt} {pc i : Nat} {q : Fin 4} (hd : decode (mB M) pc = .ok (.aload_n q, 1)) (hi : (q : Nat) = i) : OpOK M pc (op_ald i 1) := by
  intro k Q K L S σ h hk
  unfold op_ald at h
  split at h
  · rename_i x hx
    intro l p e s m args below meth c D cy ad C H locs ls hl hW
    exact lv_aload_n C.1 C.2.1 hd hi (hl.2.2 _ _ hx) (hk _ _ _ _ h l p e s m args below meth c D cy ad C H locs ls hl hW)
  · exact h.elim
theorem ok_ald {M : Mt} {pc i : Nat} (hd : decode (mB M) pc = .ok (.aload i, 2)) : OpOK M pc (op_ald i 2) := by
  intro k Q K L S σ h hk
  unfold op_ald at h
  split at h
  · rename_i x hx
    intro l p e s m args below meth c D cy ad C H locs ls hl hW
    exact lv_aload C.1 C.2.1 hd (hl.2.2 _ _ hx) (hk _ _ _ _ h l p e s m args below meth c D cy ad C H locs ls hl hW)
  · exact h.elim
def op_ast (i n : Nat) : Op := fun _ _ K pc L S σ => match S with
  | .ref x :: S => K (pc + n) (st1 L i (.ref x)) S σ
  | _ => False
theorem ok_astn {M : Mt} {pc i : Nat} {q : Fin 4} (hd : decode (mB M) pc = .ok (.astore_n q, 1)) (hi : (q : Nat) = i) (hb : i < mL M) : OpOK M pc (op_ast i 1) := by
  intro k Q K L S σ h hk
  unfold op_ast at h
  split at h
  · rename_i x S
    intro l p e s m args below meth c D cy ad C H locs ls hl hW
    exact lv_astore_n C.1 C.2.1 hd hi hl.has hb rfl (fun ls2 hl2 => hk _ _ _ _ h l p e s m args below meth c D cy ad C H locs ls2 (VL.s1 (v := .ref x) hb hl hl2) hW)
  · exact h.elim
theorem ok_ast {M : Mt} {pc i : Nat} (hd : decode (mB M) pc = .ok (.astore i, 2)) (hb : i < mL M) : OpOK M pc (op_ast i 2) := by
  intro k Q K L S σ h hk
  unfold op_ast at h
  split at h
  · rename_i x S
    intro l p e s m args below meth c D cy ad C H locs ls hl hW
    exact lv_astore C.1 C.2.1 hd hl.has hb rfl (fun ls2 hl2 => hk _ _ _ _ h l p e s m args below meth c D cy ad C H locs ls2 (VL.s1 (v := .ref x) hb hl hl2) hW)
  · exact h.elim
def op_iinc (i : Nat) (d : Int32) : Op := fun _ _ K pc L S σ => match L[i]? with
  | some (some (.int x)) => K (pc + 3) (st1 L i (.int (x + d))) S σ
  | _ => False
theorem ok_iinc {M : Mt} {pc i : Nat} {n : Int} {d : Int32} (hd : decode (mB M) pc = .ok (.iinc i n, 3)) (he : Int32.ofInt n = d) (hb : i < mL M) : OpOK M pc (op_iinc i d) := by
  intro k Q K L S σ h hk
  unfold op_iinc at h
  split at h
  · rename_i x hx
    intro l p e s m args below meth c D cy ad C H locs ls hl hW
    obtain ⟨j, hj⟩ := List.getElem?_of_mem (toA_mem.mpr ⟨_, hx, rfl⟩ : (i, rv ad (.int x)) ∈ toA ad L)
    exact lv_iinc C.1 C.2.1 hd hl.has (k := j) hj (by rw [he]) hb rfl (fun ls2 hl2 => hk _ _ _ _ h l p e s m args below meth c D cy ad C H locs ls2 (VL.s1 (v := .int (x + d)) hb hl hl2) hW)
  · exact h.elim
def c1 (v : Value) : Bool := match v with
  | .long _ => false
  | .double _ => false
  | _ => true
theorem c1_ok {ad : Nat → Nat} {v : Value} (h : c1 v = true) : (rv ad v).category = 1 := by
  cases v <;> first | rfl | cases h
def op_dup : Op := fun _ _ K pc L S σ => match S with
  | a :: S => match c1 a with
    | true => K (pc + 1) L (a :: a :: S) σ
    | false => False
  | _ => False
theorem ok_dup {M : Mt} {pc : Nat} (hd : decode (mB M) pc = .ok (.dup, 1)) : OpOK M pc op_dup := by
  intro k Q K L S σ h hk
  unfold op_dup at h
  split at h
  · split at h
    · rename_i hc
      intro l p e s m args below meth c D cy ad C H locs ls hl hW
      exact lv_dup C.1 C.2.1 hd (c1_ok hc) (hk _ _ _ _ h l p e s m args below meth c D cy ad C H locs ls hl hW)
    · exact h.elim
  · exact h.elim
def op_pop : Op := fun _ _ K pc L S σ => match S with
  | a :: S => match c1 a with
    | true => K (pc + 1) L (S) σ
    | false => False
  | _ => False
theorem ok_pop {M : Mt} {pc : Nat} (hd : decode (mB M) pc = .ok (.pop, 1)) : OpOK M pc op_pop := by
  intro k Q K L S σ h hk
  unfold op_pop at h
  split at h
  · split at h
    · rename_i hc
      intro l p e s m args below meth c D cy ad C H locs ls hl hW
      exact lv_pop C.1 C.2.1 hd (c1_ok hc) (hk _ _ _ _ h l p e s m args below meth c D cy ad C H locs ls hl hW)
    · exact h.elim
  · exact h.elim
def op_dup_x1 : Op := fun _ _ K pc L S σ => match S with
  | a :: b :: S => match c1 a && c1 b with
    | true => K (pc + 1) L (a :: b :: a :: S) σ
    | false => False
  | _ => False
theorem ok_dup_x1 {M : Mt} {pc : Nat} (hd : decode (mB M) pc = .ok (.dup_x1, 1)) : OpOK M pc op_dup_x1 := by
  intro k Q K L S σ h hk
  unfold op_dup_x1 at h
  split at h
  · split at h
    · rename_i hc
      rw [Bool.and_eq_true] at hc
      intro l p e s m args below meth c D cy ad C H locs ls hl hW
      exact lv_dup_x1 C.1 C.2.1 hd (c1_ok hc.1) (c1_ok hc.2) (hk _ _ _ _ h l p e s m args below meth c D cy ad C H locs ls hl hW)
    · exact h.elim
  · exact h.elim
def op_dup2 : Op := fun _ _ K pc L S σ => match S with
  | a :: b :: S => match c1 a && c1 b with
    | true => K (pc + 1) L (a :: b :: a :: b :: S) σ
    | false => False
  | _ => False
theorem ok_dup2 {M : Mt} {pc : Nat} (hd : decode (mB M) pc = .ok (.dup2, 1)) : OpOK M pc op_dup2 := by
  intro k Q K L S σ h hk
  unfold op_dup2 at h
  split at h
  · split at h
    · rename_i hc
      rw [Bool.and_eq_true] at hc
      intro l p e s m args below meth c D cy ad C H locs ls hl hW
      exact lv_dup2_11 C.1 C.2.1 hd (c1_ok hc.1) (c1_ok hc.2) (hk _ _ _ _ h l p e s m args below meth c D cy ad C H locs ls hl hW)
    · exact h.elim
  · exact h.elim
def op_ifeq (t : Nat) : Op := fun _ _ K pc L S σ => match S with
  | .int x :: S => (x = 0 → K t L S σ) ∧ (¬ x = 0 → K (pc + 3) L S σ)
  | _ => False
theorem ok_ifeq {M : Mt} {pc t : Nat} {off : Int} (hd : decode (mB M) pc = .ok (.ifCond .eq off, 3)) (ht : (pc : Int) + off = (t : Int)) : OpOK M pc (op_ifeq t) := by
  intro k Q K L S σ h hk
  unfold op_ifeq at h
  split at h
  · intro l p e s m args below meth c D cy ad C H locs ls hl hW
    exact lv_if_eq C.1 C.2.1 hd ht (fun q => hk _ _ _ _ (h.1 q) l p e s m args below meth c D cy ad C H locs ls hl hW) (fun q => hk _ _ _ _ (h.2 q) l p e s m args below meth c D cy ad C H locs ls hl hW)
  · exact h.elim
def op_iceq (t : Nat) : Op := fun _ _ K pc L S σ => match S with
  | .int y :: .int x :: S => (x = y → K t L S σ) ∧ (¬ x = y → K (pc + 3) L S σ)
  | _ => False
theorem ok_iceq {M : Mt} {pc t : Nat} {off : Int} (hd : decode (mB M) pc = .ok (.if_icmp .eq off, 3)) (ht : (pc : Int) + off = (t : Int)) : OpOK M pc (op_iceq t) := by
  intro k Q K L S σ h hk
  unfold op_iceq at h
  split at h
  · intro l p e s m args below meth c D cy ad C H locs ls hl hW
    exact lv_icmp_eq C.1 C.2.1 hd ht (fun q => hk _ _ _ _ (h.1 q) l p e s m args below meth c D cy ad C H locs ls hl hW) (fun q => hk _ _ _ _ (h.2 q) l p e s m args below meth c D cy ad C H locs ls hl hW)
  · exact h.elim
def op_ifne (t : Nat) : Op := fun _ _ K pc L S σ => match S with
  | .int x :: S => (¬ x = 0 → K t L S σ) ∧ (x = 0 → K (pc + 3) L S σ)
  | _ => False
theorem ok_ifne {M : Mt} {pc t : Nat} {off : Int} (hd : decode (mB M) pc = .ok (.ifCond .ne off, 3)) (ht : (pc : Int) + off = (t : Int)) : OpOK M pc (op_ifne t) := by
  intro k Q K L S σ h hk
  unfold op_ifne at h
  split at h
  · intro l p e s m args below meth c D cy ad C H locs ls hl hW
    exact lv_if_ne C.1 C.2.1 hd ht (fun q => hk _ _ _ _ (h.1 q) l p e s m args below meth c D cy ad C H locs ls hl hW) (fun q => hk _ _ _ _ (h.2 q) l p e s m args below meth c D cy ad C H locs ls hl hW)
  · exact h.elim
def op_icne (t : Nat) : Op := fun _ _ K pc L S σ => match S with
  | .int y :: .int x :: S => (¬ x = y → K t L S σ) ∧ (x = y → K (pc + 3) L S σ)
  | _ => False
theorem ok_icne {M : Mt} {pc t : Nat} {off : Int} (hd : decode (mB M) pc = .ok (.if_icmp .ne off, 3)) (ht : (pc : Int) + off = (t : Int)) : OpOK M pc (op_icne t) := by
  intro k Q K L S σ h hk
  unfold op_icne at h
  split at h
  · intro l p e s m args below meth c D cy ad C H locs ls hl hW
    exact lv_icmp_ne C.1 C.2.1 hd ht (fun q => hk _ _ _ _ (h.1 q) l p e s m args below meth c D cy ad C H locs ls hl hW) (fun q => hk _ _ _ _ (h.2 q) l p e s m args below meth c D cy ad C H locs ls hl hW)
  · exact h.elim
def op_iflt (t : Nat) : Op := fun _ _ K pc L S σ => match S with
  | .int x :: S => (x < 0 → K t L S σ) ∧ (¬ x < 0 → K (pc + 3) L S σ)
  | _ => False
theorem ok_iflt {M : Mt} {pc t : Nat} {off : Int} (hd : decode (mB M) pc = .ok (.ifCond .lt off, 3)) (ht : (pc : Int) + off = (t : Int)) : OpOK M pc (op_iflt t) := by
  intro k Q K L S σ h hk
  unfold op_iflt at h
  split at h
  · intro l p e s m args below meth c D cy ad C H locs ls hl hW
    exact lv_if_lt C.1 C.2.1 hd ht (fun q => hk _ _ _ _ (h.1 q) l p e s m args below meth c D cy ad C H locs ls hl hW) (fun q => hk _ _ _ _ (h.2 q) l p e s m args below meth c D cy ad C H locs ls hl hW)
  · exact h.elim
def op_iclt (t : Nat) : Op := fun _ _ K pc L S σ => match S with
  | .int y :: .int x :: S => (x < y → K t L S σ) ∧ (¬ x < y → K (pc + 3) L S σ)
  | _ => False
theorem ok_iclt {M : Mt} {pc t : Nat} {off : Int} (hd : decode (mB M) pc = .ok (.if_icmp .lt off, 3)) (ht : (pc : Int) + off = (t : Int)) : OpOK M pc (op_iclt t) := by
  intro k Q K L S σ h hk
  unfold op_iclt at h
  split at h
  · intro l p e s m args below meth c D cy ad C H locs ls hl hW
    exact lv_icmp_lt C.1 C.2.1 hd ht (fun q => hk _ _ _ _ (h.1 q) l p e s m args below meth c D cy ad C H locs ls hl hW) (fun q => hk _ _ _ _ (h.2 q) l p e s m args below meth c D cy ad C H locs ls hl hW)
  · exact h.elim
def op_ifge (t : Nat) : Op := fun _ _ K pc L S σ => match S with
  | .int x :: S => (0 ≤ x → K t L S σ) ∧ (¬ 0 ≤ x → K (pc + 3) L S σ)
  | _ => False
theorem ok_ifge {M : Mt} {pc t : Nat} {off : Int} (hd : decode (mB M) pc = .ok (.ifCond .ge off, 3)) (ht : (pc : Int) + off = (t : Int)) : OpOK M pc (op_ifge t) := by
  intro k Q K L S σ h hk
  unfold op_ifge at h
  split at h
  · intro l p e s m args below meth c D cy ad C H locs ls hl hW
    exact lv_if_ge C.1 C.2.1 hd ht (fun q => hk _ _ _ _ (h.1 q) l p e s m args below meth c D cy ad C H locs ls hl hW) (fun q => hk _ _ _ _ (h.2 q) l p e s m args below meth c D cy ad C H locs ls hl hW)
  · exact h.elim
def op_icge (t : Nat) : Op := fun _ _ K pc L S σ => match S with
  | .int y :: .int x :: S => (y ≤ x → K t L S σ) ∧ (¬ y ≤ x → K (pc + 3) L S σ)
  | _ => False
theorem ok_icge {M : Mt} {pc t : Nat} {off : Int} (hd : decode (mB M) pc = .ok (.if_icmp .ge off, 3)) (ht : (pc : Int) + off = (t : Int)) : OpOK M pc (op_icge t) := by
  intro k Q K L S σ h hk
  unfold op_icge at h
  split at h
  · intro l p e s m args below meth c D cy ad C H locs ls hl hW
    exact lv_icmp_ge C.1 C.2.1 hd ht (fun q => hk _ _ _ _ (h.1 q) l p e s m args below meth c D cy ad C H locs ls hl hW) (fun q => hk _ _ _ _ (h.2 q) l p e s m args below meth c D cy ad C H locs ls hl hW)
  · exact h.elim
def op_ifgt (t : Nat) : Op := fun _ _ K pc L S σ => match S with
  | .int x :: S => (0 < x → K t L S σ) ∧ (¬ 0 < x → K (pc + 3) L S σ)
  | _ => False
theorem ok_ifgt {M : Mt} {pc t : Nat} {off : Int} (hd : decode (mB M) pc = .ok (.ifCond .gt off, 3)) (ht : (pc : Int) + off = (t : Int)) : OpOK M pc (op_ifgt t) := by
  intro k Q K L S σ h hk
  unfold op_ifgt at h
  split at h
  · intro l p e s m args below meth c D cy ad C H locs ls hl hW
    exact lv_if_gt C.1 C.2.1 hd ht (fun q => hk _ _ _ _ (h.1 q) l p e s m args below meth c D cy ad C H locs ls hl hW) (fun q => hk _ _ _ _ (h.2 q) l p e s m args below meth c D cy ad C H locs ls hl hW)
  · exact h.elim
def op_icgt (t : Nat) : Op := fun _ _ K pc L S σ => match S with
  | .int y :: .int x :: S => (y < x → K t L S σ) ∧ (¬ y < x → K (pc + 3) L S σ)
  | _ => False
theorem ok_icgt {M : Mt} {pc t : Nat} {off : Int} (hd : decode (mB M) pc = .ok (.if_icmp .gt off, 3)) (ht : (pc : Int) + off = (t : Int)) : OpOK M pc (op_icgt t) := by
  intro k Q K L S σ h hk
  unfold op_icgt at h
  split at h
  · intro l p e s m args below meth c D cy ad C H locs ls hl hW
    exact lv_icmp_gt C.1 C.2.1 hd ht (fun q => hk _ _ _ _ (h.1 q) l p e s m args below meth c D cy ad C H locs ls hl hW) (fun q => hk _ _ _ _ (h.2 q) l p e s m args below meth c D cy ad C H locs ls hl hW)
  · exact h.elim
def op_ifle (t : Nat) : Op := fun _ _ K pc L S σ => match S with
  | .int x :: S => (x ≤ 0 → K t L S σ) ∧ (¬ x ≤ 0 → K (pc + 3) L S σ)
  | _ => False
theorem ok_ifle {M : Mt} {pc t : Nat} {off : Int} (hd : decode (mB M) pc = .ok (.ifCond .le off, 3)) (ht : (pc : Int) + off = (t : Int)) : OpOK M pc (op_ifle t) := by
  intro k Q K L S σ h hk
  unfold op_ifle at h
  split at h
  · intro l p e s m args below meth c D cy ad C H locs ls hl hW
    exact lv_if_le C.1 C.2.1 hd ht (fun q => hk _ _ _ _ (h.1 q) l p e s m args below meth c D cy ad C H locs ls hl hW) (fun q => hk _ _ _ _ (h.2 q) l p e s m args below meth c D cy ad C H locs ls hl hW)
  · exact h.elim
def op_icle (t : Nat) : Op := fun _ _ K pc L S σ => match S with
  | .int y :: .int x :: S => (x ≤ y → K t L S σ) ∧ (¬ x ≤ y → K (pc + 3) L S σ)
  | _ => False
theorem ok_icle {M : Mt} {pc t : Nat} {off : Int} (hd : decode (mB M) pc = .ok (.if_icmp .le off, 3)) (ht : (pc : Int) + off = (t : Int)) : OpOK M pc (op_icle t) := by
  intro k Q K L S σ h hk
  unfold op_icle at h
  split at h
  · intro l p e s m args below meth c D cy ad C H locs ls hl hW
    exact lv_icmp_le C.1 C.2.1 hd ht (fun q => hk _ _ _ _ (h.1 q) l p e s m args below meth c D cy ad C H locs ls hl hW) (fun q => hk _ _ _ _ (h.2 q) l p e s m args below meth c D cy ad C H locs ls hl hW)
  · exact h.elim
def op_goto (t : Nat) : Op := fun _ _ K _ L S σ => K t L S σ
theorem ok_goto {M : Mt} {pc t : Nat} {off : Int} (hd : decode (mB M) pc = .ok (.goto off, 3)) (ht : (pc : Int) + off = (t : Int)) : OpOK M pc (op_goto t) := by
  intro k Q K L S σ h hk
  intro l p e s m args below meth c D cy ad C H locs ls hl hW
  exact lv_goto C.1 C.2.1 hd ht (hk _ _ _ _ h l p e s m args below meth c D cy ad C H locs ls hl hW)
/-! returns -/
def op_iret : Op := fun _ Q _ _ _ S σ => match S with
  | [.int x] => Q (some (.int x)) σ
  | _ => False
theorem ok_iret {M : Mt} {pc : Nat} (hr : mR M = some .int) (hd : decode (mB M) pc = .ok (.ireturn, 1)) : OpOK M pc op_iret := by
  intro k Q K L S σ h hk
  unfold op_iret at h
  split at h
  · rename_i x
    intro l p e s m args below meth c D cy ad C H locs ls hl hW
    have hlk : meth.locks = false := C.2.2.2.2.1
    exact W.iret (v := x) C.1 C.2.1 (C.2.2.2.1.trans hr) (fun t ht hWt => ⟨⟨some (.int x), σ, rfl, h, by rw [ht]; exact hW.1, hW.2.1⟩, hW.2.2.F ht⟩) hW.2.2.2.2 hd hlk
  · exact h.elim
def op_zret : Op := fun _ Q _ _ _ S σ => match S with
  | [.int x] => (x = 0 ∨ x = 1) ∧ Q (some (.int x)) σ
  | _ => False
theorem ok_zret {M : Mt} {pc : Nat} (hr : mR M = some .boolean) (hd : decode (mB M) pc = .ok (.ireturn, 1)) : OpOK M pc op_zret := by
  intro k Q K L S σ h hk
  unfold op_zret at h
  split at h
  · rename_i x
    obtain ⟨hx, h⟩ := h
    intro l p e s m args below meth c D cy ad C H locs ls hl hW
    have hlk : meth.locks = false := C.2.2.2.2.1
    exact W.zret (v := x) (ty := .boolean) C.1 C.2.1 (C.2.2.2.1.trans hr) (by rcases hx with rfl | rfl <;> rfl) (fun t ht hWt => ⟨⟨some (.int x), σ, rfl, h, by rw [ht]; exact hW.1, hW.2.1⟩, hW.2.2.F ht⟩) hW.2.2.2.2 hd hlk
  · exact h.elim
def op_lret : Op := fun _ Q _ _ _ S σ => match S with
  | [.long x] => Q (some (.long x)) σ
  | _ => False
theorem ok_lret {M : Mt} {pc : Nat} (hr : mR M = some .long) (hd : decode (mB M) pc = .ok (.lreturn, 1)) : OpOK M pc op_lret := by
  intro k Q K L S σ h hk
  unfold op_lret at h
  split at h
  · rename_i x
    intro l p e s m args below meth c D cy ad C H locs ls hl hW
    have hlk : meth.locks = false := C.2.2.2.2.1
    exact W.lret (v := x) C.1 C.2.1 (C.2.2.2.1.trans hr) (fun t ht hWt => ⟨⟨some (.long x), σ, rfl, h, by rw [ht]; exact hW.1, hW.2.1⟩, hW.2.2.F ht⟩) hW.2.2.2.2 hd hlk
  · exact h.elim
def op_vret : Op := fun _ Q _ _ _ S σ => match S with
  | [] => Q none σ
  | _ => False
theorem ok_vret {M : Mt} {pc : Nat} (hr : mR M = none) (hd : decode (mB M) pc = .ok (.return_, 1)) : OpOK M pc op_vret := by
  intro k Q K L S σ h hk
  unfold op_vret at h
  split at h
  · intro l p e s m args below meth c D cy ad C H locs ls hl hW
    have hlk : meth.locks = false := C.2.2.2.2.1
    exact W.vret C.1 C.2.1 (C.2.2.2.1.trans hr) (fun t ht hWt => ⟨⟨none, σ, rfl, h, by rw [ht]; exact hW.1, hW.2.1⟩, hW.2.2.F ht⟩) hW.2.2.2.2 hd hlk
  · exact h.elim
/-! fields -/
def FOK (M : Mt) (i ci j : Nat) (C : String) (T : u_T) (N : Nat) : Prop := vwCl[ci]? = some (C, T, N) ∧ j < N ∧ Cond.fieldLink (mO M) i (T j).1 (T j).2.1 (T j).2.2.1 ∈ UW ∧ ∀ w ∈ u_ws C T N, w ∈ UW
def op_gi (ci j : Nat) : Op := fun _ _ K pc L S σ => match S with
  | .ref a :: S => match isC a ci with
    | true => K (pc + 3) L (.int (gI σ a j) :: S) σ
    | false => False
  | _ => False
def op_gf (ci j d : Nat) : Op := fun _ _ K pc L S σ => match S with
  | .ref a :: S => match isC a ci with
    | true => K (pc + 3) L (.ref (a + d) :: S) σ
    | false => False
  | _ => False
def op_gr (ci j : Nat) : Op := fun _ _ K pc L S σ => match S with
  | .ref a :: S => match isC a ci with
    | true => ∃ r, gR σ a j = r + 1 ∧ K (pc + 3) L (.ref r :: S) σ
    | false => False
  | _ => False
theorem MOK.wU {M : Mt} (h : MOK M) : ∀ w ∈ UW, w ∈ mW M := fun w hw => by rw [h.2.1]; exact List.mem_cons_of_mem _ hw
theorem ok_gi {M : Mt} {pc i ci j : Nat} {C : String} {T : u_T} {N : Nat} (hM : MOK M) (hF : FOK M i ci j C T N) (hkd : (kdOf ci)[j]? = some 0) (hd : decode (mB M) pc = .ok (.getfield i, 3)) : OpOK M pc (op_gi ci j) := by
  intro k Q K L S σ h hk
  unfold op_gi at h
  split at h
  · rename_i a S
    split at h
    · rename_i hc
      intro l p e s m args below meth c D cy ad C H locs ls hl hW
      exact va_get C.1 C.2.1 C.2.2.2.2.2.2.1 (fun w hw => hM.wU w (hF.2.2.2 w hw)) C.2.2.2.2.2.1 C.2.2.2.2.2.2.2.1 hW.1 a (ws_ob (isC_ok hc)) hF.1 j hF.2.1 (hM.w C.2.2.2.2.2.2.1 hF.2.2.1) (fun _ h9 => h9) (fl_at hkd) hd (hk _ _ _ _ h l p e s m args below meth c D cy ad C H locs ls hl hW)
    · exact h.elim
  · exact h.elim
theorem ok_gf {M : Mt} {pc i ci j d : Nat} {C : String} {T : u_T} {N : Nat} (hM : MOK M) (hF : FOK M i ci j C T N) (hkd : (kdOf ci)[j]? = some (d + 2)) (hd : decode (mB M) pc = .ok (.getfield i, 3)) : OpOK M pc (op_gf ci j d) := by
  intro k Q K L S σ h hk
  unfold op_gf at h
  split at h
  · rename_i a S
    split at h
    · rename_i hc
      intro l p e s m args below meth c D cy ad C H locs ls hl hW
      exact va_get C.1 C.2.1 C.2.2.2.2.2.2.1 (fun w hw => hM.wU w (hF.2.2.2 w hw)) C.2.2.2.2.2.1 C.2.2.2.2.2.2.2.1 hW.1 a (ws_ob (isC_ok hc)) hF.1 j hF.2.1 (hM.w C.2.2.2.2.2.2.1 hF.2.2.1) (fun _ h9 => h9) (fl_at hkd) hd (hk _ _ _ _ h l p e s m args below meth c D cy ad C H locs ls hl hW)
    · exact h.elim
  · exact h.elim
theorem ok_gr {M : Mt} {pc i ci j : Nat} {C : String} {T : u_T} {N : Nat} (hM : MOK M) (hF : FOK M i ci j C T N) (hkd : (kdOf ci)[j]? = some 1) (hd : decode (mB M) pc = .ok (.getfield i, 3)) : OpOK M pc (op_gr ci j) := by
  intro k Q K L S σ h hk
  unfold op_gr at h
  split at h
  · rename_i a S
    split at h
    · rename_i hc
      obtain ⟨r, hr, h⟩ := h
      intro l p e s m args below meth c D cy ad C H locs ls hl hW
      have hv : (fls ad σ a ci)[j]? = some (.ref (ad r)) := by
        rw [fl_at hkd]
        simp [fvl, rfv, hr]
      exact va_get C.1 C.2.1 C.2.2.2.2.2.2.1 (fun w hw => hM.wU w (hF.2.2.2 w hw)) C.2.2.2.2.2.1 C.2.2.2.2.2.2.2.1 hW.1 a (ws_ob (isC_ok hc)) hF.1 j hF.2.1 (hM.w C.2.2.2.2.2.2.1 hF.2.2.1) (fun _ h9 => h9) hv hd (hk _ _ _ _ h l p e s m args below meth c D cy ad C H locs ls hl hW)
    · exact h.elim
  · exact h.elim
def op_pi (ci j : Nat) : Op := fun _ _ K pc L S σ => match S with
  | .int x :: .ref a :: S => match isC a ci with
    | true => K (pc + 3) L S (sI σ a j x)
    | false => False
  | _ => False
def op_pz (ci j : Nat) : Op := fun _ _ K pc L S σ => match S with
  | .int x :: .ref a :: S => match isC a ci with
    | true => (x = 0 ∨ x = 1) ∧ K (pc + 3) L S (sI σ a j x)
    | false => False
  | _ => False
def op_pr (ci j : Nat) : Op := fun _ _ K pc L S σ => match S with
  | .ref r :: .ref a :: S => match isC a ci with
    | true => K (pc + 3) L S (sR σ a j (r + 1))
    | false => False
  | _ => False
/-- what a store of a field needs of its class: its types, its names apart, this field not final -/
def TOK (T : u_T) (N j : Nat) (ty0 : Nat → FieldType) (ty : FieldType) : Prop := (∀ k, k < N → parseFieldDescriptor (T k).2.2.1 = some (ty0 k)) ∧ (∀ a, a < N → ∀ b, b < N → a ≠ b → (T a).2.1 ≠ (T b).2.1) ∧ (T j).2.2.2 = false ∧ parseFieldDescriptor (T j).2.2.1 = some ty
theorem ok_pi {M : Mt} {pc i ci j : Nat} {C : String} {T : u_T} {N : Nat} {ty0 : Nat → FieldType} (hM : MOK M) (hF : FOK M i ci j C T N) (hT : TOK T N j ty0 .int) (hkd : (kdOf ci)[j]? = some 0) (hd : decode (mB M) pc = .ok (.putfield i, 3)) : OpOK M pc (op_pi ci j) := by
  intro k Q K L S σ h hk
  unfold op_pi at h
  split at h
  · rename_i x a S
    split at h
    · rename_i hc
      intro l p e s m args below meth c D cy ad C H locs ls hl hW
      refine va_put (v := .int x) C.1 C.2.1 C.2.2.2.2.2.2.1 (fun w hw => hM.wU w (hF.2.2.2 w hw)) ty0 hT.1 hT.2.1 C.2.2.2.2.2.1 C.2.2.2.2.2.2.2.1 hW.1 hW.2.1 hW.2.2 a (ws_ob (isC_ok hc)) hF.1 j hF.2.1 (hM.w C.2.2.2.2.2.2.1 hF.2.2.1) (fun _ h9 => h9) hT.2.2.1 hT.2.2.2 rfl rfl (by rw [fl_len]; exact (List.getElem?_eq_some_iff.mp hkd).1) hd (fun H1 locs1 hP1 hD1 hS1 => ?_)
      rw [ws_sI (isC_ok hc) hkd] at hP1 hD1
      exact hk _ _ _ _ h l p e s m args below meth c D cy ad C H1 locs1 ls hl ⟨hP1, hD1, hS1⟩
    · exact h.elim
  · exact h.elim
theorem ok_pz {M : Mt} {pc i ci j : Nat} {C : String} {T : u_T} {N : Nat} {ty0 : Nat → FieldType} (hM : MOK M) (hF : FOK M i ci j C T N) (hT : TOK T N j ty0 .boolean) (hkd : (kdOf ci)[j]? = some 0) (hd : decode (mB M) pc = .ok (.putfield i, 3)) : OpOK M pc (op_pz ci j) := by
  intro k Q K L S σ h hk
  unfold op_pz at h
  split at h
  · rename_i x a S
    split at h
    · rename_i hc
      obtain ⟨hx, h⟩ := h
      intro l p e s m args below meth c D cy ad C H locs ls hl hW
      refine va_put (v := .int x) C.1 C.2.1 C.2.2.2.2.2.2.1 (fun w hw => hM.wU w (hF.2.2.2 w hw)) ty0 hT.1 hT.2.1 C.2.2.2.2.2.1 C.2.2.2.2.2.2.2.1 hW.1 hW.2.1 hW.2.2 a (ws_ob (isC_ok hc)) hF.1 j hF.2.1 (hM.w C.2.2.2.2.2.2.1 hF.2.2.1) (fun _ h9 => h9) hT.2.2.1 hT.2.2.2 (by rcases hx with rfl | rfl <;> rfl) (by rcases hx with rfl | rfl <;> rfl) (by rw [fl_len]; exact (List.getElem?_eq_some_iff.mp hkd).1) hd (fun H1 locs1 hP1 hD1 hS1 => ?_)
      rw [ws_sI (isC_ok hc) hkd] at hP1 hD1
      exact hk _ _ _ _ h l p e s m args below meth c D cy ad C H1 locs1 ls hl ⟨hP1, hD1, hS1⟩
    · exact h.elim
  · exact h.elim
theorem ok_pr {M : Mt} {pc i ci j : Nat} {C : String} {T : u_T} {N : Nat} {ty0 : Nat → FieldType} {ty : FieldType} (hM : MOK M) (hF : FOK M i ci j C T N) (hT : TOK T N j ty0 ty) (hn : ∀ a, narrow ty (.ref a) = .ref a) (hf : ∀ a, fits ty (.ref a) = true) (hkd : (kdOf ci)[j]? = some 1) (hd : decode (mB M) pc = .ok (.putfield i, 3)) : OpOK M pc (op_pr ci j) := by
  intro k Q K L S σ h hk
  unfold op_pr at h
  split at h
  · rename_i r a S
    split at h
    · rename_i hc
      intro l p e s m args below meth c D cy ad C H locs ls hl hW
      refine va_put (v := .ref (ad r)) C.1 C.2.1 C.2.2.2.2.2.2.1 (fun w hw => hM.wU w (hF.2.2.2 w hw)) ty0 hT.1 hT.2.1 C.2.2.2.2.2.1 C.2.2.2.2.2.2.2.1 hW.1 hW.2.1 hW.2.2 a (ws_ob (isC_ok hc)) hF.1 j hF.2.1 (hM.w C.2.2.2.2.2.2.1 hF.2.2.1) (fun _ h9 => h9) hT.2.2.1 hT.2.2.2 (hn _) (hf _) (by rw [fl_len]; exact (List.getElem?_eq_some_iff.mp hkd).1) hd (fun H1 locs1 hP1 hD1 hS1 => ?_)
      rw [show Value.ref (ad r) = rfv ad (r + 1) from rfl, ws_sR (isC_ok hc) hkd] at hP1 hD1
      exact hk _ _ _ _ h l p e s m args below meth c D cy ad C H1 locs1 ls hl ⟨hP1, hD1, hS1⟩
    · exact h.elim
  · exact h.elim

/-! rows -/
def op_iald : Op := fun _ _ K pc L S σ => match S with
  | .int i :: .ref a :: S => match arr a 1 with
    | some n => vp_in i n ∧ K (pc + 1) L (.int (gA σ a i.toNatClampNeg) :: S) σ
    | none => False
  | _ => False
theorem ok_iald {M : Mt} {pc : Nat} (hd : decode (mB M) pc = .ok (.iaload, 1)) : OpOK M pc op_iald := by
  intro k Q K L S σ h hk
  unfold op_iald at h
  split at h
  · split at h
    · rename_i hc
      obtain ⟨hi, h⟩ := h
      intro l p e s m args below meth c D cy ad C H locs ls hl hW
      exact va_iald C.1 C.2.1 C.2.2.2.2.2.2.2.1 hW.1 _ 0 (ws_in (t := 0) (by decide) (arr_ok hc)) rfl hi hd (hk _ _ _ _ h l p e s m args below meth c D cy ad C H locs ls hl hW)
    · exact h.elim
  · exact h.elim
def op_bald : Op := fun _ _ K pc L S σ => match S with
  | .int i :: .ref a :: S => match arr a 2 with
    | some n => vp_in i n ∧ K (pc + 1) L (.int (gA σ a i.toNatClampNeg) :: S) σ
    | none => False
  | _ => False
theorem ok_bald {M : Mt} {pc : Nat} (hd : decode (mB M) pc = .ok (.baload, 1)) : OpOK M pc op_bald := by
  intro k Q K L S σ h hk
  unfold op_bald at h
  split at h
  · split at h
    · rename_i hc
      obtain ⟨hi, h⟩ := h
      intro l p e s m args below meth c D cy ad C H locs ls hl hW
      exact va_bald C.1 C.2.1 C.2.2.2.2.2.2.2.1 hW.1 _ 1 (ws_in (t := 1) (by decide) (arr_ok hc)) rfl hi hd (hk _ _ _ _ h l p e s m args below meth c D cy ad C H locs ls hl hW)
    · exact h.elim
  · exact h.elim
def op_cald : Op := fun _ _ K pc L S σ => match S with
  | .int i :: .ref a :: S => match arr a 3 with
    | some n => vp_in i n ∧ K (pc + 1) L (.int (gA σ a i.toNatClampNeg) :: S) σ
    | none => False
  | _ => False
theorem ok_cald {M : Mt} {pc : Nat} (hd : decode (mB M) pc = .ok (.caload, 1)) : OpOK M pc op_cald := by
  intro k Q K L S σ h hk
  unfold op_cald at h
  split at h
  · split at h
    · rename_i hc
      obtain ⟨hi, h⟩ := h
      intro l p e s m args below meth c D cy ad C H locs ls hl hW
      exact va_cald C.1 C.2.1 C.2.2.2.2.2.2.2.1 hW.1 _ 2 (ws_in (t := 2) (by decide) (arr_ok hc)) rfl hi hd (hk _ _ _ _ h l p e s m args below meth c D cy ad C H locs ls hl hW)
    · exact h.elim
  · exact h.elim
def op_zald : Op := fun _ _ K pc L S σ => match S with
  | .int i :: .ref a :: S => match arr a 4 with
    | some n => vp_in i n ∧ K (pc + 1) L (.int (gA σ a i.toNatClampNeg) :: S) σ
    | none => False
  | _ => False
theorem ok_zald {M : Mt} {pc : Nat} (hd : decode (mB M) pc = .ok (.baload, 1)) : OpOK M pc op_zald := by
  intro k Q K L S σ h hk
  unfold op_zald at h
  split at h
  · split at h
    · rename_i hc
      obtain ⟨hi, h⟩ := h
      intro l p e s m args below meth c D cy ad C H locs ls hl hW
      exact va_zald C.1 C.2.1 C.2.2.2.2.2.2.2.1 hW.1 _ 3 (ws_in (t := 3) (by decide) (arr_ok hc)) rfl hi hd (hk _ _ _ _ h l p e s m args below meth c D cy ad C H locs ls hl hW)
    · exact h.elim
  · exact h.elim
def op_iast : Op := fun _ _ K pc L S σ => match S with
  | .int x :: .int i :: .ref a :: S => match arr a 1 with
    | some n => vp_in i n ∧ K (pc + 1) L S (sA σ a (upd (gA σ a) i.toNatClampNeg x))
    | none => False
  | _ => False
theorem ok_iast {M : Mt} {pc : Nat} (hd : decode (mB M) pc = .ok (.iastore, 1)) : OpOK M pc op_iast := by
  intro k Q K L S σ h hk
  unfold op_iast at h
  split at h
  · split at h
    · rename_i hc
      obtain ⟨hi, h⟩ := h
      intro l p e s m args below meth c D cy ad C H locs ls hl hW
      refine va_iast C.1 C.2.1 C.2.2.2.2.2.2.2.1 hW.1 hW.2.1 hW.2.2 _ 0 (ws_in (t := 0) (by decide) (arr_ok hc)) rfl hi hd (fun H1 locs1 hP1 hD1 hS1 => ?_)
      rw [ws_sA (t := 0) (by decide) (arr_ok hc)] at hP1 hD1
      exact hk _ _ _ _ h l p e s m args below meth c D cy ad C H1 locs1 ls hl ⟨hP1, hD1, hS1⟩
    · exact h.elim
  · exact h.elim
def op_bast : Op := fun _ _ K pc L S σ => match S with
  | .int x :: .int i :: .ref a :: S => match arr a 2 with
    | some n => vp_in i n ∧ K (pc + 1) L S (sA σ a (upd (gA σ a) i.toNatClampNeg (vp_nar .byte x)))
    | none => False
  | _ => False
theorem ok_bast {M : Mt} {pc : Nat} (hd : decode (mB M) pc = .ok (.bastore, 1)) : OpOK M pc op_bast := by
  intro k Q K L S σ h hk
  unfold op_bast at h
  split at h
  · split at h
    · rename_i hc
      obtain ⟨hi, h⟩ := h
      intro l p e s m args below meth c D cy ad C H locs ls hl hW
      refine va_bast C.1 C.2.1 C.2.2.2.2.2.2.2.1 hW.1 hW.2.1 hW.2.2 _ 1 (ws_in (t := 1) (by decide) (arr_ok hc)) rfl hi hd (fun H1 locs1 hP1 hD1 hS1 => ?_)
      rw [ws_sA (t := 1) (by decide) (arr_ok hc)] at hP1 hD1
      exact hk _ _ _ _ h l p e s m args below meth c D cy ad C H1 locs1 ls hl ⟨hP1, hD1, hS1⟩
    · exact h.elim
  · exact h.elim
def op_cast : Op := fun _ _ K pc L S σ => match S with
  | .int x :: .int i :: .ref a :: S => match arr a 3 with
    | some n => vp_in i n ∧ K (pc + 1) L S (sA σ a (upd (gA σ a) i.toNatClampNeg (vp_nar .char x)))
    | none => False
  | _ => False
theorem ok_cast {M : Mt} {pc : Nat} (hd : decode (mB M) pc = .ok (.castore, 1)) : OpOK M pc op_cast := by
  intro k Q K L S σ h hk
  unfold op_cast at h
  split at h
  · split at h
    · rename_i hc
      obtain ⟨hi, h⟩ := h
      intro l p e s m args below meth c D cy ad C H locs ls hl hW
      refine va_cast C.1 C.2.1 C.2.2.2.2.2.2.2.1 hW.1 hW.2.1 hW.2.2 _ 2 (ws_in (t := 2) (by decide) (arr_ok hc)) rfl hi hd (fun H1 locs1 hP1 hD1 hS1 => ?_)
      rw [ws_sA (t := 2) (by decide) (arr_ok hc)] at hP1 hD1
      exact hk _ _ _ _ h l p e s m args below meth c D cy ad C H1 locs1 ls hl ⟨hP1, hD1, hS1⟩
    · exact h.elim
  · exact h.elim
def op_zast : Op := fun _ _ K pc L S σ => match S with
  | .int x :: .int i :: .ref a :: S => match arr a 4 with
    | some n => vp_in i n ∧ K (pc + 1) L S (sA σ a (upd (gA σ a) i.toNatClampNeg (vp_nar .boolean x)))
    | none => False
  | _ => False
theorem ok_zast {M : Mt} {pc : Nat} (hd : decode (mB M) pc = .ok (.bastore, 1)) : OpOK M pc op_zast := by
  intro k Q K L S σ h hk
  unfold op_zast at h
  split at h
  · split at h
    · rename_i hc
      obtain ⟨hi, h⟩ := h
      intro l p e s m args below meth c D cy ad C H locs ls hl hW
      refine va_zast C.1 C.2.1 C.2.2.2.2.2.2.2.1 hW.1 hW.2.1 hW.2.2 _ 3 (ws_in (t := 3) (by decide) (arr_ok hc)) rfl hi hd (fun H1 locs1 hP1 hD1 hS1 => ?_)
      rw [ws_sA (t := 3) (by decide) (arr_ok hc)] at hP1 hD1
      exact hk _ _ _ _ h l p e s m args below meth c D cy ad C H1 locs1 ls hl ⟨hP1, hD1, hS1⟩
    · exact h.elim
  · exact h.elim
def op_lald : Op := fun _ _ K pc L S σ => match S with
  | .int i :: .ref a :: S => match arr a 5 with
    | some n => vp_in i n ∧ K (pc + 1) L (.long (gJ σ a i.toNatClampNeg) :: S) σ
    | none => False
  | _ => False
theorem ok_lald {M : Mt} {pc : Nat} (hd : decode (mB M) pc = .ok (.laload, 1)) : OpOK M pc op_lald := by
  intro k Q K L S σ h hk
  unfold op_lald at h
  split at h
  · split at h
    · rename_i hc
      obtain ⟨hi, h⟩ := h
      intro l p e s m args below meth c D cy ad C H locs ls hl hW
      exact va_lald C.1 C.2.1 C.2.2.2.2.2.2.2.1 hW.1 _ 4 (ws_lo (arr_ok hc)) rfl hi hd (hk _ _ _ _ h l p e s m args below meth c D cy ad C H locs ls hl hW)
    · exact h.elim
  · exact h.elim
def op_last : Op := fun _ _ K pc L S σ => match S with
  | .long x :: .int i :: .ref a :: S => match arr a 5 with
    | some n => vp_in i n ∧ K (pc + 1) L S (sJ σ a (vp_updL (gJ σ a) i.toNatClampNeg x))
    | none => False
  | _ => False
theorem ok_last {M : Mt} {pc : Nat} (hd : decode (mB M) pc = .ok (.lastore, 1)) : OpOK M pc op_last := by
  intro k Q K L S σ h hk
  unfold op_last at h
  split at h
  · split at h
    · rename_i hc
      obtain ⟨hi, h⟩ := h
      intro l p e s m args below meth c D cy ad C H locs ls hl hW
      refine va_last C.1 C.2.1 C.2.2.2.2.2.2.2.1 hW.1 hW.2.1 hW.2.2 _ 4 (ws_lo (arr_ok hc)) rfl hi hd (fun H1 locs1 hP1 hD1 hS1 => ?_)
      rw [ws_sJ (arr_ok hc)] at hP1 hD1
      exact hk _ _ _ _ h l p e s m args below meth c D cy ad C H1 locs1 ls hl ⟨hP1, hD1, hS1⟩
    · exact h.elim
  · exact h.elim
def op_alen : Op := fun _ _ K pc L S σ => match S with
  | .ref a :: S => match arr a 1 with
    | some n => K (pc + 1) L (.int (Int32.ofNat n) :: S) σ
    | none => False
  | _ => False
theorem ok_alen {M : Mt} {pc : Nat} (hd : decode (mB M) pc = .ok (.arraylength, 1)) : OpOK M pc op_alen := by
  intro k Q K L S σ h hk
  unfold op_alen at h
  split at h
  · split at h
    · rename_i hc
      intro l p e s m args below meth c D cy ad C H locs ls hl hW
      exact va_alen C.1 C.2.1 C.2.2.2.2.2.2.2.1 hW.1 _ 0 (ws_in (t := 0) (by decide) (arr_ok hc)) (ty := .int) rfl rfl hd (hk _ _ _ _ h l p e s m args below meth c D cy ad C H locs ls hl hW)
    · exact h.elim
  · exact h.elim
end
section
/-! switches -/
def swc (x : Int32) (K : Nat → Prop) (d : Nat) : List (Int32 × Nat) → Prop
  | [] => K d
  | q :: ps => (x = q.1 → K q.2) ∧ (¬ x = q.1 → swc x K d ps)
def swt (x : Int32) (d : Nat) : List (Int32 × Nat) → Nat
  | [] => d
  | q :: ps => if x = q.1 then q.2 else swt x d ps
theorem swc_ok {x : Int32} {K : Nat → Prop} {d : Nat} {ps : List (Int32 × Nat)} (h : swc x K d ps) : K (swt x d ps) := by
  induction ps with
  | nil => exact h
  | cons q ps ih =>
    unfold swt
    by_cases hx : x = q.1
    · rw [if_pos hx]; exact h.1 hx
    · rw [if_neg hx]; exact ih (h.2 hx)
def op_sw (d : Nat) (ps : List (Int32 × Nat)) : Op := fun _ _ K _ L S σ => match S with
  | .int x :: S => swc x (fun t => K t L S σ) d ps
  | _ => False
theorem lsw_off {pc d : Nat} {x : Int32} (ps : List (Int32 × Nat)) : Op.lookupswitch.offset (ps.map (fun q => (q.1.toInt, (q.2 : Int) - pc))) ((d : Int) - pc) x.toInt = (swt x d ps : Int) - pc := by
  induction ps with
  | nil => rfl
  | cons q ps ih =>
    rw [List.map_cons, Op.lookupswitch.offset_cons, swt]
    by_cases hx : x = q.1
    · rw [if_pos hx, if_pos (by rw [hx])]
    · rw [if_neg hx, if_neg (fun e => hx (Int32.toInt_inj.mp e).symm), ih]
theorem ok_lsw {M : Mt} {pc d len : Nat} {dflt : Int} {pp : Array (Int × Int)} {ps : List (Int32 × Nat)} (hd : decode (mB M) pc = .ok (.lookupswitch dflt pp, len)) (hp : (pp.toList.zip (pp.toList.drop 1)).all (fun (a, next) => a.1 < next.1) = true) (he : pp.toList = ps.map (fun q => (q.1.toInt, (q.2 : Int) - pc))) (hdf : dflt = (d : Int) - pc) : OpOK M pc (op_sw d ps) := by
  intro k Q K L S σ h hk
  unfold op_sw at h
  split at h
  · rename_i x S
    intro l p e s m args below meth c D cy ad C H locs ls hl hW
    refine lv_lookup (tgt := swt x d ps) C.1 C.2.1 hd hp rfl ?_ (hk _ _ _ _ (swc_ok h) l p e s m args below meth c D cy ad C H locs ls hl hW)
    rw [he, hdf, lsw_off]
    omega
  · exact h.elim
theorem tsw_in {x v : Int32} {d t : Nat} : ∀ (ps : List (Int32 × Nat)) (lo : Int) (j : Nat), (∀ (i : Nat) q, ps[i]? = some q → q.1.toInt = lo + i) → ps[j]? = some (v, t) → x.toInt = lo + j → swt x d ps = t := by
  intro ps
  induction ps with
  | nil => intro lo j _ h; simp at h
  | cons q ps ih =>
    intro lo j hk hj hx
    unfold swt
    have h0 := hk 0 q rfl
    cases j with
    | zero =>
      rw [List.getElem?_cons_zero] at hj
      cases hj
      rw [if_pos (Int32.toInt_inj.mp (by rw [hx, h0]))]
    | succ j =>
      rw [List.getElem?_cons_succ] at hj
      rw [if_neg (fun e => by rw [e, h0] at hx; omega)]
      exact ih (lo + 1) j (fun i q hq => by rw [hk (i + 1) q (by rw [List.getElem?_cons_succ]; exact hq)]; omega) hj (by rw [hx]; omega)
theorem tsw_out {x : Int32} {d : Nat} : ∀ (ps : List (Int32 × Nat)) (lo : Int), (∀ (i : Nat) q, ps[i]? = some q → q.1.toInt = lo + i) → (x.toInt < lo ∨ lo + ps.length ≤ x.toInt) → swt x d ps = d := by
  intro ps
  induction ps with
  | nil => intro lo _ _; rfl
  | cons q ps ih =>
    intro lo hk hx
    unfold swt
    have h0 := hk 0 q rfl
    rw [List.length_cons] at hx
    rw [if_neg (fun e => by rw [e, h0] at hx; omega)]
    exact ih (lo + 1) (fun i q hq => by rw [hk (i + 1) q (by rw [List.getElem?_cons_succ]; exact hq)]; omega) (by omega)
theorem ok_tsw {M : Mt} {pc d len : Nat} {dflt lo hi : Int} {offs : Array Int} {ps : List (Int32 × Nat)} (hd : decode (mB M) pc = .ok (.tableswitch dflt lo hi offs, len)) (he : offs.toList = ps.map (fun q => (q.2 : Int) - pc)) (hkey : ps.map (fun q => q.1.toInt) = (List.range ps.length).map (fun (i : Nat) => lo + (i : Int))) (hhi : hi = lo + ps.length - 1) (hdf : dflt = (d : Int) - pc) : OpOK M pc (op_sw d ps) := by
  have key : ∀ (i : Nat) q, ps[i]? = some q → q.1.toInt = lo + i := by
    intro i q hq
    have h1 : (ps.map (fun q => q.1.toInt))[i]? = some q.1.toInt := by rw [List.getElem?_map, hq]; rfl
    rw [hkey, List.getElem?_map, List.getElem?_range (List.getElem?_eq_some_iff.mp hq).1] at h1
    exact (Option.some.inj h1).symm
  intro k Q K L S σ h hk
  unfold op_sw at h
  split at h
  · rename_i x S
    intro l p e s m args below meth c D cy ad C H locs ls hl hW
    have go := hk _ _ _ _ (swc_ok h) l p e s m args below meth c D cy ad C H locs ls hl hW
    by_cases ho : x.toInt < lo ∨ hi < x.toInt
    · rw [tsw_out ps lo key (by omega)] at go
      exact lv_tableOut (tgt := d) C.1 C.2.1 hd ho (by omega) go
    · have hlt : (x.toInt - lo).toNat < ps.length := by omega
      obtain ⟨q, hq⟩ : ∃ q, ps[(x.toInt - lo).toNat]? = some q := ⟨_, List.getElem?_eq_getElem hlt⟩
      rw [tsw_in (t := q.2) (v := q.1) ps lo (x.toInt - lo).toNat key hq (by omega)] at go
      refine lv_tableIn (tgt := q.2) (off := (q.2 : Int) - pc) C.1 C.2.1 hd (by omega) (by omega) ?_ (by omega) go
      rw [← Array.getElem?_toList, he, List.getElem?_map, hq]
      rfl
  · exact h.elim
/-! calls -/
section CL
variable {p : Program} {l : Launch} {e : Env} {R : Room} {s : State} {m : MethodId} {args : Array Value} {below : List Frame} {meth : Method} {c : Code} {H : Heap} {locs : List Loc} {cells slots : Nat} {Q : State → Prop}
theorem va_go {D : va_G} {cy : Nat → ClassId} {ad : Nat → Nat} {Q' : Option Value → Sto → Prop} {a' : Array Value} {A0 : Nat → Prop} {H0 : Heap} {free : Addr → Prop} {mc ms pc : Nat} {ls : Array Slot} {st0 rest : List Value} (hr : va_Run p l e R s m args below meth c H locs cells slots mc ms (F0 m pc ls st0) rest (QM D cy ad Q' a') free) (hS : va_S A0 H0 H locs) (hA : ∀ q, q < H.size → Aad ad q → A0 q) (hf : ∀ q, free q → A0 q)
    (kk : ∀ (v : Option Value) (σ' : Sto) (H1 : Heap) (locs1 : List Loc), Q' v σ' → va_P D vwCl (wsOf cy ad σ') H1 → va_D (Aad ad) (wsOf cy ad σ') → H.size ≤ H1.size → (∀ q : Nat, q < H.size → ¬ Aad ad q → H1[q]? = H[q]?) → va_S A0 H0 H1 locs1 → W p l e R s m args below meth c H1 locs1 (cells + mc) (slots + ms) Q (F0 m (pc + 3) ls ((v.map (rv ad)).toList ++ rest))) : W p l e R s m args below meth c H locs cells slots Q (F0 m pc ls st0) := by
  intro T hT X
  obtain ⟨v, st₀, t, T', L, h0, X', hL, e1, e2, ⟨⟨v', σ', hv, hq, hP, hD⟩, hz, hk⟩, st⟩ := hr T hT X
  cases hv
  rw [h0] at hz hk
  obtain ⟨t2, a1, b1⟩ := kk v' σ' T'.heap (locs ++ L) hq (by rw [e1]; exact hP) hD (by rw [e1]; exact hz) (fun q h1 h2 => by rw [e1]; exact hk q h1 h2)
    ⟨Nat.le_trans hS.1 (by rw [e1]; exact hz), fun q h1 h2 => by rw [e1, hk q (Nat.lt_of_lt_of_le h1 hS.1) (fun z => h2 (hA q (Nat.lt_of_lt_of_le h1 hS.1) z))]; exact hS.2.1 q h1 h2, fun q hq => by
      rcases List.mem_append.mp hq with h | h
      · exact hS.2.2 q h
      · exact hf _ (hL q h)⟩ T' rfl X'
  exact ⟨t2, st t2 a1, b1⟩
end CL
theorem PreM.blind {D : va_G} {cy : Nat → ClassId} {ad : Nat → Nat} {as : List Value} {σ : Sto} : FrameBlind (PreM D cy ad as σ) := fun a U g mk q => by
  obtain ⟨q0, q1, q2, q3, q4⟩ := q
  exact ⟨q0, q1, va_K.moved (u := U) (U := U.calling g mk a) (Vm.Alike.refl U.vm) q2, q3, Zf.moved (u := U) (U := U.calling g mk a) (Vm.Alike.refl U.vm) q4⟩
def CVok (M M' : Mt) (idx n : Nat) : Prop := Cond.methodLink (mO M) idx (mY M') ∈ UW ∧ Cond.instanceMethod (mY M') ∈ UW ∧ Cond.selects (mO M') (mY M') (mY M') ∈ UW ∧ Cond.initialized (mO M') ∈ UW ∧ ((mY M').cls ≠ "java/lang/invoke/MethodHandle" ∧ (mY M').cls ≠ "java/lang/invoke/VarHandle" ∧ (parseMethodDescriptor (mY M').desc).map (fun d => d.parameters.length) = some n)
def CSok (M M' : Mt) (idx n : Nat) : Prop := Cond.methodLink (mO M) idx (mY M') ∈ UW ∧ Cond.static (mY M') ∈ UW ∧ Cond.initialized (mY M').cls ∈ UW ∧ ((mY M').cls ≠ "java/lang/invoke/MethodHandle" ∧ (mY M').cls ≠ "java/lang/invoke/VarHandle" ∧ (parseMethodDescriptor (mY M').desc).map (fun d => d.parameters.length) = some n)
def cats (S : List Value) : Nat := match S with
  | [] => 0
  | v :: S => match c1 v with
    | true => cats S + 1
    | false => cats S + 2
theorem cats_ok (ad : Nat → Nat) (S : List Value) : ((S.map (rv ad)).map fun v => v.category).sum = cats S := by
  induction S with
  | nil => rfl
  | cons v S ih =>
    rw [List.map_cons, List.map_cons, List.sum_cons, ih]
    cases v <;> simp [cats, c1, rv, Value.category] <;> omega
def op_cv (M' : Mt) (ci n : Nat) : Op := fun k _ K pc L S σ => match k with
  | 0 => False
  | j + 1 => match S.drop n with
    | .ref a :: S' => match isC a ci && Nat.ble (cats S') 8 with
      | true => ∃ Q', EvM j M' (.ref a :: (S.take n).reverse) σ Q' ∧ ∀ v σ', Q' v σ' → K (pc + 3) L (v.toList ++ S') σ'
      | false => False
    | _ => False
def op_cs (M' : Mt) (n : Nat) : Op := fun k _ K pc L S σ => match k with
  | 0 => False
  | j + 1 => match Nat.ble n S.length && Nat.ble (cats (S.drop n)) 8 with
    | true => ∃ Q', EvM j M' (S.take n).reverse σ Q' ∧ ∀ v σ', Q' v σ' → K (pc + 3) L (v.toList ++ S.drop n) σ'
    | false => False
theorem lo_ok {M' : Mt} (h' : MOK M') (j : Nat) : (rmk j).frames + 1 ≤ (rmk (j + 1)).frames ∧ 8 + (mL M' + 11) + (rmk j).locals ≤ (rmk (j + 1)).locals := by
  have := h'.2.2.2.2
  refine ⟨Nat.le_refl _, ?_⟩
  show 8 + (mL M' + 11) + 64 * j ≤ 64 * (j + 1)
  omega
theorem Cx.pre {M : Mt} {p : Program} {s : State} {m : MethodId} {args : Array Value} {meth : Method} {c : Code} {D : va_G} {cy : Nat → ClassId} {ad : Nat → Nat} (C : Cx M p s m args meth c D cy ad) {σ : Sto} {H : Heap} {locs : List Loc} (hW : Wd D cy ad s.heap σ H locs) {as : List Value} {U : State} (hU : U.heap = H) (hw : s.WarmedH U.vm) : PreM D cy ad as σ (as.map (rv ad)).toArray U :=
  ⟨rfl, by rw [hU]; exact hW.1, va_K.moved hw.alike C.2.2.2.2.2.2.2.1, hW.2.1, by rw [hU]; exact (C.2.2.2.2.2.2.2.2.moved hw.alike).kept (fun a h1 h2 => hW.2.2.2.1 a h1 h2)⟩
theorem ok_cv {M M' : Mt} {pc idx ci n : Nat} {T : u_T} {N : Nat} (hM : MOK M) (hM' : MOK M') (hc : CVok M M' idx n) (hci : vwCl[ci]? = some (mO M', T, N)) (hd : decode (mB M) pc = .ok (.invokevirtual idx, 3)) : OpOK M pc (op_cv M' ci n) := by
  intro k Q K L S σ h hk
  unfold op_cv at h
  split at h
  · exact h.elim
  rename_i j
  split at h
  · rename_i a S' hS
    split at h
    · rename_i hb
      rw [Bool.and_eq_true] at hb
      obtain ⟨Q', hev, hgo⟩ := h
      intro l p e s m args below meth c D cy ad C H locs ls hl hW
      have hlen : (S.take n).length = n := by
        rw [List.length_take]
        have : (S.drop n).length = S'.length + 1 := by rw [hS]; rfl
        rw [List.length_drop] at this
        omega
      have hst : S.map (rv ad) = (((S.take n).reverse).map (rv ad)).reverse ++ .ref (ad a) :: S'.map (rv ad) := by
        conv => lhs; rw [← List.take_append_drop n S]
        rw [List.map_append, hS, List.map_reverse, List.reverse_reverse]
        rfl
      have hG : GoodIn (mW M) (wsV (mO M) idx (mO M') (mY M') (mW M')) := by
        intro w hw
        rcases List.mem_append.mp hw with hw | hw
        · have hu : w ∈ UW := by
            rcases List.mem_cons.mp hw with rfl | hw
            · exact hc.1
            rcases List.mem_cons.mp hw with rfl | hw
            · exact hc.2.1
            rcases List.mem_cons.mp hw with rfl | hw
            · exact hc.2.2.1
            rcases List.mem_cons.mp hw with rfl | hw
            · exact hc.2.2.2.1
            · cases hw
          exact ⟨hM.wU w hu, UW_good hu⟩
        · exact hM.good hM' w hw
      rw [hst]
      refine va_go (va_runV (As := ((S.take n).reverse).map (rv ad)) (rest := S'.map (rv ad)) ⟨C.1, C.2.1, C.2.2.1, C.2.2.2.2.2.1, C.2.2.2.2.2.2.1⟩ (hev l D cy ad) (cwV n C.2.2.2.2.2.2.1 hG hM'.2.1 rfl rfl ⟨hM'.2.2.1, hc.2.2.2.2⟩ (lo_ok hM' j)) ⟨PreM.blind, va_recv C.2.2.2.2.2.2.2.1 hW.1 hci (ws_ob (isC_ok hb.1)), fun U hU hw => C.pre hW hU hw⟩ rfl (by rw [List.length_map, List.length_reverse, hlen]) hl.1 rfl (lv_room (by rw [cats_ok]; exact Nat.le_of_ble_eq_true hb.2)) hd ⟨Nat.le_refl 0, Nat.le_refl 0⟩) hW.2.2 (fun _ _ h => h) (fun _ h => h) (fun v σ' H1 locs1 hq hP hD _ _ hS1 => ?_)
      have := hk _ _ _ _ (hgo v σ' hq) l p e s m args below meth c D cy ad C H1 locs1 ls hl ⟨hP, hD, hS1⟩
      rw [List.map_append] at this
      cases v <;> exact this
    · exact h.elim
  · exact h.elim
theorem ok_cs {M M' : Mt} {pc idx n : Nat} (hM : MOK M) (hM' : MOK M') (hc : CSok M M' idx n) (hd : decode (mB M) pc = .ok (.invokestatic idx, 3)) : OpOK M pc (op_cs M' n) := by
  intro k Q K L S σ h hk
  unfold op_cs at h
  split at h
  · exact h.elim
  rename_i j
  split at h
  · rename_i hb
    rw [Bool.and_eq_true] at hb
    obtain ⟨Q', hev, hgo⟩ := h
    intro l p e s m args below meth c D cy ad C H locs ls hl hW
    have hlen : (S.take n).length = n := by
      rw [List.length_take]
      have := Nat.le_of_ble_eq_true hb.1
      omega
    have hst : S.map (rv ad) = (((S.take n).reverse).map (rv ad)).reverse ++ (S.drop n).map (rv ad) := by
      conv => lhs; rw [← List.take_append_drop n S]
      rw [List.map_append, List.map_reverse, List.reverse_reverse]
    have hG : GoodIn (mW M) (va_wsS (mO M) idx (mY M') (mW M')) := by
      intro w hw
      rcases List.mem_append.mp hw with hw | hw
      · have hu : w ∈ UW := by
          rcases List.mem_cons.mp hw with rfl | hw
          · exact hc.1
          rcases List.mem_cons.mp hw with rfl | hw
          · exact hc.2.1
          rcases List.mem_cons.mp hw with rfl | hw
          · exact hc.2.2.1
          · cases hw
        exact ⟨hM.wU w hu, UW_good hu⟩
      · exact hM.good hM' w hw
    rw [hst]
    refine va_go (va_runS (As := ((S.take n).reverse).map (rv ad)) (rest := (S.drop n).map (rv ad)) ⟨C.1, C.2.1, C.2.2.1, C.2.2.2.2.2.1, C.2.2.2.2.2.2.1⟩ (hev l D cy ad) (va_cwS n C.2.2.2.2.2.2.1 hG hM'.2.1 rfl rfl hc.2.2.2 (lo_ok hM' j)) ⟨PreM.blind, fun U hU hw => C.pre hW hU hw⟩ rfl (by rw [List.length_map, List.length_reverse, hlen]) hl.1 rfl (lv_room (by rw [cats_ok]; exact Nat.le_of_ble_eq_true hb.2)) hd ⟨Nat.le_refl 0, Nat.le_refl 0⟩) hW.2.2 (fun _ _ h => h) (fun _ h => h) (fun v σ' H1 locs1 hq hP hD _ _ hS1 => ?_)
    have := hk _ _ _ _ (hgo v σ' hq) l p e s m args below meth c D cy ad C H1 locs1 ls hl ⟨hP, hD, hS1⟩
    rw [List.map_append] at this
    cases v <;> exact this
  · exact h.elim
/-! Math, arraycopy -/
def op_max : Op := fun k _ K pc L S σ => match k with
  | 0 => False
  | _ + 1 => match S with
    | .int y :: .int x :: S => match Nat.ble (cats S) 8 with
      | true => K (pc + 3) L (.int (if x < y then y else x) :: S) σ
      | false => False
    | _ => False
def op_min : Op := fun k _ K pc L S σ => match k with
  | 0 => False
  | _ + 1 => match S with
    | .int y :: .int x :: S => match Nat.ble (cats S) 8 with
      | true => K (pc + 3) L (.int (if y < x then y else x) :: S) σ
      | false => False
    | _ => False
def op_abs : Op := fun k _ K pc L S σ => match k with
  | 0 => False
  | _ + 1 => match S with
    | .int x :: S => match Nat.ble (cats S) 8 with
      | true => K (pc + 3) L (.int (if 0 ≤ x then x else 0 - x) :: S) σ
      | false => False
    | _ => False
theorem ok_max {M : Mt} {pc idx : Nat} (hM : MOK M) (h1 : Cond.methodLink (mO M) idx Lib.Math.max.name ∈ UW) (h2 : Cond.static Lib.Math.max.name ∈ UW) (h3 : Cond.initialized "java/lang/Math" ∈ UW) (h4 : Cond.code Lib.Math.max.name Lib.Math.max.code 2 (some .int) ∈ UW) (hd : decode (mB M) pc = .ok (.invokestatic idx, 3)) : OpOK M pc op_max := by
  intro k Q K L S σ h hk
  unfold op_max at h
  split at h
  · exact h.elim
  split at h
  · split at h
    · rename_i hb
      intro l p e s m args below meth c D cy ad C H locs ls hl hW
      have hts := C.2.2.2.2.2.2.1
      exact va_mmax C.1 C.2.1 (C.2.2.1.trans hl.1.symm) C.2.2.2.2.2.1 (hM.w hts h1) (hM.w hts h2) (hM.w hts h3) (hM.w hts h4) (Nat.succ_le_succ (Nat.zero_le _)) (by rw [cats_ok]; have := Nat.le_of_ble_eq_true hb; show _ ≤ 64 * (_ + 1); omega) (Nat.le_refl 0) (Nat.le_refl 0) hd (hk _ _ _ _ h l p e s m args below meth c D cy ad C H locs ls hl hW)
    · exact h.elim
  · exact h.elim
theorem ok_min {M : Mt} {pc idx : Nat} (hM : MOK M) (h1 : Cond.methodLink (mO M) idx Lib.Math.min.name ∈ UW) (h2 : Cond.static Lib.Math.min.name ∈ UW) (h3 : Cond.initialized "java/lang/Math" ∈ UW) (h4 : Cond.code Lib.Math.min.name Lib.Math.min.code 2 (some .int) ∈ UW) (hd : decode (mB M) pc = .ok (.invokestatic idx, 3)) : OpOK M pc op_min := by
  intro k Q K L S σ h hk
  unfold op_min at h
  split at h
  · exact h.elim
  split at h
  · split at h
    · rename_i hb
      intro l p e s m args below meth c D cy ad C H locs ls hl hW
      have hts := C.2.2.2.2.2.2.1
      exact va_mmin C.1 C.2.1 (C.2.2.1.trans hl.1.symm) C.2.2.2.2.2.1 (hM.w hts h1) (hM.w hts h2) (hM.w hts h3) (hM.w hts h4) (Nat.succ_le_succ (Nat.zero_le _)) (by rw [cats_ok]; have := Nat.le_of_ble_eq_true hb; show _ ≤ 64 * (_ + 1); omega) (Nat.le_refl 0) (Nat.le_refl 0) hd (hk _ _ _ _ h l p e s m args below meth c D cy ad C H locs ls hl hW)
    · exact h.elim
  · exact h.elim
theorem ok_abs {M : Mt} {pc idx : Nat} (hM : MOK M) (h1 : Cond.methodLink (mO M) idx Lib.Math.abs.name ∈ UW) (h2 : Cond.static Lib.Math.abs.name ∈ UW) (h3 : Cond.initialized "java/lang/Math" ∈ UW) (h4 : Cond.code Lib.Math.abs.name Lib.Math.abs.code 1 (some .int) ∈ UW) (hd : decode (mB M) pc = .ok (.invokestatic idx, 3)) : OpOK M pc op_abs := by
  intro k Q K L S σ h hk
  unfold op_abs at h
  split at h
  · exact h.elim
  split at h
  · split at h
    · rename_i hb
      intro l p e s m args below meth c D cy ad C H locs ls hl hW
      have hts := C.2.2.2.2.2.2.1
      exact va_mabs C.1 C.2.1 (C.2.2.1.trans hl.1.symm) C.2.2.2.2.2.1 (hM.w hts h1) (hM.w hts h2) (hM.w hts h3) (hM.w hts h4) (Nat.succ_le_succ (Nat.zero_le _)) (by rw [cats_ok]; have := Nat.le_of_ble_eq_true hb; show _ ≤ 64 * (_ + 1); omega) (Nat.le_refl 0) (Nat.le_refl 0) hd (hk _ _ _ _ h l p e s m args below meth c D cy ad C H locs ls hl hW)
    · exact h.elim
  · exact h.elim
def op_cpi : Op := fun k _ K pc L S σ => match k with
  | 0 => False
  | _ + 1 => match S with
    | .int n :: .int dp :: .ref a :: .int sp :: .ref b :: S => match arr a 1, arr b 1, Nat.ble (cats S) 8 with
      | some na, some nb, true => (¬ sp < 0 ∧ ¬ dp < 0 ∧ ¬ n < 0 ∧ sp.toNatClampNeg + n.toNatClampNeg ≤ nb ∧ dp.toNatClampNeg + n.toNatClampNeg ≤ na) ∧ K (pc + 3) L S (sA σ a (va_cpy (gA σ b) (gA σ a) sp.toNatClampNeg dp.toNatClampNeg n.toNatClampNeg))
      | _, _, _ => False
    | _ => False
theorem ok_cpi {M : Mt} {pc idx : Nat} (hM : MOK M) (h1 : Cond.methodLink (mO M) idx arraycopyName ∈ UW) (h2 : Cond.native arraycopyName ∈ UW) (h3 : Cond.static arraycopyName ∈ UW) (h4 : Cond.initialized "java/lang/System" ∈ UW) (hd : decode (mB M) pc = .ok (.invokestatic idx, 3)) : OpOK M pc op_cpi := by
  intro k Q K L S σ h hk
  unfold op_cpi at h
  split at h
  · exact h.elim
  split at h
  · split at h
    · rename_i na nb ha hb hs
      obtain ⟨⟨c1, c2, c3, c4, c5⟩, h⟩ := h
      intro l p e s m args below meth c D cy ad C H locs ls hl hW
      have hts := C.2.2.2.2.2.2.1
      refine va_copyi C.1 C.2.1 (C.2.2.1.trans hl.1.symm) C.2.2.2.2.2.1 (hM.w hts h1) (hM.w hts h2) (hM.w hts h3) (hM.w hts h4) C.2.2.2.2.2.2.2.1 hW.1 hW.2.1 hW.2.2 _ _ 0 0 (ty := .int) (ws_in (t := 0) (by decide) (arr_ok hb)) (ws_in (t := 0) (by decide) (arr_ok ha)) rfl rfl rfl c1 c2 c3 c4 c5 (fun _ _ => rfl) (Nat.succ_le_succ (Nat.zero_le _)) (by rw [cats_ok]; have := Nat.le_of_ble_eq_true hs; show _ + (nativeFrameWords "java/lang/System" "arraycopy" 5 + 11) ≤ 64 * (_ + 1); rw [show nativeFrameWords "java/lang/System" "arraycopy" 5 = 7 from by decide +kernel]; omega) hd (fun H1 locs1 hP1 hD1 hS1 => ?_)
      rw [ws_sA (t := 0) (by decide) (arr_ok ha)] at hP1 hD1
      exact hk _ _ _ _ h l p e s m args below meth c D cy ad C H1 locs1 ls hl ⟨hP1, hD1, hS1⟩
    · exact h.elim
  · exact h.elim
def op_cpl : Op := fun k _ K pc L S σ => match k with
  | 0 => False
  | _ + 1 => match S with
    | .int n :: .int dp :: .ref a :: .int sp :: .ref b :: S => match arr a 5, arr b 5, Nat.ble (cats S) 8 with
      | some na, some nb, true => (¬ sp < 0 ∧ ¬ dp < 0 ∧ ¬ n < 0 ∧ sp.toNatClampNeg + n.toNatClampNeg ≤ nb ∧ dp.toNatClampNeg + n.toNatClampNeg ≤ na) ∧ K (pc + 3) L S (sJ σ a (va_cpy (gJ σ b) (gJ σ a) sp.toNatClampNeg dp.toNatClampNeg n.toNatClampNeg))
      | _, _, _ => False
    | _ => False
theorem ok_cpl {M : Mt} {pc idx : Nat} (hM : MOK M) (h1 : Cond.methodLink (mO M) idx arraycopyName ∈ UW) (h2 : Cond.native arraycopyName ∈ UW) (h3 : Cond.static arraycopyName ∈ UW) (h4 : Cond.initialized "java/lang/System" ∈ UW) (hd : decode (mB M) pc = .ok (.invokestatic idx, 3)) : OpOK M pc op_cpl := by
  intro k Q K L S σ h hk
  unfold op_cpl at h
  split at h
  · exact h.elim
  split at h
  · split at h
    · rename_i na nb ha hb hs
      obtain ⟨⟨c1, c2, c3, c4, c5⟩, h⟩ := h
      intro l p e s m args below meth c D cy ad C H locs ls hl hW
      have hts := C.2.2.2.2.2.2.1
      refine va_copyl C.1 C.2.1 (C.2.2.1.trans hl.1.symm) C.2.2.2.2.2.1 (hM.w hts h1) (hM.w hts h2) (hM.w hts h3) (hM.w hts h4) C.2.2.2.2.2.2.2.1 hW.1 hW.2.1 hW.2.2 _ _ 4 4 (ty := .long) (ws_lo (arr_ok hb)) (ws_lo (arr_ok ha)) rfl rfl rfl c1 c2 c3 c4 c5 (fun _ _ => rfl) (Nat.succ_le_succ (Nat.zero_le _)) (by rw [cats_ok]; have := Nat.le_of_ble_eq_true hs; show _ + (nativeFrameWords "java/lang/System" "arraycopy" 5 + 11) ≤ 64 * (_ + 1); rw [show nativeFrameWords "java/lang/System" "arraycopy" 5 = 7 from by decide +kernel]; omega) hd (fun H1 locs1 hP1 hD1 hS1 => ?_)
      rw [ws_sJ (arr_ok ha)] at hP1 hD1
      exact hk _ _ _ _ h l p e s m args below meth c D cy ad C H1 locs1 ls hl ⟨hP1, hD1, hS1⟩
    · exact h.elim
  · exact h.elim
/-! the one static field: a row of three numbers outside the world -/
def op_gs : Op := fun _ _ K pc L S σ => K (pc + 3) L (.ref 999 :: S) σ
theorem ok_gs {M : Mt} {pc idx : Nat} (hM : MOK M) (h1 : Cond.fieldLink (mO M) idx "NamesInMouths$Ear" "ASKED" "[I" ∈ UW) (hd : decode (mB M) pc = .ok (.getstatic idx, 3)) : OpOK M pc op_gs := by
  intro k Q K L S σ h hk
  intro l p e s m args below meth c D cy ad C H locs ls hl hW
  exact va_gets C.1 C.2.1 C.2.2.2.2.2.2.2.2.1 hW.2.2 C.2.2.2.2.2.1 (hM.w C.2.2.2.2.2.2.1 h1) (fun _ h9 => h9) hd (hk _ _ _ _ h l p e s m args below meth c D cy ad C H locs ls hl hW)
def op_tlen : Op := fun _ _ K pc L S σ => match S with
  | .ref 999 :: S => K (pc + 1) L (.int 3 :: S) σ
  | _ => False
theorem ok_tlen {M : Mt} {pc : Nat} (hd : decode (mB M) pc = .ok (.arraylength, 1)) : OpOK M pc op_tlen := by
  intro k Q K L S σ h hk
  unfold op_tlen at h
  split at h
  · intro l p e s m args below meth c D cy ad C H locs ls hl hW
    exact va_tlen C.1 C.2.1 C.2.2.2.2.2.2.2.2.2 hW.2.2 rfl hd (hk _ _ _ _ h l p e s m args below meth c D cy ad C H locs ls hl hW)
  · exact h.elim
def askN (i : Int32) : Int32 := match i.toNatClampNeg with | 0 => 0 | 1 => 3 | _ => 4
def op_tald : Op := fun _ _ K pc L S σ => match S with
  | .int i :: .ref 999 :: S => vp_in i 3 ∧ K (pc + 1) L (.int (askN i) :: S) σ
  | _ => False
theorem ok_tald {M : Mt} {pc : Nat} (hd : decode (mB M) pc = .ok (.iaload, 1)) : OpOK M pc op_tald := by
  intro k Q K L S σ h hk
  unfold op_tald at h
  split at h
  · intro l p e s m args below meth c D cy ad C H locs ls hl hW
    exact va_ti C.1 C.2.1 C.2.2.2.2.2.2.2.2.2 hW.2.2 h.1 rfl hd (hk _ _ _ _ h.2 l p e s m args below meth c D cy ad C H locs ls hl hW)
  · exact h.elim
end
section
/-! words by their places -/
theorem fn {M : Mt} : ∀ r ∈ ([] : List (Nat × Op)), OpOK M r.1 r.2 := fun _ h => nomatch h
theorem fc {M : Mt} {pc : Nat} {op : Op} {T : List (Nat × Op)} (h : OpOK M pc op) (ht : ∀ r ∈ T, OpOK M r.1 r.2) : ∀ r ∈ (pc, op) :: T, OpOK M r.1 r.2 := List.forall_mem_cons.mpr ⟨h, ht⟩
theorem inU0 : ∀ w ∈ u_ws RX0 TX0 3, w ∈ UW := fun _ h => List.mem_append_left _ (List.mem_append_left _ (List.mem_append_left _ (List.mem_append_left _ (List.mem_append_left _ (List.mem_append_right _ h)))))
theorem inU1 : ∀ w ∈ u_ws RX1 TX1 3, w ∈ UW := fun _ h => List.mem_append_left _ (List.mem_append_left _ (List.mem_append_left _ (List.mem_append_left _ (List.mem_append_right _ h))))
theorem inU2 : ∀ w ∈ u_ws RX2 TX2 8, w ∈ UW := fun _ h => List.mem_append_left _ (List.mem_append_left _ (List.mem_append_left _ (List.mem_append_left _ (List.mem_append_left _ (List.mem_append_left _ (List.mem_append_left _ (List.mem_append_left _ (List.mem_append_left _ (List.mem_append_right _ h)))))))))
theorem inU3 : ∀ w ∈ u_ws RX3 TX3 4, w ∈ UW := fun _ h => List.mem_append_left _ (List.mem_append_left _ (List.mem_append_left _ (List.mem_append_left _ (List.mem_append_left _ (List.mem_append_left _ (List.mem_append_left _ (List.mem_append_right _ h)))))))
theorem inU4 : ∀ w ∈ u_ws RX4 TX4 6, w ∈ UW := fun _ h => List.mem_append_left _ (List.mem_append_left _ (List.mem_append_right _ h))
theorem inU5 : ∀ w ∈ u_ws RX5 TX5 3, w ∈ UW := fun _ h => List.mem_append_left _ (List.mem_append_right _ h)
theorem inU6 : ∀ w ∈ u_ws RX6 TX6 3, w ∈ UW := fun _ h => List.mem_append_left _ (List.mem_append_left _ (List.mem_append_left _ (List.mem_append_left _ (List.mem_append_left _ (List.mem_append_left _ (List.mem_append_left _ (List.mem_append_left _ (List.mem_append_right _ h))))))))
theorem inU7 : ∀ w ∈ u_ws RX7 TX7 6, w ∈ UW := fun _ h => List.mem_append_left _ (List.mem_append_left _ (List.mem_append_left _ (List.mem_append_right _ h)))
theorem inU8 : ∀ w ∈ u_ws RX8 TX8 2, w ∈ UW := fun _ h => List.mem_append_left _ (List.mem_append_left _ (List.mem_append_left _ (List.mem_append_left _ (List.mem_append_left _ (List.mem_append_left _ (List.mem_append_left _ (List.mem_append_left _ (List.mem_append_left _ (List.mem_append_left _ (List.mem_append_left _ (List.mem_append_right _ h)))))))))))
theorem inU9 : ∀ w ∈ u_ws RX9 TX9 2, w ∈ UW := fun _ h => List.mem_append_left _ (List.mem_append_left _ (List.mem_append_left _ (List.mem_append_left _ (List.mem_append_left _ (List.mem_append_left _ (List.mem_append_left _ (List.mem_append_left _ (List.mem_append_left _ (List.mem_append_left _ (List.mem_append_right _ h))))))))))
theorem inU10 : ∀ w ∈ u_ws RX10 TX10 14, w ∈ UW := fun _ h => List.mem_append_left _ (List.mem_append_left _ (List.mem_append_left _ (List.mem_append_left _ (List.mem_append_left _ (List.mem_append_left _ (List.mem_append_right _ h))))))
theorem inU11 : ∀ w ∈ u_ws RX11 TX11 13, w ∈ UW := fun _ h => List.mem_append_left _ (List.mem_append_left _ (List.mem_append_left _ (List.mem_append_left _ (List.mem_append_left _ (List.mem_append_left _ (List.mem_append_left _ (List.mem_append_left _ (List.mem_append_left _ (List.mem_append_left _ (List.mem_append_left _ (List.mem_append_left _ (List.mem_append_left _ (List.mem_append_right _ h)))))))))))))
theorem inU12 : ∀ w ∈ u_ws RX12 TX12 47, w ∈ UW := fun _ h => List.mem_append_left _ (List.mem_append_left _ (List.mem_append_left _ (List.mem_append_left _ (List.mem_append_left _ (List.mem_append_left _ (List.mem_append_left _ (List.mem_append_left _ (List.mem_append_left _ (List.mem_append_left _ (List.mem_append_left _ (List.mem_append_left _ (List.mem_append_right _ h))))))))))))
def uR : List Cond := wsL_law0_r1 ++ (wsL_law0_r2 ++ (wsL_law0_r3 ++ (wsL_law0_r4 ++ (wsL_law0_r5 ++ (wsL_law0_r6 ++ (wsL_law0_r7 ++ (wsL_law0_r8 ++ (wsL_law0_r9 ++ (wsL_law0_r10 ++ (wsL_law0_r11 ++ (wsL_law0_r12 ++ (wsL_law0_r13 ++ (wsL_law0_r14 ++ (wsL_law0_r15 ++ (wsL_law0_r16 ++ (wsL_law0_r17 ++ (wsL_law0_r18 ++ (wsL_law0_r19 ++ (wsL_law0_r20 ++ (wsL_law0_r21 ++ (wsL_law0_r22 ++ (wsL_law0_r23 ++ (wsL_law0_r24 ++ (wsL_law0_r25 ++ (wsL_law0_r26 ++ (wsL_law0_r27 ++ (wsL_law0_r28 ++ (wsL_law0_r29 ++ (wsL_law0_r30 ++ (wsL_law0_r31 ++ (wsL_law0_r32 ++ (wsL_law0_r33 ++ (wsL_law0_r34 ++ (wsL_law0_r35 ++ (wsL_law0_r36 ++ (wsL_law0_r37 ++ (wsL_law0_r38 ++ (wsL_law0_r39 ++ (wsL_law0_r40 ++ (wsL_law0_r41 ++ (wsL_law0_r42 ++ (wsL_law0_r43 ++ (wsL_law0_r44 ++ (wsL_law0_r45 ++ (wsL_law0_r46 ++ (wsL_law0_r47 ++ (wsL_law0_r48 ++ (wsL_law0_r49 ++ (wsL_law0_r50 ++ (wsL_law0_r51 ++ (wsL_law0_r52 ++ (wsL_law0_r53 ++ (wsL_law0_r54 ++ (wsL_law0_r55 ++ (wsL_law0_r56)))))))))))))))))))))))))))))))))))))))))))))))))))))))
theorem inR : ∀ w ∈ uR, w ∈ UW := fun _ h => List.mem_append_left _ (List.mem_append_left _ (List.mem_append_left _ (List.mem_append_left _ (List.mem_append_left _ (List.mem_append_left _ (List.mem_append_left _ (List.mem_append_left _ (List.mem_append_left _ (List.mem_append_left _ (List.mem_append_left _ (List.mem_append_left _ (List.mem_append_left _ (List.mem_append_left _ (h))))))))))))))
theorem inR1 : ∀ w ∈ wsL_law0_r1, w ∈ UW := fun w h => inR w (List.mem_append_left _ h)
theorem inR2 : ∀ w ∈ wsL_law0_r2, w ∈ UW := fun w h => inR w (List.mem_append_right _ (List.mem_append_left _ h))
theorem inR3 : ∀ w ∈ wsL_law0_r3, w ∈ UW := fun w h => inR w (List.mem_append_right _ (List.mem_append_right _ (List.mem_append_left _ h)))
theorem inR4 : ∀ w ∈ wsL_law0_r4, w ∈ UW := fun w h => inR w (List.mem_append_right _ (List.mem_append_right _ (List.mem_append_right _ (List.mem_append_left _ h))))
theorem inR5 : ∀ w ∈ wsL_law0_r5, w ∈ UW := fun w h => inR w (List.mem_append_right _ (List.mem_append_right _ (List.mem_append_right _ (List.mem_append_right _ (List.mem_append_left _ h)))))
theorem inR6 : ∀ w ∈ wsL_law0_r6, w ∈ UW := fun w h => inR w (List.mem_append_right _ (List.mem_append_right _ (List.mem_append_right _ (List.mem_append_right _ (List.mem_append_right _ (List.mem_append_left _ h))))))
theorem inR7 : ∀ w ∈ wsL_law0_r7, w ∈ UW := fun w h => inR w (List.mem_append_right _ (List.mem_append_right _ (List.mem_append_right _ (List.mem_append_right _ (List.mem_append_right _ (List.mem_append_right _ (List.mem_append_left _ h)))))))
theorem inR8 : ∀ w ∈ wsL_law0_r8, w ∈ UW := fun w h => inR w (List.mem_append_right _ (List.mem_append_right _ (List.mem_append_right _ (List.mem_append_right _ (List.mem_append_right _ (List.mem_append_right _ (List.mem_append_right _ (List.mem_append_left _ h))))))))
theorem inR9 : ∀ w ∈ wsL_law0_r9, w ∈ UW := fun w h => inR w (List.mem_append_right _ (List.mem_append_right _ (List.mem_append_right _ (List.mem_append_right _ (List.mem_append_right _ (List.mem_append_right _ (List.mem_append_right _ (List.mem_append_right _ (List.mem_append_left _ h)))))))))
theorem inR10 : ∀ w ∈ wsL_law0_r10, w ∈ UW := fun w h => inR w (List.mem_append_right _ (List.mem_append_right _ (List.mem_append_right _ (List.mem_append_right _ (List.mem_append_right _ (List.mem_append_right _ (List.mem_append_right _ (List.mem_append_right _ (List.mem_append_right _ (List.mem_append_left _ h))))))))))
theorem inR11 : ∀ w ∈ wsL_law0_r11, w ∈ UW := fun w h => inR w (List.mem_append_right _ (List.mem_append_right _ (List.mem_append_right _ (List.mem_append_right _ (List.mem_append_right _ (List.mem_append_right _ (List.mem_append_right _ (List.mem_append_right _ (List.mem_append_right _ (List.mem_append_right _ (List.mem_append_left _ h)))))))))))
theorem inR12 : ∀ w ∈ wsL_law0_r12, w ∈ UW := fun w h => inR w (List.mem_append_right _ (List.mem_append_right _ (List.mem_append_right _ (List.mem_append_right _ (List.mem_append_right _ (List.mem_append_right _ (List.mem_append_right _ (List.mem_append_right _ (List.mem_append_right _ (List.mem_append_right _ (List.mem_append_right _ (List.mem_append_left _ h))))))))))))
theorem inR13 : ∀ w ∈ wsL_law0_r13, w ∈ UW := fun w h => inR w (List.mem_append_right _ (List.mem_append_right _ (List.mem_append_right _ (List.mem_append_right _ (List.mem_append_right _ (List.mem_append_right _ (List.mem_append_right _ (List.mem_append_right _ (List.mem_append_right _ (List.mem_append_right _ (List.mem_append_right _ (List.mem_append_right _ (List.mem_append_left _ h)))))))))))))
theorem inR14 : ∀ w ∈ wsL_law0_r14, w ∈ UW := fun w h => inR w (List.mem_append_right _ (List.mem_append_right _ (List.mem_append_right _ (List.mem_append_right _ (List.mem_append_right _ (List.mem_append_right _ (List.mem_append_right _ (List.mem_append_right _ (List.mem_append_right _ (List.mem_append_right _ (List.mem_append_right _ (List.mem_append_right _ (List.mem_append_right _ (List.mem_append_left _ h))))))))))))))
theorem inR15 : ∀ w ∈ wsL_law0_r15, w ∈ UW := fun w h => inR w (List.mem_append_right _ (List.mem_append_right _ (List.mem_append_right _ (List.mem_append_right _ (List.mem_append_right _ (List.mem_append_right _ (List.mem_append_right _ (List.mem_append_right _ (List.mem_append_right _ (List.mem_append_right _ (List.mem_append_right _ (List.mem_append_right _ (List.mem_append_right _ (List.mem_append_right _ (List.mem_append_left _ h)))))))))))))))
theorem inR16 : ∀ w ∈ wsL_law0_r16, w ∈ UW := fun w h => inR w (List.mem_append_right _ (List.mem_append_right _ (List.mem_append_right _ (List.mem_append_right _ (List.mem_append_right _ (List.mem_append_right _ (List.mem_append_right _ (List.mem_append_right _ (List.mem_append_right _ (List.mem_append_right _ (List.mem_append_right _ (List.mem_append_right _ (List.mem_append_right _ (List.mem_append_right _ (List.mem_append_right _ (List.mem_append_left _ h))))))))))))))))
theorem inR17 : ∀ w ∈ wsL_law0_r17, w ∈ UW := fun w h => inR w (List.mem_append_right _ (List.mem_append_right _ (List.mem_append_right _ (List.mem_append_right _ (List.mem_append_right _ (List.mem_append_right _ (List.mem_append_right _ (List.mem_append_right _ (List.mem_append_right _ (List.mem_append_right _ (List.mem_append_right _ (List.mem_append_right _ (List.mem_append_right _ (List.mem_append_right _ (List.mem_append_right _ (List.mem_append_right _ (List.mem_append_left _ h)))))))))))))))))
theorem inR18 : ∀ w ∈ wsL_law0_r18, w ∈ UW := fun w h => inR w (List.mem_append_right _ (List.mem_append_right _ (List.mem_append_right _ (List.mem_append_right _ (List.mem_append_right _ (List.mem_append_right _ (List.mem_append_right _ (List.mem_append_right _ (List.mem_append_right _ (List.mem_append_right _ (List.mem_append_right _ (List.mem_append_right _ (List.mem_append_right _ (List.mem_append_right _ (List.mem_append_right _ (List.mem_append_right _ (List.mem_append_right _ (List.mem_append_left _ h))))))))))))))))))
theorem inR19 : ∀ w ∈ wsL_law0_r19, w ∈ UW := fun w h => inR w (List.mem_append_right _ (List.mem_append_right _ (List.mem_append_right _ (List.mem_append_right _ (List.mem_append_right _ (List.mem_append_right _ (List.mem_append_right _ (List.mem_append_right _ (List.mem_append_right _ (List.mem_append_right _ (List.mem_append_right _ (List.mem_append_right _ (List.mem_append_right _ (List.mem_append_right _ (List.mem_append_right _ (List.mem_append_right _ (List.mem_append_right _ (List.mem_append_right _ (List.mem_append_left _ h)))))))))))))))))))
theorem inR20 : ∀ w ∈ wsL_law0_r20, w ∈ UW := fun w h => inR w (List.mem_append_right _ (List.mem_append_right _ (List.mem_append_right _ (List.mem_append_right _ (List.mem_append_right _ (List.mem_append_right _ (List.mem_append_right _ (List.mem_append_right _ (List.mem_append_right _ (List.mem_append_right _ (List.mem_append_right _ (List.mem_append_right _ (List.mem_append_right _ (List.mem_append_right _ (List.mem_append_right _ (List.mem_append_right _ (List.mem_append_right _ (List.mem_append_right _ (List.mem_append_right _ (List.mem_append_left _ h))))))))))))))))))))
theorem inR21 : ∀ w ∈ wsL_law0_r21, w ∈ UW := fun w h => inR w (List.mem_append_right _ (List.mem_append_right _ (List.mem_append_right _ (List.mem_append_right _ (List.mem_append_right _ (List.mem_append_right _ (List.mem_append_right _ (List.mem_append_right _ (List.mem_append_right _ (List.mem_append_right _ (List.mem_append_right _ (List.mem_append_right _ (List.mem_append_right _ (List.mem_append_right _ (List.mem_append_right _ (List.mem_append_right _ (List.mem_append_right _ (List.mem_append_right _ (List.mem_append_right _ (List.mem_append_right _ (List.mem_append_left _ h)))))))))))))))))))))
theorem inR22 : ∀ w ∈ wsL_law0_r22, w ∈ UW := fun w h => inR w (List.mem_append_right _ (List.mem_append_right _ (List.mem_append_right _ (List.mem_append_right _ (List.mem_append_right _ (List.mem_append_right _ (List.mem_append_right _ (List.mem_append_right _ (List.mem_append_right _ (List.mem_append_right _ (List.mem_append_right _ (List.mem_append_right _ (List.mem_append_right _ (List.mem_append_right _ (List.mem_append_right _ (List.mem_append_right _ (List.mem_append_right _ (List.mem_append_right _ (List.mem_append_right _ (List.mem_append_right _ (List.mem_append_right _ (List.mem_append_left _ h))))))))))))))))))))))
theorem inR23 : ∀ w ∈ wsL_law0_r23, w ∈ UW := fun w h => inR w (List.mem_append_right _ (List.mem_append_right _ (List.mem_append_right _ (List.mem_append_right _ (List.mem_append_right _ (List.mem_append_right _ (List.mem_append_right _ (List.mem_append_right _ (List.mem_append_right _ (List.mem_append_right _ (List.mem_append_right _ (List.mem_append_right _ (List.mem_append_right _ (List.mem_append_right _ (List.mem_append_right _ (List.mem_append_right _ (List.mem_append_right _ (List.mem_append_right _ (List.mem_append_right _ (List.mem_append_right _ (List.mem_append_right _ (List.mem_append_right _ (List.mem_append_left _ h)))))))))))))))))))))))
theorem inR24 : ∀ w ∈ wsL_law0_r24, w ∈ UW := fun w h => inR w (List.mem_append_right _ (List.mem_append_right _ (List.mem_append_right _ (List.mem_append_right _ (List.mem_append_right _ (List.mem_append_right _ (List.mem_append_right _ (List.mem_append_right _ (List.mem_append_right _ (List.mem_append_right _ (List.mem_append_right _ (List.mem_append_right _ (List.mem_append_right _ (List.mem_append_right _ (List.mem_append_right _ (List.mem_append_right _ (List.mem_append_right _ (List.mem_append_right _ (List.mem_append_right _ (List.mem_append_right _ (List.mem_append_right _ (List.mem_append_right _ (List.mem_append_right _ (List.mem_append_left _ h))))))))))))))))))))))))
theorem inR25 : ∀ w ∈ wsL_law0_r25, w ∈ UW := fun w h => inR w (List.mem_append_right _ (List.mem_append_right _ (List.mem_append_right _ (List.mem_append_right _ (List.mem_append_right _ (List.mem_append_right _ (List.mem_append_right _ (List.mem_append_right _ (List.mem_append_right _ (List.mem_append_right _ (List.mem_append_right _ (List.mem_append_right _ (List.mem_append_right _ (List.mem_append_right _ (List.mem_append_right _ (List.mem_append_right _ (List.mem_append_right _ (List.mem_append_right _ (List.mem_append_right _ (List.mem_append_right _ (List.mem_append_right _ (List.mem_append_right _ (List.mem_append_right _ (List.mem_append_right _ (List.mem_append_left _ h)))))))))))))))))))))))))
theorem inR26 : ∀ w ∈ wsL_law0_r26, w ∈ UW := fun w h => inR w (List.mem_append_right _ (List.mem_append_right _ (List.mem_append_right _ (List.mem_append_right _ (List.mem_append_right _ (List.mem_append_right _ (List.mem_append_right _ (List.mem_append_right _ (List.mem_append_right _ (List.mem_append_right _ (List.mem_append_right _ (List.mem_append_right _ (List.mem_append_right _ (List.mem_append_right _ (List.mem_append_right _ (List.mem_append_right _ (List.mem_append_right _ (List.mem_append_right _ (List.mem_append_right _ (List.mem_append_right _ (List.mem_append_right _ (List.mem_append_right _ (List.mem_append_right _ (List.mem_append_right _ (List.mem_append_right _ (List.mem_append_left _ h))))))))))))))))))))))))))
theorem inR27 : ∀ w ∈ wsL_law0_r27, w ∈ UW := fun w h => inR w (List.mem_append_right _ (List.mem_append_right _ (List.mem_append_right _ (List.mem_append_right _ (List.mem_append_right _ (List.mem_append_right _ (List.mem_append_right _ (List.mem_append_right _ (List.mem_append_right _ (List.mem_append_right _ (List.mem_append_right _ (List.mem_append_right _ (List.mem_append_right _ (List.mem_append_right _ (List.mem_append_right _ (List.mem_append_right _ (List.mem_append_right _ (List.mem_append_right _ (List.mem_append_right _ (List.mem_append_right _ (List.mem_append_right _ (List.mem_append_right _ (List.mem_append_right _ (List.mem_append_right _ (List.mem_append_right _ (List.mem_append_right _ (List.mem_append_left _ h)))))))))))))))))))))))))))
theorem inR28 : ∀ w ∈ wsL_law0_r28, w ∈ UW := fun w h => inR w (List.mem_append_right _ (List.mem_append_right _ (List.mem_append_right _ (List.mem_append_right _ (List.mem_append_right _ (List.mem_append_right _ (List.mem_append_right _ (List.mem_append_right _ (List.mem_append_right _ (List.mem_append_right _ (List.mem_append_right _ (List.mem_append_right _ (List.mem_append_right _ (List.mem_append_right _ (List.mem_append_right _ (List.mem_append_right _ (List.mem_append_right _ (List.mem_append_right _ (List.mem_append_right _ (List.mem_append_right _ (List.mem_append_right _ (List.mem_append_right _ (List.mem_append_right _ (List.mem_append_right _ (List.mem_append_right _ (List.mem_append_right _ (List.mem_append_right _ (List.mem_append_left _ h))))))))))))))))))))))))))))
theorem inR29 : ∀ w ∈ wsL_law0_r29, w ∈ UW := fun w h => inR w (List.mem_append_right _ (List.mem_append_right _ (List.mem_append_right _ (List.mem_append_right _ (List.mem_append_right _ (List.mem_append_right _ (List.mem_append_right _ (List.mem_append_right _ (List.mem_append_right _ (List.mem_append_right _ (List.mem_append_right _ (List.mem_append_right _ (List.mem_append_right _ (List.mem_append_right _ (List.mem_append_right _ (List.mem_append_right _ (List.mem_append_right _ (List.mem_append_right _ (List.mem_append_right _ (List.mem_append_right _ (List.mem_append_right _ (List.mem_append_right _ (List.mem_append_right _ (List.mem_append_right _ (List.mem_append_right _ (List.mem_append_right _ (List.mem_append_right _ (List.mem_append_right _ (List.mem_append_left _ h)))))))))))))))))))))))))))))
theorem inR30 : ∀ w ∈ wsL_law0_r30, w ∈ UW := fun w h => inR w (List.mem_append_right _ (List.mem_append_right _ (List.mem_append_right _ (List.mem_append_right _ (List.mem_append_right _ (List.mem_append_right _ (List.mem_append_right _ (List.mem_append_right _ (List.mem_append_right _ (List.mem_append_right _ (List.mem_append_right _ (List.mem_append_right _ (List.mem_append_right _ (List.mem_append_right _ (List.mem_append_right _ (List.mem_append_right _ (List.mem_append_right _ (List.mem_append_right _ (List.mem_append_right _ (List.mem_append_right _ (List.mem_append_right _ (List.mem_append_right _ (List.mem_append_right _ (List.mem_append_right _ (List.mem_append_right _ (List.mem_append_right _ (List.mem_append_right _ (List.mem_append_right _ (List.mem_append_right _ (List.mem_append_left _ h))))))))))))))))))))))))))))))
theorem inR31 : ∀ w ∈ wsL_law0_r31, w ∈ UW := fun w h => inR w (List.mem_append_right _ (List.mem_append_right _ (List.mem_append_right _ (List.mem_append_right _ (List.mem_append_right _ (List.mem_append_right _ (List.mem_append_right _ (List.mem_append_right _ (List.mem_append_right _ (List.mem_append_right _ (List.mem_append_right _ (List.mem_append_right _ (List.mem_append_right _ (List.mem_append_right _ (List.mem_append_right _ (List.mem_append_right _ (List.mem_append_right _ (List.mem_append_right _ (List.mem_append_right _ (List.mem_append_right _ (List.mem_append_right _ (List.mem_append_right _ (List.mem_append_right _ (List.mem_append_right _ (List.mem_append_right _ (List.mem_append_right _ (List.mem_append_right _ (List.mem_append_right _ (List.mem_append_right _ (List.mem_append_right _ (List.mem_append_left _ h)))))))))))))))))))))))))))))))
theorem inR32 : ∀ w ∈ wsL_law0_r32, w ∈ UW := fun w h => inR w (List.mem_append_right _ (List.mem_append_right _ (List.mem_append_right _ (List.mem_append_right _ (List.mem_append_right _ (List.mem_append_right _ (List.mem_append_right _ (List.mem_append_right _ (List.mem_append_right _ (List.mem_append_right _ (List.mem_append_right _ (List.mem_append_right _ (List.mem_append_right _ (List.mem_append_right _ (List.mem_append_right _ (List.mem_append_right _ (List.mem_append_right _ (List.mem_append_right _ (List.mem_append_right _ (List.mem_append_right _ (List.mem_append_right _ (List.mem_append_right _ (List.mem_append_right _ (List.mem_append_right _ (List.mem_append_right _ (List.mem_append_right _ (List.mem_append_right _ (List.mem_append_right _ (List.mem_append_right _ (List.mem_append_right _ (List.mem_append_right _ (List.mem_append_left _ h))))))))))))))))))))))))))))))))
theorem inR33 : ∀ w ∈ wsL_law0_r33, w ∈ UW := fun w h => inR w (List.mem_append_right _ (List.mem_append_right _ (List.mem_append_right _ (List.mem_append_right _ (List.mem_append_right _ (List.mem_append_right _ (List.mem_append_right _ (List.mem_append_right _ (List.mem_append_right _ (List.mem_append_right _ (List.mem_append_right _ (List.mem_append_right _ (List.mem_append_right _ (List.mem_append_right _ (List.mem_append_right _ (List.mem_append_right _ (List.mem_append_right _ (List.mem_append_right _ (List.mem_append_right _ (List.mem_append_right _ (List.mem_append_right _ (List.mem_append_right _ (List.mem_append_right _ (List.mem_append_right _ (List.mem_append_right _ (List.mem_append_right _ (List.mem_append_right _ (List.mem_append_right _ (List.mem_append_right _ (List.mem_append_right _ (List.mem_append_right _ (List.mem_append_right _ (List.mem_append_left _ h)))))))))))))))))))))))))))))))))
theorem inR34 : ∀ w ∈ wsL_law0_r34, w ∈ UW := fun w h => inR w (List.mem_append_right _ (List.mem_append_right _ (List.mem_append_right _ (List.mem_append_right _ (List.mem_append_right _ (List.mem_append_right _ (List.mem_append_right _ (List.mem_append_right _ (List.mem_append_right _ (List.mem_append_right _ (List.mem_append_right _ (List.mem_append_right _ (List.mem_append_right _ (List.mem_append_right _ (List.mem_append_right _ (List.mem_append_right _ (List.mem_append_right _ (List.mem_append_right _ (List.mem_append_right _ (List.mem_append_right _ (List.mem_append_right _ (List.mem_append_right _ (List.mem_append_right _ (List.mem_append_right _ (List.mem_append_right _ (List.mem_append_right _ (List.mem_append_right _ (List.mem_append_right _ (List.mem_append_right _ (List.mem_append_right _ (List.mem_append_right _ (List.mem_append_right _ (List.mem_append_right _ (List.mem_append_left _ h))))))))))))))))))))))))))))))))))
theorem inR35 : ∀ w ∈ wsL_law0_r35, w ∈ UW := fun w h => inR w (List.mem_append_right _ (List.mem_append_right _ (List.mem_append_right _ (List.mem_append_right _ (List.mem_append_right _ (List.mem_append_right _ (List.mem_append_right _ (List.mem_append_right _ (List.mem_append_right _ (List.mem_append_right _ (List.mem_append_right _ (List.mem_append_right _ (List.mem_append_right _ (List.mem_append_right _ (List.mem_append_right _ (List.mem_append_right _ (List.mem_append_right _ (List.mem_append_right _ (List.mem_append_right _ (List.mem_append_right _ (List.mem_append_right _ (List.mem_append_right _ (List.mem_append_right _ (List.mem_append_right _ (List.mem_append_right _ (List.mem_append_right _ (List.mem_append_right _ (List.mem_append_right _ (List.mem_append_right _ (List.mem_append_right _ (List.mem_append_right _ (List.mem_append_right _ (List.mem_append_right _ (List.mem_append_right _ (List.mem_append_left _ h)))))))))))))))))))))))))))))))))))
theorem inR36 : ∀ w ∈ wsL_law0_r36, w ∈ UW := fun w h => inR w (List.mem_append_right _ (List.mem_append_right _ (List.mem_append_right _ (List.mem_append_right _ (List.mem_append_right _ (List.mem_append_right _ (List.mem_append_right _ (List.mem_append_right _ (List.mem_append_right _ (List.mem_append_right _ (List.mem_append_right _ (List.mem_append_right _ (List.mem_append_right _ (List.mem_append_right _ (List.mem_append_right _ (List.mem_append_right _ (List.mem_append_right _ (List.mem_append_right _ (List.mem_append_right _ (List.mem_append_right _ (List.mem_append_right _ (List.mem_append_right _ (List.mem_append_right _ (List.mem_append_right _ (List.mem_append_right _ (List.mem_append_right _ (List.mem_append_right _ (List.mem_append_right _ (List.mem_append_right _ (List.mem_append_right _ (List.mem_append_right _ (List.mem_append_right _ (List.mem_append_right _ (List.mem_append_right _ (List.mem_append_right _ (List.mem_append_left _ h))))))))))))))))))))))))))))))))))))
theorem inR37 : ∀ w ∈ wsL_law0_r37, w ∈ UW := fun w h => inR w (List.mem_append_right _ (List.mem_append_right _ (List.mem_append_right _ (List.mem_append_right _ (List.mem_append_right _ (List.mem_append_right _ (List.mem_append_right _ (List.mem_append_right _ (List.mem_append_right _ (List.mem_append_right _ (List.mem_append_right _ (List.mem_append_right _ (List.mem_append_right _ (List.mem_append_right _ (List.mem_append_right _ (List.mem_append_right _ (List.mem_append_right _ (List.mem_append_right _ (List.mem_append_right _ (List.mem_append_right _ (List.mem_append_right _ (List.mem_append_right _ (List.mem_append_right _ (List.mem_append_right _ (List.mem_append_right _ (List.mem_append_right _ (List.mem_append_right _ (List.mem_append_right _ (List.mem_append_right _ (List.mem_append_right _ (List.mem_append_right _ (List.mem_append_right _ (List.mem_append_right _ (List.mem_append_right _ (List.mem_append_right _ (List.mem_append_right _ (List.mem_append_left _ h)))))))))))))))))))))))))))))))))))))
theorem inR38 : ∀ w ∈ wsL_law0_r38, w ∈ UW := fun w h => inR w (List.mem_append_right _ (List.mem_append_right _ (List.mem_append_right _ (List.mem_append_right _ (List.mem_append_right _ (List.mem_append_right _ (List.mem_append_right _ (List.mem_append_right _ (List.mem_append_right _ (List.mem_append_right _ (List.mem_append_right _ (List.mem_append_right _ (List.mem_append_right _ (List.mem_append_right _ (List.mem_append_right _ (List.mem_append_right _ (List.mem_append_right _ (List.mem_append_right _ (List.mem_append_right _ (List.mem_append_right _ (List.mem_append_right _ (List.mem_append_right _ (List.mem_append_right _ (List.mem_append_right _ (List.mem_append_right _ (List.mem_append_right _ (List.mem_append_right _ (List.mem_append_right _ (List.mem_append_right _ (List.mem_append_right _ (List.mem_append_right _ (List.mem_append_right _ (List.mem_append_right _ (List.mem_append_right _ (List.mem_append_right _ (List.mem_append_right _ (List.mem_append_right _ (List.mem_append_left _ h))))))))))))))))))))))))))))))))))))))
theorem inR39 : ∀ w ∈ wsL_law0_r39, w ∈ UW := fun w h => inR w (List.mem_append_right _ (List.mem_append_right _ (List.mem_append_right _ (List.mem_append_right _ (List.mem_append_right _ (List.mem_append_right _ (List.mem_append_right _ (List.mem_append_right _ (List.mem_append_right _ (List.mem_append_right _ (List.mem_append_right _ (List.mem_append_right _ (List.mem_append_right _ (List.mem_append_right _ (List.mem_append_right _ (List.mem_append_right _ (List.mem_append_right _ (List.mem_append_right _ (List.mem_append_right _ (List.mem_append_right _ (List.mem_append_right _ (List.mem_append_right _ (List.mem_append_right _ (List.mem_append_right _ (List.mem_append_right _ (List.mem_append_right _ (List.mem_append_right _ (List.mem_append_right _ (List.mem_append_right _ (List.mem_append_right _ (List.mem_append_right _ (List.mem_append_right _ (List.mem_append_right _ (List.mem_append_right _ (List.mem_append_right _ (List.mem_append_right _ (List.mem_append_right _ (List.mem_append_right _ (List.mem_append_left _ h)))))))))))))))))))))))))))))))))))))))
theorem inR40 : ∀ w ∈ wsL_law0_r40, w ∈ UW := fun w h => inR w (List.mem_append_right _ (List.mem_append_right _ (List.mem_append_right _ (List.mem_append_right _ (List.mem_append_right _ (List.mem_append_right _ (List.mem_append_right _ (List.mem_append_right _ (List.mem_append_right _ (List.mem_append_right _ (List.mem_append_right _ (List.mem_append_right _ (List.mem_append_right _ (List.mem_append_right _ (List.mem_append_right _ (List.mem_append_right _ (List.mem_append_right _ (List.mem_append_right _ (List.mem_append_right _ (List.mem_append_right _ (List.mem_append_right _ (List.mem_append_right _ (List.mem_append_right _ (List.mem_append_right _ (List.mem_append_right _ (List.mem_append_right _ (List.mem_append_right _ (List.mem_append_right _ (List.mem_append_right _ (List.mem_append_right _ (List.mem_append_right _ (List.mem_append_right _ (List.mem_append_right _ (List.mem_append_right _ (List.mem_append_right _ (List.mem_append_right _ (List.mem_append_right _ (List.mem_append_right _ (List.mem_append_right _ (List.mem_append_left _ h))))))))))))))))))))))))))))))))))))))))
theorem inR41 : ∀ w ∈ wsL_law0_r41, w ∈ UW := fun w h => inR w (List.mem_append_right _ (List.mem_append_right _ (List.mem_append_right _ (List.mem_append_right _ (List.mem_append_right _ (List.mem_append_right _ (List.mem_append_right _ (List.mem_append_right _ (List.mem_append_right _ (List.mem_append_right _ (List.mem_append_right _ (List.mem_append_right _ (List.mem_append_right _ (List.mem_append_right _ (List.mem_append_right _ (List.mem_append_right _ (List.mem_append_right _ (List.mem_append_right _ (List.mem_append_right _ (List.mem_append_right _ (List.mem_append_right _ (List.mem_append_right _ (List.mem_append_right _ (List.mem_append_right _ (List.mem_append_right _ (List.mem_append_right _ (List.mem_append_right _ (List.mem_append_right _ (List.mem_append_right _ (List.mem_append_right _ (List.mem_append_right _ (List.mem_append_right _ (List.mem_append_right _ (List.mem_append_right _ (List.mem_append_right _ (List.mem_append_right _ (List.mem_append_right _ (List.mem_append_right _ (List.mem_append_right _ (List.mem_append_right _ (List.mem_append_left _ h)))))))))))))))))))))))))))))))))))))))))
theorem inR42 : ∀ w ∈ wsL_law0_r42, w ∈ UW := fun w h => inR w (List.mem_append_right _ (List.mem_append_right _ (List.mem_append_right _ (List.mem_append_right _ (List.mem_append_right _ (List.mem_append_right _ (List.mem_append_right _ (List.mem_append_right _ (List.mem_append_right _ (List.mem_append_right _ (List.mem_append_right _ (List.mem_append_right _ (List.mem_append_right _ (List.mem_append_right _ (List.mem_append_right _ (List.mem_append_right _ (List.mem_append_right _ (List.mem_append_right _ (List.mem_append_right _ (List.mem_append_right _ (List.mem_append_right _ (List.mem_append_right _ (List.mem_append_right _ (List.mem_append_right _ (List.mem_append_right _ (List.mem_append_right _ (List.mem_append_right _ (List.mem_append_right _ (List.mem_append_right _ (List.mem_append_right _ (List.mem_append_right _ (List.mem_append_right _ (List.mem_append_right _ (List.mem_append_right _ (List.mem_append_right _ (List.mem_append_right _ (List.mem_append_right _ (List.mem_append_right _ (List.mem_append_right _ (List.mem_append_right _ (List.mem_append_right _ (List.mem_append_left _ h))))))))))))))))))))))))))))))))))))))))))
theorem inR43 : ∀ w ∈ wsL_law0_r43, w ∈ UW := fun w h => inR w (List.mem_append_right _ (List.mem_append_right _ (List.mem_append_right _ (List.mem_append_right _ (List.mem_append_right _ (List.mem_append_right _ (List.mem_append_right _ (List.mem_append_right _ (List.mem_append_right _ (List.mem_append_right _ (List.mem_append_right _ (List.mem_append_right _ (List.mem_append_right _ (List.mem_append_right _ (List.mem_append_right _ (List.mem_append_right _ (List.mem_append_right _ (List.mem_append_right _ (List.mem_append_right _ (List.mem_append_right _ (List.mem_append_right _ (List.mem_append_right _ (List.mem_append_right _ (List.mem_append_right _ (List.mem_append_right _ (List.mem_append_right _ (List.mem_append_right _ (List.mem_append_right _ (List.mem_append_right _ (List.mem_append_right _ (List.mem_append_right _ (List.mem_append_right _ (List.mem_append_right _ (List.mem_append_right _ (List.mem_append_right _ (List.mem_append_right _ (List.mem_append_right _ (List.mem_append_right _ (List.mem_append_right _ (List.mem_append_right _ (List.mem_append_right _ (List.mem_append_right _ (List.mem_append_left _ h)))))))))))))))))))))))))))))))))))))))))))
theorem inR44 : ∀ w ∈ wsL_law0_r44, w ∈ UW := fun w h => inR w (List.mem_append_right _ (List.mem_append_right _ (List.mem_append_right _ (List.mem_append_right _ (List.mem_append_right _ (List.mem_append_right _ (List.mem_append_right _ (List.mem_append_right _ (List.mem_append_right _ (List.mem_append_right _ (List.mem_append_right _ (List.mem_append_right _ (List.mem_append_right _ (List.mem_append_right _ (List.mem_append_right _ (List.mem_append_right _ (List.mem_append_right _ (List.mem_append_right _ (List.mem_append_right _ (List.mem_append_right _ (List.mem_append_right _ (List.mem_append_right _ (List.mem_append_right _ (List.mem_append_right _ (List.mem_append_right _ (List.mem_append_right _ (List.mem_append_right _ (List.mem_append_right _ (List.mem_append_right _ (List.mem_append_right _ (List.mem_append_right _ (List.mem_append_right _ (List.mem_append_right _ (List.mem_append_right _ (List.mem_append_right _ (List.mem_append_right _ (List.mem_append_right _ (List.mem_append_right _ (List.mem_append_right _ (List.mem_append_right _ (List.mem_append_right _ (List.mem_append_right _ (List.mem_append_right _ (List.mem_append_left _ h))))))))))))))))))))))))))))))))))))))))))))
theorem inR45 : ∀ w ∈ wsL_law0_r45, w ∈ UW := fun w h => inR w (List.mem_append_right _ (List.mem_append_right _ (List.mem_append_right _ (List.mem_append_right _ (List.mem_append_right _ (List.mem_append_right _ (List.mem_append_right _ (List.mem_append_right _ (List.mem_append_right _ (List.mem_append_right _ (List.mem_append_right _ (List.mem_append_right _ (List.mem_append_right _ (List.mem_append_right _ (List.mem_append_right _ (List.mem_append_right _ (List.mem_append_right _ (List.mem_append_right _ (List.mem_append_right _ (List.mem_append_right _ (List.mem_append_right _ (List.mem_append_right _ (List.mem_append_right _ (List.mem_append_right _ (List.mem_append_right _ (List.mem_append_right _ (List.mem_append_right _ (List.mem_append_right _ (List.mem_append_right _ (List.mem_append_right _ (List.mem_append_right _ (List.mem_append_right _ (List.mem_append_right _ (List.mem_append_right _ (List.mem_append_right _ (List.mem_append_right _ (List.mem_append_right _ (List.mem_append_right _ (List.mem_append_right _ (List.mem_append_right _ (List.mem_append_right _ (List.mem_append_right _ (List.mem_append_right _ (List.mem_append_right _ (List.mem_append_left _ h)))))))))))))))))))))))))))))))))))))))))))))
theorem inR46 : ∀ w ∈ wsL_law0_r46, w ∈ UW := fun w h => inR w (List.mem_append_right _ (List.mem_append_right _ (List.mem_append_right _ (List.mem_append_right _ (List.mem_append_right _ (List.mem_append_right _ (List.mem_append_right _ (List.mem_append_right _ (List.mem_append_right _ (List.mem_append_right _ (List.mem_append_right _ (List.mem_append_right _ (List.mem_append_right _ (List.mem_append_right _ (List.mem_append_right _ (List.mem_append_right _ (List.mem_append_right _ (List.mem_append_right _ (List.mem_append_right _ (List.mem_append_right _ (List.mem_append_right _ (List.mem_append_right _ (List.mem_append_right _ (List.mem_append_right _ (List.mem_append_right _ (List.mem_append_right _ (List.mem_append_right _ (List.mem_append_right _ (List.mem_append_right _ (List.mem_append_right _ (List.mem_append_right _ (List.mem_append_right _ (List.mem_append_right _ (List.mem_append_right _ (List.mem_append_right _ (List.mem_append_right _ (List.mem_append_right _ (List.mem_append_right _ (List.mem_append_right _ (List.mem_append_right _ (List.mem_append_right _ (List.mem_append_right _ (List.mem_append_right _ (List.mem_append_right _ (List.mem_append_right _ (List.mem_append_left _ h))))))))))))))))))))))))))))))))))))))))))))))
theorem inR47 : ∀ w ∈ wsL_law0_r47, w ∈ UW := fun w h => inR w (List.mem_append_right _ (List.mem_append_right _ (List.mem_append_right _ (List.mem_append_right _ (List.mem_append_right _ (List.mem_append_right _ (List.mem_append_right _ (List.mem_append_right _ (List.mem_append_right _ (List.mem_append_right _ (List.mem_append_right _ (List.mem_append_right _ (List.mem_append_right _ (List.mem_append_right _ (List.mem_append_right _ (List.mem_append_right _ (List.mem_append_right _ (List.mem_append_right _ (List.mem_append_right _ (List.mem_append_right _ (List.mem_append_right _ (List.mem_append_right _ (List.mem_append_right _ (List.mem_append_right _ (List.mem_append_right _ (List.mem_append_right _ (List.mem_append_right _ (List.mem_append_right _ (List.mem_append_right _ (List.mem_append_right _ (List.mem_append_right _ (List.mem_append_right _ (List.mem_append_right _ (List.mem_append_right _ (List.mem_append_right _ (List.mem_append_right _ (List.mem_append_right _ (List.mem_append_right _ (List.mem_append_right _ (List.mem_append_right _ (List.mem_append_right _ (List.mem_append_right _ (List.mem_append_right _ (List.mem_append_right _ (List.mem_append_right _ (List.mem_append_right _ (List.mem_append_left _ h)))))))))))))))))))))))))))))))))))))))))))))))
theorem inR48 : ∀ w ∈ wsL_law0_r48, w ∈ UW := fun w h => inR w (List.mem_append_right _ (List.mem_append_right _ (List.mem_append_right _ (List.mem_append_right _ (List.mem_append_right _ (List.mem_append_right _ (List.mem_append_right _ (List.mem_append_right _ (List.mem_append_right _ (List.mem_append_right _ (List.mem_append_right _ (List.mem_append_right _ (List.mem_append_right _ (List.mem_append_right _ (List.mem_append_right _ (List.mem_append_right _ (List.mem_append_right _ (List.mem_append_right _ (List.mem_append_right _ (List.mem_append_right _ (List.mem_append_right _ (List.mem_append_right _ (List.mem_append_right _ (List.mem_append_right _ (List.mem_append_right _ (List.mem_append_right _ (List.mem_append_right _ (List.mem_append_right _ (List.mem_append_right _ (List.mem_append_right _ (List.mem_append_right _ (List.mem_append_right _ (List.mem_append_right _ (List.mem_append_right _ (List.mem_append_right _ (List.mem_append_right _ (List.mem_append_right _ (List.mem_append_right _ (List.mem_append_right _ (List.mem_append_right _ (List.mem_append_right _ (List.mem_append_right _ (List.mem_append_right _ (List.mem_append_right _ (List.mem_append_right _ (List.mem_append_right _ (List.mem_append_right _ (List.mem_append_left _ h))))))))))))))))))))))))))))))))))))))))))))))))
theorem inR49 : ∀ w ∈ wsL_law0_r49, w ∈ UW := fun w h => inR w (List.mem_append_right _ (List.mem_append_right _ (List.mem_append_right _ (List.mem_append_right _ (List.mem_append_right _ (List.mem_append_right _ (List.mem_append_right _ (List.mem_append_right _ (List.mem_append_right _ (List.mem_append_right _ (List.mem_append_right _ (List.mem_append_right _ (List.mem_append_right _ (List.mem_append_right _ (List.mem_append_right _ (List.mem_append_right _ (List.mem_append_right _ (List.mem_append_right _ (List.mem_append_right _ (List.mem_append_right _ (List.mem_append_right _ (List.mem_append_right _ (List.mem_append_right _ (List.mem_append_right _ (List.mem_append_right _ (List.mem_append_right _ (List.mem_append_right _ (List.mem_append_right _ (List.mem_append_right _ (List.mem_append_right _ (List.mem_append_right _ (List.mem_append_right _ (List.mem_append_right _ (List.mem_append_right _ (List.mem_append_right _ (List.mem_append_right _ (List.mem_append_right _ (List.mem_append_right _ (List.mem_append_right _ (List.mem_append_right _ (List.mem_append_right _ (List.mem_append_right _ (List.mem_append_right _ (List.mem_append_right _ (List.mem_append_right _ (List.mem_append_right _ (List.mem_append_right _ (List.mem_append_right _ (List.mem_append_left _ h)))))))))))))))))))))))))))))))))))))))))))))))))
theorem inR50 : ∀ w ∈ wsL_law0_r50, w ∈ UW := fun w h => inR w (List.mem_append_right _ (List.mem_append_right _ (List.mem_append_right _ (List.mem_append_right _ (List.mem_append_right _ (List.mem_append_right _ (List.mem_append_right _ (List.mem_append_right _ (List.mem_append_right _ (List.mem_append_right _ (List.mem_append_right _ (List.mem_append_right _ (List.mem_append_right _ (List.mem_append_right _ (List.mem_append_right _ (List.mem_append_right _ (List.mem_append_right _ (List.mem_append_right _ (List.mem_append_right _ (List.mem_append_right _ (List.mem_append_right _ (List.mem_append_right _ (List.mem_append_right _ (List.mem_append_right _ (List.mem_append_right _ (List.mem_append_right _ (List.mem_append_right _ (List.mem_append_right _ (List.mem_append_right _ (List.mem_append_right _ (List.mem_append_right _ (List.mem_append_right _ (List.mem_append_right _ (List.mem_append_right _ (List.mem_append_right _ (List.mem_append_right _ (List.mem_append_right _ (List.mem_append_right _ (List.mem_append_right _ (List.mem_append_right _ (List.mem_append_right _ (List.mem_append_right _ (List.mem_append_right _ (List.mem_append_right _ (List.mem_append_right _ (List.mem_append_right _ (List.mem_append_right _ (List.mem_append_right _ (List.mem_append_right _ (List.mem_append_left _ h))))))))))))))))))))))))))))))))))))))))))))))))))
theorem inR51 : ∀ w ∈ wsL_law0_r51, w ∈ UW := fun w h => inR w (List.mem_append_right _ (List.mem_append_right _ (List.mem_append_right _ (List.mem_append_right _ (List.mem_append_right _ (List.mem_append_right _ (List.mem_append_right _ (List.mem_append_right _ (List.mem_append_right _ (List.mem_append_right _ (List.mem_append_right _ (List.mem_append_right _ (List.mem_append_right _ (List.mem_append_right _ (List.mem_append_right _ (List.mem_append_right _ (List.mem_append_right _ (List.mem_append_right _ (List.mem_append_right _ (List.mem_append_right _ (List.mem_append_right _ (List.mem_append_right _ (List.mem_append_right _ (List.mem_append_right _ (List.mem_append_right _ (List.mem_append_right _ (List.mem_append_right _ (List.mem_append_right _ (List.mem_append_right _ (List.mem_append_right _ (List.mem_append_right _ (List.mem_append_right _ (List.mem_append_right _ (List.mem_append_right _ (List.mem_append_right _ (List.mem_append_right _ (List.mem_append_right _ (List.mem_append_right _ (List.mem_append_right _ (List.mem_append_right _ (List.mem_append_right _ (List.mem_append_right _ (List.mem_append_right _ (List.mem_append_right _ (List.mem_append_right _ (List.mem_append_right _ (List.mem_append_right _ (List.mem_append_right _ (List.mem_append_right _ (List.mem_append_right _ (List.mem_append_left _ h)))))))))))))))))))))))))))))))))))))))))))))))))))
theorem inR52 : ∀ w ∈ wsL_law0_r52, w ∈ UW := fun w h => inR w (List.mem_append_right _ (List.mem_append_right _ (List.mem_append_right _ (List.mem_append_right _ (List.mem_append_right _ (List.mem_append_right _ (List.mem_append_right _ (List.mem_append_right _ (List.mem_append_right _ (List.mem_append_right _ (List.mem_append_right _ (List.mem_append_right _ (List.mem_append_right _ (List.mem_append_right _ (List.mem_append_right _ (List.mem_append_right _ (List.mem_append_right _ (List.mem_append_right _ (List.mem_append_right _ (List.mem_append_right _ (List.mem_append_right _ (List.mem_append_right _ (List.mem_append_right _ (List.mem_append_right _ (List.mem_append_right _ (List.mem_append_right _ (List.mem_append_right _ (List.mem_append_right _ (List.mem_append_right _ (List.mem_append_right _ (List.mem_append_right _ (List.mem_append_right _ (List.mem_append_right _ (List.mem_append_right _ (List.mem_append_right _ (List.mem_append_right _ (List.mem_append_right _ (List.mem_append_right _ (List.mem_append_right _ (List.mem_append_right _ (List.mem_append_right _ (List.mem_append_right _ (List.mem_append_right _ (List.mem_append_right _ (List.mem_append_right _ (List.mem_append_right _ (List.mem_append_right _ (List.mem_append_right _ (List.mem_append_right _ (List.mem_append_right _ (List.mem_append_right _ (List.mem_append_left _ h))))))))))))))))))))))))))))))))))))))))))))))))))))
theorem inR53 : ∀ w ∈ wsL_law0_r53, w ∈ UW := fun w h => inR w (List.mem_append_right _ (List.mem_append_right _ (List.mem_append_right _ (List.mem_append_right _ (List.mem_append_right _ (List.mem_append_right _ (List.mem_append_right _ (List.mem_append_right _ (List.mem_append_right _ (List.mem_append_right _ (List.mem_append_right _ (List.mem_append_right _ (List.mem_append_right _ (List.mem_append_right _ (List.mem_append_right _ (List.mem_append_right _ (List.mem_append_right _ (List.mem_append_right _ (List.mem_append_right _ (List.mem_append_right _ (List.mem_append_right _ (List.mem_append_right _ (List.mem_append_right _ (List.mem_append_right _ (List.mem_append_right _ (List.mem_append_right _ (List.mem_append_right _ (List.mem_append_right _ (List.mem_append_right _ (List.mem_append_right _ (List.mem_append_right _ (List.mem_append_right _ (List.mem_append_right _ (List.mem_append_right _ (List.mem_append_right _ (List.mem_append_right _ (List.mem_append_right _ (List.mem_append_right _ (List.mem_append_right _ (List.mem_append_right _ (List.mem_append_right _ (List.mem_append_right _ (List.mem_append_right _ (List.mem_append_right _ (List.mem_append_right _ (List.mem_append_right _ (List.mem_append_right _ (List.mem_append_right _ (List.mem_append_right _ (List.mem_append_right _ (List.mem_append_right _ (List.mem_append_right _ (List.mem_append_left _ h)))))))))))))))))))))))))))))))))))))))))))))))))))))
theorem inR54 : ∀ w ∈ wsL_law0_r54, w ∈ UW := fun w h => inR w (List.mem_append_right _ (List.mem_append_right _ (List.mem_append_right _ (List.mem_append_right _ (List.mem_append_right _ (List.mem_append_right _ (List.mem_append_right _ (List.mem_append_right _ (List.mem_append_right _ (List.mem_append_right _ (List.mem_append_right _ (List.mem_append_right _ (List.mem_append_right _ (List.mem_append_right _ (List.mem_append_right _ (List.mem_append_right _ (List.mem_append_right _ (List.mem_append_right _ (List.mem_append_right _ (List.mem_append_right _ (List.mem_append_right _ (List.mem_append_right _ (List.mem_append_right _ (List.mem_append_right _ (List.mem_append_right _ (List.mem_append_right _ (List.mem_append_right _ (List.mem_append_right _ (List.mem_append_right _ (List.mem_append_right _ (List.mem_append_right _ (List.mem_append_right _ (List.mem_append_right _ (List.mem_append_right _ (List.mem_append_right _ (List.mem_append_right _ (List.mem_append_right _ (List.mem_append_right _ (List.mem_append_right _ (List.mem_append_right _ (List.mem_append_right _ (List.mem_append_right _ (List.mem_append_right _ (List.mem_append_right _ (List.mem_append_right _ (List.mem_append_right _ (List.mem_append_right _ (List.mem_append_right _ (List.mem_append_right _ (List.mem_append_right _ (List.mem_append_right _ (List.mem_append_right _ (List.mem_append_right _ (List.mem_append_left _ h))))))))))))))))))))))))))))))))))))))))))))))))))))))
theorem inR55 : ∀ w ∈ wsL_law0_r55, w ∈ UW := fun w h => inR w (List.mem_append_right _ (List.mem_append_right _ (List.mem_append_right _ (List.mem_append_right _ (List.mem_append_right _ (List.mem_append_right _ (List.mem_append_right _ (List.mem_append_right _ (List.mem_append_right _ (List.mem_append_right _ (List.mem_append_right _ (List.mem_append_right _ (List.mem_append_right _ (List.mem_append_right _ (List.mem_append_right _ (List.mem_append_right _ (List.mem_append_right _ (List.mem_append_right _ (List.mem_append_right _ (List.mem_append_right _ (List.mem_append_right _ (List.mem_append_right _ (List.mem_append_right _ (List.mem_append_right _ (List.mem_append_right _ (List.mem_append_right _ (List.mem_append_right _ (List.mem_append_right _ (List.mem_append_right _ (List.mem_append_right _ (List.mem_append_right _ (List.mem_append_right _ (List.mem_append_right _ (List.mem_append_right _ (List.mem_append_right _ (List.mem_append_right _ (List.mem_append_right _ (List.mem_append_right _ (List.mem_append_right _ (List.mem_append_right _ (List.mem_append_right _ (List.mem_append_right _ (List.mem_append_right _ (List.mem_append_right _ (List.mem_append_right _ (List.mem_append_right _ (List.mem_append_right _ (List.mem_append_right _ (List.mem_append_right _ (List.mem_append_right _ (List.mem_append_right _ (List.mem_append_right _ (List.mem_append_right _ (List.mem_append_right _ (List.mem_append_left _ h)))))))))))))))))))))))))))))))))))))))))))))))))))))))
theorem inR56 : ∀ w ∈ wsL_law0_r56, w ∈ UW := fun w h => inR w (List.mem_append_right _ (List.mem_append_right _ (List.mem_append_right _ (List.mem_append_right _ (List.mem_append_right _ (List.mem_append_right _ (List.mem_append_right _ (List.mem_append_right _ (List.mem_append_right _ (List.mem_append_right _ (List.mem_append_right _ (List.mem_append_right _ (List.mem_append_right _ (List.mem_append_right _ (List.mem_append_right _ (List.mem_append_right _ (List.mem_append_right _ (List.mem_append_right _ (List.mem_append_right _ (List.mem_append_right _ (List.mem_append_right _ (List.mem_append_right _ (List.mem_append_right _ (List.mem_append_right _ (List.mem_append_right _ (List.mem_append_right _ (List.mem_append_right _ (List.mem_append_right _ (List.mem_append_right _ (List.mem_append_right _ (List.mem_append_right _ (List.mem_append_right _ (List.mem_append_right _ (List.mem_append_right _ (List.mem_append_right _ (List.mem_append_right _ (List.mem_append_right _ (List.mem_append_right _ (List.mem_append_right _ (List.mem_append_right _ (List.mem_append_right _ (List.mem_append_right _ (List.mem_append_right _ (List.mem_append_right _ (List.mem_append_right _ (List.mem_append_right _ (List.mem_append_right _ (List.mem_append_right _ (List.mem_append_right _ (List.mem_append_right _ (List.mem_append_right _ (List.mem_append_right _ (List.mem_append_right _ (List.mem_append_right _ (List.mem_append_right _ (h))))))))))))))))))))))))))))))))))))))))))))))))))))))))
theorem uw2 : (Cond.initialized RX11) ∈ UW := inR1 _ (List.mem_of_getElem? (i := 2) rfl)
theorem uw5 : (Cond.initialized RX12) ∈ UW := inR1 _ (List.mem_of_getElem? (i := 5) rfl)
theorem uw15 : (Cond.initialized RX8) ∈ UW := inR1 _ (List.mem_of_getElem? (i := 15) rfl)
theorem uw16 : (Cond.fieldLink RX11 10 "NamesInMouths" "text" "LNamesInMouths$Text;") ∈ UW := inR1 _ (List.mem_of_getElem? (i := 16) rfl)
theorem uw19 : (Cond.initialized RX9) ∈ UW := inR1 _ (List.mem_of_getElem? (i := 19) rfl)
theorem uw20 : (Cond.fieldLink RX11 19 "NamesInMouths" "told" "LNamesInMouths$Told;") ∈ UW := inR1 _ (List.mem_of_getElem? (i := 20) rfl)
theorem uw23 : (Cond.initialized RX2) ∈ UW := inR1 _ (List.mem_of_getElem? (i := 23) rfl)
theorem uw24 : (Cond.fieldLink RX11 26 "NamesInMouths" "fen" "LNamesInMouths$Fen;") ∈ UW := inR2 _ (List.mem_of_getElem? (i := 0) rfl)
theorem uw25 : (Cond.fieldLink RX11 30 "NamesInMouths" "trial" "LNamesInMouths$Fen;") ∈ UW := inR2 _ (List.mem_of_getElem? (i := 1) rfl)
theorem uw28 : (Cond.initialized RX6) ∈ UW := inR2 _ (List.mem_of_getElem? (i := 4) rfl)
theorem uw29 : (Cond.fieldLink RX11 36 "NamesInMouths" "reader" "LNamesInMouths$RuleReader;") ∈ UW := inR2 _ (List.mem_of_getElem? (i := 5) rfl)
theorem uw32 : (Cond.initialized RX3) ∈ UW := inR2 _ (List.mem_of_getElem? (i := 8) rfl)
theorem uw33 : (Cond.fieldLink RX11 43 "NamesInMouths" "past" "LNamesInMouths$Past;") ∈ UW := inR2 _ (List.mem_of_getElem? (i := 9) rfl)
theorem uw36 : (Cond.initialized RX10) ∈ UW := inR2 _ (List.mem_of_getElem? (i := 12) rfl)
theorem uw37 : (Cond.fieldLink RX11 50 "NamesInMouths" "ways" "LNamesInMouths$Ways;") ∈ UW := inR2 _ (List.mem_of_getElem? (i := 13) rfl)
theorem uw40 : (Cond.initialized RX0) ∈ UW := inR2 _ (List.mem_of_getElem? (i := 16) rfl)
theorem uw41 : (Cond.fieldLink RX11 57 "NamesInMouths" "dyke" "LNamesInMouths$Dyke;") ∈ UW := inR2 _ (List.mem_of_getElem? (i := 17) rfl)
theorem uw44 : (Cond.initialized RX1) ∈ UW := inR2 _ (List.mem_of_getElem? (i := 20) rfl)
theorem uw45 : (Cond.fieldLink RX11 64 "NamesInMouths" "ear" "LNamesInMouths$Ear;") ∈ UW := inR2 _ (List.mem_of_getElem? (i := 21) rfl)
theorem uw48 : (Cond.initialized RX7) ∈ UW := inR3 _ (List.mem_of_getElem? (i := 0) rfl)
theorem uw49 : (Cond.fieldLink RX11 71 "NamesInMouths" "seen" "LNamesInMouths$Seen;") ∈ UW := inR3 _ (List.mem_of_getElem? (i := 1) rfl)
theorem uw52 : (Cond.initialized RX4) ∈ UW := inR3 _ (List.mem_of_getElem? (i := 4) rfl)
theorem uw53 : (Cond.fieldLink RX11 78 "NamesInMouths" "plays" "LNamesInMouths$Plays;") ∈ UW := inR3 _ (List.mem_of_getElem? (i := 5) rfl)
theorem uw56 : (Cond.initialized RX5) ∈ UW := inR3 _ (List.mem_of_getElem? (i := 8) rfl)
theorem uw57 : (Cond.fieldLink RX11 85 "NamesInMouths" "ruling" "LNamesInMouths$Rule;") ∈ UW := inR3 _ (List.mem_of_getElem? (i := 9) rfl)
theorem uw58 : (Cond.fieldLink RX11 89 "NamesInMouths" "spare" "LNamesInMouths$Rule;") ∈ UW := inR3 _ (List.mem_of_getElem? (i := 10) rfl)
theorem uw63 : (Cond.fieldLink RX8 9 "NamesInMouths$Text" "signs" "[C") ∈ UW := inR3 _ (List.mem_of_getElem? (i := 15) rfl)
theorem uw67 : (Cond.fieldLink RX9 11 "NamesInMouths$Told" "numbers" "[J") ∈ UW := inR3 _ (List.mem_of_getElem? (i := 19) rfl)
theorem uw72 : (Cond.fieldLink RX2 9 "NamesInMouths$Fen" "place" "[I") ∈ UW := inR4 _ (List.mem_of_getElem? (i := 0) rfl)
theorem uw73 : (Cond.fieldLink RX2 15 "NamesInMouths$Fen" "voice" "[I") ∈ UW := inR4 _ (List.mem_of_getElem? (i := 1) rfl)
theorem uw74 : (Cond.fieldLink RX2 18 "NamesInMouths$Fen" "purse" "[I") ∈ UW := inR4 _ (List.mem_of_getElem? (i := 2) rfl)
theorem uw75 : (Cond.fieldLink RX2 21 "NamesInMouths$Fen" "holder" "[I") ∈ UW := inR4 _ (List.mem_of_getElem? (i := 3) rfl)
theorem uw76 : (Cond.fieldLink RX2 24 "NamesInMouths$Fen" "age" "[I") ∈ UW := inR4 _ (List.mem_of_getElem? (i := 4) rfl)
theorem uw83 : (Cond.fieldLink RX3 11 "NamesInMouths$Past" "slots" "[I") ∈ UW := inR4 _ (List.mem_of_getElem? (i := 11) rfl)
theorem uw87 : (Cond.fieldLink RX10 11 "NamesInMouths$Ways" "from" "[I") ∈ UW := inR4 _ (List.mem_of_getElem? (i := 15) rfl)
theorem uw88 : (Cond.fieldLink RX10 15 "NamesInMouths$Ways" "queue" "[I") ∈ UW := inR4 _ (List.mem_of_getElem? (i := 16) rfl)
theorem uw89 : (Cond.fieldLink RX10 18 "NamesInMouths$Ways" "way" "[I") ∈ UW := inR4 _ (List.mem_of_getElem? (i := 17) rfl)
theorem uw90 : (Cond.fieldLink RX10 21 "NamesInMouths$Ways" "those" "[I") ∈ UW := inR4 _ (List.mem_of_getElem? (i := 18) rfl)
theorem uw91 : (Cond.fieldLink RX10 24 "NamesInMouths$Ways" "turn" "[I") ∈ UW := inR4 _ (List.mem_of_getElem? (i := 19) rfl)
theorem uw92 : (Cond.fieldLink RX10 27 "NamesInMouths$Ways" "tried" "[J") ∈ UW := inR4 _ (List.mem_of_getElem? (i := 20) rfl)
theorem uw93 : (Cond.fieldLink RX10 31 "NamesInMouths$Ways" "best" "[I") ∈ UW := inR4 _ (List.mem_of_getElem? (i := 21) rfl)
theorem uw97 : (Cond.fieldLink RX0 9 "NamesInMouths$Dyke" "row" "[I") ∈ UW := inR5 _ (List.mem_of_getElem? (i := 1) rfl)
theorem uw98 : (Cond.fieldLink RX0 15 "NamesInMouths$Dyke" "least" "[I") ∈ UW := inR5 _ (List.mem_of_getElem? (i := 2) rfl)
theorem uw99 : (Cond.fieldLink RX0 18 "NamesInMouths$Dyke" "runs" "[I") ∈ UW := inR5 _ (List.mem_of_getElem? (i := 3) rfl)
theorem uw103 : (Cond.fieldLink RX1 11 "NamesInMouths$Ear" "whats" "[I") ∈ UW := inR5 _ (List.mem_of_getElem? (i := 7) rfl)
theorem uw104 : (Cond.fieldLink RX1 15 "NamesInMouths$Ear" "of" "[I") ∈ UW := inR5 _ (List.mem_of_getElem? (i := 8) rfl)
theorem uw108 : (Cond.fieldLink RX7 9 "NamesInMouths$Seen" "voice" "[I") ∈ UW := inR5 _ (List.mem_of_getElem? (i := 12) rfl)
theorem uw109 : (Cond.fieldLink RX7 13 "NamesInMouths$Seen" "far" "[I") ∈ UW := inR5 _ (List.mem_of_getElem? (i := 13) rfl)
theorem uw110 : (Cond.fieldLink RX7 16 "NamesInMouths$Seen" "could" "[I") ∈ UW := inR5 _ (List.mem_of_getElem? (i := 14) rfl)
theorem uw111 : (Cond.fieldLink RX7 19 "NamesInMouths$Seen" "low" "[I") ∈ UW := inR5 _ (List.mem_of_getElem? (i := 15) rfl)
theorem uw112 : (Cond.fieldLink RX7 22 "NamesInMouths$Seen" "high" "[I") ∈ UW := inR5 _ (List.mem_of_getElem? (i := 16) rfl)
theorem uw116 : (Cond.fieldLink RX4 9 "NamesInMouths$Plays" "ways" "[J") ∈ UW := inR5 _ (List.mem_of_getElem? (i := 20) rfl)
theorem uw117 : (Cond.fieldLink RX4 15 "NamesInMouths$Plays" "next" "[J") ∈ UW := inR5 _ (List.mem_of_getElem? (i := 21) rfl)
theorem uw118 : (Cond.fieldLink RX4 18 "NamesInMouths$Plays" "won" "[I") ∈ UW := inR5 _ (List.mem_of_getElem? (i := 22) rfl)
theorem uw119 : (Cond.fieldLink RX4 22 "NamesInMouths$Plays" "bestAgainst" "[I") ∈ UW := inR5 _ (List.mem_of_getElem? (i := 23) rfl)
theorem uw124 : (Cond.fieldLink RX5 9 "NamesInMouths$Rule" "steps" "[I") ∈ UW := inR6 _ (List.mem_of_getElem? (i := 4) rfl)
theorem uw125 : (Cond.fieldLink RX5 15 "NamesInMouths$Rule" "stack" "[I") ∈ UW := inR6 _ (List.mem_of_getElem? (i := 5) rfl)
theorem uw127 : (Cond.instanceMethod yX5_becomesNone) ∈ UW := inR6 _ (List.mem_of_getElem? (i := 7) rfl)
theorem uw128 : (Cond.selects RX5 yX5_becomesNone yX5_becomesNone) ∈ UW := inR6 _ (List.mem_of_getElem? (i := 8) rfl)
theorem uw129 : (Cond.code yX5_becomesNone cX5_becomesNone 1 none) ∈ UW := inR6 _ (List.mem_of_getElem? (i := 9) rfl)
theorem uw130 : (Cond.fieldLink RX5 21 "NamesInMouths$Rule" "size" "I") ∈ UW := inR6 _ (List.mem_of_getElem? (i := 10) rfl)
theorem uw131 : (Cond.methodLink RX5 25 yX5_puts) ∈ UW := inR6 _ (List.mem_of_getElem? (i := 11) rfl)
theorem uw132 : (Cond.instanceMethod yX5_puts) ∈ UW := inR6 _ (List.mem_of_getElem? (i := 12) rfl)
theorem uw133 : (Cond.selects RX5 yX5_puts yX5_puts) ∈ UW := inR6 _ (List.mem_of_getElem? (i := 13) rfl)
theorem uw134 : (Cond.code yX5_puts cX5_puts 2 none) ∈ UW := inR6 _ (List.mem_of_getElem? (i := 14) rfl)
theorem uw139 : (Cond.fieldLink RX12 9 "NamesInMouthsModel" "now" "[I") ∈ UW := inR6 _ (List.mem_of_getElem? (i := 19) rfl)
theorem uw140 : (Cond.fieldLink RX12 13 "NamesInMouthsModel" "voice" "[I") ∈ UW := inR6 _ (List.mem_of_getElem? (i := 20) rfl)
theorem uw142 : (Cond.fieldLink RX12 16 "NamesInMouthsModel" "text" "[B") ∈ UW := inR6 _ (List.mem_of_getElem? (i := 22) rfl)
theorem uw143 : (Cond.fieldLink RX12 20 "NamesInMouthsModel" "row" "[J") ∈ UW := inR6 _ (List.mem_of_getElem? (i := 23) rfl)
theorem uw144 : (Cond.fieldLink RX12 24 "NamesInMouthsModel" "comes" "[I") ∈ UW := inR7 _ (List.mem_of_getElem? (i := 0) rfl)
theorem uw145 : (Cond.fieldLink RX12 27 "NamesInMouthsModel" "rule" "[B") ∈ UW := inR7 _ (List.mem_of_getElem? (i := 1) rfl)
theorem uw146 : (Cond.fieldLink RX12 30 "NamesInMouthsModel" "otherRule" "[B") ∈ UW := inR7 _ (List.mem_of_getElem? (i := 2) rfl)
theorem uw147 : (Cond.fieldLink RX12 33 "NamesInMouthsModel" "asked" "[I") ∈ UW := inR7 _ (List.mem_of_getElem? (i := 3) rfl)
theorem uw148 : (Cond.fieldLink RX12 36 "NamesInMouthsModel" "undos" "[I") ∈ UW := inR7 _ (List.mem_of_getElem? (i := 4) rfl)
theorem uw149 : (Cond.fieldLink RX12 39 "NamesInMouthsModel" "aside" "[I") ∈ UW := inR7 _ (List.mem_of_getElem? (i := 5) rfl)
theorem uw150 : (Cond.fieldLink RX12 42 "NamesInMouthsModel" "then" "[I") ∈ UW := inR7 _ (List.mem_of_getElem? (i := 6) rfl)
theorem uw151 : (Cond.fieldLink RX12 45 "NamesInMouthsModel" "acts" "[I") ∈ UW := inR7 _ (List.mem_of_getElem? (i := 7) rfl)
theorem uw152 : (Cond.fieldLink RX12 48 "NamesInMouthsModel" "trail" "[I") ∈ UW := inR7 _ (List.mem_of_getElem? (i := 8) rfl)
theorem uw153 : (Cond.fieldLink RX12 51 "NamesInMouthsModel" "line" "[I") ∈ UW := inR7 _ (List.mem_of_getElem? (i := 9) rfl)
theorem uw154 : (Cond.fieldLink RX12 54 "NamesInMouthsModel" "steps" "[I") ∈ UW := inR7 _ (List.mem_of_getElem? (i := 10) rfl)
theorem uw155 : (Cond.fieldLink RX12 57 "NamesInMouthsModel" "bestLine" "[I") ∈ UW := inR7 _ (List.mem_of_getElem? (i := 11) rfl)
theorem uw156 : (Cond.fieldLink RX12 60 "NamesInMouthsModel" "whoAll" "[I") ∈ UW := inR7 _ (List.mem_of_getElem? (i := 12) rfl)
theorem uw157 : (Cond.fieldLink RX12 63 "NamesInMouthsModel" "mouthed" "[I") ∈ UW := inR7 _ (List.mem_of_getElem? (i := 13) rfl)
theorem uw158 : (Cond.fieldLink RX12 66 "NamesInMouthsModel" "dyke" "[I") ∈ UW := inR7 _ (List.mem_of_getElem? (i := 14) rfl)
theorem uw159 : (Cond.fieldLink RX12 69 "NamesInMouthsModel" "longest" "[I") ∈ UW := inR7 _ (List.mem_of_getElem? (i := 15) rfl)
theorem uw160 : (Cond.fieldLink RX12 72 "NamesInMouthsModel" "heardOf" "[I") ∈ UW := inR7 _ (List.mem_of_getElem? (i := 16) rfl)
theorem uw161 : (Cond.fieldLink RX12 75 "NamesInMouthsModel" "heardBy" "[I") ∈ UW := inR7 _ (List.mem_of_getElem? (i := 17) rfl)
theorem uw162 : (Cond.fieldLink RX12 78 "NamesInMouthsModel" "sawOf" "[I") ∈ UW := inR7 _ (List.mem_of_getElem? (i := 18) rfl)
theorem uw163 : (Cond.fieldLink RX12 81 "NamesInMouthsModel" "sawAs" "[I") ∈ UW := inR7 _ (List.mem_of_getElem? (i := 19) rfl)
theorem uw164 : (Cond.fieldLink RX12 84 "NamesInMouthsModel" "parts" "[J") ∈ UW := inR7 _ (List.mem_of_getElem? (i := 20) rfl)
theorem uw165 : (Cond.fieldLink RX12 87 "NamesInMouthsModel" "nextParts" "[J") ∈ UW := inR7 _ (List.mem_of_getElem? (i := 21) rfl)
theorem uw167 : (Cond.fieldLink RX12 90 "NamesInMouthsModel" "loses" "[Z") ∈ UW := inR7 _ (List.mem_of_getElem? (i := 23) rfl)
theorem uw168 : (Cond.fieldLink RX12 94 "NamesInMouthsModel" "kept" "[I") ∈ UW := inR8 _ (List.mem_of_getElem? (i := 0) rfl)
theorem uw169 : (Cond.fieldLink RX12 97 "NamesInMouthsModel" "isKept" "[Z") ∈ UW := inR8 _ (List.mem_of_getElem? (i := 1) rfl)
theorem uw170 : (Cond.fieldLink RX12 100 "NamesInMouthsModel" "keptCame" "[I") ∈ UW := inR8 _ (List.mem_of_getElem? (i := 2) rfl)
theorem uw174 : (Cond.code yX11_sign cX11_sign 2 (some .int)) ∈ UW := inR8 _ (List.mem_of_getElem? (i := 6) rfl)
theorem uw175 : (Cond.fieldLink RX11 96 "NamesInMouths$Text" "length" "I") ∈ UW := inR8 _ (List.mem_of_getElem? (i := 7) rfl)
theorem uw176 : (Cond.methodLink RX11 92 yX8_adds) ∈ UW := inR8 _ (List.mem_of_getElem? (i := 8) rfl)
theorem uw177 : (Cond.instanceMethod yX8_adds) ∈ UW := inR8 _ (List.mem_of_getElem? (i := 9) rfl)
theorem uw178 : (Cond.selects RX8 yX8_adds yX8_adds) ∈ UW := inR8 _ (List.mem_of_getElem? (i := 10) rfl)
theorem uw179 : (Cond.code yX8_adds cX8_adds 3 (some .boolean)) ∈ UW := inR8 _ (List.mem_of_getElem? (i := 11) rfl)
theorem uw180 : (Cond.fieldLink RX8 13 "NamesInMouths$Text" "length" "I") ∈ UW := inR8 _ (List.mem_of_getElem? (i := 12) rfl)
theorem uw184 : (Cond.code yX12_sign cX12_sign 3 (some .int)) ∈ UW := inR8 _ (List.mem_of_getElem? (i := 16) rfl)
theorem uw185 : (Cond.fieldLink RX12 103 "NamesInMouthsModel" "thrown" "I") ∈ UW := inR8 _ (List.mem_of_getElem? (i := 17) rfl)
theorem uw186 : (Cond.fieldLink RX12 117 "NamesInMouthsModel" "typed" "I") ∈ UW := inR8 _ (List.mem_of_getElem? (i := 18) rfl)
theorem uw190 : (Cond.code yX11_end cX11_end 2 (some .boolean)) ∈ UW := inR8 _ (List.mem_of_getElem? (i := 22) rfl)
theorem uw191 : (Cond.methodLink RX11 100 yX8_cuts) ∈ UW := inR8 _ (List.mem_of_getElem? (i := 23) rfl)
theorem uw192 : (Cond.instanceMethod yX8_cuts) ∈ UW := inR9 _ (List.mem_of_getElem? (i := 0) rfl)
theorem uw193 : (Cond.selects RX8 yX8_cuts yX8_cuts) ∈ UW := inR9 _ (List.mem_of_getElem? (i := 1) rfl)
theorem uw194 : (Cond.code yX8_cuts cX8_cuts 2 (some .boolean)) ∈ UW := inR9 _ (List.mem_of_getElem? (i := 2) rfl)
theorem uw198 : (Cond.code yX12_end cX12_end 2 (some .boolean)) ∈ UW := inR9 _ (List.mem_of_getElem? (i := 6) rfl)
theorem uw199 : (Cond.methodLink RX12 113 yX12_in) ∈ UW := inR9 _ (List.mem_of_getElem? (i := 7) rfl)
theorem uw200 : (Cond.static yX12_in) ∈ UW := inR9 _ (List.mem_of_getElem? (i := 8) rfl)
theorem uw201 : (Cond.code yX12_in cX12_in 3 (some .boolean)) ∈ UW := inR9 _ (List.mem_of_getElem? (i := 9) rfl)
theorem uw205 : (Cond.code yX11_people cX11_people 3 (some .int)) ∈ UW := inR9 _ (List.mem_of_getElem? (i := 13) rfl)
theorem uw206 : (Cond.methodLink RX11 103 yX11_peopleWrongAt) ∈ UW := inR9 _ (List.mem_of_getElem? (i := 14) rfl)
theorem uw207 : (Cond.instanceMethod yX11_peopleWrongAt) ∈ UW := inR9 _ (List.mem_of_getElem? (i := 15) rfl)
theorem uw208 : (Cond.selects RX11 yX11_peopleWrongAt yX11_peopleWrongAt) ∈ UW := inR9 _ (List.mem_of_getElem? (i := 16) rfl)
theorem uw209 : (Cond.code yX11_peopleWrongAt cX11_peopleWrongAt 3 (some .int)) ∈ UW := inR9 _ (List.mem_of_getElem? (i := 17) rfl)
theorem uw210 : (Cond.methodLink RX11 388 Lib.Math.min.name) ∈ UW := inR9 _ (List.mem_of_getElem? (i := 18) rfl)
theorem uw211 : (Cond.static Lib.Math.min.name) ∈ UW := inR9 _ (List.mem_of_getElem? (i := 19) rfl)
theorem uw212 : (Cond.initialized "java/lang/Math") ∈ UW := inR9 _ (List.mem_of_getElem? (i := 20) rfl)
theorem uw213 : (Cond.code Lib.Math.min.name Lib.Math.min.code 2 (some .int)) ∈ UW := inR9 _ (List.mem_of_getElem? (i := 21) rfl)
theorem uw214 : (Cond.methodLink RX11 391 yX11_standsInLine) ∈ UW := inR9 _ (List.mem_of_getElem? (i := 22) rfl)
theorem uw215 : (Cond.instanceMethod yX11_standsInLine) ∈ UW := inR9 _ (List.mem_of_getElem? (i := 23) rfl)
theorem uw216 : (Cond.selects RX11 yX11_standsInLine yX11_standsInLine) ∈ UW := inR10 _ (List.mem_of_getElem? (i := 0) rfl)
theorem uw217 : (Cond.code yX11_standsInLine cX11_standsInLine 4 (some .boolean)) ∈ UW := inR10 _ (List.mem_of_getElem? (i := 1) rfl)
theorem uw218 : (Cond.fieldLink RX11 250 "NamesInMouths$Fen" "size" "I") ∈ UW := inR10 _ (List.mem_of_getElem? (i := 2) rfl)
theorem uw219 : (Cond.methodLink RX11 204 yX8_at) ∈ UW := inR10 _ (List.mem_of_getElem? (i := 3) rfl)
theorem uw220 : (Cond.instanceMethod yX8_at) ∈ UW := inR10 _ (List.mem_of_getElem? (i := 4) rfl)
theorem uw221 : (Cond.selects RX8 yX8_at yX8_at) ∈ UW := inR10 _ (List.mem_of_getElem? (i := 5) rfl)
theorem uw222 : (Cond.code yX8_at cX8_at 2 (some .int)) ∈ UW := inR10 _ (List.mem_of_getElem? (i := 6) rfl)
theorem uw223 : (Cond.methodLink RX11 394 yX8_isDigit) ∈ UW := inR10 _ (List.mem_of_getElem? (i := 7) rfl)
theorem uw224 : (Cond.instanceMethod yX8_isDigit) ∈ UW := inR10 _ (List.mem_of_getElem? (i := 8) rfl)
theorem uw225 : (Cond.selects RX8 yX8_isDigit yX8_isDigit) ∈ UW := inR10 _ (List.mem_of_getElem? (i := 9) rfl)
theorem uw226 : (Cond.code yX8_isDigit cX8_isDigit 3 (some .boolean)) ∈ UW := inR10 _ (List.mem_of_getElem? (i := 10) rfl)
theorem uw227 : (Cond.methodLink RX8 17 yX8_at) ∈ UW := inR10 _ (List.mem_of_getElem? (i := 11) rfl)
theorem uw228 : (Cond.methodLink RX11 107 yX11_takePeople) ∈ UW := inR10 _ (List.mem_of_getElem? (i := 12) rfl)
theorem uw229 : (Cond.instanceMethod yX11_takePeople) ∈ UW := inR10 _ (List.mem_of_getElem? (i := 13) rfl)
theorem uw230 : (Cond.selects RX11 yX11_takePeople yX11_takePeople) ∈ UW := inR10 _ (List.mem_of_getElem? (i := 14) rfl)
theorem uw231 : (Cond.code yX11_takePeople cX11_takePeople 3 (some .int)) ∈ UW := inR10 _ (List.mem_of_getElem? (i := 15) rfl)
theorem uw232 : (Cond.methodLink RX11 397 yX8_digit) ∈ UW := inR10 _ (List.mem_of_getElem? (i := 16) rfl)
theorem uw233 : (Cond.instanceMethod yX8_digit) ∈ UW := inR10 _ (List.mem_of_getElem? (i := 17) rfl)
theorem uw234 : (Cond.selects RX8 yX8_digit yX8_digit) ∈ UW := inR10 _ (List.mem_of_getElem? (i := 18) rfl)
theorem uw235 : (Cond.code yX8_digit cX8_digit 2 (some .int)) ∈ UW := inR10 _ (List.mem_of_getElem? (i := 19) rfl)
theorem uw236 : (Cond.methodLink RX8 21 yX8_isDigit) ∈ UW := inR10 _ (List.mem_of_getElem? (i := 20) rfl)
theorem uw237 : (Cond.methodLink RX11 400 yX8_twoDigits) ∈ UW := inR10 _ (List.mem_of_getElem? (i := 21) rfl)
theorem uw238 : (Cond.instanceMethod yX8_twoDigits) ∈ UW := inR10 _ (List.mem_of_getElem? (i := 22) rfl)
theorem uw239 : (Cond.selects RX8 yX8_twoDigits yX8_twoDigits) ∈ UW := inR10 _ (List.mem_of_getElem? (i := 23) rfl)
theorem uw240 : (Cond.code yX8_twoDigits cX8_twoDigits 2 (some .int)) ∈ UW := inR11 _ (List.mem_of_getElem? (i := 0) rfl)
theorem uw241 : (Cond.methodLink RX8 25 yX8_digit) ∈ UW := inR11 _ (List.mem_of_getElem? (i := 1) rfl)
theorem uw242 : (Cond.methodLink RX11 403 yX2_adds) ∈ UW := inR11 _ (List.mem_of_getElem? (i := 2) rfl)
theorem uw243 : (Cond.instanceMethod yX2_adds) ∈ UW := inR11 _ (List.mem_of_getElem? (i := 3) rfl)
theorem uw244 : (Cond.selects RX2 yX2_adds yX2_adds) ∈ UW := inR11 _ (List.mem_of_getElem? (i := 4) rfl)
theorem uw245 : (Cond.code yX2_adds cX2_adds 4 none) ∈ UW := inR11 _ (List.mem_of_getElem? (i := 5) rfl)
theorem uw246 : (Cond.fieldLink RX2 27 "NamesInMouths$Fen" "size" "I") ∈ UW := inR11 _ (List.mem_of_getElem? (i := 6) rfl)
theorem uw247 : (Cond.methodLink RX11 110 yX3_forgetsAll) ∈ UW := inR11 _ (List.mem_of_getElem? (i := 7) rfl)
theorem uw248 : (Cond.instanceMethod yX3_forgetsAll) ∈ UW := inR11 _ (List.mem_of_getElem? (i := 8) rfl)
theorem uw249 : (Cond.selects RX3 yX3_forgetsAll yX3_forgetsAll) ∈ UW := inR11 _ (List.mem_of_getElem? (i := 9) rfl)
theorem uw250 : (Cond.code yX3_forgetsAll cX3_forgetsAll 1 none) ∈ UW := inR11 _ (List.mem_of_getElem? (i := 10) rfl)
theorem uw251 : (Cond.fieldLink RX3 23 "NamesInMouths$Past" "size" "I") ∈ UW := inR11 _ (List.mem_of_getElem? (i := 11) rfl)
theorem uw252 : (Cond.fieldLink RX3 35 "NamesInMouths$Past" "shelved" "I") ∈ UW := inR11 _ (List.mem_of_getElem? (i := 12) rfl)
theorem uw256 : (Cond.code yX12_people cX12_people 4 (some .int)) ∈ UW := inR11 _ (List.mem_of_getElem? (i := 16) rfl)
theorem uw257 : (Cond.fieldLink RX12 123 "NamesInMouthsModel" "length" "I") ∈ UW := inR11 _ (List.mem_of_getElem? (i := 17) rfl)
theorem uw258 : (Cond.fieldLink RX12 110 "NamesInMouthsModel" "people" "I") ∈ UW := inR11 _ (List.mem_of_getElem? (i := 18) rfl)
theorem uw259 : (Cond.fieldLink RX12 129 "NamesInMouthsModel" "at" "I") ∈ UW := inR11 _ (List.mem_of_getElem? (i := 19) rfl)
theorem uw260 : (Cond.fieldLink RX12 132 "NamesInMouthsModel" "wrong" "I") ∈ UW := inR11 _ (List.mem_of_getElem? (i := 20) rfl)
theorem uw261 : (Cond.fieldLink RX12 165 "NamesInMouthsModel" "undoMany" "I") ∈ UW := inR11 _ (List.mem_of_getElem? (i := 21) rfl)
theorem uw262 : (Cond.fieldLink RX12 168 "NamesInMouthsModel" "came" "I") ∈ UW := inR11 _ (List.mem_of_getElem? (i := 22) rfl)
theorem uw263 : (Cond.methodLink RX12 159 yX12_beginText) ∈ UW := inR11 _ (List.mem_of_getElem? (i := 23) rfl)
theorem uw264 : (Cond.instanceMethod yX12_beginText) ∈ UW := inR12 _ (List.mem_of_getElem? (i := 0) rfl)
theorem uw265 : (Cond.selects RX12 yX12_beginText yX12_beginText) ∈ UW := inR12 _ (List.mem_of_getElem? (i := 1) rfl)
theorem uw266 : (Cond.code yX12_beginText cX12_beginText 2 none) ∈ UW := inR12 _ (List.mem_of_getElem? (i := 2) rfl)
theorem uw267 : (Cond.methodLink RX12 135 yX12_begin) ∈ UW := inR12 _ (List.mem_of_getElem? (i := 3) rfl)
theorem uw268 : (Cond.instanceMethod yX12_begin) ∈ UW := inR12 _ (List.mem_of_getElem? (i := 4) rfl)
theorem uw269 : (Cond.selects RX12 yX12_begin yX12_begin) ∈ UW := inR12 _ (List.mem_of_getElem? (i := 5) rfl)
theorem uw270 : (Cond.code yX12_begin cX12_begin 4 none) ∈ UW := inR12 _ (List.mem_of_getElem? (i := 6) rfl)
theorem uw271 : (Cond.fieldLink RX12 120 "NamesInMouthsModel" "read" "[B") ∈ UW := inR12 _ (List.mem_of_getElem? (i := 7) rfl)
theorem uw272 : (Cond.fieldLink RX12 126 "NamesInMouthsModel" "top" "I") ∈ UW := inR12 _ (List.mem_of_getElem? (i := 8) rfl)
theorem uw273 : (Cond.methodLink RX12 139 yX12_fine) ∈ UW := inR12 _ (List.mem_of_getElem? (i := 9) rfl)
theorem uw274 : (Cond.instanceMethod yX12_fine) ∈ UW := inR12 _ (List.mem_of_getElem? (i := 10) rfl)
theorem uw275 : (Cond.selects RX12 yX12_fine yX12_fine) ∈ UW := inR12 _ (List.mem_of_getElem? (i := 11) rfl)
theorem uw276 : (Cond.code yX12_fine cX12_fine 1 (some .boolean)) ∈ UW := inR12 _ (List.mem_of_getElem? (i := 12) rfl)
theorem uw277 : (Cond.methodLink RX12 151 yX12_fault) ∈ UW := inR12 _ (List.mem_of_getElem? (i := 13) rfl)
theorem uw278 : (Cond.instanceMethod yX12_fault) ∈ UW := inR12 _ (List.mem_of_getElem? (i := 14) rfl)
theorem uw279 : (Cond.selects RX12 yX12_fault yX12_fault) ∈ UW := inR12 _ (List.mem_of_getElem? (i := 15) rfl)
theorem uw280 : (Cond.code yX12_fault cX12_fault 2 none) ∈ UW := inR12 _ (List.mem_of_getElem? (i := 16) rfl)
theorem uw281 : (Cond.methodLink RX12 155 yX12_oneOf) ∈ UW := inR12 _ (List.mem_of_getElem? (i := 17) rfl)
theorem uw282 : (Cond.instanceMethod yX12_oneOf) ∈ UW := inR12 _ (List.mem_of_getElem? (i := 18) rfl)
theorem uw283 : (Cond.selects RX12 yX12_oneOf yX12_oneOf) ∈ UW := inR12 _ (List.mem_of_getElem? (i := 19) rfl)
theorem uw284 : (Cond.code yX12_oneOf cX12_oneOf 3 (some .int)) ∈ UW := inR12 _ (List.mem_of_getElem? (i := 20) rfl)
theorem uw285 : (Cond.methodLink RX12 143 yX12_here) ∈ UW := inR12 _ (List.mem_of_getElem? (i := 21) rfl)
theorem uw286 : (Cond.instanceMethod yX12_here) ∈ UW := inR12 _ (List.mem_of_getElem? (i := 22) rfl)
theorem uw287 : (Cond.selects RX12 yX12_here yX12_here) ∈ UW := inR12 _ (List.mem_of_getElem? (i := 23) rfl)
theorem uw288 : (Cond.code yX12_here cX12_here 1 (some .int)) ∈ UW := inR13 _ (List.mem_of_getElem? (i := 0) rfl)
theorem uw289 : (Cond.methodLink RX12 147 yX12_passes) ∈ UW := inR13 _ (List.mem_of_getElem? (i := 1) rfl)
theorem uw290 : (Cond.instanceMethod yX12_passes) ∈ UW := inR13 _ (List.mem_of_getElem? (i := 2) rfl)
theorem uw291 : (Cond.selects RX12 yX12_passes yX12_passes) ∈ UW := inR13 _ (List.mem_of_getElem? (i := 3) rfl)
theorem uw292 : (Cond.code yX12_passes cX12_passes 2 (some .boolean)) ∈ UW := inR13 _ (List.mem_of_getElem? (i := 4) rfl)
theorem uw293 : (Cond.methodLink RX12 162 yX12_wasRight) ∈ UW := inR13 _ (List.mem_of_getElem? (i := 5) rfl)
theorem uw294 : (Cond.instanceMethod yX12_wasRight) ∈ UW := inR13 _ (List.mem_of_getElem? (i := 6) rfl)
theorem uw295 : (Cond.selects RX12 yX12_wasRight yX12_wasRight) ∈ UW := inR13 _ (List.mem_of_getElem? (i := 7) rfl)
theorem uw296 : (Cond.code yX12_wasRight cX12_wasRight 1 (some .boolean)) ∈ UW := inR13 _ (List.mem_of_getElem? (i := 8) rfl)
theorem uw300 : (Cond.code yX11_rule cX11_rule 3 (some .int)) ∈ UW := inR13 _ (List.mem_of_getElem? (i := 12) rfl)
theorem uw301 : (Cond.methodLink RX11 113 yX6_reads) ∈ UW := inR13 _ (List.mem_of_getElem? (i := 13) rfl)
theorem uw302 : (Cond.instanceMethod yX6_reads) ∈ UW := inR13 _ (List.mem_of_getElem? (i := 14) rfl)
theorem uw303 : (Cond.selects RX6 yX6_reads yX6_reads) ∈ UW := inR13 _ (List.mem_of_getElem? (i := 15) rfl)
theorem uw304 : (Cond.code yX6_reads cX6_reads 4 (some .int)) ∈ UW := inR13 _ (List.mem_of_getElem? (i := 16) rfl)
theorem uw305 : (Cond.fieldLink RX6 9 "NamesInMouths$Text" "length" "I") ∈ UW := inR13 _ (List.mem_of_getElem? (i := 17) rfl)
theorem uw306 : (Cond.fieldLink RX6 20 "NamesInMouths$RuleReader" "text" "LNamesInMouths$Text;") ∈ UW := inR13 _ (List.mem_of_getElem? (i := 18) rfl)
theorem uw307 : (Cond.fieldLink RX6 26 "NamesInMouths$RuleReader" "rule" "LNamesInMouths$Rule;") ∈ UW := inR13 _ (List.mem_of_getElem? (i := 19) rfl)
theorem uw308 : (Cond.fieldLink RX6 30 "NamesInMouths$RuleReader" "at" "I") ∈ UW := inR13 _ (List.mem_of_getElem? (i := 20) rfl)
theorem uw309 : (Cond.fieldLink RX6 33 "NamesInMouths$Rule" "size" "I") ∈ UW := inR13 _ (List.mem_of_getElem? (i := 21) rfl)
theorem uw310 : (Cond.methodLink RX6 15 yX5_becomesNone) ∈ UW := inR13 _ (List.mem_of_getElem? (i := 22) rfl)
theorem uw311 : (Cond.methodLink RX6 36 yX6_readsComparison) ∈ UW := inR13 _ (List.mem_of_getElem? (i := 23) rfl)
theorem uw312 : (Cond.instanceMethod yX6_readsComparison) ∈ UW := inR14 _ (List.mem_of_getElem? (i := 0) rfl)
theorem uw313 : (Cond.selects RX6 yX6_readsComparison yX6_readsComparison) ∈ UW := inR14 _ (List.mem_of_getElem? (i := 1) rfl)
theorem uw314 : (Cond.code yX6_readsComparison cX6_readsComparison 3 (some .boolean)) ∈ UW := inR14 _ (List.mem_of_getElem? (i := 2) rfl)
theorem uw315 : (Cond.methodLink RX6 43 yX6_readsSum) ∈ UW := inR14 _ (List.mem_of_getElem? (i := 3) rfl)
theorem uw316 : (Cond.instanceMethod yX6_readsSum) ∈ UW := inR14 _ (List.mem_of_getElem? (i := 4) rfl)
theorem uw317 : (Cond.selects RX6 yX6_readsSum yX6_readsSum) ∈ UW := inR14 _ (List.mem_of_getElem? (i := 5) rfl)
theorem uw318 : (Cond.methodLink RX6 46 yX6_next) ∈ UW := inR14 _ (List.mem_of_getElem? (i := 6) rfl)
theorem uw319 : (Cond.instanceMethod yX6_next) ∈ UW := inR14 _ (List.mem_of_getElem? (i := 7) rfl)
theorem uw320 : (Cond.selects RX6 yX6_next yX6_next) ∈ UW := inR14 _ (List.mem_of_getElem? (i := 8) rfl)
theorem uw321 : (Cond.code yX6_next cX6_next 1 (some .int)) ∈ UW := inR14 _ (List.mem_of_getElem? (i := 9) rfl)
theorem uw322 : (Cond.methodLink RX6 40 yX8_at) ∈ UW := inR14 _ (List.mem_of_getElem? (i := 10) rfl)
theorem uw323 : (Cond.methodLink RX6 50 yX5_puts) ∈ UW := inR14 _ (List.mem_of_getElem? (i := 11) rfl)
theorem uw324 : (Cond.code yX6_readsBracket cX6_readsBracket 2 (some .boolean)) ∈ UW := inR14 _ (List.mem_of_getElem? (i := 12) rfl)
theorem uw325 : (Cond.code yX6_readsProduct cX6_readsProduct 5 (some .boolean)) ∈ UW := inR14 _ (List.mem_of_getElem? (i := 13) rfl)
theorem uw326 : (Cond.methodLink RX6 57 yX6_readsSigned) ∈ UW := inR14 _ (List.mem_of_getElem? (i := 14) rfl)
theorem uw327 : (Cond.instanceMethod yX6_readsSigned) ∈ UW := inR14 _ (List.mem_of_getElem? (i := 15) rfl)
theorem uw328 : (Cond.selects RX6 yX6_readsSigned yX6_readsSigned) ∈ UW := inR14 _ (List.mem_of_getElem? (i := 16) rfl)
theorem uw329 : (Cond.code yX6_readsSigned cX6_readsSigned 4 (some .boolean)) ∈ UW := inR14 _ (List.mem_of_getElem? (i := 17) rfl)
theorem uw330 : (Cond.methodLink RX6 60 yX6_readsThing) ∈ UW := inR14 _ (List.mem_of_getElem? (i := 18) rfl)
theorem uw331 : (Cond.instanceMethod yX6_readsThing) ∈ UW := inR14 _ (List.mem_of_getElem? (i := 19) rfl)
theorem uw332 : (Cond.selects RX6 yX6_readsThing yX6_readsThing) ∈ UW := inR14 _ (List.mem_of_getElem? (i := 20) rfl)
theorem uw333 : (Cond.code yX6_readsSum cX6_readsSum 5 (some .boolean)) ∈ UW := inR14 _ (List.mem_of_getElem? (i := 21) rfl)
theorem uw334 : (Cond.methodLink RX6 54 yX6_readsProduct) ∈ UW := inR14 _ (List.mem_of_getElem? (i := 22) rfl)
theorem uw335 : (Cond.instanceMethod yX6_readsProduct) ∈ UW := inR14 _ (List.mem_of_getElem? (i := 23) rfl)
theorem uw336 : (Cond.selects RX6 yX6_readsProduct yX6_readsProduct) ∈ UW := inR15 _ (List.mem_of_getElem? (i := 0) rfl)
theorem uw337 : (Cond.code yX6_readsThing cX6_readsThing 3 (some .boolean)) ∈ UW := inR15 _ (List.mem_of_getElem? (i := 1) rfl)
theorem uw338 : (Cond.methodLink RX6 63 yX6_readsBracket) ∈ UW := inR15 _ (List.mem_of_getElem? (i := 2) rfl)
theorem uw339 : (Cond.instanceMethod yX6_readsBracket) ∈ UW := inR15 _ (List.mem_of_getElem? (i := 3) rfl)
theorem uw340 : (Cond.selects RX6 yX6_readsBracket yX6_readsBracket) ∈ UW := inR15 _ (List.mem_of_getElem? (i := 4) rfl)
theorem uw341 : (Cond.methodLink RX6 66 yX6_readsNumber) ∈ UW := inR15 _ (List.mem_of_getElem? (i := 5) rfl)
theorem uw342 : (Cond.instanceMethod yX6_readsNumber) ∈ UW := inR15 _ (List.mem_of_getElem? (i := 6) rfl)
theorem uw343 : (Cond.selects RX6 yX6_readsNumber yX6_readsNumber) ∈ UW := inR15 _ (List.mem_of_getElem? (i := 7) rfl)
theorem uw344 : (Cond.code yX6_readsNumber cX6_readsNumber 4 (some .boolean)) ∈ UW := inR15 _ (List.mem_of_getElem? (i := 8) rfl)
theorem uw348 : (Cond.code yX12_rule cX12_rule 3 (some .int)) ∈ UW := inR15 _ (List.mem_of_getElem? (i := 12) rfl)
theorem uw349 : (Cond.fieldLink RX12 201 "NamesInMouthsModel" "ruleSize" "I") ∈ UW := inR15 _ (List.mem_of_getElem? (i := 13) rfl)
theorem uw350 : (Cond.methodLink RX12 198 yX12_readRule) ∈ UW := inR15 _ (List.mem_of_getElem? (i := 14) rfl)
theorem uw351 : (Cond.instanceMethod yX12_readRule) ∈ UW := inR15 _ (List.mem_of_getElem? (i := 15) rfl)
theorem uw352 : (Cond.selects RX12 yX12_readRule yX12_readRule) ∈ UW := inR15 _ (List.mem_of_getElem? (i := 16) rfl)
theorem uw353 : (Cond.code yX12_readRule cX12_readRule 1 (some .boolean)) ∈ UW := inR15 _ (List.mem_of_getElem? (i := 17) rfl)
theorem uw354 : (Cond.fieldLink RX12 194 "NamesInMouthsModel" "isAsked" "Z") ∈ UW := inR15 _ (List.mem_of_getElem? (i := 18) rfl)
theorem uw355 : (Cond.methodLink RX12 181 yX12_held) ∈ UW := inR15 _ (List.mem_of_getElem? (i := 19) rfl)
theorem uw356 : (Cond.instanceMethod yX12_held) ∈ UW := inR15 _ (List.mem_of_getElem? (i := 20) rfl)
theorem uw357 : (Cond.selects RX12 yX12_held yX12_held) ∈ UW := inR15 _ (List.mem_of_getElem? (i := 21) rfl)
theorem uw358 : (Cond.code yX12_held cX12_held 3 (some .int)) ∈ UW := inR15 _ (List.mem_of_getElem? (i := 22) rfl)
theorem uw359 : (Cond.methodLink RX12 171 yX12_sum) ∈ UW := inR15 _ (List.mem_of_getElem? (i := 23) rfl)
theorem uw360 : (Cond.instanceMethod yX12_sum) ∈ UW := inR16 _ (List.mem_of_getElem? (i := 0) rfl)
theorem uw361 : (Cond.selects RX12 yX12_sum yX12_sum) ∈ UW := inR16 _ (List.mem_of_getElem? (i := 1) rfl)
theorem uw362 : (Cond.code yX12_product cX12_product 5 (some .int)) ∈ UW := inR16 _ (List.mem_of_getElem? (i := 2) rfl)
theorem uw363 : (Cond.methodLink RX12 178 yX12_thing) ∈ UW := inR16 _ (List.mem_of_getElem? (i := 3) rfl)
theorem uw364 : (Cond.instanceMethod yX12_thing) ∈ UW := inR16 _ (List.mem_of_getElem? (i := 4) rfl)
theorem uw365 : (Cond.selects RX12 yX12_thing yX12_thing) ∈ UW := inR16 _ (List.mem_of_getElem? (i := 5) rfl)
theorem uw366 : (Cond.code yX12_sum cX12_sum 5 (some .int)) ∈ UW := inR16 _ (List.mem_of_getElem? (i := 6) rfl)
theorem uw367 : (Cond.methodLink RX12 175 yX12_product) ∈ UW := inR16 _ (List.mem_of_getElem? (i := 7) rfl)
theorem uw368 : (Cond.instanceMethod yX12_product) ∈ UW := inR16 _ (List.mem_of_getElem? (i := 8) rfl)
theorem uw369 : (Cond.selects RX12 yX12_product yX12_product) ∈ UW := inR16 _ (List.mem_of_getElem? (i := 9) rfl)
theorem uw370 : (Cond.code yX12_thing cX12_thing 4 (some .int)) ∈ UW := inR16 _ (List.mem_of_getElem? (i := 10) rfl)
theorem uw371 : (Cond.methodLink RX12 184 yX12_need) ∈ UW := inR16 _ (List.mem_of_getElem? (i := 11) rfl)
theorem uw372 : (Cond.instanceMethod yX12_need) ∈ UW := inR16 _ (List.mem_of_getElem? (i := 12) rfl)
theorem uw373 : (Cond.selects RX12 yX12_need yX12_need) ∈ UW := inR16 _ (List.mem_of_getElem? (i := 13) rfl)
theorem uw374 : (Cond.code yX12_need cX12_need 2 none) ∈ UW := inR16 _ (List.mem_of_getElem? (i := 14) rfl)
theorem uw375 : (Cond.methodLink RX12 188 yX12_number) ∈ UW := inR16 _ (List.mem_of_getElem? (i := 15) rfl)
theorem uw376 : (Cond.instanceMethod yX12_number) ∈ UW := inR16 _ (List.mem_of_getElem? (i := 16) rfl)
theorem uw377 : (Cond.selects RX12 yX12_number yX12_number) ∈ UW := inR16 _ (List.mem_of_getElem? (i := 17) rfl)
theorem uw378 : (Cond.code yX12_number cX12_number 4 (some .int)) ∈ UW := inR16 _ (List.mem_of_getElem? (i := 18) rfl)
theorem uw379 : (Cond.methodLink RX12 191 yX12_letterOf) ∈ UW := inR16 _ (List.mem_of_getElem? (i := 19) rfl)
theorem uw380 : (Cond.static yX12_letterOf) ∈ UW := inR16 _ (List.mem_of_getElem? (i := 20) rfl)
theorem uw381 : (Cond.code yX12_letterOf cX12_letterOf 1 (some .int)) ∈ UW := inR16 _ (List.mem_of_getElem? (i := 21) rfl)
theorem uw390 : (Cond.code yX11_one cX11_one 3 (some .int)) ∈ UW := inR17 _ (List.mem_of_getElem? (i := 6) rfl)
theorem uw393 : (Cond.fieldLink RX11 123 "NamesInMouths$Fen" "place" "[I") ∈ UW := inR17 _ (List.mem_of_getElem? (i := 9) rfl)
theorem uw394 : (Cond.fieldLink RX11 127 "NamesInMouths$Fen" "voice" "[I") ∈ UW := inR17 _ (List.mem_of_getElem? (i := 10) rfl)
theorem uw395 : (Cond.fieldLink RX11 130 "NamesInMouths$Fen" "purse" "[I") ∈ UW := inR17 _ (List.mem_of_getElem? (i := 11) rfl)
theorem uw396 : (Cond.methodLink RX11 117 yX2_has) ∈ UW := inR17 _ (List.mem_of_getElem? (i := 12) rfl)
theorem uw397 : (Cond.instanceMethod yX2_has) ∈ UW := inR17 _ (List.mem_of_getElem? (i := 13) rfl)
theorem uw398 : (Cond.selects RX2 yX2_has yX2_has) ∈ UW := inR17 _ (List.mem_of_getElem? (i := 14) rfl)
theorem uw399 : (Cond.code yX2_has cX2_has 2 (some .boolean)) ∈ UW := inR17 _ (List.mem_of_getElem? (i := 15) rfl)
theorem uw400 : (Cond.methodLink RX11 133 yX2_held) ∈ UW := inR17 _ (List.mem_of_getElem? (i := 16) rfl)
theorem uw401 : (Cond.instanceMethod yX2_held) ∈ UW := inR17 _ (List.mem_of_getElem? (i := 17) rfl)
theorem uw402 : (Cond.selects RX2 yX2_held yX2_held) ∈ UW := inR17 _ (List.mem_of_getElem? (i := 18) rfl)
theorem uw403 : (Cond.code yX2_held cX2_held 4 (some .int)) ∈ UW := inR17 _ (List.mem_of_getElem? (i := 19) rfl)
theorem uw404 : (Cond.methodLink RX11 137 yX2_sayable) ∈ UW := inR17 _ (List.mem_of_getElem? (i := 20) rfl)
theorem uw405 : (Cond.instanceMethod yX2_sayable) ∈ UW := inR17 _ (List.mem_of_getElem? (i := 21) rfl)
theorem uw406 : (Cond.selects RX2 yX2_sayable yX2_sayable) ∈ UW := inR17 _ (List.mem_of_getElem? (i := 22) rfl)
theorem uw407 : (Cond.code yX2_sayable cX2_sayable 5 (some .int)) ∈ UW := inR17 _ (List.mem_of_getElem? (i := 23) rfl)
theorem uw408 : (Cond.methodLink RX2 55 yX2_can) ∈ UW := inR18 _ (List.mem_of_getElem? (i := 0) rfl)
theorem uw409 : (Cond.instanceMethod yX2_can) ∈ UW := inR18 _ (List.mem_of_getElem? (i := 1) rfl)
theorem uw410 : (Cond.selects RX2 yX2_can yX2_can) ∈ UW := inR18 _ (List.mem_of_getElem? (i := 2) rfl)
theorem uw411 : (Cond.code yX2_can cX2_can 4 (some .boolean)) ∈ UW := inR18 _ (List.mem_of_getElem? (i := 3) rfl)
theorem uw412 : (Cond.methodLink RX2 49 yX5_worth) ∈ UW := inR18 _ (List.mem_of_getElem? (i := 4) rfl)
theorem uw413 : (Cond.instanceMethod yX5_worth) ∈ UW := inR18 _ (List.mem_of_getElem? (i := 5) rfl)
theorem uw414 : (Cond.selects RX5 yX5_worth yX5_worth) ∈ UW := inR18 _ (List.mem_of_getElem? (i := 6) rfl)
theorem uw415 : (Cond.code yX5_worth cX5_worth 7 (some .int)) ∈ UW := inR18 _ (List.mem_of_getElem? (i := 7) rfl)
theorem uw416 : (Cond.methodLink RX5 29 yX5_thing) ∈ UW := inR18 _ (List.mem_of_getElem? (i := 8) rfl)
theorem uw417 : (Cond.static yX5_thing) ∈ UW := inR18 _ (List.mem_of_getElem? (i := 9) rfl)
theorem uw418 : (Cond.code yX5_thing cX5_thing 5 (some .int)) ∈ UW := inR18 _ (List.mem_of_getElem? (i := 10) rfl)
theorem uw419 : (Cond.fieldLink RX5 37 "NamesInMouths$Fen" "holder" "[I") ∈ UW := inR18 _ (List.mem_of_getElem? (i := 11) rfl)
theorem uw420 : (Cond.fieldLink RX5 42 "NamesInMouths$Fen" "voice" "[I") ∈ UW := inR18 _ (List.mem_of_getElem? (i := 12) rfl)
theorem uw421 : (Cond.fieldLink RX5 45 "NamesInMouths$Fen" "place" "[I") ∈ UW := inR18 _ (List.mem_of_getElem? (i := 13) rfl)
theorem uw422 : (Cond.methodLink RX5 48 Lib.Math.abs.name) ∈ UW := inR18 _ (List.mem_of_getElem? (i := 14) rfl)
theorem uw423 : (Cond.static Lib.Math.abs.name) ∈ UW := inR18 _ (List.mem_of_getElem? (i := 15) rfl)
theorem uw424 : (Cond.code Lib.Math.abs.name Lib.Math.abs.code 1 (some .int)) ∈ UW := inR18 _ (List.mem_of_getElem? (i := 16) rfl)
theorem uw425 : (Cond.fieldLink RX5 62 "NamesInMouths$Fen" "age" "[I") ∈ UW := inR18 _ (List.mem_of_getElem? (i := 17) rfl)
theorem uw426 : (Cond.fieldLink RX5 65 "NamesInMouths$Fen" "day" "I") ∈ UW := inR18 _ (List.mem_of_getElem? (i := 18) rfl)
theorem uw427 : (Cond.methodLink RX5 54 yX2_held) ∈ UW := inR18 _ (List.mem_of_getElem? (i := 19) rfl)
theorem uw428 : (Cond.methodLink RX5 57 yJ6_bitCount_0f7a4) ∈ UW := inR18 _ (List.mem_of_getElem? (i := 20) rfl)
theorem uw429 : (Cond.static yJ6_bitCount_0f7a4) ∈ UW := inR18 _ (List.mem_of_getElem? (i := 21) rfl)
theorem uw430 : (Cond.initialized RJ6) ∈ UW := inR18 _ (List.mem_of_getElem? (i := 22) rfl)
theorem uw431 : (Cond.code yJ6_bitCount_0f7a4 cJ6_bitCount_0f7a4 1 (some .int)) ∈ UW := inR18 _ (List.mem_of_getElem? (i := 23) rfl)
theorem uw432 : (Cond.constant RJ6 265 (1431655765)) ∈ UW := inR19 _ (List.mem_of_getElem? (i := 0) rfl)
theorem uw433 : (Cond.constant RJ6 266 (858993459)) ∈ UW := inR19 _ (List.mem_of_getElem? (i := 1) rfl)
theorem uw434 : (Cond.constant RJ6 267 (252645135)) ∈ UW := inR19 _ (List.mem_of_getElem? (i := 2) rfl)
theorem uw435 : (Cond.methodLink RX5 33 yX5_joined) ∈ UW := inR19 _ (List.mem_of_getElem? (i := 3) rfl)
theorem uw436 : (Cond.static yX5_joined) ∈ UW := inR19 _ (List.mem_of_getElem? (i := 4) rfl)
theorem uw437 : (Cond.code yX5_joined cX5_joined 3 (some .int)) ∈ UW := inR19 _ (List.mem_of_getElem? (i := 5) rfl)
theorem uw441 : (Cond.code yX12_one cX12_one 3 (some .int)) ∈ UW := inR19 _ (List.mem_of_getElem? (i := 9) rfl)
theorem uw442 : (Cond.methodLink RX12 226 yX12_isOne) ∈ UW := inR19 _ (List.mem_of_getElem? (i := 10) rfl)
theorem uw443 : (Cond.instanceMethod yX12_isOne) ∈ UW := inR19 _ (List.mem_of_getElem? (i := 11) rfl)
theorem uw444 : (Cond.selects RX12 yX12_isOne yX12_isOne) ∈ UW := inR19 _ (List.mem_of_getElem? (i := 12) rfl)
theorem uw445 : (Cond.code yX12_isOne cX12_isOne 2 (some .boolean)) ∈ UW := inR19 _ (List.mem_of_getElem? (i := 13) rfl)
theorem uw446 : (Cond.methodLink RX12 230 yX12_lost) ∈ UW := inR19 _ (List.mem_of_getElem? (i := 14) rfl)
theorem uw447 : (Cond.instanceMethod yX12_lost) ∈ UW := inR19 _ (List.mem_of_getElem? (i := 15) rfl)
theorem uw448 : (Cond.selects RX12 yX12_lost yX12_lost) ∈ UW := inR19 _ (List.mem_of_getElem? (i := 16) rfl)
theorem uw449 : (Cond.code yX12_lost cX12_lost 1 (some .int)) ∈ UW := inR19 _ (List.mem_of_getElem? (i := 17) rfl)
theorem uw450 : (Cond.methodLink RX12 213 yX12_heldBy) ∈ UW := inR19 _ (List.mem_of_getElem? (i := 18) rfl)
theorem uw451 : (Cond.instanceMethod yX12_heldBy) ∈ UW := inR19 _ (List.mem_of_getElem? (i := 19) rfl)
theorem uw452 : (Cond.selects RX12 yX12_heldBy yX12_heldBy) ∈ UW := inR19 _ (List.mem_of_getElem? (i := 20) rfl)
theorem uw453 : (Cond.code yX12_heldBy cX12_heldBy 5 (some .int)) ∈ UW := inR19 _ (List.mem_of_getElem? (i := 21) rfl)
theorem uw454 : (Cond.methodLink RX12 233 yX12_sayable) ∈ UW := inR19 _ (List.mem_of_getElem? (i := 22) rfl)
theorem uw455 : (Cond.instanceMethod yX12_sayable) ∈ UW := inR19 _ (List.mem_of_getElem? (i := 23) rfl)
theorem uw456 : (Cond.selects RX12 yX12_sayable yX12_sayable) ∈ UW := inR20 _ (List.mem_of_getElem? (i := 0) rfl)
theorem uw457 : (Cond.code yX12_sayable cX12_sayable 5 (some .int)) ∈ UW := inR20 _ (List.mem_of_getElem? (i := 1) rfl)
theorem uw458 : (Cond.methodLink RX12 222 yX12_canSay) ∈ UW := inR20 _ (List.mem_of_getElem? (i := 2) rfl)
theorem uw459 : (Cond.instanceMethod yX12_canSay) ∈ UW := inR20 _ (List.mem_of_getElem? (i := 3) rfl)
theorem uw460 : (Cond.selects RX12 yX12_canSay yX12_canSay) ∈ UW := inR20 _ (List.mem_of_getElem? (i := 4) rfl)
theorem uw461 : (Cond.code yX12_canSay cX12_canSay 6 (some .boolean)) ∈ UW := inR20 _ (List.mem_of_getElem? (i := 5) rfl)
theorem uw462 : (Cond.methodLink RX12 209 yX12_farOf) ∈ UW := inR20 _ (List.mem_of_getElem? (i := 6) rfl)
theorem uw463 : (Cond.static yX12_farOf) ∈ UW := inR20 _ (List.mem_of_getElem? (i := 7) rfl)
theorem uw464 : (Cond.code yX12_farOf cX12_farOf 3 (some .int)) ∈ UW := inR20 _ (List.mem_of_getElem? (i := 8) rfl)
theorem uw465 : (Cond.methodLink RX12 204 Lib.Math.abs.name) ∈ UW := inR20 _ (List.mem_of_getElem? (i := 9) rfl)
theorem uw466 : (Cond.methodLink RX12 217 yJ6_bitCount_0f7a4) ∈ UW := inR20 _ (List.mem_of_getElem? (i := 10) rfl)
theorem uw470 : (Cond.code yX12_thrown cX12_thrown 1 (some .int)) ∈ UW := inR20 _ (List.mem_of_getElem? (i := 14) rfl)
theorem uw477 : (Cond.code yX11_name cX11_name 3 (some .int)) ∈ UW := inR20 _ (List.mem_of_getElem? (i := 21) rfl)
theorem uw478 : (Cond.fieldLink RX11 141 "NamesInMouths$Fen" "holder" "[I") ∈ UW := inR20 _ (List.mem_of_getElem? (i := 22) rfl)
theorem uw479 : (Cond.fieldLink RX11 144 "NamesInMouths$Fen" "age" "[I") ∈ UW := inR20 _ (List.mem_of_getElem? (i := 23) rfl)
theorem uw480 : (Cond.methodLink RX11 147 yX2_sayers) ∈ UW := inR21 _ (List.mem_of_getElem? (i := 0) rfl)
theorem uw481 : (Cond.instanceMethod yX2_sayers) ∈ UW := inR21 _ (List.mem_of_getElem? (i := 1) rfl)
theorem uw482 : (Cond.selects RX2 yX2_sayers yX2_sayers) ∈ UW := inR21 _ (List.mem_of_getElem? (i := 2) rfl)
theorem uw483 : (Cond.code yX2_sayers cX2_sayers 5 (some .int)) ∈ UW := inR21 _ (List.mem_of_getElem? (i := 3) rfl)
theorem uw484 : (Cond.methodLink RX11 150 yX2_far) ∈ UW := inR21 _ (List.mem_of_getElem? (i := 4) rfl)
theorem uw485 : (Cond.instanceMethod yX2_far) ∈ UW := inR21 _ (List.mem_of_getElem? (i := 5) rfl)
theorem uw486 : (Cond.selects RX2 yX2_far yX2_far) ∈ UW := inR21 _ (List.mem_of_getElem? (i := 6) rfl)
theorem uw487 : (Cond.code yX2_far cX2_far 3 (some .int)) ∈ UW := inR21 _ (List.mem_of_getElem? (i := 7) rfl)
theorem uw488 : (Cond.methodLink RX2 43 Lib.Math.abs.name) ∈ UW := inR21 _ (List.mem_of_getElem? (i := 8) rfl)
theorem uw492 : (Cond.code yX12_name cX12_name 3 (some .int)) ∈ UW := inR21 _ (List.mem_of_getElem? (i := 12) rfl)
theorem uw493 : (Cond.methodLink RX12 236 yX12_sayers) ∈ UW := inR21 _ (List.mem_of_getElem? (i := 13) rfl)
theorem uw494 : (Cond.instanceMethod yX12_sayers) ∈ UW := inR21 _ (List.mem_of_getElem? (i := 14) rfl)
theorem uw495 : (Cond.selects RX12 yX12_sayers yX12_sayers) ∈ UW := inR21 _ (List.mem_of_getElem? (i := 15) rfl)
theorem uw496 : (Cond.code yX12_sayers cX12_sayers 4 (some .int)) ∈ UW := inR21 _ (List.mem_of_getElem? (i := 16) rfl)
theorem uw500 : (Cond.code yX11_sheet cX11_sheet 5 (some .int)) ∈ UW := inR21 _ (List.mem_of_getElem? (i := 20) rfl)
theorem uw501 : (Cond.methodLink RX11 154 yX11_fillPurses) ∈ UW := inR21 _ (List.mem_of_getElem? (i := 21) rfl)
theorem uw502 : (Cond.instanceMethod yX11_fillPurses) ∈ UW := inR21 _ (List.mem_of_getElem? (i := 22) rfl)
theorem uw503 : (Cond.selects RX11 yX11_fillPurses yX11_fillPurses) ∈ UW := inR21 _ (List.mem_of_getElem? (i := 23) rfl)
theorem uw504 : (Cond.code yX11_fillPurses cX11_fillPurses 7 none) ∈ UW := inR22 _ (List.mem_of_getElem? (i := 0) rfl)
theorem uw505 : (Cond.methodLink RX11 327 Lib.Math.max.name) ∈ UW := inR22 _ (List.mem_of_getElem? (i := 1) rfl)
theorem uw506 : (Cond.static Lib.Math.max.name) ∈ UW := inR22 _ (List.mem_of_getElem? (i := 2) rfl)
theorem uw507 : (Cond.code Lib.Math.max.name Lib.Math.max.code 2 (some .int)) ∈ UW := inR22 _ (List.mem_of_getElem? (i := 3) rfl)
theorem uw508 : (Cond.methodLink RX11 158 yX2_purses) ∈ UW := inR22 _ (List.mem_of_getElem? (i := 4) rfl)
theorem uw509 : (Cond.instanceMethod yX2_purses) ∈ UW := inR22 _ (List.mem_of_getElem? (i := 5) rfl)
theorem uw510 : (Cond.selects RX2 yX2_purses yX2_purses) ∈ UW := inR22 _ (List.mem_of_getElem? (i := 6) rfl)
theorem uw511 : (Cond.code yX2_purses cX2_purses 1 (some .int)) ∈ UW := inR22 _ (List.mem_of_getElem? (i := 7) rfl)
theorem uw512 : (Cond.methodLink RX2 68 yX2_sum) ∈ UW := inR22 _ (List.mem_of_getElem? (i := 8) rfl)
theorem uw513 : (Cond.instanceMethod yX2_sum) ∈ UW := inR22 _ (List.mem_of_getElem? (i := 9) rfl)
theorem uw514 : (Cond.selects RX2 yX2_sum yX2_sum) ∈ UW := inR22 _ (List.mem_of_getElem? (i := 10) rfl)
theorem uw515 : (Cond.code yX2_sum cX2_sum 4 (some .int)) ∈ UW := inR22 _ (List.mem_of_getElem? (i := 11) rfl)
theorem uw519 : (Cond.code yX12_sheet cX12_sheet 8 (some .int)) ∈ UW := inR22 _ (List.mem_of_getElem? (i := 15) rfl)
theorem uw520 : (Cond.methodLink RX12 239 Lib.Math.min.name) ∈ UW := inR22 _ (List.mem_of_getElem? (i := 16) rfl)
theorem uw521 : (Cond.methodLink RX12 243 Lib.Math.max.name) ∈ UW := inR22 _ (List.mem_of_getElem? (i := 17) rfl)
theorem uw522 : (Cond.methodLink RX12 246 yX12_sumOf) ∈ UW := inR22 _ (List.mem_of_getElem? (i := 18) rfl)
theorem uw523 : (Cond.instanceMethod yX12_sumOf) ∈ UW := inR22 _ (List.mem_of_getElem? (i := 19) rfl)
theorem uw524 : (Cond.selects RX12 yX12_sumOf yX12_sumOf) ∈ UW := inR22 _ (List.mem_of_getElem? (i := 20) rfl)
theorem uw525 : (Cond.code yX12_sumOf cX12_sumOf 5 (some .int)) ∈ UW := inR22 _ (List.mem_of_getElem? (i := 21) rfl)
theorem uw529 : (Cond.code yX11_says cX11_says 3 (some .int)) ∈ UW := inR23 _ (List.mem_of_getElem? (i := 1) rfl)
theorem uw530 : (Cond.methodLink RX11 161 yX3_marks) ∈ UW := inR23 _ (List.mem_of_getElem? (i := 2) rfl)
theorem uw531 : (Cond.instanceMethod yX3_marks) ∈ UW := inR23 _ (List.mem_of_getElem? (i := 3) rfl)
theorem uw532 : (Cond.selects RX3 yX3_marks yX3_marks) ∈ UW := inR23 _ (List.mem_of_getElem? (i := 4) rfl)
theorem uw533 : (Cond.code yX3_marks cX3_marks 2 none) ∈ UW := inR23 _ (List.mem_of_getElem? (i := 5) rfl)
theorem uw534 : (Cond.fieldLink RX3 15 "NamesInMouths$Past" "free" "I") ∈ UW := inR23 _ (List.mem_of_getElem? (i := 6) rfl)
theorem uw535 : (Cond.methodLink RX3 19 yX2_writes) ∈ UW := inR23 _ (List.mem_of_getElem? (i := 7) rfl)
theorem uw536 : (Cond.instanceMethod yX2_writes) ∈ UW := inR23 _ (List.mem_of_getElem? (i := 8) rfl)
theorem uw537 : (Cond.selects RX2 yX2_writes yX2_writes) ∈ UW := inR23 _ (List.mem_of_getElem? (i := 9) rfl)
theorem uw538 : (Cond.code yX2_writes cX2_writes 3 none) ∈ UW := inR23 _ (List.mem_of_getElem? (i := 10) rfl)
theorem uw539 : (Cond.methodLink RX2 31 arraycopyName) ∈ UW := inR23 _ (List.mem_of_getElem? (i := 11) rfl)
theorem uw540 : (Cond.native arraycopyName) ∈ UW := inR23 _ (List.mem_of_getElem? (i := 12) rfl)
theorem uw541 : (Cond.static arraycopyName) ∈ UW := inR23 _ (List.mem_of_getElem? (i := 13) rfl)
theorem uw542 : (Cond.initialized "java/lang/System") ∈ UW := inR23 _ (List.mem_of_getElem? (i := 14) rfl)
theorem uw543 : (Cond.fieldLink RX2 37 "NamesInMouths$Fen" "day" "I") ∈ UW := inR23 _ (List.mem_of_getElem? (i := 15) rfl)
theorem uw544 : (Cond.fieldLink RX2 40 "NamesInMouths$Fen" "said" "I") ∈ UW := inR23 _ (List.mem_of_getElem? (i := 16) rfl)
theorem uw545 : (Cond.methodLink RX11 165 yX2_saidBy) ∈ UW := inR23 _ (List.mem_of_getElem? (i := 17) rfl)
theorem uw546 : (Cond.instanceMethod yX2_saidBy) ∈ UW := inR23 _ (List.mem_of_getElem? (i := 18) rfl)
theorem uw547 : (Cond.selects RX2 yX2_saidBy yX2_saidBy) ∈ UW := inR23 _ (List.mem_of_getElem? (i := 19) rfl)
theorem uw548 : (Cond.code yX2_saidBy cX2_saidBy 5 (some .int)) ∈ UW := inR23 _ (List.mem_of_getElem? (i := 20) rfl)
theorem uw549 : (Cond.methodLink RX2 76 yX2_has) ∈ UW := inR23 _ (List.mem_of_getElem? (i := 21) rfl)
theorem uw550 : (Cond.methodLink RX2 80 yX2_say) ∈ UW := inR23 _ (List.mem_of_getElem? (i := 22) rfl)
theorem uw551 : (Cond.instanceMethod yX2_say) ∈ UW := inR23 _ (List.mem_of_getElem? (i := 23) rfl)
theorem uw552 : (Cond.selects RX2 yX2_say yX2_say) ∈ UW := inR24 _ (List.mem_of_getElem? (i := 0) rfl)
theorem uw553 : (Cond.code yX2_say cX2_say 3 none) ∈ UW := inR24 _ (List.mem_of_getElem? (i := 1) rfl)
theorem uw554 : (Cond.methodLink RX2 72 Lib.Math.min.name) ∈ UW := inR24 _ (List.mem_of_getElem? (i := 2) rfl)
theorem uw555 : (Cond.methodLink RX11 169 yX11_keepDone) ∈ UW := inR24 _ (List.mem_of_getElem? (i := 3) rfl)
theorem uw556 : (Cond.instanceMethod yX11_keepDone) ∈ UW := inR24 _ (List.mem_of_getElem? (i := 4) rfl)
theorem uw557 : (Cond.selects RX11 yX11_keepDone yX11_keepDone) ∈ UW := inR24 _ (List.mem_of_getElem? (i := 5) rfl)
theorem uw558 : (Cond.code yX11_keepDone cX11_keepDone 2 (some .int)) ∈ UW := inR24 _ (List.mem_of_getElem? (i := 6) rfl)
theorem uw559 : (Cond.methodLink RX11 188 yX3_keepMarked) ∈ UW := inR24 _ (List.mem_of_getElem? (i := 7) rfl)
theorem uw560 : (Cond.instanceMethod yX3_keepMarked) ∈ UW := inR24 _ (List.mem_of_getElem? (i := 8) rfl)
theorem uw561 : (Cond.selects RX3 yX3_keepMarked yX3_keepMarked) ∈ UW := inR24 _ (List.mem_of_getElem? (i := 9) rfl)
theorem uw562 : (Cond.code yX3_keepMarked cX3_keepMarked 1 none) ∈ UW := inR24 _ (List.mem_of_getElem? (i := 10) rfl)
theorem uw563 : (Cond.methodLink RX3 26 Lib.Math.min.name) ∈ UW := inR24 _ (List.mem_of_getElem? (i := 11) rfl)
theorem uw567 : (Cond.code yX12_says cX12_says 5 (some .int)) ∈ UW := inR24 _ (List.mem_of_getElem? (i := 15) rfl)
theorem uw568 : (Cond.methodLink RX12 253 yX12_refusesSaying) ∈ UW := inR24 _ (List.mem_of_getElem? (i := 16) rfl)
theorem uw569 : (Cond.instanceMethod yX12_refusesSaying) ∈ UW := inR24 _ (List.mem_of_getElem? (i := 17) rfl)
theorem uw570 : (Cond.selects RX12 yX12_refusesSaying yX12_refusesSaying) ∈ UW := inR24 _ (List.mem_of_getElem? (i := 18) rfl)
theorem uw571 : (Cond.code yX12_refusesSaying cX12_refusesSaying 4 (some .int)) ∈ UW := inR24 _ (List.mem_of_getElem? (i := 19) rfl)
theorem uw572 : (Cond.methodLink RX12 256 yX12_remember) ∈ UW := inR24 _ (List.mem_of_getElem? (i := 20) rfl)
theorem uw573 : (Cond.instanceMethod yX12_remember) ∈ UW := inR24 _ (List.mem_of_getElem? (i := 21) rfl)
theorem uw574 : (Cond.selects RX12 yX12_remember yX12_remember) ∈ UW := inR24 _ (List.mem_of_getElem? (i := 22) rfl)
theorem uw575 : (Cond.code yX12_remember cX12_remember 3 none) ∈ UW := inR24 _ (List.mem_of_getElem? (i := 23) rfl)
theorem uw576 : (Cond.methodLink RX12 249 yX12_lay) ∈ UW := inR25 _ (List.mem_of_getElem? (i := 0) rfl)
theorem uw577 : (Cond.static yX12_lay) ∈ UW := inR25 _ (List.mem_of_getElem? (i := 1) rfl)
theorem uw578 : (Cond.code yX12_lay cX12_lay 4 none) ∈ UW := inR25 _ (List.mem_of_getElem? (i := 2) rfl)
theorem uw579 : (Cond.methodLink RX12 260 yX12_goSaying) ∈ UW := inR25 _ (List.mem_of_getElem? (i := 3) rfl)
theorem uw580 : (Cond.static yX12_goSaying) ∈ UW := inR25 _ (List.mem_of_getElem? (i := 4) rfl)
theorem uw581 : (Cond.code yX12_goSaying cX12_goSaying 3 none) ∈ UW := inR25 _ (List.mem_of_getElem? (i := 5) rfl)
theorem uw585 : (Cond.code yX11_signs cX11_signs 3 (some .int)) ∈ UW := inR25 _ (List.mem_of_getElem? (i := 9) rfl)
theorem uw586 : (Cond.methodLink RX11 172 yX2_signedFor) ∈ UW := inR25 _ (List.mem_of_getElem? (i := 10) rfl)
theorem uw587 : (Cond.instanceMethod yX2_signedFor) ∈ UW := inR25 _ (List.mem_of_getElem? (i := 11) rfl)
theorem uw588 : (Cond.selects RX2 yX2_signedFor yX2_signedFor) ∈ UW := inR25 _ (List.mem_of_getElem? (i := 12) rfl)
theorem uw589 : (Cond.code yX2_signedFor cX2_signedFor 4 (some .int)) ∈ UW := inR25 _ (List.mem_of_getElem? (i := 13) rfl)
theorem uw593 : (Cond.code yX12_signs cX12_signs 4 (some .int)) ∈ UW := inR25 _ (List.mem_of_getElem? (i := 17) rfl)
theorem uw594 : (Cond.methodLink RX12 264 yX12_refusesDeed) ∈ UW := inR25 _ (List.mem_of_getElem? (i := 18) rfl)
theorem uw595 : (Cond.instanceMethod yX12_refusesDeed) ∈ UW := inR25 _ (List.mem_of_getElem? (i := 19) rfl)
theorem uw596 : (Cond.selects RX12 yX12_refusesDeed yX12_refusesDeed) ∈ UW := inR25 _ (List.mem_of_getElem? (i := 20) rfl)
theorem uw597 : (Cond.code yX12_refusesDeed cX12_refusesDeed 4 (some .int)) ∈ UW := inR25 _ (List.mem_of_getElem? (i := 21) rfl)
theorem uw598 : (Cond.methodLink RX12 267 yX12_goDeed) ∈ UW := inR25 _ (List.mem_of_getElem? (i := 22) rfl)
theorem uw599 : (Cond.instanceMethod yX12_goDeed) ∈ UW := inR25 _ (List.mem_of_getElem? (i := 23) rfl)
theorem uw600 : (Cond.selects RX12 yX12_goDeed yX12_goDeed) ∈ UW := inR26 _ (List.mem_of_getElem? (i := 0) rfl)
theorem uw601 : (Cond.code yX12_goDeed cX12_goDeed 4 (some .int)) ∈ UW := inR26 _ (List.mem_of_getElem? (i := 1) rfl)
theorem uw605 : (Cond.code yX11_moves cX11_moves 3 (some .int)) ∈ UW := inR26 _ (List.mem_of_getElem? (i := 5) rfl)
theorem uw606 : (Cond.methodLink RX11 175 yX2_movedTo) ∈ UW := inR26 _ (List.mem_of_getElem? (i := 6) rfl)
theorem uw607 : (Cond.instanceMethod yX2_movedTo) ∈ UW := inR26 _ (List.mem_of_getElem? (i := 7) rfl)
theorem uw608 : (Cond.selects RX2 yX2_movedTo yX2_movedTo) ∈ UW := inR26 _ (List.mem_of_getElem? (i := 8) rfl)
theorem uw609 : (Cond.code yX2_movedTo cX2_movedTo 4 (some .int)) ∈ UW := inR26 _ (List.mem_of_getElem? (i := 9) rfl)
theorem uw613 : (Cond.code yX12_moves cX12_moves 5 (some .int)) ∈ UW := inR26 _ (List.mem_of_getElem? (i := 13) rfl)
theorem uw614 : (Cond.methodLink RX12 270 yX12_refusesMove) ∈ UW := inR26 _ (List.mem_of_getElem? (i := 14) rfl)
theorem uw615 : (Cond.instanceMethod yX12_refusesMove) ∈ UW := inR26 _ (List.mem_of_getElem? (i := 15) rfl)
theorem uw616 : (Cond.selects RX12 yX12_refusesMove yX12_refusesMove) ∈ UW := inR26 _ (List.mem_of_getElem? (i := 16) rfl)
theorem uw617 : (Cond.code yX12_refusesMove cX12_refusesMove 4 (some .int)) ∈ UW := inR26 _ (List.mem_of_getElem? (i := 17) rfl)
theorem uw621 : (Cond.code yX11_calls cX11_calls 2 (some .int)) ∈ UW := inR26 _ (List.mem_of_getElem? (i := 21) rfl)
theorem uw622 : (Cond.methodLink RX11 178 yX2_rollCalled) ∈ UW := inR26 _ (List.mem_of_getElem? (i := 22) rfl)
theorem uw623 : (Cond.instanceMethod yX2_rollCalled) ∈ UW := inR26 _ (List.mem_of_getElem? (i := 23) rfl)
theorem uw624 : (Cond.selects RX2 yX2_rollCalled yX2_rollCalled) ∈ UW := inR27 _ (List.mem_of_getElem? (i := 0) rfl)
theorem uw625 : (Cond.code yX2_rollCalled cX2_rollCalled 5 (some .int)) ∈ UW := inR27 _ (List.mem_of_getElem? (i := 1) rfl)
theorem uw629 : (Cond.code yX12_calls cX12_calls 3 (some .int)) ∈ UW := inR27 _ (List.mem_of_getElem? (i := 5) rfl)
theorem uw630 : (Cond.methodLink RX12 276 yX12_refusesRoll) ∈ UW := inR27 _ (List.mem_of_getElem? (i := 6) rfl)
theorem uw631 : (Cond.instanceMethod yX12_refusesRoll) ∈ UW := inR27 _ (List.mem_of_getElem? (i := 7) rfl)
theorem uw632 : (Cond.selects RX12 yX12_refusesRoll yX12_refusesRoll) ∈ UW := inR27 _ (List.mem_of_getElem? (i := 8) rfl)
theorem uw633 : (Cond.code yX12_refusesRoll cX12_refusesRoll 2 (some .int)) ∈ UW := inR27 _ (List.mem_of_getElem? (i := 9) rfl)
theorem uw634 : (Cond.methodLink RX12 273 yX12_goRoll) ∈ UW := inR27 _ (List.mem_of_getElem? (i := 10) rfl)
theorem uw635 : (Cond.instanceMethod yX12_goRoll) ∈ UW := inR27 _ (List.mem_of_getElem? (i := 11) rfl)
theorem uw636 : (Cond.selects RX12 yX12_goRoll yX12_goRoll) ∈ UW := inR27 _ (List.mem_of_getElem? (i := 12) rfl)
theorem uw637 : (Cond.code yX12_goRoll cX12_goRoll 5 (some .int)) ∈ UW := inR27 _ (List.mem_of_getElem? (i := 13) rfl)
theorem uw641 : (Cond.code yX11_days cX11_days 3 (some .int)) ∈ UW := inR27 _ (List.mem_of_getElem? (i := 17) rfl)
theorem uw642 : (Cond.fieldLink RX11 181 "NamesInMouths$Fen" "said" "I") ∈ UW := inR27 _ (List.mem_of_getElem? (i := 18) rfl)
theorem uw643 : (Cond.methodLink RX11 184 yX2_passDays) ∈ UW := inR27 _ (List.mem_of_getElem? (i := 19) rfl)
theorem uw644 : (Cond.instanceMethod yX2_passDays) ∈ UW := inR27 _ (List.mem_of_getElem? (i := 20) rfl)
theorem uw645 : (Cond.selects RX2 yX2_passDays yX2_passDays) ∈ UW := inR27 _ (List.mem_of_getElem? (i := 21) rfl)
theorem uw646 : (Cond.code yX2_passDays cX2_passDays 5 none) ∈ UW := inR27 _ (List.mem_of_getElem? (i := 22) rfl)
theorem uw647 : (Cond.methodLink RX2 84 yX2_passDay) ∈ UW := inR27 _ (List.mem_of_getElem? (i := 23) rfl)
theorem uw648 : (Cond.instanceMethod yX2_passDay) ∈ UW := inR28 _ (List.mem_of_getElem? (i := 0) rfl)
theorem uw649 : (Cond.selects RX2 yX2_passDay yX2_passDay) ∈ UW := inR28 _ (List.mem_of_getElem? (i := 1) rfl)
theorem uw650 : (Cond.code yX2_passDay cX2_passDay 5 none) ∈ UW := inR28 _ (List.mem_of_getElem? (i := 2) rfl)
theorem uw651 : (Cond.methodLink RX11 191 yX9_tells_) ∈ UW := inR28 _ (List.mem_of_getElem? (i := 3) rfl)
theorem uw652 : (Cond.instanceMethod yX9_tells_) ∈ UW := inR28 _ (List.mem_of_getElem? (i := 4) rfl)
theorem uw653 : (Cond.selects RX9 yX9_tells_ yX9_tells_) ∈ UW := inR28 _ (List.mem_of_getElem? (i := 5) rfl)
theorem uw654 : (Cond.code yX9_tells_ cX9_tells_ 5 none) ∈ UW := inR28 _ (List.mem_of_getElem? (i := 6) rfl)
theorem uw655 : (Cond.fieldLink RX9 15 "NamesInMouths$Told" "size" "I") ∈ UW := inR28 _ (List.mem_of_getElem? (i := 7) rfl)
theorem uw656 : (Cond.methodLink RX9 19 yX9_adds) ∈ UW := inR28 _ (List.mem_of_getElem? (i := 8) rfl)
theorem uw657 : (Cond.instanceMethod yX9_adds) ∈ UW := inR28 _ (List.mem_of_getElem? (i := 9) rfl)
theorem uw658 : (Cond.selects RX9 yX9_adds yX9_adds) ∈ UW := inR28 _ (List.mem_of_getElem? (i := 10) rfl)
theorem uw659 : (Cond.code yX9_adds cX9_adds 3 none) ∈ UW := inR28 _ (List.mem_of_getElem? (i := 11) rfl)
theorem uw660 : (Cond.methodLink RX11 195 yX2_homes) ∈ UW := inR28 _ (List.mem_of_getElem? (i := 12) rfl)
theorem uw661 : (Cond.instanceMethod yX2_homes) ∈ UW := inR28 _ (List.mem_of_getElem? (i := 13) rfl)
theorem uw662 : (Cond.selects RX2 yX2_homes yX2_homes) ∈ UW := inR28 _ (List.mem_of_getElem? (i := 14) rfl)
theorem uw663 : (Cond.code yX2_homes cX2_homes 3 (some .int)) ∈ UW := inR28 _ (List.mem_of_getElem? (i := 15) rfl)
theorem uw667 : (Cond.code yX12_days cX12_days 3 (some .int)) ∈ UW := inR28 _ (List.mem_of_getElem? (i := 19) rfl)
theorem uw668 : (Cond.fieldLink RX12 107 "NamesInMouthsModel" "rowMany" "I") ∈ UW := inR28 _ (List.mem_of_getElem? (i := 20) rfl)
theorem uw669 : (Cond.methodLink RX12 283 yX12_goDays) ∈ UW := inR28 _ (List.mem_of_getElem? (i := 21) rfl)
theorem uw670 : (Cond.instanceMethod yX12_goDays) ∈ UW := inR28 _ (List.mem_of_getElem? (i := 22) rfl)
theorem uw671 : (Cond.selects RX12 yX12_goDays yX12_goDays) ∈ UW := inR28 _ (List.mem_of_getElem? (i := 23) rfl)
theorem uw672 : (Cond.code yX12_goDays cX12_goDays 5 none) ∈ UW := inR29 _ (List.mem_of_getElem? (i := 0) rfl)
theorem uw673 : (Cond.methodLink RX12 279 yX12_goDay) ∈ UW := inR29 _ (List.mem_of_getElem? (i := 1) rfl)
theorem uw674 : (Cond.instanceMethod yX12_goDay) ∈ UW := inR29 _ (List.mem_of_getElem? (i := 2) rfl)
theorem uw675 : (Cond.selects RX12 yX12_goDay yX12_goDay) ∈ UW := inR29 _ (List.mem_of_getElem? (i := 3) rfl)
theorem uw676 : (Cond.code yX12_goDay cX12_goDay 5 none) ∈ UW := inR29 _ (List.mem_of_getElem? (i := 4) rfl)
theorem uw677 : (Cond.methodLink RX12 286 yX12_tell) ∈ UW := inR29 _ (List.mem_of_getElem? (i := 5) rfl)
theorem uw678 : (Cond.instanceMethod yX12_tell) ∈ UW := inR29 _ (List.mem_of_getElem? (i := 6) rfl)
theorem uw679 : (Cond.selects RX12 yX12_tell yX12_tell) ∈ UW := inR29 _ (List.mem_of_getElem? (i := 7) rfl)
theorem uw680 : (Cond.code yX12_tell cX12_tell 3 none) ∈ UW := inR29 _ (List.mem_of_getElem? (i := 8) rfl)
theorem uw681 : (Cond.methodLink RX12 290 yX12_atHome) ∈ UW := inR29 _ (List.mem_of_getElem? (i := 9) rfl)
theorem uw682 : (Cond.instanceMethod yX12_atHome) ∈ UW := inR29 _ (List.mem_of_getElem? (i := 10) rfl)
theorem uw683 : (Cond.selects RX12 yX12_atHome yX12_atHome) ∈ UW := inR29 _ (List.mem_of_getElem? (i := 11) rfl)
theorem uw684 : (Cond.code yX12_atHome cX12_atHome 4 (some .int)) ∈ UW := inR29 _ (List.mem_of_getElem? (i := 12) rfl)
theorem uw688 : (Cond.code yX11_week cX11_week 5 (some .int)) ∈ UW := inR29 _ (List.mem_of_getElem? (i := 16) rfl)
theorem uw689 : (Cond.methodLink RX11 198 yX11_weekWrongAt) ∈ UW := inR29 _ (List.mem_of_getElem? (i := 17) rfl)
theorem uw690 : (Cond.instanceMethod yX11_weekWrongAt) ∈ UW := inR29 _ (List.mem_of_getElem? (i := 18) rfl)
theorem uw691 : (Cond.selects RX11 yX11_weekWrongAt yX11_weekWrongAt) ∈ UW := inR29 _ (List.mem_of_getElem? (i := 19) rfl)
theorem uw692 : (Cond.code yX11_weekWrongAt cX11_weekWrongAt 4 (some .int)) ∈ UW := inR29 _ (List.mem_of_getElem? (i := 20) rfl)
theorem uw693 : (Cond.methodLink RX11 207 yX11_actDigits) ∈ UW := inR29 _ (List.mem_of_getElem? (i := 21) rfl)
theorem uw694 : (Cond.static yX11_actDigits) ∈ UW := inR29 _ (List.mem_of_getElem? (i := 22) rfl)
theorem uw695 : (Cond.code yX11_actDigits cX11_actDigits 1 (some .int)) ∈ UW := inR29 _ (List.mem_of_getElem? (i := 23) rfl)
theorem uw696 : (Cond.methodLink RX11 201 yX11_act) ∈ UW := inR30 _ (List.mem_of_getElem? (i := 0) rfl)
theorem uw697 : (Cond.instanceMethod yX11_act) ∈ UW := inR30 _ (List.mem_of_getElem? (i := 1) rfl)
theorem uw698 : (Cond.selects RX11 yX11_act yX11_act) ∈ UW := inR30 _ (List.mem_of_getElem? (i := 2) rfl)
theorem uw699 : (Cond.code yX11_act cX11_act 3 (some .int)) ∈ UW := inR30 _ (List.mem_of_getElem? (i := 3) rfl)
theorem uw703 : (Cond.code yX12_week cX12_week 3 (some .int)) ∈ UW := inR30 _ (List.mem_of_getElem? (i := 7) rfl)
theorem uw704 : (Cond.methodLink RX12 294 yX12_readAct) ∈ UW := inR30 _ (List.mem_of_getElem? (i := 8) rfl)
theorem uw705 : (Cond.instanceMethod yX12_readAct) ∈ UW := inR30 _ (List.mem_of_getElem? (i := 9) rfl)
theorem uw706 : (Cond.selects RX12 yX12_readAct yX12_readAct) ∈ UW := inR30 _ (List.mem_of_getElem? (i := 10) rfl)
theorem uw707 : (Cond.code yX12_readAct cX12_readAct 3 none) ∈ UW := inR30 _ (List.mem_of_getElem? (i := 11) rfl)
theorem uw708 : (Cond.methodLink RX12 297 yX12_act) ∈ UW := inR30 _ (List.mem_of_getElem? (i := 12) rfl)
theorem uw709 : (Cond.instanceMethod yX12_act) ∈ UW := inR30 _ (List.mem_of_getElem? (i := 13) rfl)
theorem uw710 : (Cond.selects RX12 yX12_act yX12_act) ∈ UW := inR30 _ (List.mem_of_getElem? (i := 14) rfl)
theorem uw711 : (Cond.code yX12_act cX12_act 4 (some .boolean)) ∈ UW := inR30 _ (List.mem_of_getElem? (i := 15) rfl)
theorem uw715 : (Cond.code yX11_undo cX11_undo 1 (some .int)) ∈ UW := inR30 _ (List.mem_of_getElem? (i := 19) rfl)
theorem uw716 : (Cond.fieldLink RX11 214 "NamesInMouths$Past" "size" "I") ∈ UW := inR30 _ (List.mem_of_getElem? (i := 20) rfl)
theorem uw717 : (Cond.methodLink RX11 210 yX3_bringsBack) ∈ UW := inR30 _ (List.mem_of_getElem? (i := 21) rfl)
theorem uw718 : (Cond.instanceMethod yX3_bringsBack) ∈ UW := inR30 _ (List.mem_of_getElem? (i := 22) rfl)
theorem uw719 : (Cond.selects RX3 yX3_bringsBack yX3_bringsBack) ∈ UW := inR30 _ (List.mem_of_getElem? (i := 23) rfl)
theorem uw720 : (Cond.code yX3_bringsBack cX3_bringsBack 2 (some .boolean)) ∈ UW := inR31 _ (List.mem_of_getElem? (i := 0) rfl)
theorem uw721 : (Cond.methodLink RX3 32 yX2_readsBack) ∈ UW := inR31 _ (List.mem_of_getElem? (i := 1) rfl)
theorem uw722 : (Cond.instanceMethod yX2_readsBack) ∈ UW := inR31 _ (List.mem_of_getElem? (i := 2) rfl)
theorem uw723 : (Cond.selects RX2 yX2_readsBack yX2_readsBack) ∈ UW := inR31 _ (List.mem_of_getElem? (i := 3) rfl)
theorem uw724 : (Cond.code yX2_readsBack cX2_readsBack 3 none) ∈ UW := inR31 _ (List.mem_of_getElem? (i := 4) rfl)
theorem uw728 : (Cond.code yX12_undo cX12_undo 2 (some .int)) ∈ UW := inR31 _ (List.mem_of_getElem? (i := 8) rfl)
theorem uw732 : (Cond.code yX11_brings cX11_brings 5 (some .int)) ∈ UW := inR31 _ (List.mem_of_getElem? (i := 12) rfl)
theorem uw733 : (Cond.methodLink RX11 217 yX2_takes) ∈ UW := inR31 _ (List.mem_of_getElem? (i := 13) rfl)
theorem uw734 : (Cond.instanceMethod yX2_takes) ∈ UW := inR31 _ (List.mem_of_getElem? (i := 14) rfl)
theorem uw735 : (Cond.selects RX2 yX2_takes yX2_takes) ∈ UW := inR31 _ (List.mem_of_getElem? (i := 15) rfl)
theorem uw736 : (Cond.code yX2_takes cX2_takes 2 none) ∈ UW := inR31 _ (List.mem_of_getElem? (i := 16) rfl)
theorem uw737 : (Cond.methodLink RX11 220 yX10_toHold) ∈ UW := inR31 _ (List.mem_of_getElem? (i := 17) rfl)
theorem uw738 : (Cond.instanceMethod yX10_toHold) ∈ UW := inR31 _ (List.mem_of_getElem? (i := 18) rfl)
theorem uw739 : (Cond.selects RX10 yX10_toHold yX10_toHold) ∈ UW := inR31 _ (List.mem_of_getElem? (i := 19) rfl)
theorem uw740 : (Cond.code yX10_toHold cX10_toHold 9 (some .int)) ∈ UW := inR31 _ (List.mem_of_getElem? (i := 20) rfl)
theorem uw741 : (Cond.fieldLink RX10 34 "NamesInMouths$Fen" "holder" "[I") ∈ UW := inR31 _ (List.mem_of_getElem? (i := 21) rfl)
theorem uw742 : (Cond.fieldLink RX10 39 "NamesInMouths$Ways" "met" "I") ∈ UW := inR31 _ (List.mem_of_getElem? (i := 22) rfl)
theorem uw743 : (Cond.fieldLink RX10 43 "NamesInMouths$Ways" "queued" "I") ∈ UW := inR31 _ (List.mem_of_getElem? (i := 23) rfl)
theorem uw744 : (Cond.fieldLink RX10 54 "NamesInMouths$Fen" "age" "[I") ∈ UW := inR32 _ (List.mem_of_getElem? (i := 0) rfl)
theorem uw745 : (Cond.methodLink RX10 46 yX2_sayers) ∈ UW := inR32 _ (List.mem_of_getElem? (i := 1) rfl)
theorem uw746 : (Cond.methodLink RX10 50 yX10_meets) ∈ UW := inR32 _ (List.mem_of_getElem? (i := 2) rfl)
theorem uw747 : (Cond.instanceMethod yX10_meets) ∈ UW := inR32 _ (List.mem_of_getElem? (i := 3) rfl)
theorem uw748 : (Cond.selects RX10 yX10_meets yX10_meets) ∈ UW := inR32 _ (List.mem_of_getElem? (i := 4) rfl)
theorem uw749 : (Cond.code yX10_meets cX10_meets 4 none) ∈ UW := inR32 _ (List.mem_of_getElem? (i := 5) rfl)
theorem uw750 : (Cond.methodLink RX10 57 yX10_traces) ∈ UW := inR32 _ (List.mem_of_getElem? (i := 6) rfl)
theorem uw751 : (Cond.instanceMethod yX10_traces) ∈ UW := inR32 _ (List.mem_of_getElem? (i := 7) rfl)
theorem uw752 : (Cond.selects RX10 yX10_traces yX10_traces) ∈ UW := inR32 _ (List.mem_of_getElem? (i := 8) rfl)
theorem uw753 : (Cond.code yX10_traces cX10_traces 5 (some .int)) ∈ UW := inR32 _ (List.mem_of_getElem? (i := 9) rfl)
theorem uw754 : (Cond.methodLink RX11 224 yX9_clears) ∈ UW := inR32 _ (List.mem_of_getElem? (i := 10) rfl)
theorem uw755 : (Cond.instanceMethod yX9_clears) ∈ UW := inR32 _ (List.mem_of_getElem? (i := 11) rfl)
theorem uw756 : (Cond.selects RX9 yX9_clears yX9_clears) ∈ UW := inR32 _ (List.mem_of_getElem? (i := 12) rfl)
theorem uw757 : (Cond.code yX9_clears cX9_clears 1 none) ∈ UW := inR32 _ (List.mem_of_getElem? (i := 13) rfl)
theorem uw758 : (Cond.methodLink RX11 227 yX10_sayer) ∈ UW := inR32 _ (List.mem_of_getElem? (i := 14) rfl)
theorem uw759 : (Cond.instanceMethod yX10_sayer) ∈ UW := inR32 _ (List.mem_of_getElem? (i := 15) rfl)
theorem uw760 : (Cond.selects RX10 yX10_sayer yX10_sayer) ∈ UW := inR32 _ (List.mem_of_getElem? (i := 16) rfl)
theorem uw761 : (Cond.code yX10_sayer cX10_sayer 2 (some .int)) ∈ UW := inR32 _ (List.mem_of_getElem? (i := 17) rfl)
theorem uw762 : (Cond.methodLink RX11 230 yX9_adds) ∈ UW := inR32 _ (List.mem_of_getElem? (i := 18) rfl)
theorem uw766 : (Cond.code yX12_brings cX12_brings 5 (some .int)) ∈ UW := inR32 _ (List.mem_of_getElem? (i := 22) rfl)
theorem uw767 : (Cond.methodLink RX12 300 yX12_canBring) ∈ UW := inR32 _ (List.mem_of_getElem? (i := 23) rfl)
theorem uw768 : (Cond.instanceMethod yX12_canBring) ∈ UW := inR33 _ (List.mem_of_getElem? (i := 0) rfl)
theorem uw769 : (Cond.selects RX12 yX12_canBring yX12_canBring) ∈ UW := inR33 _ (List.mem_of_getElem? (i := 1) rfl)
theorem uw770 : (Cond.code yX12_canBring cX12_canBring 7 (some .boolean)) ∈ UW := inR33 _ (List.mem_of_getElem? (i := 2) rfl)
theorem uw774 : (Cond.code yX11_later cX11_later 3 (some .int)) ∈ UW := inR33 _ (List.mem_of_getElem? (i := 6) rfl)
theorem uw778 : (Cond.code yX12_later cX12_later 3 (some .int)) ∈ UW := inR33 _ (List.mem_of_getElem? (i := 10) rfl)
theorem uw782 : (Cond.code yX11_home cX11_home 3 (some .int)) ∈ UW := inR33 _ (List.mem_of_getElem? (i := 14) rfl)
theorem uw783 : (Cond.methodLink RX11 233 yX11_daysUntilHome) ∈ UW := inR33 _ (List.mem_of_getElem? (i := 15) rfl)
theorem uw784 : (Cond.instanceMethod yX11_daysUntilHome) ∈ UW := inR33 _ (List.mem_of_getElem? (i := 16) rfl)
theorem uw785 : (Cond.selects RX11 yX11_daysUntilHome yX11_daysUntilHome) ∈ UW := inR33 _ (List.mem_of_getElem? (i := 17) rfl)
theorem uw786 : (Cond.code yX11_daysUntilHome cX11_daysUntilHome 3 (some .int)) ∈ UW := inR33 _ (List.mem_of_getElem? (i := 18) rfl)
theorem uw787 : (Cond.methodLink RX11 243 yX2_passDay) ∈ UW := inR33 _ (List.mem_of_getElem? (i := 19) rfl)
theorem uw788 : (Cond.methodLink RX11 236 yJ6_bitCount_0f7a4) ∈ UW := inR33 _ (List.mem_of_getElem? (i := 20) rfl)
theorem uw789 : (Cond.methodLink RX11 241 yX9_tells) ∈ UW := inR33 _ (List.mem_of_getElem? (i := 21) rfl)
theorem uw790 : (Cond.instanceMethod yX9_tells) ∈ UW := inR33 _ (List.mem_of_getElem? (i := 22) rfl)
theorem uw791 : (Cond.selects RX9 yX9_tells yX9_tells) ∈ UW := inR33 _ (List.mem_of_getElem? (i := 23) rfl)
theorem uw792 : (Cond.code yX9_tells cX9_tells 3 none) ∈ UW := inR34 _ (List.mem_of_getElem? (i := 0) rfl)
theorem uw796 : (Cond.code yX12_home cX12_home 3 (some .int)) ∈ UW := inR34 _ (List.mem_of_getElem? (i := 4) rfl)
theorem uw800 : (Cond.code yX11_poor cX11_poor 3 (some .int)) ∈ UW := inR34 _ (List.mem_of_getElem? (i := 8) rfl)
theorem uw804 : (Cond.code yX12_poor cX12_poor 3 (some .int)) ∈ UW := inR34 _ (List.mem_of_getElem? (i := 12) rfl)
theorem uw808 : (Cond.code yX11_leads cX11_leads 6 (some .int)) ∈ UW := inR34 _ (List.mem_of_getElem? (i := 16) rfl)
theorem uw809 : (Cond.methodLink RX11 247 yX2_ring) ∈ UW := inR34 _ (List.mem_of_getElem? (i := 17) rfl)
theorem uw810 : (Cond.instanceMethod yX2_ring) ∈ UW := inR34 _ (List.mem_of_getElem? (i := 18) rfl)
theorem uw811 : (Cond.selects RX2 yX2_ring yX2_ring) ∈ UW := inR34 _ (List.mem_of_getElem? (i := 19) rfl)
theorem uw812 : (Cond.code yX2_ring cX2_ring 5 (some .int)) ∈ UW := inR34 _ (List.mem_of_getElem? (i := 20) rfl)
theorem uw816 : (Cond.code yX12_leads cX12_leads 3 (some .int)) ∈ UW := inR35 _ (List.mem_of_getElem? (i := 0) rfl)
theorem uw817 : (Cond.methodLink RX12 307 yX12_goLead) ∈ UW := inR35 _ (List.mem_of_getElem? (i := 1) rfl)
theorem uw818 : (Cond.instanceMethod yX12_goLead) ∈ UW := inR35 _ (List.mem_of_getElem? (i := 2) rfl)
theorem uw819 : (Cond.selects RX12 yX12_goLead yX12_goLead) ∈ UW := inR35 _ (List.mem_of_getElem? (i := 3) rfl)
theorem uw820 : (Cond.code yX12_goLead cX12_goLead 4 (some .int)) ∈ UW := inR35 _ (List.mem_of_getElem? (i := 4) rfl)
theorem uw824 : (Cond.code yX11_rings cX11_rings 6 (some .int)) ∈ UW := inR35 _ (List.mem_of_getElem? (i := 8) rfl)
theorem uw825 : (Cond.methodLink RX11 251 yJ6_numberOfTrailingZeros_0f7a4) ∈ UW := inR35 _ (List.mem_of_getElem? (i := 9) rfl)
theorem uw826 : (Cond.static yJ6_numberOfTrailingZeros_0f7a4) ∈ UW := inR35 _ (List.mem_of_getElem? (i := 10) rfl)
theorem uw827 : (Cond.code yJ6_numberOfTrailingZeros_0f7a4 cJ6_numberOfTrailingZeros_0f7a4 2 (some .int)) ∈ UW := inR35 _ (List.mem_of_getElem? (i := 11) rfl)
theorem uw828 : (Cond.constant RJ6 264 (65536)) ∈ UW := inR35 _ (List.mem_of_getElem? (i := 12) rfl)
theorem uw832 : (Cond.code yX12_rings cX12_rings 6 (some .int)) ∈ UW := inR35 _ (List.mem_of_getElem? (i := 16) rfl)
theorem uw833 : (Cond.methodLink RX12 314 yX12_ringOf) ∈ UW := inR35 _ (List.mem_of_getElem? (i := 17) rfl)
theorem uw834 : (Cond.instanceMethod yX12_ringOf) ∈ UW := inR35 _ (List.mem_of_getElem? (i := 18) rfl)
theorem uw835 : (Cond.selects RX12 yX12_ringOf yX12_ringOf) ∈ UW := inR35 _ (List.mem_of_getElem? (i := 19) rfl)
theorem uw836 : (Cond.code yX12_ringOf cX12_ringOf 4 (some .int)) ∈ UW := inR35 _ (List.mem_of_getElem? (i := 20) rfl)
theorem uw837 : (Cond.methodLink RX12 310 yX12_has) ∈ UW := inR35 _ (List.mem_of_getElem? (i := 21) rfl)
theorem uw838 : (Cond.static yX12_has) ∈ UW := inR35 _ (List.mem_of_getElem? (i := 22) rfl)
theorem uw839 : (Cond.code yX12_has cX12_has 2 (some .boolean)) ∈ UW := inR35 _ (List.mem_of_getElem? (i := 23) rfl)
theorem uw840 : (Cond.methodLink RX12 317 yJ6_numberOfTrailingZeros_0f7a4) ∈ UW := inR36 _ (List.mem_of_getElem? (i := 0) rfl)
theorem uw844 : (Cond.code yX11_robs cX11_robs 5 (some .int)) ∈ UW := inR36 _ (List.mem_of_getElem? (i := 4) rfl)
theorem uw848 : (Cond.code yX12_robs cX12_robs 5 (some .int)) ∈ UW := inR36 _ (List.mem_of_getElem? (i := 8) rfl)
theorem uw852 : (Cond.code yX11_order cX11_order 3 (some .int)) ∈ UW := inR36 _ (List.mem_of_getElem? (i := 12) rfl)
theorem uw853 : (Cond.fieldLink RX11 258 "NamesInMouths$Ways" "turns" "I") ∈ UW := inR36 _ (List.mem_of_getElem? (i := 13) rfl)
theorem uw854 : (Cond.fieldLink RX11 261 "NamesInMouths$Ways" "best" "[I") ∈ UW := inR36 _ (List.mem_of_getElem? (i := 14) rfl)
theorem uw855 : (Cond.methodLink RX11 254 yX10_sayBack) ∈ UW := inR36 _ (List.mem_of_getElem? (i := 15) rfl)
theorem uw856 : (Cond.instanceMethod yX10_sayBack) ∈ UW := inR36 _ (List.mem_of_getElem? (i := 16) rfl)
theorem uw857 : (Cond.selects RX10 yX10_sayBack yX10_sayBack) ∈ UW := inR36 _ (List.mem_of_getElem? (i := 17) rfl)
theorem uw858 : (Cond.code yX10_sayBack cX10_sayBack 4 (some .int)) ∈ UW := inR36 _ (List.mem_of_getElem? (i := 18) rfl)
theorem uw859 : (Cond.fieldLink RX10 61 "NamesInMouths$Ways" "fen" "LNamesInMouths$Fen;") ∈ UW := inR36 _ (List.mem_of_getElem? (i := 19) rfl)
theorem uw860 : (Cond.fieldLink RX10 65 "NamesInMouths$Ways" "rule" "LNamesInMouths$Rule;") ∈ UW := inR36 _ (List.mem_of_getElem? (i := 20) rfl)
theorem uw861 : (Cond.fieldLink RX10 69 "NamesInMouths$Ways" "turns" "I") ∈ UW := inR36 _ (List.mem_of_getElem? (i := 21) rfl)
theorem uw862 : (Cond.fieldLink RX10 72 "NamesInMouths$Fen" "size" "I") ∈ UW := inR36 _ (List.mem_of_getElem? (i := 22) rfl)
theorem uw863 : (Cond.fieldLink RX10 85 "NamesInMouths$Ways" "homesAtFirst" "I") ∈ UW := inR36 _ (List.mem_of_getElem? (i := 23) rfl)
theorem uw864 : (Cond.fieldLink RX10 88 "NamesInMouths$Ways" "most" "I") ∈ UW := inR37 _ (List.mem_of_getElem? (i := 0) rfl)
theorem uw865 : (Cond.methodLink RX10 75 yX2_homes) ∈ UW := inR37 _ (List.mem_of_getElem? (i := 1) rfl)
theorem uw866 : (Cond.methodLink RX10 79 yJ6_bitCount_0f7a4) ∈ UW := inR37 _ (List.mem_of_getElem? (i := 2) rfl)
theorem uw867 : (Cond.methodLink RX10 91 yX10_takesTurn) ∈ UW := inR37 _ (List.mem_of_getElem? (i := 3) rfl)
theorem uw868 : (Cond.instanceMethod yX10_takesTurn) ∈ UW := inR37 _ (List.mem_of_getElem? (i := 4) rfl)
theorem uw869 : (Cond.selects RX10 yX10_takesTurn yX10_takesTurn) ∈ UW := inR37 _ (List.mem_of_getElem? (i := 5) rfl)
theorem uw870 : (Cond.code yX10_takesTurn cX10_takesTurn 7 none) ∈ UW := inR37 _ (List.mem_of_getElem? (i := 6) rfl)
theorem uw871 : (Cond.methodLink RX10 95 arraycopyName) ∈ UW := inR37 _ (List.mem_of_getElem? (i := 7) rfl)
theorem uw872 : (Cond.methodLink RX10 101 yX10_saysOwn) ∈ UW := inR37 _ (List.mem_of_getElem? (i := 8) rfl)
theorem uw873 : (Cond.instanceMethod yX10_saysOwn) ∈ UW := inR37 _ (List.mem_of_getElem? (i := 9) rfl)
theorem uw874 : (Cond.selects RX10 yX10_saysOwn yX10_saysOwn) ∈ UW := inR37 _ (List.mem_of_getElem? (i := 10) rfl)
theorem uw875 : (Cond.code yX10_saysOwn cX10_saysOwn 8 none) ∈ UW := inR37 _ (List.mem_of_getElem? (i := 11) rfl)
theorem uw876 : (Cond.methodLink RX10 105 yX2_can) ∈ UW := inR37 _ (List.mem_of_getElem? (i := 12) rfl)
theorem uw880 : (Cond.code yX12_order cX12_order 3 (some .int)) ∈ UW := inR37 _ (List.mem_of_getElem? (i := 16) rfl)
theorem uw881 : (Cond.fieldLink RX12 320 "NamesInMouthsModel" "mostHome" "I") ∈ UW := inR37 _ (List.mem_of_getElem? (i := 17) rfl)
theorem uw882 : (Cond.methodLink RX12 323 yX12_goOrder) ∈ UW := inR37 _ (List.mem_of_getElem? (i := 18) rfl)
theorem uw883 : (Cond.instanceMethod yX12_goOrder) ∈ UW := inR37 _ (List.mem_of_getElem? (i := 19) rfl)
theorem uw884 : (Cond.selects RX12 yX12_goOrder yX12_goOrder) ∈ UW := inR37 _ (List.mem_of_getElem? (i := 20) rfl)
theorem uw885 : (Cond.code yX12_goOrder cX12_goOrder 6 none) ∈ UW := inR37 _ (List.mem_of_getElem? (i := 21) rfl)
theorem uw889 : (Cond.code yX11_silences cX11_silences 6 (some .int)) ∈ UW := inR38 _ (List.mem_of_getElem? (i := 1) rfl)
theorem uw890 : (Cond.methodLink RX11 264 yX11_homesAfter) ∈ UW := inR38 _ (List.mem_of_getElem? (i := 2) rfl)
theorem uw891 : (Cond.instanceMethod yX11_homesAfter) ∈ UW := inR38 _ (List.mem_of_getElem? (i := 3) rfl)
theorem uw892 : (Cond.selects RX11 yX11_homesAfter yX11_homesAfter) ∈ UW := inR38 _ (List.mem_of_getElem? (i := 4) rfl)
theorem uw893 : (Cond.code yX11_homesAfter cX11_homesAfter 3 (some .int)) ∈ UW := inR38 _ (List.mem_of_getElem? (i := 5) rfl)
theorem uw897 : (Cond.code yX12_silences cX12_silences 6 (some .int)) ∈ UW := inR38 _ (List.mem_of_getElem? (i := 9) rfl)
theorem uw898 : (Cond.methodLink RX12 327 yX12_homeIn) ∈ UW := inR38 _ (List.mem_of_getElem? (i := 10) rfl)
theorem uw899 : (Cond.instanceMethod yX12_homeIn) ∈ UW := inR38 _ (List.mem_of_getElem? (i := 11) rfl)
theorem uw900 : (Cond.selects RX12 yX12_homeIn yX12_homeIn) ∈ UW := inR38 _ (List.mem_of_getElem? (i := 12) rfl)
theorem uw901 : (Cond.code yX12_homeIn cX12_homeIn 3 (some .int)) ∈ UW := inR38 _ (List.mem_of_getElem? (i := 13) rfl)
theorem uw905 : (Cond.code yX11_goes cX11_goes 7 (some .int)) ∈ UW := inR38 _ (List.mem_of_getElem? (i := 17) rfl)
theorem uw906 : (Cond.methodLink RX11 267 Lib.Math.abs.name) ∈ UW := inR38 _ (List.mem_of_getElem? (i := 18) rfl)
theorem uw910 : (Cond.code yX12_goes cX12_goes 6 (some .int)) ∈ UW := inR38 _ (List.mem_of_getElem? (i := 22) rfl)
theorem uw914 : (Cond.code yX11_peace cX11_peace 2 (some .int)) ∈ UW := inR39 _ (List.mem_of_getElem? (i := 2) rfl)
theorem uw918 : (Cond.code yX12_peace cX12_peace 2 (some .int)) ∈ UW := inR39 _ (List.mem_of_getElem? (i := 6) rfl)
theorem uw919 : (Cond.methodLink RX12 304 yX12_all) ∈ UW := inR39 _ (List.mem_of_getElem? (i := 7) rfl)
theorem uw920 : (Cond.instanceMethod yX12_all) ∈ UW := inR39 _ (List.mem_of_getElem? (i := 8) rfl)
theorem uw921 : (Cond.selects RX12 yX12_all yX12_all) ∈ UW := inR39 _ (List.mem_of_getElem? (i := 9) rfl)
theorem uw922 : (Cond.code yX12_all cX12_all 1 (some .int)) ∈ UW := inR39 _ (List.mem_of_getElem? (i := 10) rfl)
theorem uw926 : (Cond.code yX11_wed cX11_wed 4 (some .int)) ∈ UW := inR39 _ (List.mem_of_getElem? (i := 14) rfl)
theorem uw930 : (Cond.code yX12_wed cX12_wed 4 (some .int)) ∈ UW := inR39 _ (List.mem_of_getElem? (i := 18) rfl)
theorem uw934 : (Cond.code yX11_loud cX11_loud 6 (some .int)) ∈ UW := inR39 _ (List.mem_of_getElem? (i := 22) rfl)
theorem uw938 : (Cond.code yX12_loud cX12_loud 5 (some .int)) ∈ UW := inR40 _ (List.mem_of_getElem? (i := 2) rfl)
theorem uw942 : (Cond.code yX11_mouths cX11_mouths 3 (some .int)) ∈ UW := inR40 _ (List.mem_of_getElem? (i := 6) rfl)
theorem uw943 : (Cond.fieldLink RX11 276 "NamesInMouths$Dyke" "row" "[I") ∈ UW := inR40 _ (List.mem_of_getElem? (i := 7) rfl)
theorem uw944 : (Cond.methodLink RX11 272 yX0_sharesMouths) ∈ UW := inR40 _ (List.mem_of_getElem? (i := 8) rfl)
theorem uw945 : (Cond.instanceMethod yX0_sharesMouths) ∈ UW := inR40 _ (List.mem_of_getElem? (i := 9) rfl)
theorem uw946 : (Cond.selects RX0 yX0_sharesMouths yX0_sharesMouths) ∈ UW := inR40 _ (List.mem_of_getElem? (i := 10) rfl)
theorem uw947 : (Cond.code yX0_sharesMouths cX0_sharesMouths 6 (some .int)) ∈ UW := inR40 _ (List.mem_of_getElem? (i := 11) rfl)
theorem uw948 : (Cond.fieldLink RX0 21 "NamesInMouths$Fen" "size" "I") ∈ UW := inR40 _ (List.mem_of_getElem? (i := 12) rfl)
theorem uw949 : (Cond.methodLink RX0 37 Lib.Math.min.name) ∈ UW := inR40 _ (List.mem_of_getElem? (i := 13) rfl)
theorem uw950 : (Cond.methodLink RX0 27 yJ6_bitCount_0f7a4) ∈ UW := inR40 _ (List.mem_of_getElem? (i := 14) rfl)
theorem uw951 : (Cond.methodLink RX0 33 yX0_costs) ∈ UW := inR40 _ (List.mem_of_getElem? (i := 15) rfl)
theorem uw952 : (Cond.instanceMethod yX0_costs) ∈ UW := inR40 _ (List.mem_of_getElem? (i := 16) rfl)
theorem uw953 : (Cond.selects RX0 yX0_costs yX0_costs) ∈ UW := inR40 _ (List.mem_of_getElem? (i := 17) rfl)
theorem uw954 : (Cond.code yX0_costs cX0_costs 6 (some .int)) ∈ UW := inR40 _ (List.mem_of_getElem? (i := 18) rfl)
theorem uw955 : (Cond.methodLink RX0 47 yX2_far) ∈ UW := inR40 _ (List.mem_of_getElem? (i := 19) rfl)
theorem uw956 : (Cond.methodLink RX0 43 yX0_cheapest) ∈ UW := inR40 _ (List.mem_of_getElem? (i := 20) rfl)
theorem uw957 : (Cond.instanceMethod yX0_cheapest) ∈ UW := inR40 _ (List.mem_of_getElem? (i := 21) rfl)
theorem uw958 : (Cond.selects RX0 yX0_cheapest yX0_cheapest) ∈ UW := inR40 _ (List.mem_of_getElem? (i := 22) rfl)
theorem uw959 : (Cond.code yX0_cheapest cX0_cheapest 5 (some .int)) ∈ UW := inR40 _ (List.mem_of_getElem? (i := 23) rfl)
theorem uw963 : (Cond.code yX12_mouths cX12_mouths 5 (some .int)) ∈ UW := inR41 _ (List.mem_of_getElem? (i := 3) rfl)
theorem uw964 : (Cond.constant RX12 330 (1000000)) ∈ UW := inR41 _ (List.mem_of_getElem? (i := 4) rfl)
theorem uw965 : (Cond.methodLink RX12 331 yX12_canMouth) ∈ UW := inR41 _ (List.mem_of_getElem? (i := 5) rfl)
theorem uw966 : (Cond.instanceMethod yX12_canMouth) ∈ UW := inR41 _ (List.mem_of_getElem? (i := 6) rfl)
theorem uw967 : (Cond.selects RX12 yX12_canMouth yX12_canMouth) ∈ UW := inR41 _ (List.mem_of_getElem? (i := 7) rfl)
theorem uw968 : (Cond.code yX12_canMouth cX12_canMouth 4 (some .boolean)) ∈ UW := inR41 _ (List.mem_of_getElem? (i := 8) rfl)
theorem uw972 : (Cond.code yX11_criers cX11_criers 3 (some .int)) ∈ UW := inR41 _ (List.mem_of_getElem? (i := 12) rfl)
theorem uw973 : (Cond.methodLink RX11 279 yX0_fewestCriers) ∈ UW := inR41 _ (List.mem_of_getElem? (i := 13) rfl)
theorem uw974 : (Cond.instanceMethod yX0_fewestCriers) ∈ UW := inR41 _ (List.mem_of_getElem? (i := 14) rfl)
theorem uw975 : (Cond.selects RX0 yX0_fewestCriers yX0_fewestCriers) ∈ UW := inR41 _ (List.mem_of_getElem? (i := 15) rfl)
theorem uw976 : (Cond.code yX0_fewestCriers cX0_fewestCriers 6 (some .int)) ∈ UW := inR41 _ (List.mem_of_getElem? (i := 16) rfl)
theorem uw977 : (Cond.methodLink RX0 50 yX0_hearers) ∈ UW := inR41 _ (List.mem_of_getElem? (i := 17) rfl)
theorem uw978 : (Cond.static yX0_hearers) ∈ UW := inR41 _ (List.mem_of_getElem? (i := 18) rfl)
theorem uw979 : (Cond.code yX0_hearers cX0_hearers 5 (some .int)) ∈ UW := inR41 _ (List.mem_of_getElem? (i := 19) rfl)
theorem uw980 : (Cond.methodLink RX0 53 yX0_heardBy) ∈ UW := inR41 _ (List.mem_of_getElem? (i := 20) rfl)
theorem uw981 : (Cond.instanceMethod yX0_heardBy) ∈ UW := inR41 _ (List.mem_of_getElem? (i := 21) rfl)
theorem uw982 : (Cond.selects RX0 yX0_heardBy yX0_heardBy) ∈ UW := inR41 _ (List.mem_of_getElem? (i := 22) rfl)
theorem uw983 : (Cond.code yX0_heardBy cX0_heardBy 5 (some .int)) ∈ UW := inR41 _ (List.mem_of_getElem? (i := 23) rfl)
theorem uw987 : (Cond.code yX12_criers cX12_criers 8 (some .int)) ∈ UW := inR42 _ (List.mem_of_getElem? (i := 3) rfl)
theorem uw991 : (Cond.code yX11_line cX11_line 2 (some .int)) ∈ UW := inR42 _ (List.mem_of_getElem? (i := 7) rfl)
theorem uw992 : (Cond.methodLink RX11 283 yX0_linesUp) ∈ UW := inR42 _ (List.mem_of_getElem? (i := 8) rfl)
theorem uw993 : (Cond.instanceMethod yX0_linesUp) ∈ UW := inR42 _ (List.mem_of_getElem? (i := 9) rfl)
theorem uw994 : (Cond.selects RX0 yX0_linesUp yX0_linesUp) ∈ UW := inR42 _ (List.mem_of_getElem? (i := 10) rfl)
theorem uw995 : (Cond.code yX0_linesUp cX0_linesUp 5 none) ∈ UW := inR42 _ (List.mem_of_getElem? (i := 11) rfl)
theorem uw996 : (Cond.fieldLink RX0 56 "NamesInMouths$Fen" "place" "[I") ∈ UW := inR42 _ (List.mem_of_getElem? (i := 12) rfl)
theorem uw1000 : (Cond.code yX12_line cX12_line 2 (some .int)) ∈ UW := inR42 _ (List.mem_of_getElem? (i := 16) rfl)
theorem uw1001 : (Cond.methodLink RX12 334 yX12_layDyke) ∈ UW := inR42 _ (List.mem_of_getElem? (i := 17) rfl)
theorem uw1002 : (Cond.instanceMethod yX12_layDyke) ∈ UW := inR42 _ (List.mem_of_getElem? (i := 18) rfl)
theorem uw1003 : (Cond.selects RX12 yX12_layDyke yX12_layDyke) ∈ UW := inR42 _ (List.mem_of_getElem? (i := 19) rfl)
theorem uw1004 : (Cond.code yX12_layDyke cX12_layDyke 3 none) ∈ UW := inR42 _ (List.mem_of_getElem? (i := 20) rfl)
theorem uw1008 : (Cond.code yX11_rich cX11_rich 6 (some .int)) ∈ UW := inR43 _ (List.mem_of_getElem? (i := 0) rfl)
theorem uw1009 : (Cond.fieldLink RX11 289 "NamesInMouths$Dyke" "runs" "[I") ∈ UW := inR43 _ (List.mem_of_getElem? (i := 1) rfl)
theorem uw1010 : (Cond.methodLink RX11 286 yX0_longestFrom) ∈ UW := inR43 _ (List.mem_of_getElem? (i := 2) rfl)
theorem uw1011 : (Cond.instanceMethod yX0_longestFrom) ∈ UW := inR43 _ (List.mem_of_getElem? (i := 3) rfl)
theorem uw1012 : (Cond.selects RX0 yX0_longestFrom yX0_longestFrom) ∈ UW := inR43 _ (List.mem_of_getElem? (i := 4) rfl)
theorem uw1013 : (Cond.code yX0_longestFrom cX0_longestFrom 5 (some .int)) ∈ UW := inR43 _ (List.mem_of_getElem? (i := 5) rfl)
theorem uw1014 : (Cond.fieldLink RX0 59 "NamesInMouths$Fen" "purse" "[I") ∈ UW := inR43 _ (List.mem_of_getElem? (i := 6) rfl)
theorem uw1015 : (Cond.methodLink RX0 62 Lib.Math.max.name) ∈ UW := inR43 _ (List.mem_of_getElem? (i := 7) rfl)
theorem uw1019 : (Cond.code yX12_rich cX12_rich 4 (some .int)) ∈ UW := inR43 _ (List.mem_of_getElem? (i := 11) rfl)
theorem uw1023 : (Cond.code yX11_heard cX11_heard 3 (some .int)) ∈ UW := inR43 _ (List.mem_of_getElem? (i := 15) rfl)
theorem uw1024 : (Cond.fieldLink RX11 296 "NamesInMouths$Ear" "size" "I") ∈ UW := inR43 _ (List.mem_of_getElem? (i := 16) rfl)
theorem uw1025 : (Cond.methodLink RX11 292 yX1_hears) ∈ UW := inR43 _ (List.mem_of_getElem? (i := 17) rfl)
theorem uw1026 : (Cond.instanceMethod yX1_hears) ∈ UW := inR43 _ (List.mem_of_getElem? (i := 18) rfl)
theorem uw1027 : (Cond.selects RX1 yX1_hears yX1_hears) ∈ UW := inR43 _ (List.mem_of_getElem? (i := 19) rfl)
theorem uw1028 : (Cond.code yX1_hears cX1_hears 3 (some .boolean)) ∈ UW := inR43 _ (List.mem_of_getElem? (i := 20) rfl)
theorem uw1029 : (Cond.fieldLink RX1 22 "NamesInMouths$Ear" "size" "I") ∈ UW := inR43 _ (List.mem_of_getElem? (i := 21) rfl)
theorem uw1030 : (Cond.methodLink RX1 18 yX1_values) ∈ UW := inR43 _ (List.mem_of_getElem? (i := 22) rfl)
theorem uw1031 : (Cond.static yX1_values) ∈ UW := inR43 _ (List.mem_of_getElem? (i := 23) rfl)
theorem uw1032 : (Cond.code yX1_values cX1_values 1 (some .int)) ∈ UW := inR44 _ (List.mem_of_getElem? (i := 0) rfl)
theorem uw1036 : (Cond.code yX12_heard cX12_heard 4 (some .int)) ∈ UW := inR44 _ (List.mem_of_getElem? (i := 4) rfl)
theorem uw1037 : (Cond.fieldLink RX12 337 "NamesInMouthsModel" "heardMany" "I") ∈ UW := inR44 _ (List.mem_of_getElem? (i := 5) rfl)
theorem uw1041 : (Cond.code yX11_forget cX11_forget 2 (some .int)) ∈ UW := inR44 _ (List.mem_of_getElem? (i := 9) rfl)
theorem uw1045 : (Cond.code yX12_forget cX12_forget 2 (some .int)) ∈ UW := inR44 _ (List.mem_of_getElem? (i := 13) rfl)
theorem uw1049 : (Cond.code yX11_fits cX11_fits 2 (some .int)) ∈ UW := inR44 _ (List.mem_of_getElem? (i := 17) rfl)
theorem uw1050 : (Cond.methodLink RX11 297 yX1_fitting) ∈ UW := inR44 _ (List.mem_of_getElem? (i := 18) rfl)
theorem uw1051 : (Cond.instanceMethod yX1_fitting) ∈ UW := inR44 _ (List.mem_of_getElem? (i := 19) rfl)
theorem uw1052 : (Cond.selects RX1 yX1_fitting yX1_fitting) ∈ UW := inR44 _ (List.mem_of_getElem? (i := 20) rfl)
theorem uw1053 : (Cond.code yX1_fitting cX1_fitting 7 (some .int)) ∈ UW := inR44 _ (List.mem_of_getElem? (i := 21) rfl)
theorem uw1054 : (Cond.fieldLink RX1 48 "NamesInMouths$Fen" "size" "I") ∈ UW := inR44 _ (List.mem_of_getElem? (i := 22) rfl)
theorem uw1055 : (Cond.methodLink RX1 49 yX1_isSo) ∈ UW := inR44 _ (List.mem_of_getElem? (i := 23) rfl)
theorem uw1056 : (Cond.static yX1_isSo) ∈ UW := inR45 _ (List.mem_of_getElem? (i := 0) rfl)
theorem uw1057 : (Cond.code yX1_isSo cX1_isSo 5 (some .boolean)) ∈ UW := inR45 _ (List.mem_of_getElem? (i := 1) rfl)
theorem uw1058 : (Cond.fieldLink RX1 26 "NamesInMouths$Fen" "holder" "[I") ∈ UW := inR45 _ (List.mem_of_getElem? (i := 2) rfl)
theorem uw1059 : (Cond.fieldLink RX1 31 "NamesInMouths$Fen" "age" "[I") ∈ UW := inR45 _ (List.mem_of_getElem? (i := 3) rfl)
theorem uw1060 : (Cond.fieldLink RX1 34 "NamesInMouths$Fen" "purse" "[I") ∈ UW := inR45 _ (List.mem_of_getElem? (i := 4) rfl)
theorem uw1061 : (Cond.fieldLink RX1 37 "NamesInMouths$Fen" "place" "[I") ∈ UW := inR45 _ (List.mem_of_getElem? (i := 5) rfl)
theorem uw1062 : (Cond.methodLink RX1 40 yX2_has) ∈ UW := inR45 _ (List.mem_of_getElem? (i := 6) rfl)
theorem uw1063 : (Cond.methodLink RX1 44 yX2_can) ∈ UW := inR45 _ (List.mem_of_getElem? (i := 7) rfl)
theorem uw1067 : (Cond.code yX12_fits_ cX12_fits_ 2 (some .int)) ∈ UW := inR45 _ (List.mem_of_getElem? (i := 11) rfl)
theorem uw1068 : (Cond.methodLink RX12 343 yX12_fitting) ∈ UW := inR45 _ (List.mem_of_getElem? (i := 12) rfl)
theorem uw1069 : (Cond.instanceMethod yX12_fitting) ∈ UW := inR45 _ (List.mem_of_getElem? (i := 13) rfl)
theorem uw1070 : (Cond.selects RX12 yX12_fitting yX12_fitting) ∈ UW := inR45 _ (List.mem_of_getElem? (i := 14) rfl)
theorem uw1071 : (Cond.code yX12_fitting cX12_fitting 5 (some .int)) ∈ UW := inR45 _ (List.mem_of_getElem? (i := 15) rfl)
theorem uw1072 : (Cond.methodLink RX12 340 yX12_fits) ∈ UW := inR45 _ (List.mem_of_getElem? (i := 16) rfl)
theorem uw1073 : (Cond.instanceMethod yX12_fits) ∈ UW := inR45 _ (List.mem_of_getElem? (i := 17) rfl)
theorem uw1074 : (Cond.selects RX12 yX12_fits yX12_fits) ∈ UW := inR45 _ (List.mem_of_getElem? (i := 18) rfl)
theorem uw1075 : (Cond.code yX12_fits cX12_fits 4 (some .boolean)) ∈ UW := inR45 _ (List.mem_of_getElem? (i := 19) rfl)
theorem uw1079 : (Cond.code yX11_asks cX11_asks 10 (some .int)) ∈ UW := inR45 _ (List.mem_of_getElem? (i := 23) rfl)
theorem uw1080 : (Cond.fieldLink RX11 300 "NamesInMouths$Ear" "ASKED" "[I") ∈ UW := inR46 _ (List.mem_of_getElem? (i := 0) rfl)
theorem uw1081 : (Cond.methodLink RX11 303 yX1_values) ∈ UW := inR46 _ (List.mem_of_getElem? (i := 1) rfl)
theorem uw1082 : (Cond.methodLink RX11 306 yX1_mostLeft) ∈ UW := inR46 _ (List.mem_of_getElem? (i := 2) rfl)
theorem uw1083 : (Cond.instanceMethod yX1_mostLeft) ∈ UW := inR46 _ (List.mem_of_getElem? (i := 3) rfl)
theorem uw1084 : (Cond.selects RX1 yX1_mostLeft yX1_mostLeft) ∈ UW := inR46 _ (List.mem_of_getElem? (i := 4) rfl)
theorem uw1085 : (Cond.code yX1_mostLeft cX1_mostLeft 8 (some .int)) ∈ UW := inR46 _ (List.mem_of_getElem? (i := 5) rfl)
theorem uw1086 : (Cond.methodLink RX1 58 Lib.Math.max.name) ∈ UW := inR46 _ (List.mem_of_getElem? (i := 6) rfl)
theorem uw1087 : (Cond.methodLink RX1 53 yJ6_bitCount_0f7a4) ∈ UW := inR46 _ (List.mem_of_getElem? (i := 7) rfl)
theorem uw1091 : (Cond.code yX12_asks cX12_asks 7 (some .int)) ∈ UW := inR46 _ (List.mem_of_getElem? (i := 11) rfl)
theorem uw1095 : (Cond.code yX11_saw cX11_saw 4 (some .int)) ∈ UW := inR46 _ (List.mem_of_getElem? (i := 15) rfl)
theorem uw1096 : (Cond.fieldLink RX11 314 "NamesInMouths$Seen" "size" "I") ∈ UW := inR46 _ (List.mem_of_getElem? (i := 16) rfl)
theorem uw1097 : (Cond.methodLink RX11 310 yX7_sees) ∈ UW := inR46 _ (List.mem_of_getElem? (i := 17) rfl)
theorem uw1098 : (Cond.instanceMethod yX7_sees) ∈ UW := inR46 _ (List.mem_of_getElem? (i := 18) rfl)
theorem uw1099 : (Cond.selects RX7 yX7_sees yX7_sees) ∈ UW := inR46 _ (List.mem_of_getElem? (i := 19) rfl)
theorem uw1100 : (Cond.code yX7_sees cX7_sees 4 (some .boolean)) ∈ UW := inR46 _ (List.mem_of_getElem? (i := 20) rfl)
theorem uw1101 : (Cond.fieldLink RX7 25 "NamesInMouths$Seen" "size" "I") ∈ UW := inR46 _ (List.mem_of_getElem? (i := 21) rfl)
theorem uw1105 : (Cond.code yX12_saw cX12_saw 4 (some .int)) ∈ UW := inR47 _ (List.mem_of_getElem? (i := 1) rfl)
theorem uw1106 : (Cond.fieldLink RX12 346 "NamesInMouthsModel" "sawMany" "I") ∈ UW := inR47 _ (List.mem_of_getElem? (i := 2) rfl)
theorem uw1110 : (Cond.code yX11_denies cX11_denies 2 (some .int)) ∈ UW := inR47 _ (List.mem_of_getElem? (i := 6) rfl)
theorem uw1114 : (Cond.code yX12_denies cX12_denies 2 (some .int)) ∈ UW := inR47 _ (List.mem_of_getElem? (i := 10) rfl)
theorem uw1118 : (Cond.code yX11_laws cX11_laws 3 (some .int)) ∈ UW := inR47 _ (List.mem_of_getElem? (i := 14) rfl)
theorem uw1119 : (Cond.fieldLink RX11 321 "NamesInMouths$Seen" "low" "[I") ∈ UW := inR47 _ (List.mem_of_getElem? (i := 15) rfl)
theorem uw1120 : (Cond.methodLink RX11 315 yX7_fitLaws) ∈ UW := inR47 _ (List.mem_of_getElem? (i := 16) rfl)
theorem uw1121 : (Cond.instanceMethod yX7_fitLaws) ∈ UW := inR47 _ (List.mem_of_getElem? (i := 17) rfl)
theorem uw1122 : (Cond.selects RX7 yX7_fitLaws yX7_fitLaws) ∈ UW := inR47 _ (List.mem_of_getElem? (i := 18) rfl)
theorem uw1123 : (Cond.code yX7_fitLaws cX7_fitLaws 5 (some .int)) ∈ UW := inR47 _ (List.mem_of_getElem? (i := 19) rfl)
theorem uw1124 : (Cond.methodLink RX7 33 Lib.Math.min.name) ∈ UW := inR47 _ (List.mem_of_getElem? (i := 20) rfl)
theorem uw1125 : (Cond.methodLink RX7 39 Lib.Math.max.name) ∈ UW := inR47 _ (List.mem_of_getElem? (i := 21) rfl)
theorem uw1126 : (Cond.methodLink RX7 29 yX7_reach) ∈ UW := inR47 _ (List.mem_of_getElem? (i := 22) rfl)
theorem uw1127 : (Cond.static yX7_reach) ∈ UW := inR47 _ (List.mem_of_getElem? (i := 23) rfl)
theorem uw1128 : (Cond.code yX7_reach cX7_reach 3 (some .int)) ∈ UW := inR48 _ (List.mem_of_getElem? (i := 0) rfl)
theorem uw1129 : (Cond.methodLink RX11 318 yX7_leastPair) ∈ UW := inR48 _ (List.mem_of_getElem? (i := 1) rfl)
theorem uw1130 : (Cond.instanceMethod yX7_leastPair) ∈ UW := inR48 _ (List.mem_of_getElem? (i := 2) rfl)
theorem uw1131 : (Cond.selects RX7 yX7_leastPair yX7_leastPair) ∈ UW := inR48 _ (List.mem_of_getElem? (i := 3) rfl)
theorem uw1132 : (Cond.code yX7_leastPair cX7_leastPair 2 (some .int)) ∈ UW := inR48 _ (List.mem_of_getElem? (i := 4) rfl)
theorem uw1136 : (Cond.code yX12_laws cX12_laws 3 (some .int)) ∈ UW := inR48 _ (List.mem_of_getElem? (i := 8) rfl)
theorem uw1137 : (Cond.methodLink RX12 353 yX12_isLaw) ∈ UW := inR48 _ (List.mem_of_getElem? (i := 9) rfl)
theorem uw1138 : (Cond.instanceMethod yX12_isLaw) ∈ UW := inR48 _ (List.mem_of_getElem? (i := 10) rfl)
theorem uw1139 : (Cond.selects RX12 yX12_isLaw yX12_isLaw) ∈ UW := inR48 _ (List.mem_of_getElem? (i := 11) rfl)
theorem uw1140 : (Cond.code yX12_isLaw cX12_isLaw 3 (some .boolean)) ∈ UW := inR48 _ (List.mem_of_getElem? (i := 12) rfl)
theorem uw1141 : (Cond.methodLink RX12 349 yX12_says_) ∈ UW := inR48 _ (List.mem_of_getElem? (i := 13) rfl)
theorem uw1142 : (Cond.static yX12_says_) ∈ UW := inR48 _ (List.mem_of_getElem? (i := 14) rfl)
theorem uw1143 : (Cond.code yX12_says_ cX12_says_ 4 (some .int)) ∈ UW := inR48 _ (List.mem_of_getElem? (i := 15) rfl)
theorem uw1147 : (Cond.code yX11_tries cX11_tries 8 (some .int)) ∈ UW := inR48 _ (List.mem_of_getElem? (i := 19) rfl)
theorem uw1148 : (Cond.methodLink RX11 324 yX7_lawsThatHear) ∈ UW := inR48 _ (List.mem_of_getElem? (i := 20) rfl)
theorem uw1149 : (Cond.instanceMethod yX7_lawsThatHear) ∈ UW := inR48 _ (List.mem_of_getElem? (i := 21) rfl)
theorem uw1150 : (Cond.selects RX7 yX7_lawsThatHear yX7_lawsThatHear) ∈ UW := inR48 _ (List.mem_of_getElem? (i := 22) rfl)
theorem uw1151 : (Cond.code yX7_lawsThatHear cX7_lawsThatHear 6 (some .int)) ∈ UW := inR48 _ (List.mem_of_getElem? (i := 23) rfl)
theorem uw1155 : (Cond.code yX12_tries cX12_tries 7 (some .int)) ∈ UW := inR49 _ (List.mem_of_getElem? (i := 3) rfl)
theorem uw1159 : (Cond.code yX11_walks cX11_walks 11 (some .int)) ∈ UW := inR49 _ (List.mem_of_getElem? (i := 7) rfl)
theorem uw1160 : (Cond.constantLong RX11 334 (10)) ∈ UW := inR49 _ (List.mem_of_getElem? (i := 8) rfl)
theorem uw1161 : (Cond.methodLink RX11 330 yX4_walked) ∈ UW := inR49 _ (List.mem_of_getElem? (i := 9) rfl)
theorem uw1162 : (Cond.instanceMethod yX4_walked) ∈ UW := inR49 _ (List.mem_of_getElem? (i := 10) rfl)
theorem uw1163 : (Cond.selects RX4 yX4_walked yX4_walked) ∈ UW := inR49 _ (List.mem_of_getElem? (i := 11) rfl)
theorem uw1164 : (Cond.code yX4_walked cX4_walked 7 (some .long)) ∈ UW := inR49 _ (List.mem_of_getElem? (i := 12) rfl)
theorem uw1165 : (Cond.methodLink RX4 25 Lib.Math.min.name) ∈ UW := inR49 _ (List.mem_of_getElem? (i := 13) rfl)
theorem uw1166 : (Cond.methodLink RX4 31 Lib.Math.max.name) ∈ UW := inR49 _ (List.mem_of_getElem? (i := 14) rfl)
theorem uw1167 : (Cond.methodLink RX4 34 arraycopyName) ∈ UW := inR49 _ (List.mem_of_getElem? (i := 15) rfl)
theorem uw1168 : (Cond.methodLink RX11 336 yX11_greatestCommon) ∈ UW := inR49 _ (List.mem_of_getElem? (i := 16) rfl)
theorem uw1169 : (Cond.static yX11_greatestCommon) ∈ UW := inR49 _ (List.mem_of_getElem? (i := 17) rfl)
theorem uw1170 : (Cond.code yX11_greatestCommon cX11_greatestCommon 11 (some .long)) ∈ UW := inR49 _ (List.mem_of_getElem? (i := 18) rfl)
theorem uw1174 : (Cond.code yX12_walks cX12_walks 9 (some .int)) ∈ UW := inR49 _ (List.mem_of_getElem? (i := 22) rfl)
theorem uw1175 : (Cond.constantLong RX12 360 (10)) ∈ UW := inR49 _ (List.mem_of_getElem? (i := 23) rfl)
theorem uw1176 : (Cond.methodLink RX12 356 yX12_common) ∈ UW := inR50 _ (List.mem_of_getElem? (i := 0) rfl)
theorem uw1177 : (Cond.static yX12_common) ∈ UW := inR50 _ (List.mem_of_getElem? (i := 1) rfl)
theorem uw1178 : (Cond.code yX12_common cX12_common 4 (some .long)) ∈ UW := inR50 _ (List.mem_of_getElem? (i := 2) rfl)
theorem uw1182 : (Cond.code yX11_hush cX11_hush 5 (some .int)) ∈ UW := inR50 _ (List.mem_of_getElem? (i := 6) rfl)
theorem uw1183 : (Cond.methodLink RX11 340 yX4_readiesHush) ∈ UW := inR50 _ (List.mem_of_getElem? (i := 7) rfl)
theorem uw1184 : (Cond.instanceMethod yX4_readiesHush) ∈ UW := inR50 _ (List.mem_of_getElem? (i := 8) rfl)
theorem uw1185 : (Cond.selects RX4 yX4_readiesHush yX4_readiesHush) ∈ UW := inR50 _ (List.mem_of_getElem? (i := 9) rfl)
theorem uw1186 : (Cond.code yX4_readiesHush cX4_readiesHush 4 none) ∈ UW := inR50 _ (List.mem_of_getElem? (i := 10) rfl)
theorem uw1187 : (Cond.fieldLink RX4 40 "NamesInMouths$Plays" "hushReady" "Z") ∈ UW := inR50 _ (List.mem_of_getElem? (i := 11) rfl)
theorem uw1188 : (Cond.methodLink RX4 44 yX4_winningTake) ∈ UW := inR50 _ (List.mem_of_getElem? (i := 12) rfl)
theorem uw1189 : (Cond.instanceMethod yX4_winningTake) ∈ UW := inR50 _ (List.mem_of_getElem? (i := 13) rfl)
theorem uw1190 : (Cond.selects RX4 yX4_winningTake yX4_winningTake) ∈ UW := inR50 _ (List.mem_of_getElem? (i := 14) rfl)
theorem uw1191 : (Cond.code yX4_winningTake cX4_winningTake 5 (some .int)) ∈ UW := inR50 _ (List.mem_of_getElem? (i := 15) rfl)
theorem uw1192 : (Cond.methodLink RX4 47 yX4_wins) ∈ UW := inR50 _ (List.mem_of_getElem? (i := 16) rfl)
theorem uw1193 : (Cond.instanceMethod yX4_wins) ∈ UW := inR50 _ (List.mem_of_getElem? (i := 17) rfl)
theorem uw1194 : (Cond.selects RX4 yX4_wins yX4_wins) ∈ UW := inR50 _ (List.mem_of_getElem? (i := 18) rfl)
theorem uw1195 : (Cond.code yX4_wins cX4_wins 3 (some .boolean)) ∈ UW := inR50 _ (List.mem_of_getElem? (i := 19) rfl)
theorem uw1196 : (Cond.methodLink RX11 343 yX4_winningTake) ∈ UW := inR50 _ (List.mem_of_getElem? (i := 20) rfl)
theorem uw1197 : (Cond.methodLink RX11 346 yX4_wins) ∈ UW := inR50 _ (List.mem_of_getElem? (i := 21) rfl)
theorem uw1201 : (Cond.code yX12_hush cX12_hush 5 (some .int)) ∈ UW := inR51 _ (List.mem_of_getElem? (i := 1) rfl)
theorem uw1202 : (Cond.methodLink RX12 362 yX12_moveOf) ∈ UW := inR51 _ (List.mem_of_getElem? (i := 2) rfl)
theorem uw1203 : (Cond.instanceMethod yX12_moveOf) ∈ UW := inR51 _ (List.mem_of_getElem? (i := 3) rfl)
theorem uw1204 : (Cond.selects RX12 yX12_moveOf yX12_moveOf) ∈ UW := inR51 _ (List.mem_of_getElem? (i := 4) rfl)
theorem uw1205 : (Cond.code yX12_moveOf cX12_moveOf 5 (some .int)) ∈ UW := inR51 _ (List.mem_of_getElem? (i := 5) rfl)
theorem uw1209 : (Cond.code yX11_rests cX11_rests 5 (some .int)) ∈ UW := inR51 _ (List.mem_of_getElem? (i := 9) rfl)
theorem uw1210 : (Cond.methodLink RX11 349 yX4_readiesRests) ∈ UW := inR51 _ (List.mem_of_getElem? (i := 10) rfl)
theorem uw1211 : (Cond.instanceMethod yX4_readiesRests) ∈ UW := inR51 _ (List.mem_of_getElem? (i := 11) rfl)
theorem uw1212 : (Cond.selects RX4 yX4_readiesRests yX4_readiesRests) ∈ UW := inR51 _ (List.mem_of_getElem? (i := 12) rfl)
theorem uw1213 : (Cond.code yX4_readiesRests cX4_readiesRests 4 none) ∈ UW := inR51 _ (List.mem_of_getElem? (i := 13) rfl)
theorem uw1214 : (Cond.methodLink RX4 51 yX4_gain) ∈ UW := inR51 _ (List.mem_of_getElem? (i := 14) rfl)
theorem uw1215 : (Cond.static yX4_gain) ∈ UW := inR51 _ (List.mem_of_getElem? (i := 15) rfl)
theorem uw1216 : (Cond.code yX4_gain cX4_gain 4 (some .int)) ∈ UW := inR51 _ (List.mem_of_getElem? (i := 16) rfl)
theorem uw1217 : (Cond.methodLink RX11 353 yX4_isRest) ∈ UW := inR51 _ (List.mem_of_getElem? (i := 17) rfl)
theorem uw1218 : (Cond.instanceMethod yX4_isRest) ∈ UW := inR51 _ (List.mem_of_getElem? (i := 18) rfl)
theorem uw1219 : (Cond.selects RX4 yX4_isRest yX4_isRest) ∈ UW := inR51 _ (List.mem_of_getElem? (i := 19) rfl)
theorem uw1220 : (Cond.code yX4_isRest cX4_isRest 4 (some .boolean)) ∈ UW := inR51 _ (List.mem_of_getElem? (i := 20) rfl)
theorem uw1224 : (Cond.code yX12_rests cX12_rests 5 (some .int)) ∈ UW := inR52 _ (List.mem_of_getElem? (i := 0) rfl)
theorem uw1225 : (Cond.methodLink RX12 369 yX12_isBest) ∈ UW := inR52 _ (List.mem_of_getElem? (i := 1) rfl)
theorem uw1226 : (Cond.static yX12_isBest) ∈ UW := inR52 _ (List.mem_of_getElem? (i := 2) rfl)
theorem uw1227 : (Cond.code yX12_isBest cX12_isBest 4 (some .boolean)) ∈ UW := inR52 _ (List.mem_of_getElem? (i := 3) rfl)
theorem uw1228 : (Cond.methodLink RX12 365 yX12_gets) ∈ UW := inR52 _ (List.mem_of_getElem? (i := 4) rfl)
theorem uw1229 : (Cond.static yX12_gets) ∈ UW := inR52 _ (List.mem_of_getElem? (i := 5) rfl)
theorem uw1230 : (Cond.code yX12_gets cX12_gets 3 (some .int)) ∈ UW := inR52 _ (List.mem_of_getElem? (i := 6) rfl)
theorem uw1234 : (Cond.code yX11_law cX11_law 5 (some .int)) ∈ UW := inR52 _ (List.mem_of_getElem? (i := 10) rfl)
theorem uw1235 : (Cond.methodLink RX11 356 yX2_pairs) ∈ UW := inR52 _ (List.mem_of_getElem? (i := 11) rfl)
theorem uw1236 : (Cond.instanceMethod yX2_pairs) ∈ UW := inR52 _ (List.mem_of_getElem? (i := 12) rfl)
theorem uw1237 : (Cond.selects RX2 yX2_pairs yX2_pairs) ∈ UW := inR52 _ (List.mem_of_getElem? (i := 13) rfl)
theorem uw1238 : (Cond.code yX2_pairs cX2_pairs 4 (some .int)) ∈ UW := inR52 _ (List.mem_of_getElem? (i := 14) rfl)
theorem uw1239 : (Cond.methodLink RX2 59 yX2_sayable) ∈ UW := inR52 _ (List.mem_of_getElem? (i := 15) rfl)
theorem uw1240 : (Cond.methodLink RX2 63 yJ6_bitCount_0f7a4) ∈ UW := inR52 _ (List.mem_of_getElem? (i := 16) rfl)
theorem uw1244 : (Cond.code yX12_law cX12_law 7 (some .int)) ∈ UW := inR52 _ (List.mem_of_getElem? (i := 20) rfl)
theorem uw1245 : (Cond.methodLink RX12 372 yX12_pairs) ∈ UW := inR52 _ (List.mem_of_getElem? (i := 21) rfl)
theorem uw1246 : (Cond.instanceMethod yX12_pairs) ∈ UW := inR52 _ (List.mem_of_getElem? (i := 22) rfl)
theorem uw1247 : (Cond.selects RX12 yX12_pairs yX12_pairs) ∈ UW := inR52 _ (List.mem_of_getElem? (i := 23) rfl)
theorem uw1248 : (Cond.code yX12_pairs cX12_pairs 3 (some .int)) ∈ UW := inR53 _ (List.mem_of_getElem? (i := 0) rfl)
theorem uw1252 : (Cond.code yX11_years cX11_years 4 (some .int)) ∈ UW := inR53 _ (List.mem_of_getElem? (i := 4) rfl)
theorem uw1253 : (Cond.fieldLink RX11 360 "NamesInMouths$Plays" "lot" "I") ∈ UW := inR53 _ (List.mem_of_getElem? (i := 5) rfl)
theorem uw1254 : (Cond.methodLink RX11 363 yX4_draw) ∈ UW := inR53 _ (List.mem_of_getElem? (i := 6) rfl)
theorem uw1255 : (Cond.instanceMethod yX4_draw) ∈ UW := inR53 _ (List.mem_of_getElem? (i := 7) rfl)
theorem uw1256 : (Cond.selects RX4 yX4_draw yX4_draw) ∈ UW := inR53 _ (List.mem_of_getElem? (i := 8) rfl)
theorem uw1257 : (Cond.code yX4_draw cX4_draw 2 (some .int)) ∈ UW := inR53 _ (List.mem_of_getElem? (i := 9) rfl)
theorem uw1258 : (Cond.fieldLink RX4 55 "NamesInMouths$Plays" "lot" "I") ∈ UW := inR53 _ (List.mem_of_getElem? (i := 10) rfl)
theorem uw1259 : (Cond.constant RX4 59 (1103515245)) ∈ UW := inR53 _ (List.mem_of_getElem? (i := 11) rfl)
theorem uw1260 : (Cond.methodLink RX11 366 yX11_triesDrawn) ∈ UW := inR53 _ (List.mem_of_getElem? (i := 12) rfl)
theorem uw1261 : (Cond.instanceMethod yX11_triesDrawn) ∈ UW := inR53 _ (List.mem_of_getElem? (i := 13) rfl)
theorem uw1262 : (Cond.selects RX11 yX11_triesDrawn yX11_triesDrawn) ∈ UW := inR53 _ (List.mem_of_getElem? (i := 14) rfl)
theorem uw1263 : (Cond.code yX11_triesDrawn cX11_triesDrawn 3 none) ∈ UW := inR53 _ (List.mem_of_getElem? (i := 15) rfl)
theorem uw1267 : (Cond.code yX12_years cX12_years 7 (some .int)) ∈ UW := inR53 _ (List.mem_of_getElem? (i := 19) rfl)
theorem uw1268 : (Cond.fieldLink RX12 375 "NamesInMouthsModel" "drawn" "I") ∈ UW := inR53 _ (List.mem_of_getElem? (i := 20) rfl)
theorem uw1269 : (Cond.methodLink RX12 379 yX12_draw) ∈ UW := inR53 _ (List.mem_of_getElem? (i := 21) rfl)
theorem uw1270 : (Cond.instanceMethod yX12_draw) ∈ UW := inR53 _ (List.mem_of_getElem? (i := 22) rfl)
theorem uw1271 : (Cond.selects RX12 yX12_draw yX12_draw) ∈ UW := inR53 _ (List.mem_of_getElem? (i := 23) rfl)
theorem uw1272 : (Cond.code yX12_draw cX12_draw 2 (some .int)) ∈ UW := inR54 _ (List.mem_of_getElem? (i := 0) rfl)
theorem uw1273 : (Cond.constant RX12 378 (1103515245)) ∈ UW := inR54 _ (List.mem_of_getElem? (i := 1) rfl)
theorem uw1277 : (Cond.code yX11_keep cX11_keep 2 (some .boolean)) ∈ UW := inR54 _ (List.mem_of_getElem? (i := 5) rfl)
theorem uw1278 : (Cond.methodLink RX11 369 yX3_shelves) ∈ UW := inR54 _ (List.mem_of_getElem? (i := 6) rfl)
theorem uw1279 : (Cond.instanceMethod yX3_shelves) ∈ UW := inR54 _ (List.mem_of_getElem? (i := 7) rfl)
theorem uw1280 : (Cond.selects RX3 yX3_shelves yX3_shelves) ∈ UW := inR54 _ (List.mem_of_getElem? (i := 8) rfl)
theorem uw1281 : (Cond.code yX3_shelves cX3_shelves 3 (some .boolean)) ∈ UW := inR54 _ (List.mem_of_getElem? (i := 9) rfl)
theorem uw1285 : (Cond.code yX12_keep cX12_keep 2 (some .boolean)) ∈ UW := inR54 _ (List.mem_of_getElem? (i := 13) rfl)
theorem uw1289 : (Cond.code yX11_again cX11_again 2 (some .boolean)) ∈ UW := inR54 _ (List.mem_of_getElem? (i := 17) rfl)
theorem uw1290 : (Cond.methodLink RX11 373 yX3_unshelves) ∈ UW := inR54 _ (List.mem_of_getElem? (i := 18) rfl)
theorem uw1291 : (Cond.instanceMethod yX3_unshelves) ∈ UW := inR54 _ (List.mem_of_getElem? (i := 19) rfl)
theorem uw1292 : (Cond.selects RX3 yX3_unshelves yX3_unshelves) ∈ UW := inR54 _ (List.mem_of_getElem? (i := 20) rfl)
theorem uw1293 : (Cond.code yX3_unshelves cX3_unshelves 3 (some .boolean)) ∈ UW := inR54 _ (List.mem_of_getElem? (i := 21) rfl)
theorem uw1297 : (Cond.code yX12_again cX12_again 3 (some .boolean)) ∈ UW := inR55 _ (List.mem_of_getElem? (i := 1) rfl)
theorem uw1301 : (Cond.code yX11_count cX11_count 2 (some .int)) ∈ UW := inR55 _ (List.mem_of_getElem? (i := 5) rfl)
theorem uw1302 : (Cond.fieldLink RX11 376 "NamesInMouths$Fen" "day" "I") ∈ UW := inR55 _ (List.mem_of_getElem? (i := 6) rfl)
theorem uw1303 : (Cond.fieldLink RX11 383 "NamesInMouths$Told" "size" "I") ∈ UW := inR55 _ (List.mem_of_getElem? (i := 7) rfl)
theorem uw1304 : (Cond.methodLink RX11 379 yX2_sum) ∈ UW := inR55 _ (List.mem_of_getElem? (i := 8) rfl)
theorem uw1308 : (Cond.code yX12_count cX12_count 2 (some .int)) ∈ UW := inR55 _ (List.mem_of_getElem? (i := 12) rfl)
theorem uw1309 : (Cond.methodLink RX12 382 yX12_voices) ∈ UW := inR55 _ (List.mem_of_getElem? (i := 13) rfl)
theorem uw1310 : (Cond.instanceMethod yX12_voices) ∈ UW := inR55 _ (List.mem_of_getElem? (i := 14) rfl)
theorem uw1311 : (Cond.selects RX12 yX12_voices yX12_voices) ∈ UW := inR55 _ (List.mem_of_getElem? (i := 15) rfl)
theorem uw1312 : (Cond.code yX12_voices cX12_voices 3 (some .int)) ∈ UW := inR55 _ (List.mem_of_getElem? (i := 16) rfl)
theorem uw1319 : (Cond.code yX11_row cX11_row 2 (some .long)) ∈ UW := inR55 _ (List.mem_of_getElem? (i := 23) rfl)
theorem uw1320 : (Cond.fieldLink RX11 384 "NamesInMouths$Told" "numbers" "[J") ∈ UW := inR56 _ (List.mem_of_getElem? (i := 0) rfl)
theorem uw1324 : (Cond.code yX12_row cX12_row 2 (some .long)) ∈ UW := inR56 _ (List.mem_of_getElem? (i := 4) rfl)
def M_X5_becomesNone : Mt := (RX5, yX5_becomesNone, Cond.code yX5_becomesNone cX5_becomesNone 1 none :: UW, cX5_becomesNone, 1, none)
theorem mk_X5_becomesNone : MOK M_X5_becomesNone := ⟨by decide +kernel, rfl, rfl, uw129, by decide⟩
def M_X5_puts : Mt := (RX5, yX5_puts, Cond.code yX5_puts cX5_puts 2 none :: UW, cX5_puts, 2, none)
theorem mk_X5_puts : MOK M_X5_puts := ⟨by decide +kernel, rfl, rfl, uw134, by decide⟩
def M_X11_sign : Mt := (RX11, yX11_sign, Cond.code yX11_sign cX11_sign 2 (some .int) :: UW, cX11_sign, 2, (some .int))
theorem mk_X11_sign : MOK M_X11_sign := ⟨by decide +kernel, rfl, rfl, uw174, by decide⟩
def M_X8_adds : Mt := (RX8, yX8_adds, Cond.code yX8_adds cX8_adds 3 (some .boolean) :: UW, cX8_adds, 3, (some .boolean))
theorem mk_X8_adds : MOK M_X8_adds := ⟨by decide +kernel, rfl, rfl, uw179, by decide⟩
def M_X12_sign : Mt := (RX12, yX12_sign, Cond.code yX12_sign cX12_sign 3 (some .int) :: UW, cX12_sign, 3, (some .int))
theorem mk_X12_sign : MOK M_X12_sign := ⟨by decide +kernel, rfl, rfl, uw184, by decide⟩
def M_X11_end : Mt := (RX11, yX11_end, Cond.code yX11_end cX11_end 2 (some .boolean) :: UW, cX11_end, 2, (some .boolean))
theorem mk_X11_end : MOK M_X11_end := ⟨by decide +kernel, rfl, rfl, uw190, by decide⟩
def M_X8_cuts : Mt := (RX8, yX8_cuts, Cond.code yX8_cuts cX8_cuts 2 (some .boolean) :: UW, cX8_cuts, 2, (some .boolean))
theorem mk_X8_cuts : MOK M_X8_cuts := ⟨by decide +kernel, rfl, rfl, uw194, by decide⟩
def M_X12_end : Mt := (RX12, yX12_end, Cond.code yX12_end cX12_end 2 (some .boolean) :: UW, cX12_end, 2, (some .boolean))
theorem mk_X12_end : MOK M_X12_end := ⟨by decide +kernel, rfl, rfl, uw198, by decide⟩
def M_X12_in : Mt := (RX12, yX12_in, Cond.code yX12_in cX12_in 3 (some .boolean) :: UW, cX12_in, 3, (some .boolean))
theorem mk_X12_in : MOK M_X12_in := ⟨by decide +kernel, rfl, rfl, uw201, by decide⟩
def M_X11_people : Mt := (RX11, yX11_people, Cond.code yX11_people cX11_people 3 (some .int) :: UW, cX11_people, 3, (some .int))
theorem mk_X11_people : MOK M_X11_people := ⟨by decide +kernel, rfl, rfl, uw205, by decide⟩
def M_X11_peopleWrongAt : Mt := (RX11, yX11_peopleWrongAt, Cond.code yX11_peopleWrongAt cX11_peopleWrongAt 3 (some .int) :: UW, cX11_peopleWrongAt, 3, (some .int))
theorem mk_X11_peopleWrongAt : MOK M_X11_peopleWrongAt := ⟨by decide +kernel, rfl, rfl, uw209, by decide⟩
def M_X11_standsInLine : Mt := (RX11, yX11_standsInLine, Cond.code yX11_standsInLine cX11_standsInLine 4 (some .boolean) :: UW, cX11_standsInLine, 4, (some .boolean))
theorem mk_X11_standsInLine : MOK M_X11_standsInLine := ⟨by decide +kernel, rfl, rfl, uw217, by decide⟩
def M_X8_at : Mt := (RX8, yX8_at, Cond.code yX8_at cX8_at 2 (some .int) :: UW, cX8_at, 2, (some .int))
theorem mk_X8_at : MOK M_X8_at := ⟨by decide +kernel, rfl, rfl, uw222, by decide⟩
def M_X8_isDigit : Mt := (RX8, yX8_isDigit, Cond.code yX8_isDigit cX8_isDigit 3 (some .boolean) :: UW, cX8_isDigit, 3, (some .boolean))
theorem mk_X8_isDigit : MOK M_X8_isDigit := ⟨by decide +kernel, rfl, rfl, uw226, by decide⟩
def M_X11_takePeople : Mt := (RX11, yX11_takePeople, Cond.code yX11_takePeople cX11_takePeople 3 (some .int) :: UW, cX11_takePeople, 3, (some .int))
theorem mk_X11_takePeople : MOK M_X11_takePeople := ⟨by decide +kernel, rfl, rfl, uw231, by decide⟩
def M_X8_digit : Mt := (RX8, yX8_digit, Cond.code yX8_digit cX8_digit 2 (some .int) :: UW, cX8_digit, 2, (some .int))
theorem mk_X8_digit : MOK M_X8_digit := ⟨by decide +kernel, rfl, rfl, uw235, by decide⟩
def M_X8_twoDigits : Mt := (RX8, yX8_twoDigits, Cond.code yX8_twoDigits cX8_twoDigits 2 (some .int) :: UW, cX8_twoDigits, 2, (some .int))
theorem mk_X8_twoDigits : MOK M_X8_twoDigits := ⟨by decide +kernel, rfl, rfl, uw240, by decide⟩
def M_X2_adds : Mt := (RX2, yX2_adds, Cond.code yX2_adds cX2_adds 4 none :: UW, cX2_adds, 4, none)
theorem mk_X2_adds : MOK M_X2_adds := ⟨by decide +kernel, rfl, rfl, uw245, by decide⟩
def M_X3_forgetsAll : Mt := (RX3, yX3_forgetsAll, Cond.code yX3_forgetsAll cX3_forgetsAll 1 none :: UW, cX3_forgetsAll, 1, none)
theorem mk_X3_forgetsAll : MOK M_X3_forgetsAll := ⟨by decide +kernel, rfl, rfl, uw250, by decide⟩
def M_X12_people : Mt := (RX12, yX12_people, Cond.code yX12_people cX12_people 4 (some .int) :: UW, cX12_people, 4, (some .int))
theorem mk_X12_people : MOK M_X12_people := ⟨by decide +kernel, rfl, rfl, uw256, by decide⟩
def M_X12_beginText : Mt := (RX12, yX12_beginText, Cond.code yX12_beginText cX12_beginText 2 none :: UW, cX12_beginText, 2, none)
theorem mk_X12_beginText : MOK M_X12_beginText := ⟨by decide +kernel, rfl, rfl, uw266, by decide⟩
def M_X12_begin : Mt := (RX12, yX12_begin, Cond.code yX12_begin cX12_begin 4 none :: UW, cX12_begin, 4, none)
theorem mk_X12_begin : MOK M_X12_begin := ⟨by decide +kernel, rfl, rfl, uw270, by decide⟩
def M_X12_fine : Mt := (RX12, yX12_fine, Cond.code yX12_fine cX12_fine 1 (some .boolean) :: UW, cX12_fine, 1, (some .boolean))
theorem mk_X12_fine : MOK M_X12_fine := ⟨by decide +kernel, rfl, rfl, uw276, by decide⟩
def M_X12_fault : Mt := (RX12, yX12_fault, Cond.code yX12_fault cX12_fault 2 none :: UW, cX12_fault, 2, none)
theorem mk_X12_fault : MOK M_X12_fault := ⟨by decide +kernel, rfl, rfl, uw280, by decide⟩
def M_X12_oneOf : Mt := (RX12, yX12_oneOf, Cond.code yX12_oneOf cX12_oneOf 3 (some .int) :: UW, cX12_oneOf, 3, (some .int))
theorem mk_X12_oneOf : MOK M_X12_oneOf := ⟨by decide +kernel, rfl, rfl, uw284, by decide⟩
def M_X12_here : Mt := (RX12, yX12_here, Cond.code yX12_here cX12_here 1 (some .int) :: UW, cX12_here, 1, (some .int))
theorem mk_X12_here : MOK M_X12_here := ⟨by decide +kernel, rfl, rfl, uw288, by decide⟩
def M_X12_passes : Mt := (RX12, yX12_passes, Cond.code yX12_passes cX12_passes 2 (some .boolean) :: UW, cX12_passes, 2, (some .boolean))
theorem mk_X12_passes : MOK M_X12_passes := ⟨by decide +kernel, rfl, rfl, uw292, by decide⟩
def M_X12_wasRight : Mt := (RX12, yX12_wasRight, Cond.code yX12_wasRight cX12_wasRight 1 (some .boolean) :: UW, cX12_wasRight, 1, (some .boolean))
theorem mk_X12_wasRight : MOK M_X12_wasRight := ⟨by decide +kernel, rfl, rfl, uw296, by decide⟩
def M_X11_rule : Mt := (RX11, yX11_rule, Cond.code yX11_rule cX11_rule 3 (some .int) :: UW, cX11_rule, 3, (some .int))
theorem mk_X11_rule : MOK M_X11_rule := ⟨by decide +kernel, rfl, rfl, uw300, by decide⟩
def M_X6_reads : Mt := (RX6, yX6_reads, Cond.code yX6_reads cX6_reads 4 (some .int) :: UW, cX6_reads, 4, (some .int))
theorem mk_X6_reads : MOK M_X6_reads := ⟨by decide +kernel, rfl, rfl, uw304, by decide⟩
def M_X6_readsComparison : Mt := (RX6, yX6_readsComparison, Cond.code yX6_readsComparison cX6_readsComparison 3 (some .boolean) :: UW, cX6_readsComparison, 3, (some .boolean))
theorem mk_X6_readsComparison : MOK M_X6_readsComparison := ⟨by decide +kernel, rfl, rfl, uw314, by decide⟩
def M_X6_next : Mt := (RX6, yX6_next, Cond.code yX6_next cX6_next 1 (some .int) :: UW, cX6_next, 1, (some .int))
theorem mk_X6_next : MOK M_X6_next := ⟨by decide +kernel, rfl, rfl, uw321, by decide⟩
def M_X6_readsBracket : Mt := (RX6, yX6_readsBracket, Cond.code yX6_readsBracket cX6_readsBracket 2 (some .boolean) :: UW, cX6_readsBracket, 2, (some .boolean))
theorem mk_X6_readsBracket : MOK M_X6_readsBracket := ⟨by decide +kernel, rfl, rfl, uw324, by decide⟩
def M_X6_readsProduct : Mt := (RX6, yX6_readsProduct, Cond.code yX6_readsProduct cX6_readsProduct 5 (some .boolean) :: UW, cX6_readsProduct, 5, (some .boolean))
theorem mk_X6_readsProduct : MOK M_X6_readsProduct := ⟨by decide +kernel, rfl, rfl, uw325, by decide⟩
def M_X6_readsSigned : Mt := (RX6, yX6_readsSigned, Cond.code yX6_readsSigned cX6_readsSigned 4 (some .boolean) :: UW, cX6_readsSigned, 4, (some .boolean))
theorem mk_X6_readsSigned : MOK M_X6_readsSigned := ⟨by decide +kernel, rfl, rfl, uw329, by decide⟩
def M_X6_readsSum : Mt := (RX6, yX6_readsSum, Cond.code yX6_readsSum cX6_readsSum 5 (some .boolean) :: UW, cX6_readsSum, 5, (some .boolean))
theorem mk_X6_readsSum : MOK M_X6_readsSum := ⟨by decide +kernel, rfl, rfl, uw333, by decide⟩
def M_X6_readsThing : Mt := (RX6, yX6_readsThing, Cond.code yX6_readsThing cX6_readsThing 3 (some .boolean) :: UW, cX6_readsThing, 3, (some .boolean))
theorem mk_X6_readsThing : MOK M_X6_readsThing := ⟨by decide +kernel, rfl, rfl, uw337, by decide⟩
def M_X6_readsNumber : Mt := (RX6, yX6_readsNumber, Cond.code yX6_readsNumber cX6_readsNumber 4 (some .boolean) :: UW, cX6_readsNumber, 4, (some .boolean))
theorem mk_X6_readsNumber : MOK M_X6_readsNumber := ⟨by decide +kernel, rfl, rfl, uw344, by decide⟩
def M_X12_rule : Mt := (RX12, yX12_rule, Cond.code yX12_rule cX12_rule 3 (some .int) :: UW, cX12_rule, 3, (some .int))
theorem mk_X12_rule : MOK M_X12_rule := ⟨by decide +kernel, rfl, rfl, uw348, by decide⟩
def M_X12_readRule : Mt := (RX12, yX12_readRule, Cond.code yX12_readRule cX12_readRule 1 (some .boolean) :: UW, cX12_readRule, 1, (some .boolean))
theorem mk_X12_readRule : MOK M_X12_readRule := ⟨by decide +kernel, rfl, rfl, uw353, by decide⟩
def M_X12_held : Mt := (RX12, yX12_held, Cond.code yX12_held cX12_held 3 (some .int) :: UW, cX12_held, 3, (some .int))
theorem mk_X12_held : MOK M_X12_held := ⟨by decide +kernel, rfl, rfl, uw358, by decide⟩
def M_X12_product : Mt := (RX12, yX12_product, Cond.code yX12_product cX12_product 5 (some .int) :: UW, cX12_product, 5, (some .int))
theorem mk_X12_product : MOK M_X12_product := ⟨by decide +kernel, rfl, rfl, uw362, by decide⟩
def M_X12_sum : Mt := (RX12, yX12_sum, Cond.code yX12_sum cX12_sum 5 (some .int) :: UW, cX12_sum, 5, (some .int))
theorem mk_X12_sum : MOK M_X12_sum := ⟨by decide +kernel, rfl, rfl, uw366, by decide⟩
def M_X12_thing : Mt := (RX12, yX12_thing, Cond.code yX12_thing cX12_thing 4 (some .int) :: UW, cX12_thing, 4, (some .int))
theorem mk_X12_thing : MOK M_X12_thing := ⟨by decide +kernel, rfl, rfl, uw370, by decide⟩
def M_X12_need : Mt := (RX12, yX12_need, Cond.code yX12_need cX12_need 2 none :: UW, cX12_need, 2, none)
theorem mk_X12_need : MOK M_X12_need := ⟨by decide +kernel, rfl, rfl, uw374, by decide⟩
def M_X12_number : Mt := (RX12, yX12_number, Cond.code yX12_number cX12_number 4 (some .int) :: UW, cX12_number, 4, (some .int))
theorem mk_X12_number : MOK M_X12_number := ⟨by decide +kernel, rfl, rfl, uw378, by decide⟩
def M_X12_letterOf : Mt := (RX12, yX12_letterOf, Cond.code yX12_letterOf cX12_letterOf 1 (some .int) :: UW, cX12_letterOf, 1, (some .int))
theorem mk_X12_letterOf : MOK M_X12_letterOf := ⟨by decide +kernel, rfl, rfl, uw381, by decide⟩
def M_X11_one : Mt := (RX11, yX11_one, Cond.code yX11_one cX11_one 3 (some .int) :: UW, cX11_one, 3, (some .int))
theorem mk_X11_one : MOK M_X11_one := ⟨by decide +kernel, rfl, rfl, uw390, by decide⟩
def M_X2_has : Mt := (RX2, yX2_has, Cond.code yX2_has cX2_has 2 (some .boolean) :: UW, cX2_has, 2, (some .boolean))
theorem mk_X2_has : MOK M_X2_has := ⟨by decide +kernel, rfl, rfl, uw399, by decide⟩
def M_X2_held : Mt := (RX2, yX2_held, Cond.code yX2_held cX2_held 4 (some .int) :: UW, cX2_held, 4, (some .int))
theorem mk_X2_held : MOK M_X2_held := ⟨by decide +kernel, rfl, rfl, uw403, by decide⟩
def M_X2_sayable : Mt := (RX2, yX2_sayable, Cond.code yX2_sayable cX2_sayable 5 (some .int) :: UW, cX2_sayable, 5, (some .int))
theorem mk_X2_sayable : MOK M_X2_sayable := ⟨by decide +kernel, rfl, rfl, uw407, by decide⟩
def M_X2_can : Mt := (RX2, yX2_can, Cond.code yX2_can cX2_can 4 (some .boolean) :: UW, cX2_can, 4, (some .boolean))
theorem mk_X2_can : MOK M_X2_can := ⟨by decide +kernel, rfl, rfl, uw411, by decide⟩
def M_X5_worth : Mt := (RX5, yX5_worth, Cond.code yX5_worth cX5_worth 7 (some .int) :: UW, cX5_worth, 7, (some .int))
theorem mk_X5_worth : MOK M_X5_worth := ⟨by decide +kernel, rfl, rfl, uw415, by decide⟩
def M_X5_thing : Mt := (RX5, yX5_thing, Cond.code yX5_thing cX5_thing 5 (some .int) :: UW, cX5_thing, 5, (some .int))
theorem mk_X5_thing : MOK M_X5_thing := ⟨by decide +kernel, rfl, rfl, uw418, by decide⟩
def M_J6_bitCount_0f7a4 : Mt := (RJ6, yJ6_bitCount_0f7a4, Cond.code yJ6_bitCount_0f7a4 cJ6_bitCount_0f7a4 1 (some .int) :: UW, cJ6_bitCount_0f7a4, 1, (some .int))
theorem mk_J6_bitCount_0f7a4 : MOK M_J6_bitCount_0f7a4 := ⟨by decide +kernel, rfl, rfl, uw431, by decide⟩
def M_X5_joined : Mt := (RX5, yX5_joined, Cond.code yX5_joined cX5_joined 3 (some .int) :: UW, cX5_joined, 3, (some .int))
theorem mk_X5_joined : MOK M_X5_joined := ⟨by decide +kernel, rfl, rfl, uw437, by decide⟩
def M_X12_one : Mt := (RX12, yX12_one, Cond.code yX12_one cX12_one 3 (some .int) :: UW, cX12_one, 3, (some .int))
theorem mk_X12_one : MOK M_X12_one := ⟨by decide +kernel, rfl, rfl, uw441, by decide⟩
def M_X12_isOne : Mt := (RX12, yX12_isOne, Cond.code yX12_isOne cX12_isOne 2 (some .boolean) :: UW, cX12_isOne, 2, (some .boolean))
theorem mk_X12_isOne : MOK M_X12_isOne := ⟨by decide +kernel, rfl, rfl, uw445, by decide⟩
def M_X12_lost : Mt := (RX12, yX12_lost, Cond.code yX12_lost cX12_lost 1 (some .int) :: UW, cX12_lost, 1, (some .int))
theorem mk_X12_lost : MOK M_X12_lost := ⟨by decide +kernel, rfl, rfl, uw449, by decide⟩
def M_X12_heldBy : Mt := (RX12, yX12_heldBy, Cond.code yX12_heldBy cX12_heldBy 5 (some .int) :: UW, cX12_heldBy, 5, (some .int))
theorem mk_X12_heldBy : MOK M_X12_heldBy := ⟨by decide +kernel, rfl, rfl, uw453, by decide⟩
def M_X12_sayable : Mt := (RX12, yX12_sayable, Cond.code yX12_sayable cX12_sayable 5 (some .int) :: UW, cX12_sayable, 5, (some .int))
theorem mk_X12_sayable : MOK M_X12_sayable := ⟨by decide +kernel, rfl, rfl, uw457, by decide⟩
def M_X12_canSay : Mt := (RX12, yX12_canSay, Cond.code yX12_canSay cX12_canSay 6 (some .boolean) :: UW, cX12_canSay, 6, (some .boolean))
theorem mk_X12_canSay : MOK M_X12_canSay := ⟨by decide +kernel, rfl, rfl, uw461, by decide⟩
def M_X12_farOf : Mt := (RX12, yX12_farOf, Cond.code yX12_farOf cX12_farOf 3 (some .int) :: UW, cX12_farOf, 3, (some .int))
theorem mk_X12_farOf : MOK M_X12_farOf := ⟨by decide +kernel, rfl, rfl, uw464, by decide⟩
def M_X12_thrown : Mt := (RX12, yX12_thrown, Cond.code yX12_thrown cX12_thrown 1 (some .int) :: UW, cX12_thrown, 1, (some .int))
theorem mk_X12_thrown : MOK M_X12_thrown := ⟨by decide +kernel, rfl, rfl, uw470, by decide⟩
def M_X11_name : Mt := (RX11, yX11_name, Cond.code yX11_name cX11_name 3 (some .int) :: UW, cX11_name, 3, (some .int))
theorem mk_X11_name : MOK M_X11_name := ⟨by decide +kernel, rfl, rfl, uw477, by decide⟩
def M_X2_sayers : Mt := (RX2, yX2_sayers, Cond.code yX2_sayers cX2_sayers 5 (some .int) :: UW, cX2_sayers, 5, (some .int))
theorem mk_X2_sayers : MOK M_X2_sayers := ⟨by decide +kernel, rfl, rfl, uw483, by decide⟩
def M_X2_far : Mt := (RX2, yX2_far, Cond.code yX2_far cX2_far 3 (some .int) :: UW, cX2_far, 3, (some .int))
theorem mk_X2_far : MOK M_X2_far := ⟨by decide +kernel, rfl, rfl, uw487, by decide⟩
def M_X12_name : Mt := (RX12, yX12_name, Cond.code yX12_name cX12_name 3 (some .int) :: UW, cX12_name, 3, (some .int))
theorem mk_X12_name : MOK M_X12_name := ⟨by decide +kernel, rfl, rfl, uw492, by decide⟩
def M_X12_sayers : Mt := (RX12, yX12_sayers, Cond.code yX12_sayers cX12_sayers 4 (some .int) :: UW, cX12_sayers, 4, (some .int))
theorem mk_X12_sayers : MOK M_X12_sayers := ⟨by decide +kernel, rfl, rfl, uw496, by decide⟩
def M_X11_sheet : Mt := (RX11, yX11_sheet, Cond.code yX11_sheet cX11_sheet 5 (some .int) :: UW, cX11_sheet, 5, (some .int))
theorem mk_X11_sheet : MOK M_X11_sheet := ⟨by decide +kernel, rfl, rfl, uw500, by decide⟩
def M_X11_fillPurses : Mt := (RX11, yX11_fillPurses, Cond.code yX11_fillPurses cX11_fillPurses 7 none :: UW, cX11_fillPurses, 7, none)
theorem mk_X11_fillPurses : MOK M_X11_fillPurses := ⟨by decide +kernel, rfl, rfl, uw504, by decide⟩
def M_X2_purses : Mt := (RX2, yX2_purses, Cond.code yX2_purses cX2_purses 1 (some .int) :: UW, cX2_purses, 1, (some .int))
theorem mk_X2_purses : MOK M_X2_purses := ⟨by decide +kernel, rfl, rfl, uw511, by decide⟩
def M_X2_sum : Mt := (RX2, yX2_sum, Cond.code yX2_sum cX2_sum 4 (some .int) :: UW, cX2_sum, 4, (some .int))
theorem mk_X2_sum : MOK M_X2_sum := ⟨by decide +kernel, rfl, rfl, uw515, by decide⟩
def M_X12_sheet : Mt := (RX12, yX12_sheet, Cond.code yX12_sheet cX12_sheet 8 (some .int) :: UW, cX12_sheet, 8, (some .int))
theorem mk_X12_sheet : MOK M_X12_sheet := ⟨by decide +kernel, rfl, rfl, uw519, by decide⟩
def M_X12_sumOf : Mt := (RX12, yX12_sumOf, Cond.code yX12_sumOf cX12_sumOf 5 (some .int) :: UW, cX12_sumOf, 5, (some .int))
theorem mk_X12_sumOf : MOK M_X12_sumOf := ⟨by decide +kernel, rfl, rfl, uw525, by decide⟩
def M_X11_says : Mt := (RX11, yX11_says, Cond.code yX11_says cX11_says 3 (some .int) :: UW, cX11_says, 3, (some .int))
theorem mk_X11_says : MOK M_X11_says := ⟨by decide +kernel, rfl, rfl, uw529, by decide⟩
def M_X3_marks : Mt := (RX3, yX3_marks, Cond.code yX3_marks cX3_marks 2 none :: UW, cX3_marks, 2, none)
theorem mk_X3_marks : MOK M_X3_marks := ⟨by decide +kernel, rfl, rfl, uw533, by decide⟩
def M_X2_writes : Mt := (RX2, yX2_writes, Cond.code yX2_writes cX2_writes 3 none :: UW, cX2_writes, 3, none)
theorem mk_X2_writes : MOK M_X2_writes := ⟨by decide +kernel, rfl, rfl, uw538, by decide⟩
def M_X2_saidBy : Mt := (RX2, yX2_saidBy, Cond.code yX2_saidBy cX2_saidBy 5 (some .int) :: UW, cX2_saidBy, 5, (some .int))
theorem mk_X2_saidBy : MOK M_X2_saidBy := ⟨by decide +kernel, rfl, rfl, uw548, by decide⟩
def M_X2_say : Mt := (RX2, yX2_say, Cond.code yX2_say cX2_say 3 none :: UW, cX2_say, 3, none)
theorem mk_X2_say : MOK M_X2_say := ⟨by decide +kernel, rfl, rfl, uw553, by decide⟩
def M_X11_keepDone : Mt := (RX11, yX11_keepDone, Cond.code yX11_keepDone cX11_keepDone 2 (some .int) :: UW, cX11_keepDone, 2, (some .int))
theorem mk_X11_keepDone : MOK M_X11_keepDone := ⟨by decide +kernel, rfl, rfl, uw558, by decide⟩
def M_X3_keepMarked : Mt := (RX3, yX3_keepMarked, Cond.code yX3_keepMarked cX3_keepMarked 1 none :: UW, cX3_keepMarked, 1, none)
theorem mk_X3_keepMarked : MOK M_X3_keepMarked := ⟨by decide +kernel, rfl, rfl, uw562, by decide⟩
def M_X12_says : Mt := (RX12, yX12_says, Cond.code yX12_says cX12_says 5 (some .int) :: UW, cX12_says, 5, (some .int))
theorem mk_X12_says : MOK M_X12_says := ⟨by decide +kernel, rfl, rfl, uw567, by decide⟩
def M_X12_refusesSaying : Mt := (RX12, yX12_refusesSaying, Cond.code yX12_refusesSaying cX12_refusesSaying 4 (some .int) :: UW, cX12_refusesSaying, 4, (some .int))
theorem mk_X12_refusesSaying : MOK M_X12_refusesSaying := ⟨by decide +kernel, rfl, rfl, uw571, by decide⟩
def M_X12_remember : Mt := (RX12, yX12_remember, Cond.code yX12_remember cX12_remember 3 none :: UW, cX12_remember, 3, none)
theorem mk_X12_remember : MOK M_X12_remember := ⟨by decide +kernel, rfl, rfl, uw575, by decide⟩
def M_X12_lay : Mt := (RX12, yX12_lay, Cond.code yX12_lay cX12_lay 4 none :: UW, cX12_lay, 4, none)
theorem mk_X12_lay : MOK M_X12_lay := ⟨by decide +kernel, rfl, rfl, uw578, by decide⟩
def M_X12_goSaying : Mt := (RX12, yX12_goSaying, Cond.code yX12_goSaying cX12_goSaying 3 none :: UW, cX12_goSaying, 3, none)
theorem mk_X12_goSaying : MOK M_X12_goSaying := ⟨by decide +kernel, rfl, rfl, uw581, by decide⟩
def M_X11_signs : Mt := (RX11, yX11_signs, Cond.code yX11_signs cX11_signs 3 (some .int) :: UW, cX11_signs, 3, (some .int))
theorem mk_X11_signs : MOK M_X11_signs := ⟨by decide +kernel, rfl, rfl, uw585, by decide⟩
def M_X2_signedFor : Mt := (RX2, yX2_signedFor, Cond.code yX2_signedFor cX2_signedFor 4 (some .int) :: UW, cX2_signedFor, 4, (some .int))
theorem mk_X2_signedFor : MOK M_X2_signedFor := ⟨by decide +kernel, rfl, rfl, uw589, by decide⟩
def M_X12_signs : Mt := (RX12, yX12_signs, Cond.code yX12_signs cX12_signs 4 (some .int) :: UW, cX12_signs, 4, (some .int))
theorem mk_X12_signs : MOK M_X12_signs := ⟨by decide +kernel, rfl, rfl, uw593, by decide⟩
def M_X12_refusesDeed : Mt := (RX12, yX12_refusesDeed, Cond.code yX12_refusesDeed cX12_refusesDeed 4 (some .int) :: UW, cX12_refusesDeed, 4, (some .int))
theorem mk_X12_refusesDeed : MOK M_X12_refusesDeed := ⟨by decide +kernel, rfl, rfl, uw597, by decide⟩
def M_X12_goDeed : Mt := (RX12, yX12_goDeed, Cond.code yX12_goDeed cX12_goDeed 4 (some .int) :: UW, cX12_goDeed, 4, (some .int))
theorem mk_X12_goDeed : MOK M_X12_goDeed := ⟨by decide +kernel, rfl, rfl, uw601, by decide⟩
def M_X11_moves : Mt := (RX11, yX11_moves, Cond.code yX11_moves cX11_moves 3 (some .int) :: UW, cX11_moves, 3, (some .int))
theorem mk_X11_moves : MOK M_X11_moves := ⟨by decide +kernel, rfl, rfl, uw605, by decide⟩
def M_X2_movedTo : Mt := (RX2, yX2_movedTo, Cond.code yX2_movedTo cX2_movedTo 4 (some .int) :: UW, cX2_movedTo, 4, (some .int))
theorem mk_X2_movedTo : MOK M_X2_movedTo := ⟨by decide +kernel, rfl, rfl, uw609, by decide⟩
def M_X12_moves : Mt := (RX12, yX12_moves, Cond.code yX12_moves cX12_moves 5 (some .int) :: UW, cX12_moves, 5, (some .int))
theorem mk_X12_moves : MOK M_X12_moves := ⟨by decide +kernel, rfl, rfl, uw613, by decide⟩
def M_X12_refusesMove : Mt := (RX12, yX12_refusesMove, Cond.code yX12_refusesMove cX12_refusesMove 4 (some .int) :: UW, cX12_refusesMove, 4, (some .int))
theorem mk_X12_refusesMove : MOK M_X12_refusesMove := ⟨by decide +kernel, rfl, rfl, uw617, by decide⟩
def M_X11_calls : Mt := (RX11, yX11_calls, Cond.code yX11_calls cX11_calls 2 (some .int) :: UW, cX11_calls, 2, (some .int))
theorem mk_X11_calls : MOK M_X11_calls := ⟨by decide +kernel, rfl, rfl, uw621, by decide⟩
def M_X2_rollCalled : Mt := (RX2, yX2_rollCalled, Cond.code yX2_rollCalled cX2_rollCalled 5 (some .int) :: UW, cX2_rollCalled, 5, (some .int))
theorem mk_X2_rollCalled : MOK M_X2_rollCalled := ⟨by decide +kernel, rfl, rfl, uw625, by decide⟩
def M_X12_calls : Mt := (RX12, yX12_calls, Cond.code yX12_calls cX12_calls 3 (some .int) :: UW, cX12_calls, 3, (some .int))
theorem mk_X12_calls : MOK M_X12_calls := ⟨by decide +kernel, rfl, rfl, uw629, by decide⟩
def M_X12_refusesRoll : Mt := (RX12, yX12_refusesRoll, Cond.code yX12_refusesRoll cX12_refusesRoll 2 (some .int) :: UW, cX12_refusesRoll, 2, (some .int))
theorem mk_X12_refusesRoll : MOK M_X12_refusesRoll := ⟨by decide +kernel, rfl, rfl, uw633, by decide⟩
def M_X12_goRoll : Mt := (RX12, yX12_goRoll, Cond.code yX12_goRoll cX12_goRoll 5 (some .int) :: UW, cX12_goRoll, 5, (some .int))
theorem mk_X12_goRoll : MOK M_X12_goRoll := ⟨by decide +kernel, rfl, rfl, uw637, by decide⟩
def M_X11_days : Mt := (RX11, yX11_days, Cond.code yX11_days cX11_days 3 (some .int) :: UW, cX11_days, 3, (some .int))
theorem mk_X11_days : MOK M_X11_days := ⟨by decide +kernel, rfl, rfl, uw641, by decide⟩
def M_X2_passDays : Mt := (RX2, yX2_passDays, Cond.code yX2_passDays cX2_passDays 5 none :: UW, cX2_passDays, 5, none)
theorem mk_X2_passDays : MOK M_X2_passDays := ⟨by decide +kernel, rfl, rfl, uw646, by decide⟩
def M_X2_passDay : Mt := (RX2, yX2_passDay, Cond.code yX2_passDay cX2_passDay 5 none :: UW, cX2_passDay, 5, none)
theorem mk_X2_passDay : MOK M_X2_passDay := ⟨by decide +kernel, rfl, rfl, uw650, by decide⟩
def M_X9_tells_ : Mt := (RX9, yX9_tells_, Cond.code yX9_tells_ cX9_tells_ 5 none :: UW, cX9_tells_, 5, none)
theorem mk_X9_tells_ : MOK M_X9_tells_ := ⟨by decide +kernel, rfl, rfl, uw654, by decide⟩
def M_X9_adds : Mt := (RX9, yX9_adds, Cond.code yX9_adds cX9_adds 3 none :: UW, cX9_adds, 3, none)
theorem mk_X9_adds : MOK M_X9_adds := ⟨by decide +kernel, rfl, rfl, uw659, by decide⟩
def M_X2_homes : Mt := (RX2, yX2_homes, Cond.code yX2_homes cX2_homes 3 (some .int) :: UW, cX2_homes, 3, (some .int))
theorem mk_X2_homes : MOK M_X2_homes := ⟨by decide +kernel, rfl, rfl, uw663, by decide⟩
def M_X12_days : Mt := (RX12, yX12_days, Cond.code yX12_days cX12_days 3 (some .int) :: UW, cX12_days, 3, (some .int))
theorem mk_X12_days : MOK M_X12_days := ⟨by decide +kernel, rfl, rfl, uw667, by decide⟩
def M_X12_goDays : Mt := (RX12, yX12_goDays, Cond.code yX12_goDays cX12_goDays 5 none :: UW, cX12_goDays, 5, none)
theorem mk_X12_goDays : MOK M_X12_goDays := ⟨by decide +kernel, rfl, rfl, uw672, by decide⟩
def M_X12_goDay : Mt := (RX12, yX12_goDay, Cond.code yX12_goDay cX12_goDay 5 none :: UW, cX12_goDay, 5, none)
theorem mk_X12_goDay : MOK M_X12_goDay := ⟨by decide +kernel, rfl, rfl, uw676, by decide⟩
def M_X12_tell : Mt := (RX12, yX12_tell, Cond.code yX12_tell cX12_tell 3 none :: UW, cX12_tell, 3, none)
theorem mk_X12_tell : MOK M_X12_tell := ⟨by decide +kernel, rfl, rfl, uw680, by decide⟩
def M_X12_atHome : Mt := (RX12, yX12_atHome, Cond.code yX12_atHome cX12_atHome 4 (some .int) :: UW, cX12_atHome, 4, (some .int))
theorem mk_X12_atHome : MOK M_X12_atHome := ⟨by decide +kernel, rfl, rfl, uw684, by decide⟩
def M_X11_week : Mt := (RX11, yX11_week, Cond.code yX11_week cX11_week 5 (some .int) :: UW, cX11_week, 5, (some .int))
theorem mk_X11_week : MOK M_X11_week := ⟨by decide +kernel, rfl, rfl, uw688, by decide⟩
def M_X11_weekWrongAt : Mt := (RX11, yX11_weekWrongAt, Cond.code yX11_weekWrongAt cX11_weekWrongAt 4 (some .int) :: UW, cX11_weekWrongAt, 4, (some .int))
theorem mk_X11_weekWrongAt : MOK M_X11_weekWrongAt := ⟨by decide +kernel, rfl, rfl, uw692, by decide⟩
def M_X11_actDigits : Mt := (RX11, yX11_actDigits, Cond.code yX11_actDigits cX11_actDigits 1 (some .int) :: UW, cX11_actDigits, 1, (some .int))
theorem mk_X11_actDigits : MOK M_X11_actDigits := ⟨by decide +kernel, rfl, rfl, uw695, by decide⟩
def M_X11_act : Mt := (RX11, yX11_act, Cond.code yX11_act cX11_act 3 (some .int) :: UW, cX11_act, 3, (some .int))
theorem mk_X11_act : MOK M_X11_act := ⟨by decide +kernel, rfl, rfl, uw699, by decide⟩
def M_X12_week : Mt := (RX12, yX12_week, Cond.code yX12_week cX12_week 3 (some .int) :: UW, cX12_week, 3, (some .int))
theorem mk_X12_week : MOK M_X12_week := ⟨by decide +kernel, rfl, rfl, uw703, by decide⟩
def M_X12_readAct : Mt := (RX12, yX12_readAct, Cond.code yX12_readAct cX12_readAct 3 none :: UW, cX12_readAct, 3, none)
theorem mk_X12_readAct : MOK M_X12_readAct := ⟨by decide +kernel, rfl, rfl, uw707, by decide⟩
def M_X12_act : Mt := (RX12, yX12_act, Cond.code yX12_act cX12_act 4 (some .boolean) :: UW, cX12_act, 4, (some .boolean))
theorem mk_X12_act : MOK M_X12_act := ⟨by decide +kernel, rfl, rfl, uw711, by decide⟩
def M_X11_undo : Mt := (RX11, yX11_undo, Cond.code yX11_undo cX11_undo 1 (some .int) :: UW, cX11_undo, 1, (some .int))
theorem mk_X11_undo : MOK M_X11_undo := ⟨by decide +kernel, rfl, rfl, uw715, by decide⟩
def M_X3_bringsBack : Mt := (RX3, yX3_bringsBack, Cond.code yX3_bringsBack cX3_bringsBack 2 (some .boolean) :: UW, cX3_bringsBack, 2, (some .boolean))
theorem mk_X3_bringsBack : MOK M_X3_bringsBack := ⟨by decide +kernel, rfl, rfl, uw720, by decide⟩
def M_X2_readsBack : Mt := (RX2, yX2_readsBack, Cond.code yX2_readsBack cX2_readsBack 3 none :: UW, cX2_readsBack, 3, none)
theorem mk_X2_readsBack : MOK M_X2_readsBack := ⟨by decide +kernel, rfl, rfl, uw724, by decide⟩
def M_X12_undo : Mt := (RX12, yX12_undo, Cond.code yX12_undo cX12_undo 2 (some .int) :: UW, cX12_undo, 2, (some .int))
theorem mk_X12_undo : MOK M_X12_undo := ⟨by decide +kernel, rfl, rfl, uw728, by decide⟩
def M_X11_brings : Mt := (RX11, yX11_brings, Cond.code yX11_brings cX11_brings 5 (some .int) :: UW, cX11_brings, 5, (some .int))
theorem mk_X11_brings : MOK M_X11_brings := ⟨by decide +kernel, rfl, rfl, uw732, by decide⟩
def M_X2_takes : Mt := (RX2, yX2_takes, Cond.code yX2_takes cX2_takes 2 none :: UW, cX2_takes, 2, none)
theorem mk_X2_takes : MOK M_X2_takes := ⟨by decide +kernel, rfl, rfl, uw736, by decide⟩
def M_X10_toHold : Mt := (RX10, yX10_toHold, Cond.code yX10_toHold cX10_toHold 9 (some .int) :: UW, cX10_toHold, 9, (some .int))
theorem mk_X10_toHold : MOK M_X10_toHold := ⟨by decide +kernel, rfl, rfl, uw740, by decide⟩
def M_X10_meets : Mt := (RX10, yX10_meets, Cond.code yX10_meets cX10_meets 4 none :: UW, cX10_meets, 4, none)
theorem mk_X10_meets : MOK M_X10_meets := ⟨by decide +kernel, rfl, rfl, uw749, by decide⟩
def M_X10_traces : Mt := (RX10, yX10_traces, Cond.code yX10_traces cX10_traces 5 (some .int) :: UW, cX10_traces, 5, (some .int))
theorem mk_X10_traces : MOK M_X10_traces := ⟨by decide +kernel, rfl, rfl, uw753, by decide⟩
def M_X9_clears : Mt := (RX9, yX9_clears, Cond.code yX9_clears cX9_clears 1 none :: UW, cX9_clears, 1, none)
theorem mk_X9_clears : MOK M_X9_clears := ⟨by decide +kernel, rfl, rfl, uw757, by decide⟩
def M_X10_sayer : Mt := (RX10, yX10_sayer, Cond.code yX10_sayer cX10_sayer 2 (some .int) :: UW, cX10_sayer, 2, (some .int))
theorem mk_X10_sayer : MOK M_X10_sayer := ⟨by decide +kernel, rfl, rfl, uw761, by decide⟩
def M_X12_brings : Mt := (RX12, yX12_brings, Cond.code yX12_brings cX12_brings 5 (some .int) :: UW, cX12_brings, 5, (some .int))
theorem mk_X12_brings : MOK M_X12_brings := ⟨by decide +kernel, rfl, rfl, uw766, by decide⟩
def M_X12_canBring : Mt := (RX12, yX12_canBring, Cond.code yX12_canBring cX12_canBring 7 (some .boolean) :: UW, cX12_canBring, 7, (some .boolean))
theorem mk_X12_canBring : MOK M_X12_canBring := ⟨by decide +kernel, rfl, rfl, uw770, by decide⟩
def M_X11_later : Mt := (RX11, yX11_later, Cond.code yX11_later cX11_later 3 (some .int) :: UW, cX11_later, 3, (some .int))
theorem mk_X11_later : MOK M_X11_later := ⟨by decide +kernel, rfl, rfl, uw774, by decide⟩
def M_X12_later : Mt := (RX12, yX12_later, Cond.code yX12_later cX12_later 3 (some .int) :: UW, cX12_later, 3, (some .int))
theorem mk_X12_later : MOK M_X12_later := ⟨by decide +kernel, rfl, rfl, uw778, by decide⟩
def M_X11_home : Mt := (RX11, yX11_home, Cond.code yX11_home cX11_home 3 (some .int) :: UW, cX11_home, 3, (some .int))
theorem mk_X11_home : MOK M_X11_home := ⟨by decide +kernel, rfl, rfl, uw782, by decide⟩
def M_X11_daysUntilHome : Mt := (RX11, yX11_daysUntilHome, Cond.code yX11_daysUntilHome cX11_daysUntilHome 3 (some .int) :: UW, cX11_daysUntilHome, 3, (some .int))
theorem mk_X11_daysUntilHome : MOK M_X11_daysUntilHome := ⟨by decide +kernel, rfl, rfl, uw786, by decide⟩
def M_X9_tells : Mt := (RX9, yX9_tells, Cond.code yX9_tells cX9_tells 3 none :: UW, cX9_tells, 3, none)
theorem mk_X9_tells : MOK M_X9_tells := ⟨by decide +kernel, rfl, rfl, uw792, by decide⟩
def M_X12_home : Mt := (RX12, yX12_home, Cond.code yX12_home cX12_home 3 (some .int) :: UW, cX12_home, 3, (some .int))
theorem mk_X12_home : MOK M_X12_home := ⟨by decide +kernel, rfl, rfl, uw796, by decide⟩
def M_X11_poor : Mt := (RX11, yX11_poor, Cond.code yX11_poor cX11_poor 3 (some .int) :: UW, cX11_poor, 3, (some .int))
theorem mk_X11_poor : MOK M_X11_poor := ⟨by decide +kernel, rfl, rfl, uw800, by decide⟩
def M_X12_poor : Mt := (RX12, yX12_poor, Cond.code yX12_poor cX12_poor 3 (some .int) :: UW, cX12_poor, 3, (some .int))
theorem mk_X12_poor : MOK M_X12_poor := ⟨by decide +kernel, rfl, rfl, uw804, by decide⟩
def M_X11_leads : Mt := (RX11, yX11_leads, Cond.code yX11_leads cX11_leads 6 (some .int) :: UW, cX11_leads, 6, (some .int))
theorem mk_X11_leads : MOK M_X11_leads := ⟨by decide +kernel, rfl, rfl, uw808, by decide⟩
def M_X2_ring : Mt := (RX2, yX2_ring, Cond.code yX2_ring cX2_ring 5 (some .int) :: UW, cX2_ring, 5, (some .int))
theorem mk_X2_ring : MOK M_X2_ring := ⟨by decide +kernel, rfl, rfl, uw812, by decide⟩
def M_X12_leads : Mt := (RX12, yX12_leads, Cond.code yX12_leads cX12_leads 3 (some .int) :: UW, cX12_leads, 3, (some .int))
theorem mk_X12_leads : MOK M_X12_leads := ⟨by decide +kernel, rfl, rfl, uw816, by decide⟩
def M_X12_goLead : Mt := (RX12, yX12_goLead, Cond.code yX12_goLead cX12_goLead 4 (some .int) :: UW, cX12_goLead, 4, (some .int))
theorem mk_X12_goLead : MOK M_X12_goLead := ⟨by decide +kernel, rfl, rfl, uw820, by decide⟩
def M_X11_rings : Mt := (RX11, yX11_rings, Cond.code yX11_rings cX11_rings 6 (some .int) :: UW, cX11_rings, 6, (some .int))
theorem mk_X11_rings : MOK M_X11_rings := ⟨by decide +kernel, rfl, rfl, uw824, by decide⟩
def M_J6_numberOfTrailingZeros_0f7a4 : Mt := (RJ6, yJ6_numberOfTrailingZeros_0f7a4, Cond.code yJ6_numberOfTrailingZeros_0f7a4 cJ6_numberOfTrailingZeros_0f7a4 2 (some .int) :: UW, cJ6_numberOfTrailingZeros_0f7a4, 2, (some .int))
theorem mk_J6_numberOfTrailingZeros_0f7a4 : MOK M_J6_numberOfTrailingZeros_0f7a4 := ⟨by decide +kernel, rfl, rfl, uw827, by decide⟩
def M_X12_rings : Mt := (RX12, yX12_rings, Cond.code yX12_rings cX12_rings 6 (some .int) :: UW, cX12_rings, 6, (some .int))
theorem mk_X12_rings : MOK M_X12_rings := ⟨by decide +kernel, rfl, rfl, uw832, by decide⟩
def M_X12_ringOf : Mt := (RX12, yX12_ringOf, Cond.code yX12_ringOf cX12_ringOf 4 (some .int) :: UW, cX12_ringOf, 4, (some .int))
theorem mk_X12_ringOf : MOK M_X12_ringOf := ⟨by decide +kernel, rfl, rfl, uw836, by decide⟩
def M_X12_has : Mt := (RX12, yX12_has, Cond.code yX12_has cX12_has 2 (some .boolean) :: UW, cX12_has, 2, (some .boolean))
theorem mk_X12_has : MOK M_X12_has := ⟨by decide +kernel, rfl, rfl, uw839, by decide⟩
def M_X11_robs : Mt := (RX11, yX11_robs, Cond.code yX11_robs cX11_robs 5 (some .int) :: UW, cX11_robs, 5, (some .int))
theorem mk_X11_robs : MOK M_X11_robs := ⟨by decide +kernel, rfl, rfl, uw844, by decide⟩
def M_X12_robs : Mt := (RX12, yX12_robs, Cond.code yX12_robs cX12_robs 5 (some .int) :: UW, cX12_robs, 5, (some .int))
theorem mk_X12_robs : MOK M_X12_robs := ⟨by decide +kernel, rfl, rfl, uw848, by decide⟩
def M_X11_order : Mt := (RX11, yX11_order, Cond.code yX11_order cX11_order 3 (some .int) :: UW, cX11_order, 3, (some .int))
theorem mk_X11_order : MOK M_X11_order := ⟨by decide +kernel, rfl, rfl, uw852, by decide⟩
def M_X10_sayBack : Mt := (RX10, yX10_sayBack, Cond.code yX10_sayBack cX10_sayBack 4 (some .int) :: UW, cX10_sayBack, 4, (some .int))
theorem mk_X10_sayBack : MOK M_X10_sayBack := ⟨by decide +kernel, rfl, rfl, uw858, by decide⟩
def M_X10_takesTurn : Mt := (RX10, yX10_takesTurn, Cond.code yX10_takesTurn cX10_takesTurn 7 none :: UW, cX10_takesTurn, 7, none)
theorem mk_X10_takesTurn : MOK M_X10_takesTurn := ⟨by decide +kernel, rfl, rfl, uw870, by decide⟩
def M_X10_saysOwn : Mt := (RX10, yX10_saysOwn, Cond.code yX10_saysOwn cX10_saysOwn 8 none :: UW, cX10_saysOwn, 8, none)
theorem mk_X10_saysOwn : MOK M_X10_saysOwn := ⟨by decide +kernel, rfl, rfl, uw875, by decide⟩
def M_X12_order : Mt := (RX12, yX12_order, Cond.code yX12_order cX12_order 3 (some .int) :: UW, cX12_order, 3, (some .int))
theorem mk_X12_order : MOK M_X12_order := ⟨by decide +kernel, rfl, rfl, uw880, by decide⟩
def M_X12_goOrder : Mt := (RX12, yX12_goOrder, Cond.code yX12_goOrder cX12_goOrder 6 none :: UW, cX12_goOrder, 6, none)
theorem mk_X12_goOrder : MOK M_X12_goOrder := ⟨by decide +kernel, rfl, rfl, uw885, by decide⟩
def M_X11_silences : Mt := (RX11, yX11_silences, Cond.code yX11_silences cX11_silences 6 (some .int) :: UW, cX11_silences, 6, (some .int))
theorem mk_X11_silences : MOK M_X11_silences := ⟨by decide +kernel, rfl, rfl, uw889, by decide⟩
def M_X11_homesAfter : Mt := (RX11, yX11_homesAfter, Cond.code yX11_homesAfter cX11_homesAfter 3 (some .int) :: UW, cX11_homesAfter, 3, (some .int))
theorem mk_X11_homesAfter : MOK M_X11_homesAfter := ⟨by decide +kernel, rfl, rfl, uw893, by decide⟩
def M_X12_silences : Mt := (RX12, yX12_silences, Cond.code yX12_silences cX12_silences 6 (some .int) :: UW, cX12_silences, 6, (some .int))
theorem mk_X12_silences : MOK M_X12_silences := ⟨by decide +kernel, rfl, rfl, uw897, by decide⟩
def M_X12_homeIn : Mt := (RX12, yX12_homeIn, Cond.code yX12_homeIn cX12_homeIn 3 (some .int) :: UW, cX12_homeIn, 3, (some .int))
theorem mk_X12_homeIn : MOK M_X12_homeIn := ⟨by decide +kernel, rfl, rfl, uw901, by decide⟩
def M_X11_goes : Mt := (RX11, yX11_goes, Cond.code yX11_goes cX11_goes 7 (some .int) :: UW, cX11_goes, 7, (some .int))
theorem mk_X11_goes : MOK M_X11_goes := ⟨by decide +kernel, rfl, rfl, uw905, by decide⟩
def M_X12_goes : Mt := (RX12, yX12_goes, Cond.code yX12_goes cX12_goes 6 (some .int) :: UW, cX12_goes, 6, (some .int))
theorem mk_X12_goes : MOK M_X12_goes := ⟨by decide +kernel, rfl, rfl, uw910, by decide⟩
def M_X11_peace : Mt := (RX11, yX11_peace, Cond.code yX11_peace cX11_peace 2 (some .int) :: UW, cX11_peace, 2, (some .int))
theorem mk_X11_peace : MOK M_X11_peace := ⟨by decide +kernel, rfl, rfl, uw914, by decide⟩
def M_X12_peace : Mt := (RX12, yX12_peace, Cond.code yX12_peace cX12_peace 2 (some .int) :: UW, cX12_peace, 2, (some .int))
theorem mk_X12_peace : MOK M_X12_peace := ⟨by decide +kernel, rfl, rfl, uw918, by decide⟩
def M_X12_all : Mt := (RX12, yX12_all, Cond.code yX12_all cX12_all 1 (some .int) :: UW, cX12_all, 1, (some .int))
theorem mk_X12_all : MOK M_X12_all := ⟨by decide +kernel, rfl, rfl, uw922, by decide⟩
def M_X11_wed : Mt := (RX11, yX11_wed, Cond.code yX11_wed cX11_wed 4 (some .int) :: UW, cX11_wed, 4, (some .int))
theorem mk_X11_wed : MOK M_X11_wed := ⟨by decide +kernel, rfl, rfl, uw926, by decide⟩
def M_X12_wed : Mt := (RX12, yX12_wed, Cond.code yX12_wed cX12_wed 4 (some .int) :: UW, cX12_wed, 4, (some .int))
theorem mk_X12_wed : MOK M_X12_wed := ⟨by decide +kernel, rfl, rfl, uw930, by decide⟩
def M_X11_loud : Mt := (RX11, yX11_loud, Cond.code yX11_loud cX11_loud 6 (some .int) :: UW, cX11_loud, 6, (some .int))
theorem mk_X11_loud : MOK M_X11_loud := ⟨by decide +kernel, rfl, rfl, uw934, by decide⟩
def M_X12_loud : Mt := (RX12, yX12_loud, Cond.code yX12_loud cX12_loud 5 (some .int) :: UW, cX12_loud, 5, (some .int))
theorem mk_X12_loud : MOK M_X12_loud := ⟨by decide +kernel, rfl, rfl, uw938, by decide⟩
def M_X11_mouths : Mt := (RX11, yX11_mouths, Cond.code yX11_mouths cX11_mouths 3 (some .int) :: UW, cX11_mouths, 3, (some .int))
theorem mk_X11_mouths : MOK M_X11_mouths := ⟨by decide +kernel, rfl, rfl, uw942, by decide⟩
def M_X0_sharesMouths : Mt := (RX0, yX0_sharesMouths, Cond.code yX0_sharesMouths cX0_sharesMouths 6 (some .int) :: UW, cX0_sharesMouths, 6, (some .int))
theorem mk_X0_sharesMouths : MOK M_X0_sharesMouths := ⟨by decide +kernel, rfl, rfl, uw947, by decide⟩
def M_X0_costs : Mt := (RX0, yX0_costs, Cond.code yX0_costs cX0_costs 6 (some .int) :: UW, cX0_costs, 6, (some .int))
theorem mk_X0_costs : MOK M_X0_costs := ⟨by decide +kernel, rfl, rfl, uw954, by decide⟩
def M_X0_cheapest : Mt := (RX0, yX0_cheapest, Cond.code yX0_cheapest cX0_cheapest 5 (some .int) :: UW, cX0_cheapest, 5, (some .int))
theorem mk_X0_cheapest : MOK M_X0_cheapest := ⟨by decide +kernel, rfl, rfl, uw959, by decide⟩
def M_X12_mouths : Mt := (RX12, yX12_mouths, Cond.code yX12_mouths cX12_mouths 5 (some .int) :: UW, cX12_mouths, 5, (some .int))
theorem mk_X12_mouths : MOK M_X12_mouths := ⟨by decide +kernel, rfl, rfl, uw963, by decide⟩
def M_X12_canMouth : Mt := (RX12, yX12_canMouth, Cond.code yX12_canMouth cX12_canMouth 4 (some .boolean) :: UW, cX12_canMouth, 4, (some .boolean))
theorem mk_X12_canMouth : MOK M_X12_canMouth := ⟨by decide +kernel, rfl, rfl, uw968, by decide⟩
def M_X11_criers : Mt := (RX11, yX11_criers, Cond.code yX11_criers cX11_criers 3 (some .int) :: UW, cX11_criers, 3, (some .int))
theorem mk_X11_criers : MOK M_X11_criers := ⟨by decide +kernel, rfl, rfl, uw972, by decide⟩
def M_X0_fewestCriers : Mt := (RX0, yX0_fewestCriers, Cond.code yX0_fewestCriers cX0_fewestCriers 6 (some .int) :: UW, cX0_fewestCriers, 6, (some .int))
theorem mk_X0_fewestCriers : MOK M_X0_fewestCriers := ⟨by decide +kernel, rfl, rfl, uw976, by decide⟩
def M_X0_hearers : Mt := (RX0, yX0_hearers, Cond.code yX0_hearers cX0_hearers 5 (some .int) :: UW, cX0_hearers, 5, (some .int))
theorem mk_X0_hearers : MOK M_X0_hearers := ⟨by decide +kernel, rfl, rfl, uw979, by decide⟩
def M_X0_heardBy : Mt := (RX0, yX0_heardBy, Cond.code yX0_heardBy cX0_heardBy 5 (some .int) :: UW, cX0_heardBy, 5, (some .int))
theorem mk_X0_heardBy : MOK M_X0_heardBy := ⟨by decide +kernel, rfl, rfl, uw983, by decide⟩
def M_X12_criers : Mt := (RX12, yX12_criers, Cond.code yX12_criers cX12_criers 8 (some .int) :: UW, cX12_criers, 8, (some .int))
theorem mk_X12_criers : MOK M_X12_criers := ⟨by decide +kernel, rfl, rfl, uw987, by decide⟩
def M_X11_line : Mt := (RX11, yX11_line, Cond.code yX11_line cX11_line 2 (some .int) :: UW, cX11_line, 2, (some .int))
theorem mk_X11_line : MOK M_X11_line := ⟨by decide +kernel, rfl, rfl, uw991, by decide⟩
def M_X0_linesUp : Mt := (RX0, yX0_linesUp, Cond.code yX0_linesUp cX0_linesUp 5 none :: UW, cX0_linesUp, 5, none)
theorem mk_X0_linesUp : MOK M_X0_linesUp := ⟨by decide +kernel, rfl, rfl, uw995, by decide⟩
def M_X12_line : Mt := (RX12, yX12_line, Cond.code yX12_line cX12_line 2 (some .int) :: UW, cX12_line, 2, (some .int))
theorem mk_X12_line : MOK M_X12_line := ⟨by decide +kernel, rfl, rfl, uw1000, by decide⟩
def M_X12_layDyke : Mt := (RX12, yX12_layDyke, Cond.code yX12_layDyke cX12_layDyke 3 none :: UW, cX12_layDyke, 3, none)
theorem mk_X12_layDyke : MOK M_X12_layDyke := ⟨by decide +kernel, rfl, rfl, uw1004, by decide⟩
def M_X11_rich : Mt := (RX11, yX11_rich, Cond.code yX11_rich cX11_rich 6 (some .int) :: UW, cX11_rich, 6, (some .int))
theorem mk_X11_rich : MOK M_X11_rich := ⟨by decide +kernel, rfl, rfl, uw1008, by decide⟩
def M_X0_longestFrom : Mt := (RX0, yX0_longestFrom, Cond.code yX0_longestFrom cX0_longestFrom 5 (some .int) :: UW, cX0_longestFrom, 5, (some .int))
theorem mk_X0_longestFrom : MOK M_X0_longestFrom := ⟨by decide +kernel, rfl, rfl, uw1013, by decide⟩
def M_X12_rich : Mt := (RX12, yX12_rich, Cond.code yX12_rich cX12_rich 4 (some .int) :: UW, cX12_rich, 4, (some .int))
theorem mk_X12_rich : MOK M_X12_rich := ⟨by decide +kernel, rfl, rfl, uw1019, by decide⟩
def M_X11_heard : Mt := (RX11, yX11_heard, Cond.code yX11_heard cX11_heard 3 (some .int) :: UW, cX11_heard, 3, (some .int))
theorem mk_X11_heard : MOK M_X11_heard := ⟨by decide +kernel, rfl, rfl, uw1023, by decide⟩
def M_X1_hears : Mt := (RX1, yX1_hears, Cond.code yX1_hears cX1_hears 3 (some .boolean) :: UW, cX1_hears, 3, (some .boolean))
theorem mk_X1_hears : MOK M_X1_hears := ⟨by decide +kernel, rfl, rfl, uw1028, by decide⟩
def M_X1_values : Mt := (RX1, yX1_values, Cond.code yX1_values cX1_values 1 (some .int) :: UW, cX1_values, 1, (some .int))
theorem mk_X1_values : MOK M_X1_values := ⟨by decide +kernel, rfl, rfl, uw1032, by decide⟩
def M_X12_heard : Mt := (RX12, yX12_heard, Cond.code yX12_heard cX12_heard 4 (some .int) :: UW, cX12_heard, 4, (some .int))
theorem mk_X12_heard : MOK M_X12_heard := ⟨by decide +kernel, rfl, rfl, uw1036, by decide⟩
def M_X11_forget : Mt := (RX11, yX11_forget, Cond.code yX11_forget cX11_forget 2 (some .int) :: UW, cX11_forget, 2, (some .int))
theorem mk_X11_forget : MOK M_X11_forget := ⟨by decide +kernel, rfl, rfl, uw1041, by decide⟩
def M_X12_forget : Mt := (RX12, yX12_forget, Cond.code yX12_forget cX12_forget 2 (some .int) :: UW, cX12_forget, 2, (some .int))
theorem mk_X12_forget : MOK M_X12_forget := ⟨by decide +kernel, rfl, rfl, uw1045, by decide⟩
def M_X11_fits : Mt := (RX11, yX11_fits, Cond.code yX11_fits cX11_fits 2 (some .int) :: UW, cX11_fits, 2, (some .int))
theorem mk_X11_fits : MOK M_X11_fits := ⟨by decide +kernel, rfl, rfl, uw1049, by decide⟩
def M_X1_fitting : Mt := (RX1, yX1_fitting, Cond.code yX1_fitting cX1_fitting 7 (some .int) :: UW, cX1_fitting, 7, (some .int))
theorem mk_X1_fitting : MOK M_X1_fitting := ⟨by decide +kernel, rfl, rfl, uw1053, by decide⟩
def M_X1_isSo : Mt := (RX1, yX1_isSo, Cond.code yX1_isSo cX1_isSo 5 (some .boolean) :: UW, cX1_isSo, 5, (some .boolean))
theorem mk_X1_isSo : MOK M_X1_isSo := ⟨by decide +kernel, rfl, rfl, uw1057, by decide⟩
def M_X12_fits_ : Mt := (RX12, yX12_fits_, Cond.code yX12_fits_ cX12_fits_ 2 (some .int) :: UW, cX12_fits_, 2, (some .int))
theorem mk_X12_fits_ : MOK M_X12_fits_ := ⟨by decide +kernel, rfl, rfl, uw1067, by decide⟩
def M_X12_fitting : Mt := (RX12, yX12_fitting, Cond.code yX12_fitting cX12_fitting 5 (some .int) :: UW, cX12_fitting, 5, (some .int))
theorem mk_X12_fitting : MOK M_X12_fitting := ⟨by decide +kernel, rfl, rfl, uw1071, by decide⟩
def M_X12_fits : Mt := (RX12, yX12_fits, Cond.code yX12_fits cX12_fits 4 (some .boolean) :: UW, cX12_fits, 4, (some .boolean))
theorem mk_X12_fits : MOK M_X12_fits := ⟨by decide +kernel, rfl, rfl, uw1075, by decide⟩
def M_X11_asks : Mt := (RX11, yX11_asks, Cond.code yX11_asks cX11_asks 10 (some .int) :: UW, cX11_asks, 10, (some .int))
theorem mk_X11_asks : MOK M_X11_asks := ⟨by decide +kernel, rfl, rfl, uw1079, by decide⟩
def M_X1_mostLeft : Mt := (RX1, yX1_mostLeft, Cond.code yX1_mostLeft cX1_mostLeft 8 (some .int) :: UW, cX1_mostLeft, 8, (some .int))
theorem mk_X1_mostLeft : MOK M_X1_mostLeft := ⟨by decide +kernel, rfl, rfl, uw1085, by decide⟩
def M_X12_asks : Mt := (RX12, yX12_asks, Cond.code yX12_asks cX12_asks 7 (some .int) :: UW, cX12_asks, 7, (some .int))
theorem mk_X12_asks : MOK M_X12_asks := ⟨by decide +kernel, rfl, rfl, uw1091, by decide⟩
def M_X11_saw : Mt := (RX11, yX11_saw, Cond.code yX11_saw cX11_saw 4 (some .int) :: UW, cX11_saw, 4, (some .int))
theorem mk_X11_saw : MOK M_X11_saw := ⟨by decide +kernel, rfl, rfl, uw1095, by decide⟩
def M_X7_sees : Mt := (RX7, yX7_sees, Cond.code yX7_sees cX7_sees 4 (some .boolean) :: UW, cX7_sees, 4, (some .boolean))
theorem mk_X7_sees : MOK M_X7_sees := ⟨by decide +kernel, rfl, rfl, uw1100, by decide⟩
def M_X12_saw : Mt := (RX12, yX12_saw, Cond.code yX12_saw cX12_saw 4 (some .int) :: UW, cX12_saw, 4, (some .int))
theorem mk_X12_saw : MOK M_X12_saw := ⟨by decide +kernel, rfl, rfl, uw1105, by decide⟩
def M_X11_denies : Mt := (RX11, yX11_denies, Cond.code yX11_denies cX11_denies 2 (some .int) :: UW, cX11_denies, 2, (some .int))
theorem mk_X11_denies : MOK M_X11_denies := ⟨by decide +kernel, rfl, rfl, uw1110, by decide⟩
def M_X12_denies : Mt := (RX12, yX12_denies, Cond.code yX12_denies cX12_denies 2 (some .int) :: UW, cX12_denies, 2, (some .int))
theorem mk_X12_denies : MOK M_X12_denies := ⟨by decide +kernel, rfl, rfl, uw1114, by decide⟩
def M_X11_laws : Mt := (RX11, yX11_laws, Cond.code yX11_laws cX11_laws 3 (some .int) :: UW, cX11_laws, 3, (some .int))
theorem mk_X11_laws : MOK M_X11_laws := ⟨by decide +kernel, rfl, rfl, uw1118, by decide⟩
def M_X7_fitLaws : Mt := (RX7, yX7_fitLaws, Cond.code yX7_fitLaws cX7_fitLaws 5 (some .int) :: UW, cX7_fitLaws, 5, (some .int))
theorem mk_X7_fitLaws : MOK M_X7_fitLaws := ⟨by decide +kernel, rfl, rfl, uw1123, by decide⟩
def M_X7_reach : Mt := (RX7, yX7_reach, Cond.code yX7_reach cX7_reach 3 (some .int) :: UW, cX7_reach, 3, (some .int))
theorem mk_X7_reach : MOK M_X7_reach := ⟨by decide +kernel, rfl, rfl, uw1128, by decide⟩
def M_X7_leastPair : Mt := (RX7, yX7_leastPair, Cond.code yX7_leastPair cX7_leastPair 2 (some .int) :: UW, cX7_leastPair, 2, (some .int))
theorem mk_X7_leastPair : MOK M_X7_leastPair := ⟨by decide +kernel, rfl, rfl, uw1132, by decide⟩
def M_X12_laws : Mt := (RX12, yX12_laws, Cond.code yX12_laws cX12_laws 3 (some .int) :: UW, cX12_laws, 3, (some .int))
theorem mk_X12_laws : MOK M_X12_laws := ⟨by decide +kernel, rfl, rfl, uw1136, by decide⟩
def M_X12_isLaw : Mt := (RX12, yX12_isLaw, Cond.code yX12_isLaw cX12_isLaw 3 (some .boolean) :: UW, cX12_isLaw, 3, (some .boolean))
theorem mk_X12_isLaw : MOK M_X12_isLaw := ⟨by decide +kernel, rfl, rfl, uw1140, by decide⟩
def M_X12_says_ : Mt := (RX12, yX12_says_, Cond.code yX12_says_ cX12_says_ 4 (some .int) :: UW, cX12_says_, 4, (some .int))
theorem mk_X12_says_ : MOK M_X12_says_ := ⟨by decide +kernel, rfl, rfl, uw1143, by decide⟩
def M_X11_tries : Mt := (RX11, yX11_tries, Cond.code yX11_tries cX11_tries 8 (some .int) :: UW, cX11_tries, 8, (some .int))
theorem mk_X11_tries : MOK M_X11_tries := ⟨by decide +kernel, rfl, rfl, uw1147, by decide⟩
def M_X7_lawsThatHear : Mt := (RX7, yX7_lawsThatHear, Cond.code yX7_lawsThatHear cX7_lawsThatHear 6 (some .int) :: UW, cX7_lawsThatHear, 6, (some .int))
theorem mk_X7_lawsThatHear : MOK M_X7_lawsThatHear := ⟨by decide +kernel, rfl, rfl, uw1151, by decide⟩
def M_X12_tries : Mt := (RX12, yX12_tries, Cond.code yX12_tries cX12_tries 7 (some .int) :: UW, cX12_tries, 7, (some .int))
theorem mk_X12_tries : MOK M_X12_tries := ⟨by decide +kernel, rfl, rfl, uw1155, by decide⟩
def M_X11_walks : Mt := (RX11, yX11_walks, Cond.code yX11_walks cX11_walks 11 (some .int) :: UW, cX11_walks, 11, (some .int))
theorem mk_X11_walks : MOK M_X11_walks := ⟨by decide +kernel, rfl, rfl, uw1159, by decide⟩
def M_X4_walked : Mt := (RX4, yX4_walked, Cond.code yX4_walked cX4_walked 7 (some .long) :: UW, cX4_walked, 7, (some .long))
theorem mk_X4_walked : MOK M_X4_walked := ⟨by decide +kernel, rfl, rfl, uw1164, by decide⟩
def M_X11_greatestCommon : Mt := (RX11, yX11_greatestCommon, Cond.code yX11_greatestCommon cX11_greatestCommon 11 (some .long) :: UW, cX11_greatestCommon, 11, (some .long))
theorem mk_X11_greatestCommon : MOK M_X11_greatestCommon := ⟨by decide +kernel, rfl, rfl, uw1170, by decide⟩
def M_X12_walks : Mt := (RX12, yX12_walks, Cond.code yX12_walks cX12_walks 9 (some .int) :: UW, cX12_walks, 9, (some .int))
theorem mk_X12_walks : MOK M_X12_walks := ⟨by decide +kernel, rfl, rfl, uw1174, by decide⟩
def M_X12_common : Mt := (RX12, yX12_common, Cond.code yX12_common cX12_common 4 (some .long) :: UW, cX12_common, 4, (some .long))
theorem mk_X12_common : MOK M_X12_common := ⟨by decide +kernel, rfl, rfl, uw1178, by decide⟩
def M_X11_hush : Mt := (RX11, yX11_hush, Cond.code yX11_hush cX11_hush 5 (some .int) :: UW, cX11_hush, 5, (some .int))
theorem mk_X11_hush : MOK M_X11_hush := ⟨by decide +kernel, rfl, rfl, uw1182, by decide⟩
def M_X4_readiesHush : Mt := (RX4, yX4_readiesHush, Cond.code yX4_readiesHush cX4_readiesHush 4 none :: UW, cX4_readiesHush, 4, none)
theorem mk_X4_readiesHush : MOK M_X4_readiesHush := ⟨by decide +kernel, rfl, rfl, uw1186, by decide⟩
def M_X4_winningTake : Mt := (RX4, yX4_winningTake, Cond.code yX4_winningTake cX4_winningTake 5 (some .int) :: UW, cX4_winningTake, 5, (some .int))
theorem mk_X4_winningTake : MOK M_X4_winningTake := ⟨by decide +kernel, rfl, rfl, uw1191, by decide⟩
def M_X4_wins : Mt := (RX4, yX4_wins, Cond.code yX4_wins cX4_wins 3 (some .boolean) :: UW, cX4_wins, 3, (some .boolean))
theorem mk_X4_wins : MOK M_X4_wins := ⟨by decide +kernel, rfl, rfl, uw1195, by decide⟩
def M_X12_hush : Mt := (RX12, yX12_hush, Cond.code yX12_hush cX12_hush 5 (some .int) :: UW, cX12_hush, 5, (some .int))
theorem mk_X12_hush : MOK M_X12_hush := ⟨by decide +kernel, rfl, rfl, uw1201, by decide⟩
def M_X12_moveOf : Mt := (RX12, yX12_moveOf, Cond.code yX12_moveOf cX12_moveOf 5 (some .int) :: UW, cX12_moveOf, 5, (some .int))
theorem mk_X12_moveOf : MOK M_X12_moveOf := ⟨by decide +kernel, rfl, rfl, uw1205, by decide⟩
def M_X11_rests : Mt := (RX11, yX11_rests, Cond.code yX11_rests cX11_rests 5 (some .int) :: UW, cX11_rests, 5, (some .int))
theorem mk_X11_rests : MOK M_X11_rests := ⟨by decide +kernel, rfl, rfl, uw1209, by decide⟩
def M_X4_readiesRests : Mt := (RX4, yX4_readiesRests, Cond.code yX4_readiesRests cX4_readiesRests 4 none :: UW, cX4_readiesRests, 4, none)
theorem mk_X4_readiesRests : MOK M_X4_readiesRests := ⟨by decide +kernel, rfl, rfl, uw1213, by decide⟩
def M_X4_gain : Mt := (RX4, yX4_gain, Cond.code yX4_gain cX4_gain 4 (some .int) :: UW, cX4_gain, 4, (some .int))
theorem mk_X4_gain : MOK M_X4_gain := ⟨by decide +kernel, rfl, rfl, uw1216, by decide⟩
def M_X4_isRest : Mt := (RX4, yX4_isRest, Cond.code yX4_isRest cX4_isRest 4 (some .boolean) :: UW, cX4_isRest, 4, (some .boolean))
theorem mk_X4_isRest : MOK M_X4_isRest := ⟨by decide +kernel, rfl, rfl, uw1220, by decide⟩
def M_X12_rests : Mt := (RX12, yX12_rests, Cond.code yX12_rests cX12_rests 5 (some .int) :: UW, cX12_rests, 5, (some .int))
theorem mk_X12_rests : MOK M_X12_rests := ⟨by decide +kernel, rfl, rfl, uw1224, by decide⟩
def M_X12_isBest : Mt := (RX12, yX12_isBest, Cond.code yX12_isBest cX12_isBest 4 (some .boolean) :: UW, cX12_isBest, 4, (some .boolean))
theorem mk_X12_isBest : MOK M_X12_isBest := ⟨by decide +kernel, rfl, rfl, uw1227, by decide⟩
def M_X12_gets : Mt := (RX12, yX12_gets, Cond.code yX12_gets cX12_gets 3 (some .int) :: UW, cX12_gets, 3, (some .int))
theorem mk_X12_gets : MOK M_X12_gets := ⟨by decide +kernel, rfl, rfl, uw1230, by decide⟩
def M_X11_law : Mt := (RX11, yX11_law, Cond.code yX11_law cX11_law 5 (some .int) :: UW, cX11_law, 5, (some .int))
theorem mk_X11_law : MOK M_X11_law := ⟨by decide +kernel, rfl, rfl, uw1234, by decide⟩
def M_X2_pairs : Mt := (RX2, yX2_pairs, Cond.code yX2_pairs cX2_pairs 4 (some .int) :: UW, cX2_pairs, 4, (some .int))
theorem mk_X2_pairs : MOK M_X2_pairs := ⟨by decide +kernel, rfl, rfl, uw1238, by decide⟩
def M_X12_law : Mt := (RX12, yX12_law, Cond.code yX12_law cX12_law 7 (some .int) :: UW, cX12_law, 7, (some .int))
theorem mk_X12_law : MOK M_X12_law := ⟨by decide +kernel, rfl, rfl, uw1244, by decide⟩
def M_X12_pairs : Mt := (RX12, yX12_pairs, Cond.code yX12_pairs cX12_pairs 3 (some .int) :: UW, cX12_pairs, 3, (some .int))
theorem mk_X12_pairs : MOK M_X12_pairs := ⟨by decide +kernel, rfl, rfl, uw1248, by decide⟩
def M_X11_years : Mt := (RX11, yX11_years, Cond.code yX11_years cX11_years 4 (some .int) :: UW, cX11_years, 4, (some .int))
theorem mk_X11_years : MOK M_X11_years := ⟨by decide +kernel, rfl, rfl, uw1252, by decide⟩
def M_X4_draw : Mt := (RX4, yX4_draw, Cond.code yX4_draw cX4_draw 2 (some .int) :: UW, cX4_draw, 2, (some .int))
theorem mk_X4_draw : MOK M_X4_draw := ⟨by decide +kernel, rfl, rfl, uw1257, by decide⟩
def M_X11_triesDrawn : Mt := (RX11, yX11_triesDrawn, Cond.code yX11_triesDrawn cX11_triesDrawn 3 none :: UW, cX11_triesDrawn, 3, none)
theorem mk_X11_triesDrawn : MOK M_X11_triesDrawn := ⟨by decide +kernel, rfl, rfl, uw1263, by decide⟩
def M_X12_years : Mt := (RX12, yX12_years, Cond.code yX12_years cX12_years 7 (some .int) :: UW, cX12_years, 7, (some .int))
theorem mk_X12_years : MOK M_X12_years := ⟨by decide +kernel, rfl, rfl, uw1267, by decide⟩
def M_X12_draw : Mt := (RX12, yX12_draw, Cond.code yX12_draw cX12_draw 2 (some .int) :: UW, cX12_draw, 2, (some .int))
theorem mk_X12_draw : MOK M_X12_draw := ⟨by decide +kernel, rfl, rfl, uw1272, by decide⟩
def M_X11_keep : Mt := (RX11, yX11_keep, Cond.code yX11_keep cX11_keep 2 (some .boolean) :: UW, cX11_keep, 2, (some .boolean))
theorem mk_X11_keep : MOK M_X11_keep := ⟨by decide +kernel, rfl, rfl, uw1277, by decide⟩
def M_X3_shelves : Mt := (RX3, yX3_shelves, Cond.code yX3_shelves cX3_shelves 3 (some .boolean) :: UW, cX3_shelves, 3, (some .boolean))
theorem mk_X3_shelves : MOK M_X3_shelves := ⟨by decide +kernel, rfl, rfl, uw1281, by decide⟩
def M_X12_keep : Mt := (RX12, yX12_keep, Cond.code yX12_keep cX12_keep 2 (some .boolean) :: UW, cX12_keep, 2, (some .boolean))
theorem mk_X12_keep : MOK M_X12_keep := ⟨by decide +kernel, rfl, rfl, uw1285, by decide⟩
def M_X11_again : Mt := (RX11, yX11_again, Cond.code yX11_again cX11_again 2 (some .boolean) :: UW, cX11_again, 2, (some .boolean))
theorem mk_X11_again : MOK M_X11_again := ⟨by decide +kernel, rfl, rfl, uw1289, by decide⟩
def M_X3_unshelves : Mt := (RX3, yX3_unshelves, Cond.code yX3_unshelves cX3_unshelves 3 (some .boolean) :: UW, cX3_unshelves, 3, (some .boolean))
theorem mk_X3_unshelves : MOK M_X3_unshelves := ⟨by decide +kernel, rfl, rfl, uw1293, by decide⟩
def M_X12_again : Mt := (RX12, yX12_again, Cond.code yX12_again cX12_again 3 (some .boolean) :: UW, cX12_again, 3, (some .boolean))
theorem mk_X12_again : MOK M_X12_again := ⟨by decide +kernel, rfl, rfl, uw1297, by decide⟩
def M_X11_count : Mt := (RX11, yX11_count, Cond.code yX11_count cX11_count 2 (some .int) :: UW, cX11_count, 2, (some .int))
theorem mk_X11_count : MOK M_X11_count := ⟨by decide +kernel, rfl, rfl, uw1301, by decide⟩
def M_X12_count : Mt := (RX12, yX12_count, Cond.code yX12_count cX12_count 2 (some .int) :: UW, cX12_count, 2, (some .int))
theorem mk_X12_count : MOK M_X12_count := ⟨by decide +kernel, rfl, rfl, uw1308, by decide⟩
def M_X12_voices : Mt := (RX12, yX12_voices, Cond.code yX12_voices cX12_voices 3 (some .int) :: UW, cX12_voices, 3, (some .int))
theorem mk_X12_voices : MOK M_X12_voices := ⟨by decide +kernel, rfl, rfl, uw1312, by decide⟩
def M_X11_row : Mt := (RX11, yX11_row, Cond.code yX11_row cX11_row 2 (some .long) :: UW, cX11_row, 2, (some .long))
theorem mk_X11_row : MOK M_X11_row := ⟨by decide +kernel, rfl, rfl, uw1319, by decide⟩
def M_X12_row : Mt := (RX12, yX12_row, Cond.code yX12_row cX12_row 2 (some .long) :: UW, cX12_row, 2, (some .long))
theorem mk_X12_row : MOK M_X12_row := ⟨by decide +kernel, rfl, rfl, uw1324, by decide⟩
theorem fo_RX5_21 {M : Mt} (h : mO M = RX5) : FOK M 21 5 2 RX5 TX5 3 := ⟨rfl, by decide, by rw [h]; exact uw130, inU5⟩
theorem fo_RX5_9 {M : Mt} (h : mO M = RX5) : FOK M 9 5 0 RX5 TX5 3 := ⟨rfl, by decide, by rw [h]; exact uw124, inU5⟩
theorem fo_RX11_10 {M : Mt} (h : mO M = RX11) : FOK M 10 11 0 RX11 TX11 13 := ⟨rfl, by decide, by rw [h]; exact uw16, inU11⟩
theorem fo_RX11_96 {M : Mt} (h : mO M = RX11) : FOK M 96 8 1 RX8 TX8 2 := ⟨rfl, by decide, by rw [h]; exact uw175, inU8⟩
theorem fo_RX8_13 {M : Mt} (h : mO M = RX8) : FOK M 13 8 1 RX8 TX8 2 := ⟨rfl, by decide, by rw [h]; exact uw180, inU8⟩
theorem fo_RX8_9 {M : Mt} (h : mO M = RX8) : FOK M 9 8 0 RX8 TX8 2 := ⟨rfl, by decide, by rw [h]; exact uw63, inU8⟩
theorem fo_RX12_103 {M : Mt} (h : mO M = RX12) : FOK M 103 12 7 RX12 TX12 47 := ⟨rfl, by decide, by rw [h]; exact uw185, inU12⟩
theorem fo_RX12_117 {M : Mt} (h : mO M = RX12) : FOK M 117 12 4 RX12 TX12 47 := ⟨rfl, by decide, by rw [h]; exact uw186, inU12⟩
theorem fo_RX12_16 {M : Mt} (h : mO M = RX12) : FOK M 16 12 3 RX12 TX12 47 := ⟨rfl, by decide, by rw [h]; exact uw142, inU12⟩
theorem fo_RX11_43 {M : Mt} (h : mO M = RX11) : FOK M 43 11 5 RX11 TX11 13 := ⟨rfl, by decide, by rw [h]; exact uw33, inU11⟩
theorem fo_RX11_26 {M : Mt} (h : mO M = RX11) : FOK M 26 11 2 RX11 TX11 13 := ⟨rfl, by decide, by rw [h]; exact uw24, inU11⟩
theorem fo_RX11_250 {M : Mt} (h : mO M = RX11) : FOK M 250 2 5 RX2 TX2 8 := ⟨rfl, by decide, by rw [h]; exact uw218, inU2⟩
theorem fo_RX2_27 {M : Mt} (h : mO M = RX2) : FOK M 27 2 5 RX2 TX2 8 := ⟨rfl, by decide, by rw [h]; exact uw246, inU2⟩
theorem fo_RX2_9 {M : Mt} (h : mO M = RX2) : FOK M 9 2 0 RX2 TX2 8 := ⟨rfl, by decide, by rw [h]; exact uw72, inU2⟩
theorem fo_RX2_15 {M : Mt} (h : mO M = RX2) : FOK M 15 2 1 RX2 TX2 8 := ⟨rfl, by decide, by rw [h]; exact uw73, inU2⟩
theorem fo_RX2_18 {M : Mt} (h : mO M = RX2) : FOK M 18 2 2 RX2 TX2 8 := ⟨rfl, by decide, by rw [h]; exact uw74, inU2⟩
theorem fo_RX2_21 {M : Mt} (h : mO M = RX2) : FOK M 21 2 3 RX2 TX2 8 := ⟨rfl, by decide, by rw [h]; exact uw75, inU2⟩
theorem fo_RX2_24 {M : Mt} (h : mO M = RX2) : FOK M 24 2 4 RX2 TX2 8 := ⟨rfl, by decide, by rw [h]; exact uw76, inU2⟩
theorem fo_RX3_23 {M : Mt} (h : mO M = RX3) : FOK M 23 3 3 RX3 TX3 4 := ⟨rfl, by decide, by rw [h]; exact uw251, inU3⟩
theorem fo_RX3_35 {M : Mt} (h : mO M = RX3) : FOK M 35 3 2 RX3 TX3 4 := ⟨rfl, by decide, by rw [h]; exact uw252, inU3⟩
theorem fo_RX12_123 {M : Mt} (h : mO M = RX12) : FOK M 123 12 9 RX12 TX12 47 := ⟨rfl, by decide, by rw [h]; exact uw257, inU12⟩
theorem fo_RX12_110 {M : Mt} (h : mO M = RX12) : FOK M 110 12 1 RX12 TX12 47 := ⟨rfl, by decide, by rw [h]; exact uw258, inU12⟩
theorem fo_RX12_129 {M : Mt} (h : mO M = RX12) : FOK M 129 12 11 RX12 TX12 47 := ⟨rfl, by decide, by rw [h]; exact uw259, inU12⟩
theorem fo_RX12_24 {M : Mt} (h : mO M = RX12) : FOK M 24 12 13 RX12 TX12 47 := ⟨rfl, by decide, by rw [h]; exact uw144, inU12⟩
theorem fo_RX12_132 {M : Mt} (h : mO M = RX12) : FOK M 132 12 12 RX12 TX12 47 := ⟨rfl, by decide, by rw [h]; exact uw260, inU12⟩
theorem fo_RX12_9 {M : Mt} (h : mO M = RX12) : FOK M 9 12 0 RX12 TX12 47 := ⟨rfl, by decide, by rw [h]; exact uw139, inU12⟩
theorem fo_RX12_13 {M : Mt} (h : mO M = RX12) : FOK M 13 12 2 RX12 TX12 47 := ⟨rfl, by decide, by rw [h]; exact uw140, inU12⟩
theorem fo_RX12_165 {M : Mt} (h : mO M = RX12) : FOK M 165 12 20 RX12 TX12 47 := ⟨rfl, by decide, by rw [h]; exact uw261, inU12⟩
theorem fo_RX12_168 {M : Mt} (h : mO M = RX12) : FOK M 168 12 43 RX12 TX12 47 := ⟨rfl, by decide, by rw [h]; exact uw262, inU12⟩
theorem fo_RX12_120 {M : Mt} (h : mO M = RX12) : FOK M 120 12 8 RX12 TX12 47 := ⟨rfl, by decide, by rw [h]; exact uw271, inU12⟩
theorem fo_RX12_126 {M : Mt} (h : mO M = RX12) : FOK M 126 12 10 RX12 TX12 47 := ⟨rfl, by decide, by rw [h]; exact uw272, inU12⟩
theorem fo_RX11_36 {M : Mt} (h : mO M = RX11) : FOK M 36 11 4 RX11 TX11 13 := ⟨rfl, by decide, by rw [h]; exact uw29, inU11⟩
theorem fo_RX11_89 {M : Mt} (h : mO M = RX11) : FOK M 89 11 12 RX11 TX11 13 := ⟨rfl, by decide, by rw [h]; exact uw58, inU11⟩
theorem fo_RX11_85 {M : Mt} (h : mO M = RX11) : FOK M 85 11 11 RX11 TX11 13 := ⟨rfl, by decide, by rw [h]; exact uw57, inU11⟩
theorem fo_RX6_9 {M : Mt} (h : mO M = RX6) : FOK M 9 8 1 RX8 TX8 2 := ⟨rfl, by decide, by rw [h]; exact uw305, inU8⟩
theorem fo_RX6_20 {M : Mt} (h : mO M = RX6) : FOK M 20 6 0 RX6 TX6 3 := ⟨rfl, by decide, by rw [h]; exact uw306, inU6⟩
theorem fo_RX6_26 {M : Mt} (h : mO M = RX6) : FOK M 26 6 1 RX6 TX6 3 := ⟨rfl, by decide, by rw [h]; exact uw307, inU6⟩
theorem fo_RX6_30 {M : Mt} (h : mO M = RX6) : FOK M 30 6 2 RX6 TX6 3 := ⟨rfl, by decide, by rw [h]; exact uw308, inU6⟩
theorem fo_RX6_33 {M : Mt} (h : mO M = RX6) : FOK M 33 5 2 RX5 TX5 3 := ⟨rfl, by decide, by rw [h]; exact uw309, inU5⟩
theorem fo_RX12_27 {M : Mt} (h : mO M = RX12) : FOK M 27 12 14 RX12 TX12 47 := ⟨rfl, by decide, by rw [h]; exact uw145, inU12⟩
theorem fo_RX12_201 {M : Mt} (h : mO M = RX12) : FOK M 201 12 16 RX12 TX12 47 := ⟨rfl, by decide, by rw [h]; exact uw349, inU12⟩
theorem fo_RX12_194 {M : Mt} (h : mO M = RX12) : FOK M 194 12 17 RX12 TX12 47 := ⟨rfl, by decide, by rw [h]; exact uw354, inU12⟩
theorem fo_RX12_33 {M : Mt} (h : mO M = RX12) : FOK M 33 12 18 RX12 TX12 47 := ⟨rfl, by decide, by rw [h]; exact uw147, inU12⟩
theorem fo_RX11_123 {M : Mt} (h : mO M = RX11) : FOK M 123 2 0 RX2 TX2 8 := ⟨rfl, by decide, by rw [h]; exact uw393, inU2⟩
theorem fo_RX11_127 {M : Mt} (h : mO M = RX11) : FOK M 127 2 1 RX2 TX2 8 := ⟨rfl, by decide, by rw [h]; exact uw394, inU2⟩
theorem fo_RX11_130 {M : Mt} (h : mO M = RX11) : FOK M 130 2 2 RX2 TX2 8 := ⟨rfl, by decide, by rw [h]; exact uw395, inU2⟩
theorem fo_RX5_15 {M : Mt} (h : mO M = RX5) : FOK M 15 5 1 RX5 TX5 3 := ⟨rfl, by decide, by rw [h]; exact uw125, inU5⟩
theorem fo_RX5_37 {M : Mt} (h : mO M = RX5) : FOK M 37 2 3 RX2 TX2 8 := ⟨rfl, by decide, by rw [h]; exact uw419, inU2⟩
theorem fo_RX5_42 {M : Mt} (h : mO M = RX5) : FOK M 42 2 1 RX2 TX2 8 := ⟨rfl, by decide, by rw [h]; exact uw420, inU2⟩
theorem fo_RX5_45 {M : Mt} (h : mO M = RX5) : FOK M 45 2 0 RX2 TX2 8 := ⟨rfl, by decide, by rw [h]; exact uw421, inU2⟩
theorem fo_RX5_62 {M : Mt} (h : mO M = RX5) : FOK M 62 2 4 RX2 TX2 8 := ⟨rfl, by decide, by rw [h]; exact uw425, inU2⟩
theorem fo_RX5_65 {M : Mt} (h : mO M = RX5) : FOK M 65 2 6 RX2 TX2 8 := ⟨rfl, by decide, by rw [h]; exact uw426, inU2⟩
theorem fo_RX11_141 {M : Mt} (h : mO M = RX11) : FOK M 141 2 3 RX2 TX2 8 := ⟨rfl, by decide, by rw [h]; exact uw478, inU2⟩
theorem fo_RX11_144 {M : Mt} (h : mO M = RX11) : FOK M 144 2 4 RX2 TX2 8 := ⟨rfl, by decide, by rw [h]; exact uw479, inU2⟩
theorem fo_RX3_11 {M : Mt} (h : mO M = RX3) : FOK M 11 3 0 RX3 TX3 4 := ⟨rfl, by decide, by rw [h]; exact uw83, inU3⟩
theorem fo_RX3_15 {M : Mt} (h : mO M = RX3) : FOK M 15 3 1 RX3 TX3 4 := ⟨rfl, by decide, by rw [h]; exact uw534, inU3⟩
theorem fo_RX2_37 {M : Mt} (h : mO M = RX2) : FOK M 37 2 6 RX2 TX2 8 := ⟨rfl, by decide, by rw [h]; exact uw543, inU2⟩
theorem fo_RX2_40 {M : Mt} (h : mO M = RX2) : FOK M 40 2 7 RX2 TX2 8 := ⟨rfl, by decide, by rw [h]; exact uw544, inU2⟩
theorem fo_RX12_36 {M : Mt} (h : mO M = RX12) : FOK M 36 12 19 RX12 TX12 47 := ⟨rfl, by decide, by rw [h]; exact uw148, inU12⟩
theorem fo_RX12_42 {M : Mt} (h : mO M = RX12) : FOK M 42 12 22 RX12 TX12 47 := ⟨rfl, by decide, by rw [h]; exact uw150, inU12⟩
theorem fo_RX11_181 {M : Mt} (h : mO M = RX11) : FOK M 181 2 7 RX2 TX2 8 := ⟨rfl, by decide, by rw [h]; exact uw642, inU2⟩
theorem fo_RX11_19 {M : Mt} (h : mO M = RX11) : FOK M 19 11 1 RX11 TX11 13 := ⟨rfl, by decide, by rw [h]; exact uw20, inU11⟩
theorem fo_RX9_15 {M : Mt} (h : mO M = RX9) : FOK M 15 9 1 RX9 TX9 2 := ⟨rfl, by decide, by rw [h]; exact uw655, inU9⟩
theorem fo_RX9_11 {M : Mt} (h : mO M = RX9) : FOK M 11 9 0 RX9 TX9 2 := ⟨rfl, by decide, by rw [h]; exact uw67, inU9⟩
theorem fo_RX12_107 {M : Mt} (h : mO M = RX12) : FOK M 107 12 6 RX12 TX12 47 := ⟨rfl, by decide, by rw [h]; exact uw668, inU12⟩
theorem fo_RX12_20 {M : Mt} (h : mO M = RX12) : FOK M 20 12 5 RX12 TX12 47 := ⟨rfl, by decide, by rw [h]; exact uw143, inU12⟩
theorem fo_RX12_39 {M : Mt} (h : mO M = RX12) : FOK M 39 12 21 RX12 TX12 47 := ⟨rfl, by decide, by rw [h]; exact uw149, inU12⟩
theorem fo_RX12_45 {M : Mt} (h : mO M = RX12) : FOK M 45 12 23 RX12 TX12 47 := ⟨rfl, by decide, by rw [h]; exact uw151, inU12⟩
theorem fo_RX11_214 {M : Mt} (h : mO M = RX11) : FOK M 214 3 3 RX3 TX3 4 := ⟨rfl, by decide, by rw [h]; exact uw716, inU3⟩
theorem fo_RX11_30 {M : Mt} (h : mO M = RX11) : FOK M 30 11 3 RX11 TX11 13 := ⟨rfl, by decide, by rw [h]; exact uw25, inU11⟩
theorem fo_RX11_50 {M : Mt} (h : mO M = RX11) : FOK M 50 11 6 RX11 TX11 13 := ⟨rfl, by decide, by rw [h]; exact uw37, inU11⟩
theorem fo_RX10_34 {M : Mt} (h : mO M = RX10) : FOK M 34 2 3 RX2 TX2 8 := ⟨rfl, by decide, by rw [h]; exact uw741, inU2⟩
theorem fo_RX10_39 {M : Mt} (h : mO M = RX10) : FOK M 39 10 3 RX10 TX10 14 := ⟨rfl, by decide, by rw [h]; exact uw742, inU10⟩
theorem fo_RX10_43 {M : Mt} (h : mO M = RX10) : FOK M 43 10 2 RX10 TX10 14 := ⟨rfl, by decide, by rw [h]; exact uw743, inU10⟩
theorem fo_RX10_54 {M : Mt} (h : mO M = RX10) : FOK M 54 2 4 RX2 TX2 8 := ⟨rfl, by decide, by rw [h]; exact uw744, inU2⟩
theorem fo_RX10_15 {M : Mt} (h : mO M = RX10) : FOK M 15 10 1 RX10 TX10 14 := ⟨rfl, by decide, by rw [h]; exact uw88, inU10⟩
theorem fo_RX10_11 {M : Mt} (h : mO M = RX10) : FOK M 11 10 0 RX10 TX10 14 := ⟨rfl, by decide, by rw [h]; exact uw87, inU10⟩
theorem fo_RX10_18 {M : Mt} (h : mO M = RX10) : FOK M 18 10 4 RX10 TX10 14 := ⟨rfl, by decide, by rw [h]; exact uw89, inU10⟩
theorem fo_RX12_48 {M : Mt} (h : mO M = RX12) : FOK M 48 12 24 RX12 TX12 47 := ⟨rfl, by decide, by rw [h]; exact uw152, inU12⟩
theorem fo_RX12_51 {M : Mt} (h : mO M = RX12) : FOK M 51 12 25 RX12 TX12 47 := ⟨rfl, by decide, by rw [h]; exact uw153, inU12⟩
theorem fo_RX12_54 {M : Mt} (h : mO M = RX12) : FOK M 54 12 26 RX12 TX12 47 := ⟨rfl, by decide, by rw [h]; exact uw154, inU12⟩
theorem fo_RX11_258 {M : Mt} (h : mO M = RX11) : FOK M 258 10 9 RX10 TX10 14 := ⟨rfl, by decide, by rw [h]; exact uw853, inU10⟩
theorem fo_RX11_261 {M : Mt} (h : mO M = RX11) : FOK M 261 10 8 RX10 TX10 14 := ⟨rfl, by decide, by rw [h]; exact uw854, inU10⟩
theorem fo_RX10_61 {M : Mt} (h : mO M = RX10) : FOK M 61 10 12 RX10 TX10 14 := ⟨rfl, by decide, by rw [h]; exact uw859, inU10⟩
theorem fo_RX10_65 {M : Mt} (h : mO M = RX10) : FOK M 65 10 13 RX10 TX10 14 := ⟨rfl, by decide, by rw [h]; exact uw860, inU10⟩
theorem fo_RX10_69 {M : Mt} (h : mO M = RX10) : FOK M 69 10 9 RX10 TX10 14 := ⟨rfl, by decide, by rw [h]; exact uw861, inU10⟩
theorem fo_RX10_72 {M : Mt} (h : mO M = RX10) : FOK M 72 2 5 RX2 TX2 8 := ⟨rfl, by decide, by rw [h]; exact uw862, inU2⟩
theorem fo_RX10_21 {M : Mt} (h : mO M = RX10) : FOK M 21 10 5 RX10 TX10 14 := ⟨rfl, by decide, by rw [h]; exact uw90, inU10⟩
theorem fo_RX10_27 {M : Mt} (h : mO M = RX10) : FOK M 27 10 7 RX10 TX10 14 := ⟨rfl, by decide, by rw [h]; exact uw92, inU10⟩
theorem fo_RX10_85 {M : Mt} (h : mO M = RX10) : FOK M 85 10 11 RX10 TX10 14 := ⟨rfl, by decide, by rw [h]; exact uw863, inU10⟩
theorem fo_RX10_88 {M : Mt} (h : mO M = RX10) : FOK M 88 10 10 RX10 TX10 14 := ⟨rfl, by decide, by rw [h]; exact uw864, inU10⟩
theorem fo_RX10_24 {M : Mt} (h : mO M = RX10) : FOK M 24 10 6 RX10 TX10 14 := ⟨rfl, by decide, by rw [h]; exact uw91, inU10⟩
theorem fo_RX10_31 {M : Mt} (h : mO M = RX10) : FOK M 31 10 8 RX10 TX10 14 := ⟨rfl, by decide, by rw [h]; exact uw93, inU10⟩
theorem fo_RX12_60 {M : Mt} (h : mO M = RX12) : FOK M 60 12 28 RX12 TX12 47 := ⟨rfl, by decide, by rw [h]; exact uw156, inU12⟩
theorem fo_RX12_320 {M : Mt} (h : mO M = RX12) : FOK M 320 12 29 RX12 TX12 47 := ⟨rfl, by decide, by rw [h]; exact uw881, inU12⟩
theorem fo_RX12_57 {M : Mt} (h : mO M = RX12) : FOK M 57 12 27 RX12 TX12 47 := ⟨rfl, by decide, by rw [h]; exact uw155, inU12⟩
theorem fo_RX11_57 {M : Mt} (h : mO M = RX11) : FOK M 57 11 7 RX11 TX11 13 := ⟨rfl, by decide, by rw [h]; exact uw41, inU11⟩
theorem fo_RX11_276 {M : Mt} (h : mO M = RX11) : FOK M 276 0 0 RX0 TX0 3 := ⟨rfl, by decide, by rw [h]; exact uw943, inU0⟩
theorem fo_RX0_21 {M : Mt} (h : mO M = RX0) : FOK M 21 2 5 RX2 TX2 8 := ⟨rfl, by decide, by rw [h]; exact uw948, inU2⟩
theorem fo_RX0_15 {M : Mt} (h : mO M = RX0) : FOK M 15 0 1 RX0 TX0 3 := ⟨rfl, by decide, by rw [h]; exact uw98, inU0⟩
theorem fo_RX0_9 {M : Mt} (h : mO M = RX0) : FOK M 9 0 0 RX0 TX0 3 := ⟨rfl, by decide, by rw [h]; exact uw97, inU0⟩
theorem fo_RX12_63 {M : Mt} (h : mO M = RX12) : FOK M 63 12 30 RX12 TX12 47 := ⟨rfl, by decide, by rw [h]; exact uw157, inU12⟩
theorem fo_RX0_56 {M : Mt} (h : mO M = RX0) : FOK M 56 2 0 RX2 TX2 8 := ⟨rfl, by decide, by rw [h]; exact uw996, inU2⟩
theorem fo_RX12_66 {M : Mt} (h : mO M = RX12) : FOK M 66 12 31 RX12 TX12 47 := ⟨rfl, by decide, by rw [h]; exact uw158, inU12⟩
theorem fo_RX11_289 {M : Mt} (h : mO M = RX11) : FOK M 289 0 2 RX0 TX0 3 := ⟨rfl, by decide, by rw [h]; exact uw1009, inU0⟩
theorem fo_RX0_18 {M : Mt} (h : mO M = RX0) : FOK M 18 0 2 RX0 TX0 3 := ⟨rfl, by decide, by rw [h]; exact uw99, inU0⟩
theorem fo_RX0_59 {M : Mt} (h : mO M = RX0) : FOK M 59 2 2 RX2 TX2 8 := ⟨rfl, by decide, by rw [h]; exact uw1014, inU2⟩
theorem fo_RX12_69 {M : Mt} (h : mO M = RX12) : FOK M 69 12 32 RX12 TX12 47 := ⟨rfl, by decide, by rw [h]; exact uw159, inU12⟩
theorem fo_RX11_64 {M : Mt} (h : mO M = RX11) : FOK M 64 11 8 RX11 TX11 13 := ⟨rfl, by decide, by rw [h]; exact uw45, inU11⟩
theorem fo_RX11_296 {M : Mt} (h : mO M = RX11) : FOK M 296 1 2 RX1 TX1 3 := ⟨rfl, by decide, by rw [h]; exact uw1024, inU1⟩
theorem fo_RX1_22 {M : Mt} (h : mO M = RX1) : FOK M 22 1 2 RX1 TX1 3 := ⟨rfl, by decide, by rw [h]; exact uw1029, inU1⟩
theorem fo_RX1_11 {M : Mt} (h : mO M = RX1) : FOK M 11 1 0 RX1 TX1 3 := ⟨rfl, by decide, by rw [h]; exact uw103, inU1⟩
theorem fo_RX1_15 {M : Mt} (h : mO M = RX1) : FOK M 15 1 1 RX1 TX1 3 := ⟨rfl, by decide, by rw [h]; exact uw104, inU1⟩
theorem fo_RX12_337 {M : Mt} (h : mO M = RX12) : FOK M 337 12 35 RX12 TX12 47 := ⟨rfl, by decide, by rw [h]; exact uw1037, inU12⟩
theorem fo_RX12_72 {M : Mt} (h : mO M = RX12) : FOK M 72 12 33 RX12 TX12 47 := ⟨rfl, by decide, by rw [h]; exact uw160, inU12⟩
theorem fo_RX12_75 {M : Mt} (h : mO M = RX12) : FOK M 75 12 34 RX12 TX12 47 := ⟨rfl, by decide, by rw [h]; exact uw161, inU12⟩
theorem fo_RX1_48 {M : Mt} (h : mO M = RX1) : FOK M 48 2 5 RX2 TX2 8 := ⟨rfl, by decide, by rw [h]; exact uw1054, inU2⟩
theorem fo_RX1_26 {M : Mt} (h : mO M = RX1) : FOK M 26 2 3 RX2 TX2 8 := ⟨rfl, by decide, by rw [h]; exact uw1058, inU2⟩
theorem fo_RX1_31 {M : Mt} (h : mO M = RX1) : FOK M 31 2 4 RX2 TX2 8 := ⟨rfl, by decide, by rw [h]; exact uw1059, inU2⟩
theorem fo_RX1_34 {M : Mt} (h : mO M = RX1) : FOK M 34 2 2 RX2 TX2 8 := ⟨rfl, by decide, by rw [h]; exact uw1060, inU2⟩
theorem fo_RX1_37 {M : Mt} (h : mO M = RX1) : FOK M 37 2 0 RX2 TX2 8 := ⟨rfl, by decide, by rw [h]; exact uw1061, inU2⟩
theorem fo_RX11_71 {M : Mt} (h : mO M = RX11) : FOK M 71 11 9 RX11 TX11 13 := ⟨rfl, by decide, by rw [h]; exact uw49, inU11⟩
theorem fo_RX11_314 {M : Mt} (h : mO M = RX11) : FOK M 314 7 5 RX7 TX7 6 := ⟨rfl, by decide, by rw [h]; exact uw1096, inU7⟩
theorem fo_RX7_25 {M : Mt} (h : mO M = RX7) : FOK M 25 7 5 RX7 TX7 6 := ⟨rfl, by decide, by rw [h]; exact uw1101, inU7⟩
theorem fo_RX7_9 {M : Mt} (h : mO M = RX7) : FOK M 9 7 0 RX7 TX7 6 := ⟨rfl, by decide, by rw [h]; exact uw108, inU7⟩
theorem fo_RX7_13 {M : Mt} (h : mO M = RX7) : FOK M 13 7 1 RX7 TX7 6 := ⟨rfl, by decide, by rw [h]; exact uw109, inU7⟩
theorem fo_RX7_16 {M : Mt} (h : mO M = RX7) : FOK M 16 7 2 RX7 TX7 6 := ⟨rfl, by decide, by rw [h]; exact uw110, inU7⟩
theorem fo_RX12_346 {M : Mt} (h : mO M = RX12) : FOK M 346 12 38 RX12 TX12 47 := ⟨rfl, by decide, by rw [h]; exact uw1106, inU12⟩
theorem fo_RX12_78 {M : Mt} (h : mO M = RX12) : FOK M 78 12 36 RX12 TX12 47 := ⟨rfl, by decide, by rw [h]; exact uw162, inU12⟩
theorem fo_RX12_81 {M : Mt} (h : mO M = RX12) : FOK M 81 12 37 RX12 TX12 47 := ⟨rfl, by decide, by rw [h]; exact uw163, inU12⟩
theorem fo_RX11_321 {M : Mt} (h : mO M = RX11) : FOK M 321 7 3 RX7 TX7 6 := ⟨rfl, by decide, by rw [h]; exact uw1119, inU7⟩
theorem fo_RX7_19 {M : Mt} (h : mO M = RX7) : FOK M 19 7 3 RX7 TX7 6 := ⟨rfl, by decide, by rw [h]; exact uw111, inU7⟩
theorem fo_RX7_22 {M : Mt} (h : mO M = RX7) : FOK M 22 7 4 RX7 TX7 6 := ⟨rfl, by decide, by rw [h]; exact uw112, inU7⟩
theorem fo_RX11_78 {M : Mt} (h : mO M = RX11) : FOK M 78 11 10 RX11 TX11 13 := ⟨rfl, by decide, by rw [h]; exact uw53, inU11⟩
theorem fo_RX4_9 {M : Mt} (h : mO M = RX4) : FOK M 9 4 0 RX4 TX4 6 := ⟨rfl, by decide, by rw [h]; exact uw116, inU4⟩
theorem fo_RX4_15 {M : Mt} (h : mO M = RX4) : FOK M 15 4 1 RX4 TX4 6 := ⟨rfl, by decide, by rw [h]; exact uw117, inU4⟩
theorem fo_RX12_84 {M : Mt} (h : mO M = RX12) : FOK M 84 12 39 RX12 TX12 47 := ⟨rfl, by decide, by rw [h]; exact uw164, inU12⟩
theorem fo_RX12_87 {M : Mt} (h : mO M = RX12) : FOK M 87 12 40 RX12 TX12 47 := ⟨rfl, by decide, by rw [h]; exact uw165, inU12⟩
theorem fo_RX4_40 {M : Mt} (h : mO M = RX4) : FOK M 40 4 3 RX4 TX4 6 := ⟨rfl, by decide, by rw [h]; exact uw1187, inU4⟩
theorem fo_RX4_18 {M : Mt} (h : mO M = RX4) : FOK M 18 4 2 RX4 TX4 6 := ⟨rfl, by decide, by rw [h]; exact uw118, inU4⟩
theorem fo_RX12_90 {M : Mt} (h : mO M = RX12) : FOK M 90 12 41 RX12 TX12 47 := ⟨rfl, by decide, by rw [h]; exact uw167, inU12⟩
theorem fo_RX4_22 {M : Mt} (h : mO M = RX4) : FOK M 22 4 4 RX4 TX4 6 := ⟨rfl, by decide, by rw [h]; exact uw119, inU4⟩
theorem fo_RX12_30 {M : Mt} (h : mO M = RX12) : FOK M 30 12 15 RX12 TX12 47 := ⟨rfl, by decide, by rw [h]; exact uw146, inU12⟩
theorem fo_RX11_360 {M : Mt} (h : mO M = RX11) : FOK M 360 4 5 RX4 TX4 6 := ⟨rfl, by decide, by rw [h]; exact uw1253, inU4⟩
theorem fo_RX4_55 {M : Mt} (h : mO M = RX4) : FOK M 55 4 5 RX4 TX4 6 := ⟨rfl, by decide, by rw [h]; exact uw1258, inU4⟩
theorem fo_RX12_375 {M : Mt} (h : mO M = RX12) : FOK M 375 12 42 RX12 TX12 47 := ⟨rfl, by decide, by rw [h]; exact uw1268, inU12⟩
theorem fo_RX12_97 {M : Mt} (h : mO M = RX12) : FOK M 97 12 45 RX12 TX12 47 := ⟨rfl, by decide, by rw [h]; exact uw169, inU12⟩
theorem fo_RX12_100 {M : Mt} (h : mO M = RX12) : FOK M 100 12 46 RX12 TX12 47 := ⟨rfl, by decide, by rw [h]; exact uw170, inU12⟩
theorem fo_RX12_94 {M : Mt} (h : mO M = RX12) : FOK M 94 12 44 RX12 TX12 47 := ⟨rfl, by decide, by rw [h]; exact uw168, inU12⟩
theorem fo_RX11_376 {M : Mt} (h : mO M = RX11) : FOK M 376 2 6 RX2 TX2 8 := ⟨rfl, by decide, by rw [h]; exact uw1302, inU2⟩
theorem fo_RX11_383 {M : Mt} (h : mO M = RX11) : FOK M 383 9 1 RX9 TX9 2 := ⟨rfl, by decide, by rw [h]; exact uw1303, inU9⟩
theorem fo_RX11_384 {M : Mt} (h : mO M = RX11) : FOK M 384 9 0 RX9 TX9 2 := ⟨rfl, by decide, by rw [h]; exact uw1320, inU9⟩
theorem to_5_2 : TOK TX5 3 2 tyX5 (.int) := ⟨tyX5_ok, nmX5, rfl, by decide +kernel⟩
theorem to_8_1 : TOK TX8 2 1 tyX8 (.int) := ⟨tyX8_ok, nmX8, rfl, by decide +kernel⟩
theorem to_12_7 : TOK TX12 47 7 tyX12 (.int) := ⟨tyX12_ok, nmX12, rfl, by decide +kernel⟩
theorem to_12_4 : TOK TX12 47 4 tyX12 (.int) := ⟨tyX12_ok, nmX12, rfl, by decide +kernel⟩
theorem to_2_5 : TOK TX2 8 5 tyX2 (.int) := ⟨tyX2_ok, nmX2, rfl, by decide +kernel⟩
theorem to_3_3 : TOK TX3 4 3 tyX3 (.int) := ⟨tyX3_ok, nmX3, rfl, by decide +kernel⟩
theorem to_3_2 : TOK TX3 4 2 tyX3 (.int) := ⟨tyX3_ok, nmX3, rfl, by decide +kernel⟩
theorem to_12_1 : TOK TX12 47 1 tyX12 (.int) := ⟨tyX12_ok, nmX12, rfl, by decide +kernel⟩
theorem to_12_20 : TOK TX12 47 20 tyX12 (.int) := ⟨tyX12_ok, nmX12, rfl, by decide +kernel⟩
theorem to_12_43 : TOK TX12 47 43 tyX12 (.int) := ⟨tyX12_ok, nmX12, rfl, by decide +kernel⟩
theorem to_12_8 : TOK TX12 47 8 tyX12 (.array (.byte)) := ⟨tyX12_ok, nmX12, rfl, by decide +kernel⟩
theorem to_12_9 : TOK TX12 47 9 tyX12 (.int) := ⟨tyX12_ok, nmX12, rfl, by decide +kernel⟩
theorem to_12_10 : TOK TX12 47 10 tyX12 (.int) := ⟨tyX12_ok, nmX12, rfl, by decide +kernel⟩
theorem to_12_11 : TOK TX12 47 11 tyX12 (.int) := ⟨tyX12_ok, nmX12, rfl, by decide +kernel⟩
theorem to_12_12 : TOK TX12 47 12 tyX12 (.int) := ⟨tyX12_ok, nmX12, rfl, by decide +kernel⟩
theorem to_11_11 : TOK TX11 13 11 tyX11 (.object "NamesInMouths$Rule") := ⟨tyX11_ok, nmX11, rfl, by decide +kernel⟩
theorem to_11_12 : TOK TX11 13 12 tyX11 (.object "NamesInMouths$Rule") := ⟨tyX11_ok, nmX11, rfl, by decide +kernel⟩
theorem to_6_0 : TOK TX6 3 0 tyX6 (.object "NamesInMouths$Text") := ⟨tyX6_ok, nmX6, rfl, by decide +kernel⟩
theorem to_6_1 : TOK TX6 3 1 tyX6 (.object "NamesInMouths$Rule") := ⟨tyX6_ok, nmX6, rfl, by decide +kernel⟩
theorem to_6_2 : TOK TX6 3 2 tyX6 (.int) := ⟨tyX6_ok, nmX6, rfl, by decide +kernel⟩
theorem to_12_16 : TOK TX12 47 16 tyX12 (.int) := ⟨tyX12_ok, nmX12, rfl, by decide +kernel⟩
theorem to_12_17 : TOK TX12 47 17 tyX12 (.boolean) := ⟨tyX12_ok, nmX12, rfl, by decide +kernel⟩
theorem to_2_7 : TOK TX2 8 7 tyX2 (.int) := ⟨tyX2_ok, nmX2, rfl, by decide +kernel⟩
theorem to_3_1 : TOK TX3 4 1 tyX3 (.int) := ⟨tyX3_ok, nmX3, rfl, by decide +kernel⟩
theorem to_2_6 : TOK TX2 8 6 tyX2 (.int) := ⟨tyX2_ok, nmX2, rfl, by decide +kernel⟩
theorem to_9_1 : TOK TX9 2 1 tyX9 (.int) := ⟨tyX9_ok, nmX9, rfl, by decide +kernel⟩
theorem to_12_6 : TOK TX12 47 6 tyX12 (.int) := ⟨tyX12_ok, nmX12, rfl, by decide +kernel⟩
theorem to_10_3 : TOK TX10 14 3 tyX10 (.int) := ⟨tyX10_ok, nmX10, rfl, by decide +kernel⟩
theorem to_10_2 : TOK TX10 14 2 tyX10 (.int) := ⟨tyX10_ok, nmX10, rfl, by decide +kernel⟩
theorem to_10_12 : TOK TX10 14 12 tyX10 (.object "NamesInMouths$Fen") := ⟨tyX10_ok, nmX10, rfl, by decide +kernel⟩
theorem to_10_13 : TOK TX10 14 13 tyX10 (.object "NamesInMouths$Rule") := ⟨tyX10_ok, nmX10, rfl, by decide +kernel⟩
theorem to_10_9 : TOK TX10 14 9 tyX10 (.int) := ⟨tyX10_ok, nmX10, rfl, by decide +kernel⟩
theorem to_10_11 : TOK TX10 14 11 tyX10 (.int) := ⟨tyX10_ok, nmX10, rfl, by decide +kernel⟩
theorem to_10_10 : TOK TX10 14 10 tyX10 (.int) := ⟨tyX10_ok, nmX10, rfl, by decide +kernel⟩
theorem to_12_29 : TOK TX12 47 29 tyX12 (.int) := ⟨tyX12_ok, nmX12, rfl, by decide +kernel⟩
theorem to_1_2 : TOK TX1 3 2 tyX1 (.int) := ⟨tyX1_ok, nmX1, rfl, by decide +kernel⟩
theorem to_12_35 : TOK TX12 47 35 tyX12 (.int) := ⟨tyX12_ok, nmX12, rfl, by decide +kernel⟩
theorem to_7_5 : TOK TX7 6 5 tyX7 (.int) := ⟨tyX7_ok, nmX7, rfl, by decide +kernel⟩
theorem to_12_38 : TOK TX12 47 38 tyX12 (.int) := ⟨tyX12_ok, nmX12, rfl, by decide +kernel⟩
theorem to_4_3 : TOK TX4 6 3 tyX4 (.boolean) := ⟨tyX4_ok, nmX4, rfl, by decide +kernel⟩
theorem to_12_14 : TOK TX12 47 14 tyX12 (.array (.byte)) := ⟨tyX12_ok, nmX12, rfl, by decide +kernel⟩
theorem to_4_5 : TOK TX4 6 5 tyX4 (.int) := ⟨tyX4_ok, nmX4, rfl, by decide +kernel⟩
theorem to_12_42 : TOK TX12 47 42 tyX12 (.int) := ⟨tyX12_ok, nmX12, rfl, by decide +kernel⟩
end
