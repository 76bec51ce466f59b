def RX0 : String := "ParishRaffle$Barter"
def TX0 : u_T := fun k => match k with
  | 0 => ("ParishRaffle$Barter", "gains", "[I", true)
  | 1 => ("ParishRaffle$Barter", "best", "[I", true)
  | _ => ("ParishRaffle$Barter", "envied", "[I", true)
def tyX0 : Nat → FieldType := fun k => match k with
  | 0 => .array .int
  | 1 => .array .int
  | _ => .array .int
abbrev wsX00 : List Cond := u_ws RX0 TX0 3
theorem nmX0 : ∀ a, a < 3 → ∀ b, b < 3 → a ≠ b → (TX0 a).2.1 ≠ (TX0 b).2.1 := by decide +kernel
theorem tyX0_ok : ∀ k, k < 3 → parseFieldDescriptor (TX0 k).2.2.1 = some (tyX0 k) := by decide +kernel
abbrev cX0_init : ByteArray := prog_2_method_1_code
def yX0_init : MethodName := ⟨RX0, "<init>", "()V"⟩
abbrev cX0_firstSwap : ByteArray := prog_2_method_2_code
def yX0_firstSwap : MethodName := ⟨RX0, "firstSwap", "(LParishRaffle$Parish;LParishRaffle$Stand;)I"⟩
abbrev cX0_bothGain : ByteArray := prog_2_method_3_code
def yX0_bothGain : MethodName := ⟨RX0, "bothGain", "(LParishRaffle$Parish;LParishRaffle$Stand;II)Z"⟩
abbrev cX0_change : ByteArray := prog_2_method_4_code
def yX0_change : MethodName := ⟨RX0, "change", "(LParishRaffle$Parish;LParishRaffle$Stand;II)I"⟩
abbrev cX0_firstGift : ByteArray := prog_2_method_5_code
def yX0_firstGift : MethodName := ⟨RX0, "firstGift", "(LParishRaffle$Parish;LParishRaffle$Stand;)I"⟩
abbrev cX0_isGoodGift : ByteArray := prog_2_method_6_code
def yX0_isGoodGift : MethodName := ⟨RX0, "isGoodGift", "(LParishRaffle$Parish;LParishRaffle$Stand;II)Z"⟩
abbrev cX0_bestSum : ByteArray := prog_2_method_7_code
def yX0_bestSum : MethodName := ⟨RX0, "bestSum", "(LParishRaffle$Parish;LParishRaffle$Stand;)I"⟩
abbrev cX0_bestOwner : ByteArray := prog_2_method_8_code
def yX0_bestOwner : MethodName := ⟨RX0, "bestOwner", "(LParishRaffle$Parish;LParishRaffle$Stand;I)I"⟩
abbrev cX0_bestSharing : ByteArray := prog_2_method_9_code
def yX0_bestSharing : MethodName := ⟨RX0, "bestSharing", "(LParishRaffle$Parish;I)I"⟩
abbrev cX0_tellGains : ByteArray := prog_2_method_10_code
def yX0_tellGains : MethodName := ⟨RX0, "tellGains", "(LParishRaffle$Parish;II)V"⟩
abbrev cX0_bestWith : ByteArray := prog_2_method_11_code
def yX0_bestWith : MethodName := ⟨RX0, "bestWith", "(I)I"⟩
abbrev cX0_placeOf : ByteArray := prog_2_method_12_code
def yX0_placeOf : MethodName := ⟨RX0, "placeOf", "(I)I"⟩
abbrev cX0_sumIn : ByteArray := prog_2_method_13_code
def yX0_sumIn : MethodName := ⟨RX0, "sumIn", "(I)I"⟩
abbrev cX0_firstEnvy : ByteArray := prog_2_method_14_code
def yX0_firstEnvy : MethodName := ⟨RX0, "firstEnvy", "(LParishRaffle$Parish;LParishRaffle$Stand;)I"⟩
abbrev cX0_envies : ByteArray := prog_2_method_15_code
def yX0_envies : MethodName := ⟨RX0, "envies", "(LParishRaffle$Parish;LParishRaffle$Stand;II)Z"⟩
abbrev cX0_shortestRing : ByteArray := prog_2_method_16_code
def yX0_shortestRing : MethodName := ⟨RX0, "shortestRing", "(LParishRaffle$Parish;LParishRaffle$Stand;)I"⟩
abbrev cX0_tellEnvied : ByteArray := prog_2_method_17_code
def yX0_tellEnvied : MethodName := ⟨RX0, "tellEnvied", "(LParishRaffle$Parish;LParishRaffle$Stand;)V"⟩
abbrev cX0_comesBack : ByteArray := prog_2_method_18_code
def yX0_comesBack : MethodName := ⟨RX0, "comesBack", "(LParishRaffle$Parish;II)Z"⟩
def RX1 : String := "ParishRaffle$Notes"
def TX1 : u_T := fun k => match k with
  | 0 => ("ParishRaffle$Notes", "drawn", "[I", true)
  | _ => ("ParishRaffle$Notes", "size", "I", false)
def tyX1 : Nat → FieldType := fun k => match k with
  | 0 => .array .int
  | _ => .int
abbrev wsX10 : List Cond := u_ws RX1 TX1 2
theorem nmX1 : ∀ a, a < 2 → ∀ b, b < 2 → a ≠ b → (TX1 a).2.1 ≠ (TX1 b).2.1 := by decide +kernel
theorem tyX1_ok : ∀ k, k < 2 → parseFieldDescriptor (TX1 k).2.2.1 = some (tyX1 k) := by decide +kernel
abbrev cX1_init : ByteArray := prog_3_method_1_code
def yX1_init : MethodName := ⟨RX1, "<init>", "()V"⟩
abbrev cX1_add : ByteArray := prog_3_method_2_code
def yX1_add : MethodName := ⟨RX1, "add", "(I)V"⟩
abbrev cX1_clear : ByteArray := prog_3_method_3_code
def yX1_clear : MethodName := ⟨RX1, "clear", "()V"⟩
abbrev cX1_canBe : ByteArray := prog_3_method_4_code
def yX1_canBe : MethodName := ⟨RX1, "canBe", "(LParishRaffle$Parish;)Z"⟩
abbrev cX1_loadedWeight : ByteArray := prog_3_method_5_code
def yX1_loadedWeight : MethodName := ⟨RX1, "loadedWeight", "(LParishRaffle$Parish;I)J"⟩
abbrev cX1_evenWeight : ByteArray := prog_3_method_6_code
def yX1_evenWeight : MethodName := ⟨RX1, "evenWeight", "(LParishRaffle$Parish;I)J"⟩
abbrev cX1_power : ByteArray := prog_3_method_7_code
def yX1_power : MethodName := ⟨RX1, "power", "(JI)J"⟩
def RX2 : String := "ParishRaffle$Parish"
def TX2 : u_T := fun k => match k with
  | 0 => ("ParishRaffle$Parish", "tickets", "[I", true)
  | 1 => ("ParishRaffle$Parish", "kinds", "[I", true)
  | 2 => ("ParishRaffle$Parish", "worths", "[I", true)
  | 3 => ("ParishRaffle$Parish", "likings", "[I", true)
  | 4 => ("ParishRaffle$Parish", "rows", "[J", true)
  | 5 => ("ParishRaffle$Parish", "persons", "I", false)
  | _ => ("ParishRaffle$Parish", "things", "I", false)
def tyX2 : Nat → FieldType := fun k => match k with
  | 0 => .array .int
  | 1 => .array .int
  | 2 => .array .int
  | 3 => .array .int
  | 4 => .array .long
  | 5 => .int
  | _ => .int
abbrev wsX20 : List Cond := u_ws RX2 TX2 7
theorem nmX2 : ∀ a, a < 7 → ∀ b, b < 7 → a ≠ b → (TX2 a).2.1 ≠ (TX2 b).2.1 := by decide +kernel
theorem tyX2_ok : ∀ k, k < 7 → parseFieldDescriptor (TX2 k).2.2.1 = some (tyX2 k) := by decide +kernel
abbrev cX2_init : ByteArray := prog_4_method_1_code
def yX2_init : MethodName := ⟨RX2, "<init>", "()V"⟩
abbrev cX2_clear : ByteArray := prog_4_method_2_code
def yX2_clear : MethodName := ⟨RX2, "clear", "()V"⟩
abbrev cX2_isPerson : ByteArray := prog_4_method_3_code
def yX2_isPerson : MethodName := ⟨RX2, "isPerson", "(I)Z"⟩
abbrev cX2_isThing : ByteArray := prog_4_method_4_code
def yX2_isThing : MethodName := ⟨RX2, "isThing", "(I)Z"⟩
abbrev cX2_addPerson : ByteArray := prog_4_method_5_code
def yX2_addPerson : MethodName := ⟨RX2, "addPerson", "(I)Z"⟩
abbrev cX2_addThing : ByteArray := prog_4_method_6_code
def yX2_addThing : MethodName := ⟨RX2, "addThing", "(II)Z"⟩
abbrev cX2_addLiking : ByteArray := prog_4_method_7_code
def yX2_addLiking : MethodName := ⟨RX2, "addLiking", "(III)Z"⟩
abbrev cX2_likingOf : ByteArray := prog_4_method_8_code
def yX2_likingOf : MethodName := ⟨RX2, "likingOf", "(II)I"⟩
abbrev cX2_allTickets : ByteArray := prog_4_method_9_code
def yX2_allTickets : MethodName := ⟨RX2, "allTickets", "()I"⟩
abbrev cX2_worthTo : ByteArray := prog_4_method_10_code
def yX2_worthTo : MethodName := ⟨RX2, "worthTo", "(II)I"⟩
abbrev cX2_countOf : ByteArray := prog_4_method_11_code
def yX2_countOf : MethodName := ⟨RX2, "countOf", "(II)I"⟩
abbrev cX2_ownWorth : ByteArray := prog_4_method_12_code
def yX2_ownWorth : MethodName := ⟨RX2, "ownWorth", "(III)I"⟩
abbrev cX2_rowsOf : ByteArray := prog_4_method_13_code
def yX2_rowsOf : MethodName := ⟨RX2, "rowsOf", "(I)J"⟩
def RX3 : String := "ParishRaffle$Stand"
def TX3 : u_T := fun k => match k with
  | _ => ("ParishRaffle$Stand", "cells", "[I", true)
def tyX3 : Nat → FieldType := fun k => match k with
  | _ => .array .int
abbrev wsX30 : List Cond := u_ws RX3 TX3 1
theorem nmX3 : ∀ a, a < 1 → ∀ b, b < 1 → a ≠ b → (TX3 a).2.1 ≠ (TX3 b).2.1 := by decide +kernel
theorem tyX3_ok : ∀ k, k < 1 → parseFieldDescriptor (TX3 k).2.2.1 = some (tyX3 k) := by decide +kernel
abbrev cX3_init : ByteArray := prog_5_method_1_code
def yX3_init : MethodName := ⟨RX3, "<init>", "()V"⟩
abbrev cX3_start : ByteArray := prog_5_method_2_code
def yX3_start : MethodName := ⟨RX3, "start", "(LParishRaffle$Parish;)V"⟩
abbrev cX3_copy : ByteArray := prog_5_method_3_code
def yX3_copy : MethodName := ⟨RX3, "copy", "(LParishRaffle$Stand;)V"⟩
abbrev cX3_ticketsOf : ByteArray := prog_5_method_4_code
def yX3_ticketsOf : MethodName := ⟨RX3, "ticketsOf", "(I)I"⟩
abbrev cX3_ownerOf : ByteArray := prog_5_method_5_code
def yX3_ownerOf : MethodName := ⟨RX3, "ownerOf", "(I)I"⟩
abbrev cX3_next : ByteArray := prog_5_method_6_code
def yX3_next : MethodName := ⟨RX3, "next", "()I"⟩
abbrev cX3_refusable : ByteArray := prog_5_method_7_code
def yX3_refusable : MethodName := ⟨RX3, "refusable", "()I"⟩
abbrev cX3_tickets : ByteArray := prog_5_method_8_code
def yX3_tickets : MethodName := ⟨RX3, "tickets", "()I"⟩
abbrev cX3_ticketHolder : ByteArray := prog_5_method_9_code
def yX3_ticketHolder : MethodName := ⟨RX3, "ticketHolder", "(I)I"⟩
abbrev cX3_setOf : ByteArray := prog_5_method_10_code
def yX3_setOf : MethodName := ⟨RX3, "setOf", "(I)I"⟩
abbrev cX3_ownedSet : ByteArray := prog_5_method_11_code
def yX3_ownedSet : MethodName := ⟨RX3, "ownedSet", "()I"⟩
abbrev cX3_ownedThings : ByteArray := prog_5_method_12_code
def yX3_ownedThings : MethodName := ⟨RX3, "ownedThings", "()I"⟩
abbrev cX3_takeNext : ByteArray := prog_5_method_13_code
def yX3_takeNext : MethodName := ⟨RX3, "takeNext", "(I)V"⟩
abbrev cX3_putBack : ByteArray := prog_5_method_14_code
def yX3_putBack : MethodName := ⟨RX3, "putBack", "(I)V"⟩
abbrev cX3_addTickets : ByteArray := prog_5_method_15_code
def yX3_addTickets : MethodName := ⟨RX3, "addTickets", "(II)V"⟩
abbrev cX3_pass : ByteArray := prog_5_method_16_code
def yX3_pass : MethodName := ⟨RX3, "pass", "(II)V"⟩
def RX4 : String := "ParishRaffle$Stands"
def TX4 : u_T := fun k => match k with
  | 0 => ("ParishRaffle$Stands", "rows", "[I", true)
  | 1 => ("ParishRaffle$Stands", "room", "I", true)
  | _ => ("ParishRaffle$Stands", "size", "I", false)
def tyX4 : Nat → FieldType := fun k => match k with
  | 0 => .array .int
  | 1 => .int
  | _ => .int
abbrev wsX40 : List Cond := u_ws RX4 TX4 3
theorem nmX4 : ∀ a, a < 3 → ∀ b, b < 3 → a ≠ b → (TX4 a).2.1 ≠ (TX4 b).2.1 := by decide +kernel
theorem tyX4_ok : ∀ k, k < 3 → parseFieldDescriptor (TX4 k).2.2.1 = some (tyX4 k) := by decide +kernel
abbrev cX4_init : ByteArray := prog_6_method_1_code
def yX4_init : MethodName := ⟨RX4, "<init>", "(I)V"⟩
abbrev cX4_isFull : ByteArray := prog_6_method_2_code
def yX4_isFull : MethodName := ⟨RX4, "isFull", "()Z"⟩
abbrev cX4_clear : ByteArray := prog_6_method_3_code
def yX4_clear : MethodName := ⟨RX4, "clear", "()V"⟩
abbrev cX4_push : ByteArray := prog_6_method_4_code
def yX4_push : MethodName := ⟨RX4, "push", "(LParishRaffle$Stand;)V"⟩
abbrev cX4_pop : ByteArray := prog_6_method_5_code
def yX4_pop : MethodName := ⟨RX4, "pop", "(LParishRaffle$Stand;)Z"⟩
def RX5 : String := "ParishRaffle$Text"
def TX5 : u_T := fun k => match k with
  | 0 => ("ParishRaffle$Text", "letters", "[C", true)
  | 1 => ("ParishRaffle$Text", "numbers", "[I", true)
  | 2 => ("ParishRaffle$Text", "length", "I", false)
  | _ => ("ParishRaffle$Text", "at", "I", false)
def tyX5 : Nat → FieldType := fun k => match k with
  | 0 => .array .char
  | 1 => .array .int
  | 2 => .int
  | _ => .int
abbrev wsX50 : List Cond := u_ws RX5 TX5 4
theorem nmX5 : ∀ a, a < 4 → ∀ b, b < 4 → a ≠ b → (TX5 a).2.1 ≠ (TX5 b).2.1 := by decide +kernel
theorem tyX5_ok : ∀ k, k < 4 → parseFieldDescriptor (TX5 k).2.2.1 = some (tyX5 k) := by decide +kernel
abbrev cX5_init : ByteArray := prog_7_method_1_code
def yX5_init : MethodName := ⟨RX5, "<init>", "()V"⟩
abbrev cX5_append : ByteArray := prog_7_method_2_code
def yX5_append : MethodName := ⟨RX5, "append", "(C)Z"⟩
abbrev cX5_clear : ByteArray := prog_7_method_3_code
def yX5_clear : MethodName := ⟨RX5, "clear", "()V"⟩
abbrev cX5_tell : ByteArray := prog_7_method_4_code
def yX5_tell : MethodName := ⟨RX5, "tell", "(LParishRaffle$Parish;)I"⟩
abbrev cX5_tellItem : ByteArray := prog_7_method_5_code
def yX5_tellItem : MethodName := ⟨RX5, "tellItem", "(LParishRaffle$Parish;)Z"⟩
abbrev cX5_readNumbers : ByteArray := prog_7_method_6_code
def yX5_readNumbers : MethodName := ⟨RX5, "readNumbers", "(I)Z"⟩
abbrev cX5_isFigure : ByteArray := prog_7_method_7_code
def yX5_isFigure : MethodName := ⟨RX5, "isFigure", "()Z"⟩
abbrev cX5_nextLetter : ByteArray := prog_7_method_8_code
def yX5_nextLetter : MethodName := ⟨RX5, "nextLetter", "()I"⟩
def RX6 : String := "ParishRaffle"
def TX6 : u_T := fun k => match k with
  | 0 => ("ParishRaffle", "text", "LParishRaffle$Text;", true)
  | 1 => ("ParishRaffle", "now", "LParishRaffle$Stand;", true)
  | 2 => ("ParishRaffle", "trial", "LParishRaffle$Stand;", true)
  | 3 => ("ParishRaffle", "past", "LParishRaffle$Stands;", true)
  | 4 => ("ParishRaffle", "kept", "LParishRaffle$Stands;", true)
  | 5 => ("ParishRaffle", "notes", "LParishRaffle$Notes;", true)
  | 6 => ("ParishRaffle", "barter", "LParishRaffle$Barter;", true)
  | 7 => ("ParishRaffle", "parish", "LParishRaffle$Parish;", false)
  | _ => ("ParishRaffle", "spare", "LParishRaffle$Parish;", false)
def tyX6 : Nat → FieldType := fun k => match k with
  | 0 => .object "ParishRaffle$Text"
  | 1 => .object "ParishRaffle$Stand"
  | 2 => .object "ParishRaffle$Stand"
  | 3 => .object "ParishRaffle$Stands"
  | 4 => .object "ParishRaffle$Stands"
  | 5 => .object "ParishRaffle$Notes"
  | 6 => .object "ParishRaffle$Barter"
  | 7 => .object "ParishRaffle$Parish"
  | _ => .object "ParishRaffle$Parish"
abbrev wsX60 : List Cond := u_ws RX6 TX6 9
theorem nmX6 : ∀ a, a < 9 → ∀ b, b < 9 → a ≠ b → (TX6 a).2.1 ≠ (TX6 b).2.1 := by decide +kernel
theorem tyX6_ok : ∀ k, k < 9 → parseFieldDescriptor (TX6 k).2.2.1 = some (tyX6 k) := by decide +kernel
abbrev cX6_init : ByteArray := prog_1_method_1_code
def yX6_init : MethodName := ⟨RX6, "<init>", "()V"⟩
abbrev cX6_write : ByteArray := prog_1_method_2_code
def yX6_write : MethodName := ⟨RX6, "write", "(I)I"⟩
abbrev cX6_wipe : ByteArray := prog_1_method_3_code
def yX6_wipe : MethodName := ⟨RX6, "wipe", "()I"⟩
abbrev cX6_fault : ByteArray := prog_1_method_4_code
def yX6_fault : MethodName := ⟨RX6, "fault", "()I"⟩
abbrev cX6_lay : ByteArray := prog_1_method_5_code
def yX6_lay : MethodName := ⟨RX6, "lay", "()I"⟩
abbrev cX6_person : ByteArray := prog_1_method_6_code
def yX6_person : MethodName := ⟨RX6, "person", "(II)I"⟩
abbrev cX6_thing : ByteArray := prog_1_method_7_code
def yX6_thing : MethodName := ⟨RX6, "thing", "(II)I"⟩
abbrev cX6_likes : ByteArray := prog_1_method_8_code
def yX6_likes : MethodName := ⟨RX6, "likes", "(II)I"⟩
abbrev cX6_draw : ByteArray := prog_1_method_9_code
def yX6_draw : MethodName := ⟨RX6, "draw", "(I)I"⟩
abbrev cX6_refuse : ByteArray := prog_1_method_10_code
def yX6_refuse : MethodName := ⟨RX6, "refuse", "()I"⟩
abbrev cX6_buy : ByteArray := prog_1_method_11_code
def yX6_buy : MethodName := ⟨RX6, "buy", "(II)I"⟩
abbrev cX6_hand : ByteArray := prog_1_method_12_code
def yX6_hand : MethodName := ⟨RX6, "hand", "(II)I"⟩
abbrev cX6_swap : ByteArray := prog_1_method_13_code
def yX6_swap : MethodName := ⟨RX6, "swap", "(II)I"⟩
abbrev cX6_give : ByteArray := prog_1_method_14_code
def yX6_give : MethodName := ⟨RX6, "give", "(II)I"⟩
abbrev cX6_undo : ByteArray := prog_1_method_15_code
def yX6_undo : MethodName := ⟨RX6, "undo", "()I"⟩
abbrev cX6_wins : ByteArray := prog_1_method_16_code
def yX6_wins : MethodName := ⟨RX6, "wins", "(III)I"⟩
abbrev cX6_mean : ByteArray := prog_1_method_17_code
def yX6_mean : MethodName := ⟨RX6, "mean", "(II)J"⟩
abbrev cX6_needs : ByteArray := prog_1_method_18_code
def yX6_needs : MethodName := ⟨RX6, "needs", "(III)I"⟩
abbrev cX6_swaps : ByteArray := prog_1_method_19_code
def yX6_swaps : MethodName := ⟨RX6, "swaps", "()I"⟩
abbrev cX6_gives : ByteArray := prog_1_method_20_code
def yX6_gives : MethodName := ⟨RX6, "gives", "()I"⟩
abbrev cX6_share : ByteArray := prog_1_method_21_code
def yX6_share : MethodName := ⟨RX6, "share", "(I)I"⟩
abbrev cX6_envy : ByteArray := prog_1_method_22_code
def yX6_envy : MethodName := ⟨RX6, "envy", "()I"⟩
abbrev cX6_ring : ByteArray := prog_1_method_23_code
def yX6_ring : MethodName := ⟨RX6, "ring", "()I"⟩
abbrev cX6_note : ByteArray := prog_1_method_24_code
def yX6_note : MethodName := ⟨RX6, "note", "(I)I"⟩
abbrev cX6_forget : ByteArray := prog_1_method_25_code
def yX6_forget : MethodName := ⟨RX6, "forget", "()I"⟩
abbrev cX6_fair : ByteArray := prog_1_method_26_code
def yX6_fair : MethodName := ⟨RX6, "fair", "(III)J"⟩
abbrev cX6_seats : ByteArray := prog_1_method_27_code
def yX6_seats : MethodName := ⟨RX6, "seats", "(I)J"⟩
abbrev cX6_year : ByteArray := prog_1_method_28_code
def yX6_year : MethodName := ⟨RX6, "year", "(III)I"⟩
abbrev cX6_keep : ByteArray := prog_1_method_29_code
def yX6_keep : MethodName := ⟨RX6, "keep", "()I"⟩
abbrev cX6_back : ByteArray := prog_1_method_30_code
def yX6_back : MethodName := ⟨RX6, "back", "()I"⟩
abbrev cX6_count : ByteArray := prog_1_method_31_code
def yX6_count : MethodName := ⟨RX6, "count", "(I)I"⟩
abbrev cX6_isPart : ByteArray := prog_1_method_32_code
def yX6_isPart : MethodName := ⟨RX6, "isPart", "(I)Z"⟩
abbrev cX6_drawsAhead : ByteArray := prog_1_method_33_code
def yX6_drawsAhead : MethodName := ⟨RX6, "drawsAhead", "(II)I"⟩
abbrev cX6_worthOverWays : ByteArray := prog_1_method_34_code
def yX6_worthOverWays : MethodName := ⟨RX6, "worthOverWays", "(III)J"⟩
abbrev cX6_worthOfAll : ByteArray := prog_1_method_35_code
def yX6_worthOfAll : MethodName := ⟨RX6, "worthOfAll", "(LParishRaffle$Stand;)I"⟩
abbrev cX6_takeTurn : ByteArray := prog_1_method_36_code
def yX6_takeTurn : MethodName := ⟨RX6, "takeTurn", "(I)V"⟩
abbrev cX6_tryDraw : ByteArray := prog_1_method_37_code
def yX6_tryDraw : MethodName := ⟨RX6, "tryDraw", "(I)V"⟩
abbrev cX6_tryBuy : ByteArray := prog_1_method_38_code
def yX6_tryBuy : MethodName := ⟨RX6, "tryBuy", "(II)V"⟩
abbrev cX6_tryGive : ByteArray := prog_1_method_39_code
def yX6_tryGive : MethodName := ⟨RX6, "tryGive", "(II)V"⟩
abbrev cX6_falling : ByteArray := prog_1_method_40_code
def yX6_falling : MethodName := ⟨RX6, "falling", "(II)J"⟩
abbrev cX6_lowest : ByteArray := prog_1_method_41_code
def yX6_lowest : MethodName := ⟨RX6, "lowest", "(JJI)J"⟩
abbrev cX6_commonDivisor : ByteArray := prog_1_method_42_code
def yX6_commonDivisor : MethodName := ⟨RX6, "commonDivisor", "(JJ)J"⟩
def RX7 : String := "ParishRaffleModel"
def TX7 : u_T := fun k => match k with
  | 0 => ("ParishRaffleModel", "text", "[B", true)
  | 1 => ("ParishRaffleModel", "typed", "I", false)
  | 2 => ("ParishRaffleModel", "people", "[I", true)
  | 3 => ("ParishRaffleModel", "things", "[I", true)
  | 4 => ("ParishRaffleModel", "laid", "[I", true)
  | 5 => ("ParishRaffleModel", "kind", "[I", true)
  | 6 => ("ParishRaffleModel", "worth", "[I", true)
  | 7 => ("ParishRaffleModel", "like", "[I", true)
  | 8 => ("ParishRaffleModel", "at", "I", false)
  | 9 => ("ParishRaffleModel", "isWrong", "Z", false)
  | 10 => ("ParishRaffleModel", "now", "[I", true)
  | 11 => ("ParishRaffleModel", "before", "[I", true)
  | 12 => ("ParishRaffleModel", "many", "I", false)
  | 13 => ("ParishRaffleModel", "store", "[I", true)
  | 14 => ("ParishRaffleModel", "kept", "I", false)
  | 15 => ("ParishRaffleModel", "tried", "[I", true)
  | 16 => ("ParishRaffleModel", "noted", "[I", true)
  | 17 => ("ParishRaffleModel", "notes", "I", false)
  | 18 => ("ParishRaffleModel", "ends", "[J", true)
  | _ => ("ParishRaffleModel", "goOn", "[J", true)
def tyX7 : Nat → FieldType := fun k => match k with
  | 0 => .array .byte
  | 1 => .int
  | 2 => .array .int
  | 3 => .array .int
  | 4 => .array .int
  | 5 => .array .int
  | 6 => .array .int
  | 7 => .array .int
  | 8 => .int
  | 9 => .boolean
  | 10 => .array .int
  | 11 => .array .int
  | 12 => .int
  | 13 => .array .int
  | 14 => .int
  | 15 => .array .int
  | 16 => .array .int
  | 17 => .int
  | 18 => .array .long
  | _ => .array .long
abbrev wsX70 : List Cond := u_ws RX7 TX7 20
theorem nmX7 : ∀ a, a < 20 → ∀ b, b < 20 → a ≠ b → (TX7 a).2.1 ≠ (TX7 b).2.1 := by decide +kernel
theorem tyX7_ok : ∀ k, k < 20 → parseFieldDescriptor (TX7 k).2.2.1 = some (tyX7 k) := by decide +kernel
abbrev cX7_init : ByteArray := prog_9_method_1_code
def yX7_init : MethodName := ⟨RX7, "<init>", "()V"⟩
abbrev cX7_in : ByteArray := prog_9_method_3_code
def yX7_in : MethodName := ⟨RX7, "in", "(III)Z"⟩
abbrev cX7_has : ByteArray := prog_9_method_4_code
def yX7_has : MethodName := ⟨RX7, "has", "(II)Z"⟩
abbrev cX7_bitsOf : ByteArray := prog_9_method_5_code
def yX7_bitsOf : MethodName := ⟨RX7, "bitsOf", "(I)I"⟩
abbrev cX7_write : ByteArray := prog_9_method_6_code
def yX7_write : MethodName := ⟨RX7, "write", "(I)I"⟩
abbrev cX7_wipe : ByteArray := prog_9_method_7_code
def yX7_wipe : MethodName := ⟨RX7, "wipe", "()I"⟩
abbrev cX7_here : ByteArray := prog_9_method_8_code
def yX7_here : MethodName := ⟨RX7, "here", "()I"⟩
abbrev cX7_isFigure : ByteArray := prog_9_method_9_code
def yX7_isFigure : MethodName := ⟨RX7, "isFigure", "()Z"⟩
abbrev cX7_due : ByteArray := prog_9_method_10_code
def yX7_due : MethodName := ⟨RX7, "due", "(I)V"⟩
abbrev cX7_number : ByteArray := prog_9_method_11_code
def yX7_number : MethodName := ⟨RX7, "number", "(II)I"⟩
abbrev cX7_readPerson : ByteArray := prog_9_method_12_code
def yX7_readPerson : MethodName := ⟨RX7, "readPerson", "()V"⟩
abbrev cX7_readThing : ByteArray := prog_9_method_13_code
def yX7_readThing : MethodName := ⟨RX7, "readThing", "()V"⟩
abbrev cX7_readLike : ByteArray := prog_9_method_14_code
def yX7_readLike : MethodName := ⟨RX7, "readLike", "()V"⟩
abbrev cX7_readItem : ByteArray := prog_9_method_15_code
def yX7_readItem : MethodName := ⟨RX7, "readItem", "()V"⟩
abbrev cX7_begin : ByteArray := prog_9_method_16_code
def yX7_begin : MethodName := ⟨RX7, "begin", "()V"⟩
abbrev cX7_read : ByteArray := prog_9_method_17_code
def yX7_read : MethodName := ⟨RX7, "read", "()I"⟩
abbrev cX7_fault : ByteArray := prog_9_method_18_code
def yX7_fault : MethodName := ⟨RX7, "fault", "()I"⟩
abbrev cX7_tellPerson : ByteArray := prog_9_method_19_code
def yX7_tellPerson : MethodName := ⟨RX7, "tellPerson", "(I)V"⟩
abbrev cX7_tellThing : ByteArray := prog_9_method_20_code
def yX7_tellThing : MethodName := ⟨RX7, "tellThing", "(II)V"⟩
abbrev cX7_tellLike : ByteArray := prog_9_method_21_code
def yX7_tellLike : MethodName := ⟨RX7, "tellLike", "(III)V"⟩
abbrev cX7_first : ByteArray := prog_9_method_22_code
def yX7_first : MethodName := ⟨RX7, "first", "()V"⟩
abbrev cX7_takeDraft : ByteArray := prog_9_method_23_code
def yX7_takeDraft : MethodName := ⟨RX7, "takeDraft", "()V"⟩
abbrev cX7_lay : ByteArray := prog_9_method_24_code
def yX7_lay : MethodName := ⟨RX7, "lay", "()I"⟩
abbrev cX7_take : ByteArray := prog_9_method_25_code
def yX7_take : MethodName := ⟨RX7, "take", "()V"⟩
abbrev cX7_isPerson : ByteArray := prog_9_method_26_code
def yX7_isPerson : MethodName := ⟨RX7, "isPerson", "(I)Z"⟩
abbrev cX7_isThing : ByteArray := prog_9_method_27_code
def yX7_isThing : MethodName := ⟨RX7, "isThing", "(I)Z"⟩
abbrev cX7_hatOf : ByteArray := prog_9_method_28_code
def yX7_hatOf : MethodName := ⟨RX7, "hatOf", "([I)I"⟩
abbrev cX7_hadBy : ByteArray := prog_9_method_29_code
def yX7_hadBy : MethodName := ⟨RX7, "hadBy", "([II)I"⟩
abbrev cX7_worthOf : ByteArray := prog_9_method_30_code
def yX7_worthOf : MethodName := ⟨RX7, "worthOf", "(II)I"⟩
abbrev cX7_worthOfAll : ByteArray := prog_9_method_31_code
def yX7_worthOfAll : MethodName := ⟨RX7, "worthOfAll", "([I)I"⟩
abbrev cX7_thingsHad : ByteArray := prog_9_method_32_code
def yX7_thingsHad : MethodName := ⟨RX7, "thingsHad", "([I)I"⟩
abbrev cX7_person : ByteArray := prog_9_method_33_code
def yX7_person : MethodName := ⟨RX7, "person", "(II)I"⟩
abbrev cX7_thing : ByteArray := prog_9_method_34_code
def yX7_thing : MethodName := ⟨RX7, "thing", "(II)I"⟩
abbrev cX7_likes : ByteArray := prog_9_method_35_code
def yX7_likes : MethodName := ⟨RX7, "likes", "(II)I"⟩
abbrev cX7_know : ByteArray := prog_9_method_36_code
def yX7_know : MethodName := ⟨RX7, "know", "()V"⟩
abbrev cX7_drawOn : ByteArray := prog_9_method_37_code
def yX7_drawOn : MethodName := ⟨RX7, "drawOn", "([II)I"⟩
abbrev cX7_touch : ByteArray := prog_9_method_38_code
def yX7_touch : MethodName := ⟨RX7, "touch", "([II)V"⟩
abbrev cX7_draw : ByteArray := prog_9_method_39_code
def yX7_draw : MethodName := ⟨RX7, "draw", "(I)I"⟩
abbrev cX7_refuse : ByteArray := prog_9_method_40_code
def yX7_refuse : MethodName := ⟨RX7, "refuse", "()I"⟩
abbrev cX7_buy : ByteArray := prog_9_method_41_code
def yX7_buy : MethodName := ⟨RX7, "buy", "(II)I"⟩
abbrev cX7_hand : ByteArray := prog_9_method_42_code
def yX7_hand : MethodName := ⟨RX7, "hand", "(II)I"⟩
abbrev cX7_swap : ByteArray := prog_9_method_43_code
def yX7_swap : MethodName := ⟨RX7, "swap", "(II)I"⟩
abbrev cX7_give : ByteArray := prog_9_method_44_code
def yX7_give : MethodName := ⟨RX7, "give", "(II)I"⟩
abbrev cX7_undo : ByteArray := prog_9_method_45_code
def yX7_undo : MethodName := ⟨RX7, "undo", "()I"⟩
abbrev cX7_common : ByteArray := prog_9_method_46_code
def yX7_common : MethodName := ⟨RX7, "common", "(JJ)J"⟩
abbrev cX7_rows : ByteArray := prog_9_method_47_code
def yX7_rows : MethodName := ⟨RX7, "rows", "(II)J"⟩
abbrev cX7_drawn : ByteArray := prog_9_method_48_code
def yX7_drawn : MethodName := ⟨RX7, "drawn", "(II)I"⟩
abbrev cX7_wins : ByteArray := prog_9_method_49_code
def yX7_wins : MethodName := ⟨RX7, "wins", "(III)I"⟩
abbrev cX7_mean : ByteArray := prog_9_method_50_code
def yX7_mean : MethodName := ⟨RX7, "mean", "(II)J"⟩
abbrev cX7_needs : ByteArray := prog_9_method_51_code
def yX7_needs : MethodName := ⟨RX7, "needs", "(III)I"⟩
abbrev cX7_swaps : ByteArray := prog_9_method_52_code
def yX7_swaps : MethodName := ⟨RX7, "swaps", "()I"⟩
abbrev cX7_gives : ByteArray := prog_9_method_53_code
def yX7_gives : MethodName := ⟨RX7, "gives", "()I"⟩
abbrev cX7_dealBy : ByteArray := prog_9_method_54_code
def yX7_dealBy : MethodName := ⟨RX7, "dealBy", "(I)V"⟩
abbrev cX7_share : ByteArray := prog_9_method_55_code
def yX7_share : MethodName := ⟨RX7, "share", "(I)I"⟩
abbrev cX7_envies : ByteArray := prog_9_method_56_code
def yX7_envies : MethodName := ⟨RX7, "envies", "(II)Z"⟩
abbrev cX7_envy : ByteArray := prog_9_method_57_code
def yX7_envy : MethodName := ⟨RX7, "envy", "()I"⟩
abbrev cX7_ring : ByteArray := prog_9_method_58_code
def yX7_ring : MethodName := ⟨RX7, "ring", "()I"⟩
abbrev cX7_note : ByteArray := prog_9_method_59_code
def yX7_note : MethodName := ⟨RX7, "note", "(I)I"⟩
abbrev cX7_forget : ByteArray := prog_9_method_60_code
def yX7_forget : MethodName := ⟨RX7, "forget", "()I"⟩
abbrev cX7_fair : ByteArray := prog_9_method_61_code
def yX7_fair : MethodName := ⟨RX7, "fair", "(III)J"⟩
abbrev cX7_seats : ByteArray := prog_9_method_62_code
def yX7_seats : MethodName := ⟨RX7, "seats", "(I)J"⟩
abbrev cX7_turn : ByteArray := prog_9_method_63_code
def yX7_turn : MethodName := ⟨RX7, "turn", "(I)V"⟩
abbrev cX7_year : ByteArray := prog_9_method_64_code
def yX7_year : MethodName := ⟨RX7, "year", "(III)I"⟩
abbrev cX7_keep : ByteArray := prog_9_method_65_code
def yX7_keep : MethodName := ⟨RX7, "keep", "()I"⟩
abbrev cX7_back : ByteArray := prog_9_method_66_code
def yX7_back : MethodName := ⟨RX7, "back", "()I"⟩
abbrev cX7_count : ByteArray := prog_9_method_67_code
def yX7_count : MethodName := ⟨RX7, "count", "(I)I"⟩
def RJx145de : String := "java/io/Serializable"
def TJx145de : u_T := fun k => match k with
  | _ => ("", "", "", false)
def tyJx145de : Nat → FieldType := fun k => match k with
  | _ => .int
abbrev wsJx145de0 : List Cond := u_ws RJx145de TJx145de 0
theorem nmJx145de : ∀ a, a < 0 → ∀ b, b < 0 → a ≠ b → (TJx145de a).2.1 ≠ (TJx145de b).2.1 := by decide +kernel
theorem tyJx145de_ok : ∀ k, k < 0 → parseFieldDescriptor (TJx145de k).2.2.1 = some (tyJx145de k) := by decide +kernel
def RJx9f9b0 : String := "java/lang/CharSequence"
def TJx9f9b0 : u_T := fun k => match k with
  | _ => ("", "", "", false)
def tyJx9f9b0 : Nat → FieldType := fun k => match k with
  | _ => .int
abbrev wsJx9f9b00 : List Cond := u_ws RJx9f9b0 TJx9f9b0 0
theorem nmJx9f9b0 : ∀ a, a < 0 → ∀ b, b < 0 → a ≠ b → (TJx9f9b0 a).2.1 ≠ (TJx9f9b0 b).2.1 := by decide +kernel
theorem tyJx9f9b0_ok : ∀ k, k < 0 → parseFieldDescriptor (TJx9f9b0 k).2.2.1 = some (tyJx9f9b0 k) := by decide +kernel
def RJxb160c : String := "java/lang/Comparable"
def TJxb160c : u_T := fun k => match k with
  | _ => ("", "", "", false)
def tyJxb160c : Nat → FieldType := fun k => match k with
  | _ => .int
abbrev wsJxb160c0 : List Cond := u_ws RJxb160c TJxb160c 0
theorem nmJxb160c : ∀ a, a < 0 → ∀ b, b < 0 → a ≠ b → (TJxb160c a).2.1 ≠ (TJxb160c b).2.1 := by decide +kernel
theorem tyJxb160c_ok : ∀ k, k < 0 → parseFieldDescriptor (TJxb160c k).2.2.1 = some (tyJxb160c k) := by decide +kernel
def RJ6 : String := "java/lang/Integer"
def TJ6 : u_T := fun k => match k with
  | _ => ("", "", "", false)
def tyJ6 : Nat → FieldType := fun k => match k with
  | _ => .int
abbrev wsJ60 : List Cond := u_ws RJ6 TJ6 0
theorem nmJ6 : ∀ a, a < 0 → ∀ b, b < 0 → a ≠ b → (TJ6 a).2.1 ≠ (TJ6 b).2.1 := by decide +kernel
theorem tyJ6_ok : ∀ k, k < 0 → parseFieldDescriptor (TJ6 k).2.2.1 = some (tyJ6 k) := by decide +kernel
abbrev cJ6_bitCount_0f7a4 : ByteArray := prog_10_method_49_code
def yJ6_bitCount_0f7a4 : MethodName := ⟨RJ6, "bitCount", "(I)I"⟩
def RJ9 : String := "java/lang/Math"
def TJ9 : u_T := fun k => match k with
  | _ => ("", "", "", false)
def tyJ9 : Nat → FieldType := fun k => match k with
  | _ => .int
abbrev wsJ90 : List Cond := u_ws RJ9 TJ9 0
theorem nmJ9 : ∀ a, a < 0 → ∀ b, b < 0 → a ≠ b → (TJ9 a).2.1 ≠ (TJ9 b).2.1 := by decide +kernel
theorem tyJ9_ok : ∀ k, k < 0 → parseFieldDescriptor (TJ9 k).2.2.1 = some (tyJ9 k) := by decide +kernel
abbrev cJ9_max_7cf53 : ByteArray := prog_11_method_65_code
def yJ9_max_7cf53 : MethodName := ⟨RJ9, "max", "(II)I"⟩
abbrev cJ9_min_7cf53 : ByteArray := prog_11_method_69_code
def yJ9_min_7cf53 : MethodName := ⟨RJ9, "min", "(II)I"⟩
def RJ0 : String := "java/lang/String"
def TJ0 : u_T := fun k => match k with
  | _ => ("", "", "", false)
def tyJ0 : Nat → FieldType := fun k => match k with
  | _ => .int
abbrev wsJ00 : List Cond := u_ws RJ0 TJ0 0
theorem nmJ0 : ∀ a, a < 0 → ∀ b, b < 0 → a ≠ b → (TJ0 a).2.1 ≠ (TJ0 b).2.1 := by decide +kernel
theorem tyJ0_ok : ∀ k, k < 0 → parseFieldDescriptor (TJ0 k).2.2.1 = some (tyJ0 k) := by decide +kernel
abbrev cJ0_length_8abf5 : ByteArray := prog_12_method_54_code
def yJ0_length_8abf5 : MethodName := ⟨RJ0, "length", "()I"⟩
abbrev cJ0_charAt_5068e : ByteArray := prog_12_method_56_code
def yJ0_charAt_5068e : MethodName := ⟨RJ0, "charAt", "(I)C"⟩
abbrev cJ0_coder_7d493 : ByteArray := prog_12_method_152_code
def yJ0_coder_7d493 : MethodName := ⟨RJ0, "coder", "()B"⟩
abbrev cJ0_isLatin1_aae02 : ByteArray := prog_12_method_154_code
def yJ0_isLatin1_aae02 : MethodName := ⟨RJ0, "isLatin1", "()Z"⟩
abbrev cJ0_checkIndex_df160 : ByteArray := prog_12_method_155_code
def yJ0_checkIndex_df160 : MethodName := ⟨RJ0, "checkIndex", "(II)V"⟩
def RJ1 : String := "java/lang/StringLatin1"
def TJ1 : u_T := fun k => match k with
  | _ => ("", "", "", false)
def tyJ1 : Nat → FieldType := fun k => match k with
  | _ => .int
abbrev wsJ10 : List Cond := u_ws RJ1 TJ1 0
theorem nmJ1 : ∀ a, a < 0 → ∀ b, b < 0 → a ≠ b → (TJ1 a).2.1 ≠ (TJ1 b).2.1 := by decide +kernel
theorem tyJ1_ok : ∀ k, k < 0 → parseFieldDescriptor (TJ1 k).2.2.1 = some (tyJ1 k) := by decide +kernel
abbrev cJ1_charAt_3b067 : ByteArray := prog_13_method_2_code
def yJ1_charAt_3b067 : MethodName := ⟨RJ1, "charAt", "([BI)C"⟩
def RJ2 : String := "java/lang/StringUTF16"
def TJ2 : u_T := fun k => match k with
  | _ => ("", "", "", false)
def tyJ2 : Nat → FieldType := fun k => match k with
  | _ => .int
abbrev wsJ20 : List Cond := u_ws RJ2 TJ2 0
theorem nmJ2 : ∀ a, a < 0 → ∀ b, b < 0 → a ≠ b → (TJ2 a).2.1 ≠ (TJ2 b).2.1 := by decide +kernel
theorem tyJ2_ok : ∀ k, k < 0 → parseFieldDescriptor (TJ2 k).2.2.1 = some (tyJ2 k) := by decide +kernel
abbrev cJ2_getChar_3b067 : ByteArray := prog_14_method_5_code
def yJ2_getChar_3b067 : MethodName := ⟨RJ2, "getChar", "([BI)C"⟩
abbrev cJ2_length_9d52b : ByteArray := prog_14_method_6_code
def yJ2_length_9d52b : MethodName := ⟨RJ2, "length", "([B)I"⟩
abbrev cJ2_charAt_3b067 : ByteArray := prog_14_method_83_code
def yJ2_charAt_3b067 : MethodName := ⟨RJ2, "charAt", "([BI)C"⟩
abbrev cJ2_checkIndex_2214a : ByteArray := prog_14_method_91_code
def yJ2_checkIndex_2214a : MethodName := ⟨RJ2, "checkIndex", "(I[B)V"⟩
def RJ10 : String := "java/lang/System"
def TJ10 : u_T := fun k => match k with
  | _ => ("", "", "", false)
def tyJ10 : Nat → FieldType := fun k => match k with
  | _ => .int
abbrev wsJ100 : List Cond := u_ws RJ10 TJ10 0
theorem nmJ10 : ∀ a, a < 0 → ∀ b, b < 0 → a ≠ b → (TJ10 a).2.1 ≠ (TJ10 b).2.1 := by decide +kernel
theorem tyJ10_ok : ∀ k, k < 0 → parseFieldDescriptor (TJ10 k).2.2.1 = some (tyJ10 k) := by decide +kernel
def RJxfd54e : String := "java/lang/constant/Constable"
def TJxfd54e : u_T := fun k => match k with
  | _ => ("", "", "", false)
def tyJxfd54e : Nat → FieldType := fun k => match k with
  | _ => .int
abbrev wsJxfd54e0 : List Cond := u_ws RJxfd54e TJxfd54e 0
theorem nmJxfd54e : ∀ a, a < 0 → ∀ b, b < 0 → a ≠ b → (TJxfd54e a).2.1 ≠ (TJxfd54e b).2.1 := by decide +kernel
theorem tyJxfd54e_ok : ∀ k, k < 0 → parseFieldDescriptor (TJxfd54e k).2.2.1 = some (tyJxfd54e k) := by decide +kernel
def RJx3cf43 : String := "java/lang/constant/ConstantDesc"
def TJx3cf43 : u_T := fun k => match k with
  | _ => ("", "", "", false)
def tyJx3cf43 : Nat → FieldType := fun k => match k with
  | _ => .int
abbrev wsJx3cf430 : List Cond := u_ws RJx3cf43 TJx3cf43 0
theorem nmJx3cf43 : ∀ a, a < 0 → ∀ b, b < 0 → a ≠ b → (TJx3cf43 a).2.1 ≠ (TJx3cf43 b).2.1 := by decide +kernel
theorem tyJx3cf43_ok : ∀ k, k < 0 → parseFieldDescriptor (TJx3cf43 k).2.2.1 = some (tyJx3cf43 k) := by decide +kernel
def RJ7 : String := "java/util/Arrays"
def TJ7 : u_T := fun k => match k with
  | _ => ("", "", "", false)
def tyJ7 : Nat → FieldType := fun k => match k with
  | _ => .int
abbrev wsJ70 : List Cond := u_ws RJ7 TJ7 0
theorem nmJ7 : ∀ a, a < 0 → ∀ b, b < 0 → a ≠ b → (TJ7 a).2.1 ≠ (TJ7 b).2.1 := by decide +kernel
theorem tyJ7_ok : ∀ k, k < 0 → parseFieldDescriptor (TJ7 k).2.2.1 = some (tyJ7 k) := by decide +kernel
abbrev cJ7_fill_53178 : ByteArray := prog_16_method_103_code
def yJ7_fill_53178 : MethodName := ⟨RJ7, "fill", "([II)V"⟩
def RJ3 : String := "jdk/internal/util/Preconditions"
def TJ3 : u_T := fun k => match k with
  | _ => ("", "", "", false)
def tyJ3 : Nat → FieldType := fun k => match k with
  | _ => .int
abbrev wsJ30 : List Cond := u_ws RJ3 TJ3 0
theorem nmJ3 : ∀ a, a < 0 → ∀ b, b < 0 → a ≠ b → (TJ3 a).2.1 ≠ (TJ3 b).2.1 := by decide +kernel
theorem tyJ3_ok : ∀ k, k < 0 → parseFieldDescriptor (TJ3 k).2.2.1 = some (tyJ3 k) := by decide +kernel
abbrev cJ3_checkIndex_8e157 : ByteArray := prog_17_method_11_code
def yJ3_checkIndex_8e157 : MethodName := ⟨RJ3, "checkIndex", "(IILjava/util/function/BiFunction;)I"⟩
def RL : String := "ParishRaffleLaw"
abbrev cL_law : ByteArray := code
def yL_law : MethodName := ⟨RL, "law", "([I)Z"⟩
abbrev vwCl : List vw_C := [(RX0, TX0, 3), (RX1, TX1, 2), (RX2, TX2, 7), (RX3, TX3, 1), (RX4, TX4, 3), (RX5, TX5, 4), (RX6, TX6, 9), (RX7, TX7, 20)]
