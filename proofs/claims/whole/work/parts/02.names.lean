/-! ===== BEGIN words of one list among another's, by their places ===== -/
theorem goodIn_r {big : List Cond} (ws : List Cond) (ps : List Nat) (hp : ws = ps.filterMap (fun i => big[i]?)) (h : ws.all goodWord = true) : GoodIn big ws := by
  intro w hw
  have h1 := List.all_eq_true.mp h w hw
  rw [hp] at hw
  obtain ⟨i, -, hi⟩ := List.mem_filterMap.mp hw
  have hm : w ∈ big := by first | exact List.mem_of_getElem? hi | exact List.getElem?_mem hi
  exact ⟨hm, good_of_word h1⟩
theorem goodIn_app {big a b : List Cond} (ha : GoodIn big a) (hb : GoodIn big b) : GoodIn big (a ++ b) := fun w h => (List.mem_append.mp h).elim (ha w) (hb w)
theorem goodIn_ca {big a b : List Cond} {c : Cond} (ha : GoodIn big (c :: a)) (hb : GoodIn big b) : GoodIn big (c :: (a ++ b)) := fun w h => (List.mem_cons.mp h).elim (fun e => ha w (List.mem_cons.mpr (Or.inl e))) (fun h => (List.mem_append.mp h).elim (fun h => ha w (List.mem_cons.mpr (Or.inr h))) (hb w))
theorem goodIn_sub {big ws : List Cond} (hm : ∀ w ∈ ws, w ∈ big) (h : ws.all goodWord = true) : GoodIn big ws := fun w hw => ⟨hm w hw, good_of_word (List.all_eq_true.mp h w hw)⟩
/-! ===== END ===== -/

/-! ===== BEGIN printed: names, fields, word lists, decode rows ===== -/
def RX0 : String := "FigureHeads$Acts"
def TX0 : u_T := fun k => match k with
  | 0 => ("FigureHeads$Acts", "before", "[LFigureHeads$Voyage;", true)
  | 1 => ("FigureHeads$Acts", "ship", "[I", true)
  | 2 => ("FigureHeads$Acts", "turn", "[I", true)
  | 3 => ("FigureHeads$Acts", "kept", "I", false)
  | _ => ("FigureHeads$Acts", "next", "I", false)
def tyX0 : Nat → FieldType := fun k => match k with
  | 0 => .array (.object "FigureHeads$Voyage")
  | 1 => .array .int
  | 2 => .array .int
  | 3 => .int
  | _ => .int
abbrev wsX00 : List Cond := u_ws RX0 TX0 5
theorem nmX0 : ∀ a, a < 5 → ∀ b, b < 5 → a ≠ b → (TX0 a).2.1 ≠ (TX0 b).2.1 := by decide +kernel
theorem tyX0_ok : ∀ k, k < 5 → parseFieldDescriptor (TX0 k).2.2.1 = some (tyX0 k) := by decide +kernel
abbrev cX0_init : ByteArray := prog_2_method_1_code
def yX0_init : MethodName := ⟨RX0, "<init>", "(LFigureHeads$Sea;)V"⟩
abbrev cX0_forget : ByteArray := prog_2_method_2_code
def yX0_forget : MethodName := ⟨RX0, "forget", "()V"⟩
abbrev cX0_keep : ByteArray := prog_2_method_3_code
def yX0_keep : MethodName := ⟨RX0, "keep", "(LFigureHeads$Fleet;I)V"⟩
abbrev cX0_giveBack : ByteArray := prog_2_method_4_code
def yX0_giveBack : MethodName := ⟨RX0, "giveBack", "(LFigureHeads$Fleet;)Z"⟩
def RX1 : String := "FigureHeads$Chart"
def TX1 : u_T := fun k => match k with
  | 0 => ("FigureHeads$Chart", "sea", "LFigureHeads$Sea;", true)
  | 1 => ("FigureHeads$Chart", "queue", "[I", true)
  | 2 => ("FigureHeads$Chart", "from", "[I", true)
  | 3 => ("FigureHeads$Chart", "word", "[I", true)
  | 4 => ("FigureHeads$Chart", "depth", "[I", true)
  | _ => ("FigureHeads$Chart", "found", "I", false)
def tyX1 : Nat → FieldType := fun k => match k with
  | 0 => .object "FigureHeads$Sea"
  | 1 => .array .int
  | 2 => .array .int
  | 3 => .array .int
  | 4 => .array .int
  | _ => .int
abbrev wsX10 : List Cond := u_ws RX1 TX1 6
theorem nmX1 : ∀ a, a < 6 → ∀ b, b < 6 → a ≠ b → (TX1 a).2.1 ≠ (TX1 b).2.1 := by decide +kernel
theorem tyX1_ok : ∀ k, k < 6 → parseFieldDescriptor (TX1 k).2.2.1 = some (tyX1 k) := by decide +kernel
abbrev cX1_init : ByteArray := prog_3_method_1_code
def yX1_init : MethodName := ⟨RX1, "<init>", "(LFigureHeads$Sea;)V"⟩
abbrev cX1_search : ByteArray := prog_3_method_2_code
def yX1_search : MethodName := ⟨RX1, "search", "(LFigureHeads$Voyage;II)I"⟩
abbrev cX1_spread : ByteArray := prog_3_method_3_code
def yX1_spread : MethodName := ⟨RX1, "spread", "(IIZ)V"⟩
abbrev cX1_mark : ByteArray := prog_3_method_4_code
def yX1_mark : MethodName := ⟨RX1, "mark", "(IIII)V"⟩
abbrev cX1_wordTo : ByteArray := prog_3_method_5_code
def yX1_wordTo : MethodName := ⟨RX1, "wordTo", "(II)I"⟩
def RX2 : String := "FigureHeads$Fleet"
def TX2 : u_T := fun k => match k with
  | 0 => ("FigureHeads$Fleet", "sea", "LFigureHeads$Sea;", true)
  | 1 => ("FigureHeads$Fleet", "kind", "[I", true)
  | 2 => ("FigureHeads$Fleet", "cell", "[I", true)
  | 3 => ("FigureHeads$Fleet", "looking", "[I", true)
  | 4 => ("FigureHeads$Fleet", "worm", "[I", true)
  | 5 => ("FigureHeads$Fleet", "credit", "[I", true)
  | 6 => ("FigureHeads$Fleet", "ships", "I", false)
  | _ => ("FigureHeads$Fleet", "turn", "I", false)
def tyX2 : Nat → FieldType := fun k => match k with
  | 0 => .object "FigureHeads$Sea"
  | 1 => .array .int
  | 2 => .array .int
  | 3 => .array .int
  | 4 => .array .int
  | 5 => .array .int
  | 6 => .int
  | _ => .int
abbrev wsX20 : List Cond := u_ws RX2 TX2 8
theorem nmX2 : ∀ a, a < 8 → ∀ b, b < 8 → a ≠ b → (TX2 a).2.1 ≠ (TX2 b).2.1 := by decide +kernel
theorem tyX2_ok : ∀ k, k < 8 → parseFieldDescriptor (TX2 k).2.2.1 = some (tyX2 k) := by decide +kernel
abbrev cX2_init : ByteArray := prog_4_method_1_code
def yX2_init : MethodName := ⟨RX2, "<init>", "()V"⟩
abbrev cX2_become : ByteArray := prog_4_method_2_code
def yX2_become : MethodName := ⟨RX2, "become", "(LFigureHeads$Fleet;)V"⟩
abbrev cX2_empty : ByteArray := prog_4_method_3_code
def yX2_empty : MethodName := ⟨RX2, "empty", "()V"⟩
abbrev cX2_stands : ByteArray := prog_4_method_4_code
def yX2_stands : MethodName := ⟨RX2, "stands", "()Z"⟩
abbrev cX2_hasShip : ByteArray := prog_4_method_5_code
def yX2_hasShip : MethodName := ⟨RX2, "hasShip", "(I)Z"⟩
abbrev cX2_everyShip : ByteArray := prog_4_method_6_code
def yX2_everyShip : MethodName := ⟨RX2, "everyShip", "()I"⟩
abbrev cX2_doubtOf : ByteArray := prog_4_method_7_code
def yX2_doubtOf : MethodName := ⟨RX2, "doubtOf", "(II)I"⟩
abbrev cX2_trusts : ByteArray := prog_4_method_8_code
def yX2_trusts : MethodName := ⟨RX2, "trusts", "(II)Z"⟩
abbrev cX2_allWorm : ByteArray := prog_4_method_9_code
def yX2_allWorm : MethodName := ⟨RX2, "allWorm", "()I"⟩
abbrev cX2_allCredit : ByteArray := prog_4_method_10_code
def yX2_allCredit : MethodName := ⟨RX2, "allCredit", "()I"⟩
abbrev cX2_harboured : ByteArray := prog_4_method_11_code
def yX2_harboured : MethodName := ⟨RX2, "harboured", "()I"⟩
abbrev cX2_heardBy : ByteArray := prog_4_method_12_code
def yX2_heardBy : MethodName := ⟨RX2, "heardBy", "(III)I"⟩
abbrev cX2_nearAny : ByteArray := prog_4_method_13_code
def yX2_nearAny : MethodName := ⟨RX2, "nearAny", "(II)I"⟩
abbrev cX2_isLink : ByteArray := prog_4_method_14_code
def yX2_isLink : MethodName := ⟨RX2, "isLink", "(II)Z"⟩
def RX3 : String := "FigureHeads$Sea"
def TX3 : u_T := fun k => match k with
  | 0 => ("FigureHeads$Sea", "cells", "[I", true)
  | 1 => ("FigureHeads$Sea", "rows", "I", false)
  | _ => ("FigureHeads$Sea", "columns", "I", false)
def tyX3 : Nat → FieldType := fun k => match k with
  | 0 => .array .int
  | 1 => .int
  | _ => .int
abbrev wsX30 : List Cond := u_ws RX3 TX3 3
theorem nmX3 : ∀ a, a < 3 → ∀ b, b < 3 → a ≠ b → (TX3 a).2.1 ≠ (TX3 b).2.1 := by decide +kernel
theorem tyX3_ok : ∀ k, k < 3 → parseFieldDescriptor (TX3 k).2.2.1 = some (tyX3 k) := by decide +kernel
abbrev cX3_init : ByteArray := prog_5_method_1_code
def yX3_init : MethodName := ⟨RX3, "<init>", "()V"⟩
abbrev cX3_become : ByteArray := prog_5_method_2_code
def yX3_become : MethodName := ⟨RX3, "become", "(LFigureHeads$Sea;)V"⟩
abbrev cX3_empty : ByteArray := prog_5_method_3_code
def yX3_empty : MethodName := ⟨RX3, "empty", "()V"⟩
abbrev cX3_cellOf : ByteArray := prog_5_method_4_code
def yX3_cellOf : MethodName := ⟨RX3, "cellOf", "(II)I"⟩
abbrev cX3_has : ByteArray := prog_5_method_5_code
def yX3_has : MethodName := ⟨RX3, "has", "(I)Z"⟩
abbrev cX3_at : ByteArray := prog_5_method_6_code
def yX3_at : MethodName := ⟨RX3, "at", "(I)I"⟩
abbrev cX3_ahead : ByteArray := prog_5_method_7_code
def yX3_ahead : MethodName := ⟨RX3, "ahead", "(II)I"⟩
abbrev cX3_away : ByteArray := prog_5_method_8_code
def yX3_away : MethodName := ⟨RX3, "away", "(II)I"⟩
abbrev cX3_harbours : ByteArray := prog_5_method_9_code
def yX3_harbours : MethodName := ⟨RX3, "harbours", "()I"⟩
abbrev cX3_awayFromHarbour : ByteArray := prog_5_method_10_code
def yX3_awayFromHarbour : MethodName := ⟨RX3, "awayFromHarbour", "(I)I"⟩
def RX4 : String := "FigureHeads$Sheet"
def TX4 : u_T := fun k => match k with
  | 0 => ("FigureHeads$Sheet", "items", "[J", true)
  | 1 => ("FigureHeads$Sheet", "there", "Z", false)
  | 2 => ("FigureHeads$Sheet", "lane", "I", false)
  | _ => ("FigureHeads$Sheet", "length", "I", false)
def tyX4 : Nat → FieldType := fun k => match k with
  | 0 => .array .long
  | 1 => .boolean
  | 2 => .int
  | _ => .int
abbrev wsX40 : List Cond := u_ws RX4 TX4 4
theorem nmX4 : ∀ a, a < 4 → ∀ b, b < 4 → a ≠ b → (TX4 a).2.1 ≠ (TX4 b).2.1 := by decide +kernel
theorem tyX4_ok : ∀ k, k < 4 → parseFieldDescriptor (TX4 k).2.2.1 = some (tyX4 k) := by decide +kernel
abbrev cX4_init : ByteArray := prog_6_method_1_code
def yX4_init : MethodName := ⟨RX4, "<init>", "()V"⟩
abbrev cX4_renew : ByteArray := prog_6_method_2_code
def yX4_renew : MethodName := ⟨RX4, "renew", "(II)V"⟩
abbrev cX4_holds : ByteArray := prog_6_method_3_code
def yX4_holds : MethodName := ⟨RX4, "holds", "(II)Z"⟩
abbrev cX4_holdsWords : ByteArray := prog_6_method_4_code
def yX4_holdsWords : MethodName := ⟨RX4, "holdsWords", "(III)Z"⟩
abbrev cX4_put : ByteArray := prog_6_method_5_code
def yX4_put : MethodName := ⟨RX4, "put", "(IJ)J"⟩
abbrev cX4_narrowed : ByteArray := prog_6_method_6_code
def yX4_narrowed : MethodName := ⟨RX4, "narrowed", "(J)J"⟩
def RX5 : String := "FigureHeads$Tape"
def TX5 : u_T := fun k => match k with
  | 0 => ("FigureHeads$Tape", "bytes", "[I", true)
  | 1 => ("FigureHeads$Tape", "length", "I", false)
  | _ => ("FigureHeads$Tape", "place", "I", false)
def tyX5 : Nat → FieldType := fun k => match k with
  | 0 => .array .int
  | 1 => .int
  | _ => .int
abbrev wsX50 : List Cond := u_ws RX5 TX5 3
theorem nmX5 : ∀ a, a < 3 → ∀ b, b < 3 → a ≠ b → (TX5 a).2.1 ≠ (TX5 b).2.1 := by decide +kernel
theorem tyX5_ok : ∀ k, k < 3 → parseFieldDescriptor (TX5 k).2.2.1 = some (tyX5 k) := by decide +kernel
abbrev cX5_init : ByteArray := prog_7_method_1_code
def yX5_init : MethodName := ⟨RX5, "<init>", "()V"⟩
abbrev cX5_add : ByteArray := prog_7_method_2_code
def yX5_add : MethodName := ⟨RX5, "add", "(I)Z"⟩
abbrev cX5_readFleet : ByteArray := prog_7_method_3_code
def yX5_readFleet : MethodName := ⟨RX5, "readFleet", "(LFigureHeads$Fleet;)Z"⟩
abbrev cX5_here : ByteArray := prog_7_method_4_code
def yX5_here : MethodName := ⟨RX5, "here", "()I"⟩
abbrev cX5_takes : ByteArray := prog_7_method_5_code
def yX5_takes : MethodName := ⟨RX5, "takes", "(C)Z"⟩
abbrev cX5_oneOf : ByteArray := prog_7_method_6_code
def yX5_oneOf : MethodName := ⟨RX5, "oneOf", "(Ljava/lang/String;)I"⟩
abbrev cX5_figureBelow : ByteArray := prog_7_method_7_code
def yX5_figureBelow : MethodName := ⟨RX5, "figureBelow", "(I)I"⟩
abbrev cX5_readSea : ByteArray := prog_7_method_8_code
def yX5_readSea : MethodName := ⟨RX5, "readSea", "(LFigureHeads$Sea;)Z"⟩
abbrev cX5_readRow : ByteArray := prog_7_method_9_code
def yX5_readRow : MethodName := ⟨RX5, "readRow", "(LFigureHeads$Sea;I)Z"⟩
abbrev cX5_readShips : ByteArray := prog_7_method_10_code
def yX5_readShips : MethodName := ⟨RX5, "readShips", "(LFigureHeads$Fleet;)Z"⟩
abbrev cX5_readShip : ByteArray := prog_7_method_11_code
def yX5_readShip : MethodName := ⟨RX5, "readShip", "(LFigureHeads$Fleet;I)Z"⟩
abbrev cX5_readCell : ByteArray := prog_7_method_12_code
def yX5_readCell : MethodName := ⟨RX5, "readCell", "(LFigureHeads$Fleet;I)Z"⟩
abbrev cX5_readCredit : ByteArray := prog_7_method_13_code
def yX5_readCredit : MethodName := ⟨RX5, "readCredit", "(LFigureHeads$Fleet;)Z"⟩
def RX6 : String := "FigureHeads$Voyage"
def TX6 : u_T := fun k => match k with
  | 0 => ("FigureHeads$Voyage", "sea", "LFigureHeads$Sea;", true)
  | 1 => ("FigureHeads$Voyage", "credit", "[I", true)
  | 2 => ("FigureHeads$Voyage", "kind", "I", false)
  | 3 => ("FigureHeads$Voyage", "cell", "I", false)
  | 4 => ("FigureHeads$Voyage", "looking", "I", false)
  | _ => ("FigureHeads$Voyage", "worm", "I", false)
def tyX6 : Nat → FieldType := fun k => match k with
  | 0 => .object "FigureHeads$Sea"
  | 1 => .array .int
  | 2 => .int
  | 3 => .int
  | 4 => .int
  | _ => .int
abbrev wsX60 : List Cond := u_ws RX6 TX6 6
theorem nmX6 : ∀ a, a < 6 → ∀ b, b < 6 → a ≠ b → (TX6 a).2.1 ≠ (TX6 b).2.1 := by decide +kernel
theorem tyX6_ok : ∀ k, k < 6 → parseFieldDescriptor (TX6 k).2.2.1 = some (tyX6 k) := by decide +kernel
abbrev cX6_init : ByteArray := prog_8_method_1_code
def yX6_init : MethodName := ⟨RX6, "<init>", "(LFigureHeads$Sea;)V"⟩
abbrev cX6_board : ByteArray := prog_8_method_2_code
def yX6_board : MethodName := ⟨RX6, "board", "(LFigureHeads$Fleet;I)V"⟩
abbrev cX6_land : ByteArray := prog_8_method_3_code
def yX6_land : MethodName := ⟨RX6, "land", "(LFigureHeads$Fleet;I)V"⟩
abbrev cX6_follow : ByteArray := prog_8_method_4_code
def yX6_follow : MethodName := ⟨RX6, "follow", "(LFigureHeads$Voyage;)V"⟩
abbrev cX6_trusts : ByteArray := prog_8_method_5_code
def yX6_trusts : MethodName := ⟨RX6, "trusts", "(I)Z"⟩
abbrev cX6_hear : ByteArray := prog_8_method_6_code
def yX6_hear : MethodName := ⟨RX6, "hear", "(II)V"⟩
abbrev cX6_hearTwo : ByteArray := prog_8_method_7_code
def yX6_hearTwo : MethodName := ⟨RX6, "hearTwo", "(IIII)V"⟩
abbrev cX6_beTorn : ByteArray := prog_8_method_8_code
def yX6_beTorn : MethodName := ⟨RX6, "beTorn", "(II)V"⟩
abbrev cX6_goOn : ByteArray := prog_8_method_9_code
def yX6_goOn : MethodName := ⟨RX6, "goOn", "()Z"⟩
abbrev cX6_beWormed : ByteArray := prog_8_method_10_code
def yX6_beWormed : MethodName := ⟨RX6, "beWormed", "()V"⟩
abbrev cX6_settle : ByteArray := prog_8_method_11_code
def yX6_settle : MethodName := ⟨RX6, "settle", "(IZ)V"⟩
abbrev cX6_keepsTo : ByteArray := prog_8_method_12_code
def yX6_keepsTo : MethodName := ⟨RX6, "keepsTo", "(ILFigureHeads$Sheet;II)Z"⟩
def RX7 : String := "FigureHeads"
def TX7 : u_T := fun k => match k with
  | 0 => ("FigureHeads", "tape", "LFigureHeads$Tape;", true)
  | 1 => ("FigureHeads", "now", "LFigureHeads$Fleet;", true)
  | 2 => ("FigureHeads", "draft", "LFigureHeads$Fleet;", true)
  | 3 => ("FigureHeads", "images", "[LFigureHeads$Fleet;", true)
  | 4 => ("FigureHeads", "acts", "LFigureHeads$Acts;", true)
  | 5 => ("FigureHeads", "voyages", "[LFigureHeads$Voyage;", true)
  | 6 => ("FigureHeads", "chart", "LFigureHeads$Chart;", true)
  | 7 => ("FigureHeads", "sheets", "[LFigureHeads$Sheet;", true)
  | _ => ("FigureHeads", "reached", "[I", true)
def tyX7 : Nat → FieldType := fun k => match k with
  | 0 => .object "FigureHeads$Tape"
  | 1 => .object "FigureHeads$Fleet"
  | 2 => .object "FigureHeads$Fleet"
  | 3 => .array (.object "FigureHeads$Fleet")
  | 4 => .object "FigureHeads$Acts"
  | 5 => .array (.object "FigureHeads$Voyage")
  | 6 => .object "FigureHeads$Chart"
  | 7 => .array (.object "FigureHeads$Sheet")
  | _ => .array .int
abbrev wsX70 : List Cond := u_ws RX7 TX7 9
theorem nmX7 : ∀ a, a < 9 → ∀ b, b < 9 → a ≠ b → (TX7 a).2.1 ≠ (TX7 b).2.1 := by decide +kernel
theorem tyX7_ok : ∀ k, k < 9 → parseFieldDescriptor (TX7 k).2.2.1 = some (tyX7 k) := by decide +kernel
abbrev cX7_init : ByteArray := prog_1_method_1_code
def yX7_init : MethodName := ⟨RX7, "<init>", "()V"⟩
abbrev cX7_feed : ByteArray := prog_1_method_2_code
def yX7_feed : MethodName := ⟨RX7, "feed", "(I)I"⟩
abbrev cX7_fleet : ByteArray := prog_1_method_3_code
def yX7_fleet : MethodName := ⟨RX7, "fleet", "()I"⟩
abbrev cX7_ship : ByteArray := prog_1_method_4_code
def yX7_ship : MethodName := ⟨RX7, "ship", "(II)I"⟩
abbrev cX7_as : ByteArray := prog_1_method_5_code
def yX7_as : MethodName := ⟨RX7, "as", "(II)I"⟩
abbrev cX7_sea : ByteArray := prog_1_method_6_code
def yX7_sea : MethodName := ⟨RX7, "sea", "(I)I"⟩
abbrev cX7_credit : ByteArray := prog_1_method_7_code
def yX7_credit : MethodName := ⟨RX7, "credit", "(I)I"⟩
abbrev cX7_doubt : ByteArray := prog_1_method_8_code
def yX7_doubt : MethodName := ⟨RX7, "doubt", "(II)I"⟩
abbrev cX7_say : ByteArray := prog_1_method_9_code
def yX7_say : MethodName := ⟨RX7, "say", "(III)I"⟩
abbrev cX7_storm : ByteArray := prog_1_method_10_code
def yX7_storm : MethodName := ⟨RX7, "storm", "(IIIII)I"⟩
abbrev cX7_drift : ByteArray := prog_1_method_11_code
def yX7_drift : MethodName := ⟨RX7, "drift", "(I)I"⟩
abbrev cX7_scrape : ByteArray := prog_1_method_12_code
def yX7_scrape : MethodName := ⟨RX7, "scrape", "(I)I"⟩
abbrev cX7_learn : ByteArray := prog_1_method_13_code
def yX7_learn : MethodName := ⟨RX7, "learn", "(I)I"⟩
abbrev cX7_undo : ByteArray := prog_1_method_14_code
def yX7_undo : MethodName := ⟨RX7, "undo", "()I"⟩
abbrev cX7_image : ByteArray := prog_1_method_15_code
def yX7_image : MethodName := ⟨RX7, "image", "(I)I"⟩
abbrev cX7_restore : ByteArray := prog_1_method_16_code
def yX7_restore : MethodName := ⟨RX7, "restore", "(I)I"⟩
abbrev cX7_believed : ByteArray := prog_1_method_17_code
def yX7_believed : MethodName := ⟨RX7, "believed", "(I)I"⟩
abbrev cX7_strikes : ByteArray := prog_1_method_18_code
def yX7_strikes : MethodName := ⟨RX7, "strikes", "(I)I"⟩
abbrev cX7_course : ByteArray := prog_1_method_19_code
def yX7_course : MethodName := ⟨RX7, "course", "(IIII)I"⟩
abbrev cX7_crew : ByteArray := prog_1_method_20_code
def yX7_crew : MethodName := ⟨RX7, "crew", "(I)I"⟩
abbrev cX7_hears : ByteArray := prog_1_method_21_code
def yX7_hears : MethodName := ⟨RX7, "hears", "(II)I"⟩
abbrev cX7_links : ByteArray := prog_1_method_22_code
def yX7_links : MethodName := ⟨RX7, "links", "(I)I"⟩
abbrev cX7_talk : ByteArray := prog_1_method_23_code
def yX7_talk : MethodName := ⟨RX7, "talk", "(IIII)I"⟩
abbrev cX7_decades : ByteArray := prog_1_method_24_code
def yX7_decades : MethodName := ⟨RX7, "decades", "(III)I"⟩
abbrev cX7_sheet : ByteArray := prog_1_method_25_code
def yX7_sheet : MethodName := ⟨RX7, "sheet", "(III)I"⟩
abbrev cX7_drop : ByteArray := prog_1_method_26_code
def yX7_drop : MethodName := ⟨RX7, "drop", "(I)I"⟩
abbrev cX7_item : ByteArray := prog_1_method_27_code
def yX7_item : MethodName := ⟨RX7, "item", "(IIIJ)J"⟩
abbrev cX7_copy : ByteArray := prog_1_method_28_code
def yX7_copy : MethodName := ⟨RX7, "copy", "(IIIII)I"⟩
abbrev cX7_log : ByteArray := prog_1_method_29_code
def yX7_log : MethodName := ⟨RX7, "log", "(IIIIII)I"⟩
abbrev cX7_rows : ByteArray := prog_1_method_30_code
def yX7_rows : MethodName := ⟨RX7, "rows", "(IIIIIII)I"⟩
abbrev cX7_kinds : ByteArray := prog_1_method_31_code
def yX7_kinds : MethodName := ⟨RX7, "kinds", "(IIIIIII)I"⟩
abbrev cX7_fog : ByteArray := prog_1_method_32_code
def yX7_fog : MethodName := ⟨RX7, "fog", "(IIIIIII)I"⟩
abbrev cX7_count : ByteArray := prog_1_method_33_code
def yX7_count : MethodName := ⟨RX7, "count", "(I)I"⟩
abbrev cX7_isTeller : ByteArray := prog_1_method_34_code
def yX7_isTeller : MethodName := ⟨RX7, "isTeller", "(I)Z"⟩
abbrev cX7_isWord : ByteArray := prog_1_method_35_code
def yX7_isWord : MethodName := ⟨RX7, "isWord", "(J)Z"⟩
abbrev cX7_isPart : ByteArray := prog_1_method_36_code
def yX7_isPart : MethodName := ⟨RX7, "isPart", "(I)Z"⟩
abbrev cX7_isHearing : ByteArray := prog_1_method_37_code
def yX7_isHearing : MethodName := ⟨RX7, "isHearing", "(I)Z"⟩
abbrev cX7_isSheet : ByteArray := prog_1_method_38_code
def yX7_isSheet : MethodName := ⟨RX7, "isSheet", "(I)Z"⟩
abbrev cX7_isLane : ByteArray := prog_1_method_39_code
def yX7_isLane : MethodName := ⟨RX7, "isLane", "(I)Z"⟩
abbrev cX7_canTell : ByteArray := prog_1_method_40_code
def yX7_canTell : MethodName := ⟨RX7, "canTell", "(IIII)Z"⟩
abbrev cX7_refusalOf : ByteArray := prog_1_method_41_code
def yX7_refusalOf : MethodName := ⟨RX7, "refusalOf", "(IIII)I"⟩
abbrev cX7_isUnder : ByteArray := prog_1_method_42_code
def yX7_isUnder : MethodName := ⟨RX7, "isUnder", "(II)Z"⟩
abbrev cX7_doubtBy : ByteArray := prog_1_method_43_code
def yX7_doubtBy : MethodName := ⟨RX7, "doubtBy", "(III)I"⟩
abbrev cX7_turned : ByteArray := prog_1_method_44_code
def yX7_turned : MethodName := ⟨RX7, "turned", "(III)I"⟩
abbrev cX7_mirrored : ByteArray := prog_1_method_45_code
def yX7_mirrored : MethodName := ⟨RX7, "mirrored", "(I)I"⟩
abbrev cX7_setOut : ByteArray := prog_1_method_46_code
def yX7_setOut : MethodName := ⟨RX7, "setOut", "(I)LFigureHeads$Voyage;"⟩
abbrev cX7_arrive : ByteArray := prog_1_method_47_code
def yX7_arrive : MethodName := ⟨RX7, "arrive", "(ILFigureHeads$Voyage;)I"⟩
abbrev cX7_mostCrewed : ByteArray := prog_1_method_48_code
def yX7_mostCrewed : MethodName := ⟨RX7, "mostCrewed", "(II)I"⟩
abbrev cX7_mayTake : ByteArray := prog_1_method_49_code
def yX7_mayTake : MethodName := ⟨RX7, "mayTake", "(III)Z"⟩
abbrev cX7_crewOf : ByteArray := prog_1_method_50_code
def yX7_crewOf : MethodName := ⟨RX7, "crewOf", "(I)I"⟩
abbrev cX7_firstTeller : ByteArray := prog_1_method_51_code
def yX7_firstTeller : MethodName := ⟨RX7, "firstTeller", "(II)I"⟩
abbrev cX7_nextVoyage : ByteArray := prog_1_method_52_code
def yX7_nextVoyage : MethodName := ⟨RX7, "nextVoyage", "(I)LFigureHeads$Voyage;"⟩
abbrev cX7_canGoDeeper : ByteArray := prog_1_method_53_code
def yX7_canGoDeeper : MethodName := ⟨RX7, "canGoDeeper", "(II)Z"⟩
abbrev cX7_talked : ByteArray := prog_1_method_54_code
def yX7_talked : MethodName := ⟨RX7, "talked", "(IIII)I"⟩
abbrev cX7_countRows : ByteArray := prog_1_method_55_code
def yX7_countRows : MethodName := ⟨RX7, "countRows", "(IILFigureHeads$Sheet;II)I"⟩
abbrev cX7_firstRow : ByteArray := prog_1_method_56_code
def yX7_firstRow : MethodName := ⟨RX7, "firstRow", "(IIILFigureHeads$Sheet;II)I"⟩
abbrev cX7_leadsTo : ByteArray := prog_1_method_57_code
def yX7_leadsTo : MethodName := ⟨RX7, "leadsTo", "(IIIJ)Z"⟩
abbrev cX7_fogged : ByteArray := prog_1_method_58_code
def yX7_fogged : MethodName := ⟨RX7, "fogged", "(IILFigureHeads$Sheet;III)I"⟩
abbrev cX7_tenToThe : ByteArray := prog_1_method_59_code
def yX7_tenToThe : MethodName := ⟨RX7, "tenToThe", "(I)I"⟩
abbrev cX7_greatestDivisor : ByteArray := prog_1_method_60_code
def yX7_greatestDivisor : MethodName := ⟨RX7, "greatestDivisor", "(II)I"⟩
abbrev cX7_fittingKinds : ByteArray := prog_1_method_61_code
def yX7_fittingKinds : MethodName := ⟨RX7, "fittingKinds", "(IILFigureHeads$Sheet;II)I"⟩
abbrev cX7_wordToTry : ByteArray := prog_1_method_62_code
def yX7_wordToTry : MethodName := ⟨RX7, "wordToTry", "(II)I"⟩
abbrev cX7_greatestPart : ByteArray := prog_1_method_63_code
def yX7_greatestPart : MethodName := ⟨RX7, "greatestPart", "(III)I"⟩
abbrev cX7_cellBehind : ByteArray := prog_1_method_64_code
def yX7_cellBehind : MethodName := ⟨RX7, "cellBehind", "(LFigureHeads$Voyage;II)I"⟩
abbrev cX7_partAlike : ByteArray := prog_1_method_65_code
def yX7_partAlike : MethodName := ⟨RX7, "partAlike", "(II)I"⟩
abbrev cX7_passDecade : ByteArray := prog_1_method_66_code
def yX7_passDecade : MethodName := ⟨RX7, "passDecade", "(J)V"⟩
def RX8 : String := "FigureHeadsModel"
def TX8 : u_T := fun k => match k with
  | 0 => ("FigureHeadsModel", "w", "[I", true)
  | 1 => ("FigureHeadsModel", "undoes", "I", false)
  | 2 => ("FigureHeadsModel", "tape", "[I", true)
  | 3 => ("FigureHeadsModel", "taped", "I", false)
  | 4 => ("FigureHeadsModel", "items", "[J", true)
  | 5 => ("FigureHeadsModel", "sheetSize", "[I", true)
  | 6 => ("FigureHeadsModel", "sheetLane", "[I", true)
  | 7 => ("FigureHeadsModel", "at", "I", false)
  | 8 => ("FigureHeadsModel", "left", "[I", true)
  | 9 => ("FigureHeadsModel", "tried", "[I", true)
  | 10 => ("FigureHeadsModel", "best", "[I", true)
  | 11 => ("FigureHeadsModel", "ends", "[I", true)
  | 12 => ("FigureHeadsModel", "held", "[J", true)
  | _ => ("FigureHeadsModel", "then", "[I", true)
def tyX8 : Nat → FieldType := fun k => match k with
  | 0 => .array .int
  | 1 => .int
  | 2 => .array .int
  | 3 => .int
  | 4 => .array .long
  | 5 => .array .int
  | 6 => .array .int
  | 7 => .int
  | 8 => .array .int
  | 9 => .array .int
  | 10 => .array .int
  | 11 => .array .int
  | 12 => .array .long
  | _ => .array .int
abbrev wsX80 : List Cond := u_ws RX8 TX8 14
theorem nmX8 : ∀ a, a < 14 → ∀ b, b < 14 → a ≠ b → (TX8 a).2.1 ≠ (TX8 b).2.1 := by decide +kernel
theorem tyX8_ok : ∀ k, k < 14 → parseFieldDescriptor (TX8 k).2.2.1 = some (tyX8 k) := by decide +kernel
abbrev cX8_init : ByteArray := prog_10_method_1_code
def yX8_init : MethodName := ⟨RX8, "<init>", "()V"⟩
abbrev cX8_in : ByteArray := prog_10_method_3_code
def yX8_in : MethodName := ⟨RX8, "in", "(JJJ)Z"⟩
abbrev cX8_has : ByteArray := prog_10_method_4_code
def yX8_has : MethodName := ⟨RX8, "has", "(II)Z"⟩
abbrev cX8_bring : ByteArray := prog_10_method_6_code
def yX8_bring : MethodName := ⟨RX8, "bring", "(III)V"⟩
abbrev cX8_isFleet : ByteArray := prog_10_method_7_code
def yX8_isFleet : MethodName := ⟨RX8, "isFleet", "()Z"⟩
abbrev cX8_isShip : ByteArray := prog_10_method_8_code
def yX8_isShip : MethodName := ⟨RX8, "isShip", "(I)Z"⟩
abbrev cX8_isTeller : ByteArray := prog_10_method_9_code
def yX8_isTeller : MethodName := ⟨RX8, "isTeller", "(I)Z"⟩
abbrev cX8_isCellIn : ByteArray := prog_10_method_10_code
def yX8_isCellIn : MethodName := ⟨RX8, "isCellIn", "(III)Z"⟩
abbrev cX8_isCell : ByteArray := prog_10_method_11_code
def yX8_isCell : MethodName := ⟨RX8, "isCell", "(I)Z"⟩
abbrev cX8_feed : ByteArray := prog_10_method_12_code
def yX8_feed : MethodName := ⟨RX8, "feed", "(I)I"⟩
abbrev cX8_here : ByteArray := prog_10_method_13_code
def yX8_here : MethodName := ⟨RX8, "here", "()I"⟩
abbrev cX8_takes : ByteArray := prog_10_method_14_code
def yX8_takes : MethodName := ⟨RX8, "takes", "(I)Z"⟩
abbrev cX8_seaOf : ByteArray := prog_10_method_15_code
def yX8_seaOf : MethodName := ⟨RX8, "seaOf", "(I)I"⟩
abbrev cX8_kindOf : ByteArray := prog_10_method_16_code
def yX8_kindOf : MethodName := ⟨RX8, "kindOf", "(I)I"⟩
abbrev cX8_lookOf : ByteArray := prog_10_method_17_code
def yX8_lookOf : MethodName := ⟨RX8, "lookOf", "(I)I"⟩
abbrev cX8_figure : ByteArray := prog_10_method_18_code
def yX8_figure : MethodName := ⟨RX8, "figure", "(I)I"⟩
abbrev cX8_takesRow : ByteArray := prog_10_method_19_code
def yX8_takesRow : MethodName := ⟨RX8, "takesRow", "()Z"⟩
abbrev cX8_takesShip : ByteArray := prog_10_method_20_code
def yX8_takesShip : MethodName := ⟨RX8, "takesShip", "()Z"⟩
abbrev cX8_takesAll : ByteArray := prog_10_method_21_code
def yX8_takesAll : MethodName := ⟨RX8, "takesAll", "()Z"⟩
abbrev cX8_fleet : ByteArray := prog_10_method_22_code
def yX8_fleet : MethodName := ⟨RX8, "fleet", "()I"⟩
abbrev cX8_ship : ByteArray := prog_10_method_23_code
def yX8_ship : MethodName := ⟨RX8, "ship", "(II)I"⟩
abbrev cX8_isA : ByteArray := prog_10_method_24_code
def yX8_isA : MethodName := ⟨RX8, "isA", "(II)Z"⟩
abbrev cX8_as : ByteArray := prog_10_method_25_code
def yX8_as : MethodName := ⟨RX8, "as", "(II)I"⟩
abbrev cX8_sea : ByteArray := prog_10_method_26_code
def yX8_sea : MethodName := ⟨RX8, "sea", "(I)I"⟩
abbrev cX8_credit : ByteArray := prog_10_method_27_code
def yX8_credit : MethodName := ⟨RX8, "credit", "(I)I"⟩
abbrev cX8_oak : ByteArray := prog_10_method_28_code
def yX8_oak : MethodName := ⟨RX8, "oak", "(II)I"⟩
abbrev cX8_doubtIn : ByteArray := prog_10_method_29_code
def yX8_doubtIn : MethodName := ⟨RX8, "doubtIn", "(III)I"⟩
abbrev cX8_believesIn : ByteArray := prog_10_method_30_code
def yX8_believesIn : MethodName := ⟨RX8, "believesIn", "(III)Z"⟩
abbrev cX8_doubt : ByteArray := prog_10_method_31_code
def yX8_doubt : MethodName := ⟨RX8, "doubt", "(II)I"⟩
abbrev cX8_turned : ByteArray := prog_10_method_32_code
def yX8_turned : MethodName := ⟨RX8, "turned", "(III)I"⟩
abbrev cX8_nextOf : ByteArray := prog_10_method_33_code
def yX8_nextOf : MethodName := ⟨RX8, "nextOf", "(III)I"⟩
abbrev cX8_wormed : ByteArray := prog_10_method_34_code
def yX8_wormed : MethodName := ⟨RX8, "wormed", "(II)V"⟩
abbrev cX8_goes : ByteArray := prog_10_method_35_code
def yX8_goes : MethodName := ⟨RX8, "goes", "(II)Z"⟩
abbrev cX8_credits : ByteArray := prog_10_method_36_code
def yX8_credits : MethodName := ⟨RX8, "credits", "(III)V"⟩
abbrev cX8_says : ByteArray := prog_10_method_37_code
def yX8_says : MethodName := ⟨RX8, "says", "(IIII)V"⟩
abbrev cX8_storms : ByteArray := prog_10_method_38_code
def yX8_storms : MethodName := ⟨RX8, "storms", "(IIIIII)V"⟩
abbrev cX8_minds : ByteArray := prog_10_method_39_code
def yX8_minds : MethodName := ⟨RX8, "minds", "()V"⟩
abbrev cX8_isWord : ByteArray := prog_10_method_40_code
def yX8_isWord : MethodName := ⟨RX8, "isWord", "(J)Z"⟩
abbrev cX8_say : ByteArray := prog_10_method_41_code
def yX8_say : MethodName := ⟨RX8, "say", "(III)I"⟩
abbrev cX8_storm : ByteArray := prog_10_method_42_code
def yX8_storm : MethodName := ⟨RX8, "storm", "(IIIII)I"⟩
abbrev cX8_drift : ByteArray := prog_10_method_43_code
def yX8_drift : MethodName := ⟨RX8, "drift", "(I)I"⟩
abbrev cX8_scrape : ByteArray := prog_10_method_44_code
def yX8_scrape : MethodName := ⟨RX8, "scrape", "(I)I"⟩
abbrev cX8_learn : ByteArray := prog_10_method_45_code
def yX8_learn : MethodName := ⟨RX8, "learn", "(I)I"⟩
abbrev cX8_undo : ByteArray := prog_10_method_46_code
def yX8_undo : MethodName := ⟨RX8, "undo", "()I"⟩
abbrev cX8_image : ByteArray := prog_10_method_47_code
def yX8_image : MethodName := ⟨RX8, "image", "(I)I"⟩
abbrev cX8_restore : ByteArray := prog_10_method_48_code
def yX8_restore : MethodName := ⟨RX8, "restore", "(I)I"⟩
abbrev cX8_tries : ByteArray := prog_10_method_49_code
def yX8_tries : MethodName := ⟨RX8, "tries", "()V"⟩
abbrev cX8_believed : ByteArray := prog_10_method_50_code
def yX8_believed : MethodName := ⟨RX8, "believed", "(I)I"⟩
abbrev cX8_strikes : ByteArray := prog_10_method_51_code
def yX8_strikes : MethodName := ⟨RX8, "strikes", "(I)I"⟩
abbrev cX8_leads : ByteArray := prog_10_method_52_code
def yX8_leads : MethodName := ⟨RX8, "leads", "(IZII)I"⟩
abbrev cX8_laysLeft : ByteArray := prog_10_method_53_code
def yX8_laysLeft : MethodName := ⟨RX8, "laysLeft", "(IZI)V"⟩
abbrev cX8_course : ByteArray := prog_10_method_54_code
def yX8_course : MethodName := ⟨RX8, "course", "(IIII)I"⟩
abbrev cX8_bestCrew : ByteArray := prog_10_method_55_code
def yX8_bestCrew : MethodName := ⟨RX8, "bestCrew", "()I"⟩
abbrev cX8_crew : ByteArray := prog_10_method_56_code
def yX8_crew : MethodName := ⟨RX8, "crew", "(I)I"⟩
abbrev cX8_size : ByteArray := prog_10_method_57_code
def yX8_size : MethodName := ⟨RX8, "size", "(I)I"⟩
abbrev cX8_away : ByteArray := prog_10_method_58_code
def yX8_away : MethodName := ⟨RX8, "away", "(II)I"⟩
abbrev cX8_hearing : ByteArray := prog_10_method_59_code
def yX8_hearing : MethodName := ⟨RX8, "hearing", "(III)I"⟩
abbrev cX8_hears : ByteArray := prog_10_method_60_code
def yX8_hears : MethodName := ⟨RX8, "hears", "(II)I"⟩
abbrev cX8_links : ByteArray := prog_10_method_61_code
def yX8_links : MethodName := ⟨RX8, "links", "(I)I"⟩
abbrev cX8_harbourFrom : ByteArray := prog_10_method_62_code
def yX8_harbourFrom : MethodName := ⟨RX8, "harbourFrom", "(I)I"⟩
abbrev cX8_talk : ByteArray := prog_10_method_63_code
def yX8_talk : MethodName := ⟨RX8, "talk", "(IIII)I"⟩
abbrev cX8_decades : ByteArray := prog_10_method_64_code
def yX8_decades : MethodName := ⟨RX8, "decades", "(III)I"⟩
abbrev cX8_wormAll : ByteArray := prog_10_method_65_code
def yX8_wormAll : MethodName := ⟨RX8, "wormAll", "(I)I"⟩
abbrev cX8_creditAll : ByteArray := prog_10_method_66_code
def yX8_creditAll : MethodName := ⟨RX8, "creditAll", "(I)I"⟩
abbrev cX8_isSheet : ByteArray := prog_10_method_67_code
def yX8_isSheet : MethodName := ⟨RX8, "isSheet", "(I)Z"⟩
abbrev cX8_isLane : ByteArray := prog_10_method_68_code
def yX8_isLane : MethodName := ⟨RX8, "isLane", "(II)Z"⟩
abbrev cX8_lowest : ByteArray := prog_10_method_69_code
def yX8_lowest : MethodName := ⟨RX8, "lowest", "(IJ)J"⟩
abbrev cX8_against : ByteArray := prog_10_method_70_code
def yX8_against : MethodName := ⟨RX8, "against", "(IIII)I"⟩
abbrev cX8_sheet : ByteArray := prog_10_method_71_code
def yX8_sheet : MethodName := ⟨RX8, "sheet", "(III)I"⟩
abbrev cX8_drop : ByteArray := prog_10_method_72_code
def yX8_drop : MethodName := ⟨RX8, "drop", "(I)I"⟩
abbrev cX8_item : ByteArray := prog_10_method_73_code
def yX8_item : MethodName := ⟨RX8, "item", "(IIIJ)J"⟩
abbrev cX8_copy : ByteArray := prog_10_method_74_code
def yX8_copy : MethodName := ⟨RX8, "copy", "(IIIII)I"⟩
abbrev cX8_areWords : ByteArray := prog_10_method_75_code
def yX8_areWords : MethodName := ⟨RX8, "areWords", "(III)Z"⟩
abbrev cX8_log : ByteArray := prog_10_method_76_code
def yX8_log : MethodName := ⟨RX8, "log", "(IIIIII)I"⟩
abbrev cX8_rows : ByteArray := prog_10_method_77_code
def yX8_rows : MethodName := ⟨RX8, "rows", "(IIIIIII)I"⟩
abbrev cX8_isSo : ByteArray := prog_10_method_78_code
def yX8_isSo : MethodName := ⟨RX8, "isSo", "(IIIII)Z"⟩
abbrev cX8_bestTry : ByteArray := prog_10_method_79_code
def yX8_bestTry : MethodName := ⟨RX8, "bestTry", "(IIIII)I"⟩
abbrev cX8_kinds : ByteArray := prog_10_method_80_code
def yX8_kinds : MethodName := ⟨RX8, "kinds", "(IIIIIII)I"⟩
abbrev cX8_fog : ByteArray := prog_10_method_81_code
def yX8_fog : MethodName := ⟨RX8, "fog", "(IIIIIII)I"⟩
abbrev cX8_harbours : ByteArray := prog_10_method_82_code
def yX8_harbours : MethodName := ⟨RX8, "harbours", "()I"⟩
abbrev cX8_inHarbour : ByteArray := prog_10_method_83_code
def yX8_inHarbour : MethodName := ⟨RX8, "inHarbour", "()I"⟩
abbrev cX8_count : ByteArray := prog_10_method_84_code
def yX8_count : MethodName := ⟨RX8, "count", "(I)I"⟩
def RJx145de : String := "java/io/Serializable"
def TJx145de : u_T := fun k => match k with
  | _ => ("", "", "", false)
def tyJx145de : Nat → FieldType := fun k => match k with
  | _ => .int
abbrev wsJx145de0 : List Cond := u_ws RJx145de TJx145de 0
theorem nmJx145de : ∀ a, a < 0 → ∀ b, b < 0 → a ≠ b → (TJx145de a).2.1 ≠ (TJx145de b).2.1 := by decide +kernel
theorem tyJx145de_ok : ∀ k, k < 0 → parseFieldDescriptor (TJx145de k).2.2.1 = some (tyJx145de k) := by decide +kernel
def RJx9f9b0 : String := "java/lang/CharSequence"
def TJx9f9b0 : u_T := fun k => match k with
  | _ => ("", "", "", false)
def tyJx9f9b0 : Nat → FieldType := fun k => match k with
  | _ => .int
abbrev wsJx9f9b00 : List Cond := u_ws RJx9f9b0 TJx9f9b0 0
theorem nmJx9f9b0 : ∀ a, a < 0 → ∀ b, b < 0 → a ≠ b → (TJx9f9b0 a).2.1 ≠ (TJx9f9b0 b).2.1 := by decide +kernel
theorem tyJx9f9b0_ok : ∀ k, k < 0 → parseFieldDescriptor (TJx9f9b0 k).2.2.1 = some (tyJx9f9b0 k) := by decide +kernel
def RJ11 : String := "java/lang/Character"
def TJ11 : u_T := fun k => match k with
  | _ => ("", "", "", false)
def tyJ11 : Nat → FieldType := fun k => match k with
  | _ => .int
abbrev wsJ110 : List Cond := u_ws RJ11 TJ11 0
theorem nmJ11 : ∀ a, a < 0 → ∀ b, b < 0 → a ≠ b → (TJ11 a).2.1 ≠ (TJ11 b).2.1 := by decide +kernel
theorem tyJ11_ok : ∀ k, k < 0 → parseFieldDescriptor (TJ11 k).2.2.1 = some (tyJ11 k) := by decide +kernel
abbrev cJ11_isValidCodePoint_9a6ad : ByteArray := prog_11_method_11_code
def yJ11_isValidCodePoint_9a6ad : MethodName := ⟨RJ11, "isValidCodePoint", "(I)Z"⟩
abbrev cJ11_highSurrogate_5068e : ByteArray := prog_11_method_28_code
def yJ11_highSurrogate_5068e : MethodName := ⟨RJ11, "highSurrogate", "(I)C"⟩
abbrev cJ11_lowSurrogate_5068e : ByteArray := prog_11_method_29_code
def yJ11_lowSurrogate_5068e : MethodName := ⟨RJ11, "lowSurrogate", "(I)C"⟩
def RJxb160c : String := "java/lang/Comparable"
def TJxb160c : u_T := fun k => match k with
  | _ => ("", "", "", false)
def tyJxb160c : Nat → FieldType := fun k => match k with
  | _ => .int
abbrev wsJxb160c0 : List Cond := u_ws RJxb160c TJxb160c 0
theorem nmJxb160c : ∀ a, a < 0 → ∀ b, b < 0 → a ≠ b → (TJxb160c a).2.1 ≠ (TJxb160c b).2.1 := by decide +kernel
theorem tyJxb160c_ok : ∀ k, k < 0 → parseFieldDescriptor (TJxb160c k).2.2.1 = some (tyJxb160c k) := by decide +kernel
def RJ9 : String := "java/lang/Math"
def TJ9 : u_T := fun k => match k with
  | _ => ("", "", "", false)
def tyJ9 : Nat → FieldType := fun k => match k with
  | _ => .int
abbrev wsJ90 : List Cond := u_ws RJ9 TJ9 0
theorem nmJ9 : ∀ a, a < 0 → ∀ b, b < 0 → a ≠ b → (TJ9 a).2.1 ≠ (TJ9 b).2.1 := by decide +kernel
theorem tyJ9_ok : ∀ k, k < 0 → parseFieldDescriptor (TJ9 k).2.2.1 = some (tyJ9 k) := by decide +kernel
abbrev cJ9_abs_0f7a4 : ByteArray := prog_12_method_59_code
def yJ9_abs_0f7a4 : MethodName := ⟨RJ9, "abs", "(I)I"⟩
abbrev cJ9_max_7cf53 : ByteArray := prog_12_method_65_code
def yJ9_max_7cf53 : MethodName := ⟨RJ9, "max", "(II)I"⟩
abbrev cJ9_min_7cf53 : ByteArray := prog_12_method_69_code
def yJ9_min_7cf53 : MethodName := ⟨RJ9, "min", "(II)I"⟩
def RJ0 : String := "java/lang/String"
def TJ0 : u_T := fun k => match k with
  | _ => ("", "", "", false)
def tyJ0 : Nat → FieldType := fun k => match k with
  | _ => .int
abbrev wsJ00 : List Cond := u_ws RJ0 TJ0 0
theorem nmJ0 : ∀ a, a < 0 → ∀ b, b < 0 → a ≠ b → (TJ0 a).2.1 ≠ (TJ0 b).2.1 := by decide +kernel
theorem tyJ0_ok : ∀ k, k < 0 → parseFieldDescriptor (TJ0 k).2.2.1 = some (tyJ0 k) := by decide +kernel
abbrev cJ0_length_8abf5 : ByteArray := prog_13_method_54_code
def yJ0_length_8abf5 : MethodName := ⟨RJ0, "length", "()I"⟩
abbrev cJ0_indexOf_0f7a4 : ByteArray := prog_13_method_79_code
def yJ0_indexOf_0f7a4 : MethodName := ⟨RJ0, "indexOf", "(I)I"⟩
abbrev cJ0_indexOf_7cf53 : ByteArray := prog_13_method_80_code
def yJ0_indexOf_7cf53 : MethodName := ⟨RJ0, "indexOf", "(II)I"⟩
abbrev cJ0_coder_7d493 : ByteArray := prog_13_method_152_code
def yJ0_coder_7d493 : MethodName := ⟨RJ0, "coder", "()B"⟩
abbrev cJ0_isLatin1_aae02 : ByteArray := prog_13_method_154_code
def yJ0_isLatin1_aae02 : MethodName := ⟨RJ0, "isLatin1", "()Z"⟩
abbrev cJ0_checkBoundsBeginEnd_23922 : ByteArray := prog_13_method_158_code
def yJ0_checkBoundsBeginEnd_23922 : MethodName := ⟨RJ0, "checkBoundsBeginEnd", "(III)V"⟩
def RJ1 : String := "java/lang/StringLatin1"
def TJ1 : u_T := fun k => match k with
  | _ => ("", "", "", false)
def tyJ1 : Nat → FieldType := fun k => match k with
  | _ => .int
abbrev wsJ10 : List Cond := u_ws RJ1 TJ1 0
theorem nmJ1 : ∀ a, a < 0 → ∀ b, b < 0 → a ≠ b → (TJ1 a).2.1 ≠ (TJ1 b).2.1 := by decide +kernel
theorem tyJ1_ok : ∀ k, k < 0 → parseFieldDescriptor (TJ1 k).2.2.1 = some (tyJ1 k) := by decide +kernel
abbrev cJ1_canEncode_9a6ad : ByteArray := prog_14_method_4_code
def yJ1_canEncode_9a6ad : MethodName := ⟨RJ1, "canEncode", "(I)Z"⟩
abbrev cJ1_indexOf_4cfef : ByteArray := prog_14_method_22_code
def yJ1_indexOf_4cfef : MethodName := ⟨RJ1, "indexOf", "([BIII)I"⟩
abbrev cJ1_indexOfChar_4cfef : ByteArray := prog_14_method_23_code
def yJ1_indexOfChar_4cfef : MethodName := ⟨RJ1, "indexOfChar", "([BIII)I"⟩
def RJ2 : String := "java/lang/StringUTF16"
def TJ2 : u_T := fun k => match k with
  | _ => ("", "", "", false)
def tyJ2 : Nat → FieldType := fun k => match k with
  | _ => .int
abbrev wsJ20 : List Cond := u_ws RJ2 TJ2 0
theorem nmJ2 : ∀ a, a < 0 → ∀ b, b < 0 → a ≠ b → (TJ2 a).2.1 ≠ (TJ2 b).2.1 := by decide +kernel
theorem tyJ2_ok : ∀ k, k < 0 → parseFieldDescriptor (TJ2 k).2.2.1 = some (tyJ2 k) := by decide +kernel
abbrev cJ2_getChar_3b067 : ByteArray := prog_15_method_5_code
def yJ2_getChar_3b067 : MethodName := ⟨RJ2, "getChar", "([BI)C"⟩
abbrev cJ2_length_9d52b : ByteArray := prog_15_method_6_code
def yJ2_length_9d52b : MethodName := ⟨RJ2, "length", "([B)I"⟩
abbrev cJ2_indexOf_4cfef : ByteArray := prog_15_method_40_code
def yJ2_indexOf_4cfef : MethodName := ⟨RJ2, "indexOf", "([BIII)I"⟩
abbrev cJ2_indexOfChar_4cfef : ByteArray := prog_15_method_47_code
def yJ2_indexOfChar_4cfef : MethodName := ⟨RJ2, "indexOfChar", "([BIII)I"⟩
abbrev cJ2_indexOfCharUnsafe_4cfef : ByteArray := prog_15_method_48_code
def yJ2_indexOfCharUnsafe_4cfef : MethodName := ⟨RJ2, "indexOfCharUnsafe", "([BIII)I"⟩
abbrev cJ2_indexOfSupplementary_4cfef : ByteArray := prog_15_method_49_code
def yJ2_indexOfSupplementary_4cfef : MethodName := ⟨RJ2, "indexOfSupplementary", "([BIII)I"⟩
abbrev cJ2_checkBoundsBeginEnd_d044e : ByteArray := prog_15_method_93_code
def yJ2_checkBoundsBeginEnd_d044e : MethodName := ⟨RJ2, "checkBoundsBeginEnd", "(II[B)V"⟩
def RJ10 : String := "java/lang/System"
def TJ10 : u_T := fun k => match k with
  | _ => ("", "", "", false)
def tyJ10 : Nat → FieldType := fun k => match k with
  | _ => .int
abbrev wsJ100 : List Cond := u_ws RJ10 TJ10 0
theorem nmJ10 : ∀ a, a < 0 → ∀ b, b < 0 → a ≠ b → (TJ10 a).2.1 ≠ (TJ10 b).2.1 := by decide +kernel
theorem tyJ10_ok : ∀ k, k < 0 → parseFieldDescriptor (TJ10 k).2.2.1 = some (tyJ10 k) := by decide +kernel
def RJxfd54e : String := "java/lang/constant/Constable"
def TJxfd54e : u_T := fun k => match k with
  | _ => ("", "", "", false)
def tyJxfd54e : Nat → FieldType := fun k => match k with
  | _ => .int
abbrev wsJxfd54e0 : List Cond := u_ws RJxfd54e TJxfd54e 0
theorem nmJxfd54e : ∀ a, a < 0 → ∀ b, b < 0 → a ≠ b → (TJxfd54e a).2.1 ≠ (TJxfd54e b).2.1 := by decide +kernel
theorem tyJxfd54e_ok : ∀ k, k < 0 → parseFieldDescriptor (TJxfd54e k).2.2.1 = some (tyJxfd54e k) := by decide +kernel
def RJx3cf43 : String := "java/lang/constant/ConstantDesc"
def TJx3cf43 : u_T := fun k => match k with
  | _ => ("", "", "", false)
def tyJx3cf43 : Nat → FieldType := fun k => match k with
  | _ => .int
abbrev wsJx3cf430 : List Cond := u_ws RJx3cf43 TJx3cf43 0
theorem nmJx3cf43 : ∀ a, a < 0 → ∀ b, b < 0 → a ≠ b → (TJx3cf43 a).2.1 ≠ (TJx3cf43 b).2.1 := by decide +kernel
theorem tyJx3cf43_ok : ∀ k, k < 0 → parseFieldDescriptor (TJx3cf43 k).2.2.1 = some (tyJx3cf43 k) := by decide +kernel
def RJ7 : String := "java/util/Arrays"
def TJ7 : u_T := fun k => match k with
  | _ => ("", "", "", false)
def tyJ7 : Nat → FieldType := fun k => match k with
  | _ => .int
abbrev wsJ70 : List Cond := u_ws RJ7 TJ7 0
theorem nmJ7 : ∀ a, a < 0 → ∀ b, b < 0 → a ≠ b → (TJ7 a).2.1 ≠ (TJ7 b).2.1 := by decide +kernel
theorem tyJ7_ok : ∀ k, k < 0 → parseFieldDescriptor (TJ7 k).2.2.1 = some (tyJ7 k) := by decide +kernel
abbrev cJ7_fill_d0a16 : ByteArray := prog_17_method_101_code
def yJ7_fill_d0a16 : MethodName := ⟨RJ7, "fill", "([JJ)V"⟩
abbrev cJ7_fill_53178 : ByteArray := prog_17_method_103_code
def yJ7_fill_53178 : MethodName := ⟨RJ7, "fill", "([II)V"⟩
def RJ3 : String := "jdk/internal/util/Preconditions"
def TJ3 : u_T := fun k => match k with
  | _ => ("", "", "", false)
def tyJ3 : Nat → FieldType := fun k => match k with
  | _ => .int
abbrev wsJ30 : List Cond := u_ws RJ3 TJ3 0
theorem nmJ3 : ∀ a, a < 0 → ∀ b, b < 0 → a ≠ b → (TJ3 a).2.1 ≠ (TJ3 b).2.1 := by decide +kernel
theorem tyJ3_ok : ∀ k, k < 0 → parseFieldDescriptor (TJ3 k).2.2.1 = some (tyJ3 k) := by decide +kernel
abbrev cJ3_checkFromToIndex_8c36e : ByteArray := prog_18_method_12_code
def yJ3_checkFromToIndex_8c36e : MethodName := ⟨RJ3, "checkFromToIndex", "(IIILjava/util/function/BiFunction;)I"⟩
def RL : String := "FigureHeadsLaw"
abbrev cL_law : ByteArray := code
def yL_law : MethodName := ⟨RL, "law", "([I)Z"⟩
