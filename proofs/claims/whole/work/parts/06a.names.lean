/-! ===== BEGIN words of one list among another's, by their places ===== -/
theorem goodIn_r {big : List Cond} (ws : List Cond) (ps : List Nat) (hp : ws = ps.filterMap (fun i => big[i]?)) (h : ws.all goodWord = true) : GoodIn big ws := by
  intro w hw
  have h1 := List.all_eq_true.mp h w hw
  rw [hp] at hw
  obtain ⟨i, -, hi⟩ := List.mem_filterMap.mp hw
  have hm : w ∈ big := by first | exact List.mem_of_getElem? hi | exact List.getElem?_mem hi
  exact ⟨hm, good_of_word h1⟩
theorem goodIn_app {big a b : List Cond} (ha : GoodIn big a) (hb : GoodIn big b) : GoodIn big (a ++ b) := fun w h => (List.mem_append.mp h).elim (ha w) (hb w)
theorem goodIn_ca {big a b : List Cond} {c : Cond} (ha : GoodIn big (c :: a)) (hb : GoodIn big b) : GoodIn big (c :: (a ++ b)) := fun w h => (List.mem_cons.mp h).elim (fun e => ha w (List.mem_cons.mpr (Or.inl e))) (fun h => (List.mem_append.mp h).elim (fun h => ha w (List.mem_cons.mpr (Or.inr h))) (hb w))
theorem goodIn_sub {big ws : List Cond} (hm : ∀ w ∈ ws, w ∈ big) (h : ws.all goodWord = true) : GoodIn big ws := fun w hw => ⟨hm w hw, good_of_word (List.all_eq_true.mp h w hw)⟩
/-! ===== END ===== -/

/-! ===== BEGIN printed: names, fields, word lists, decode rows ===== -/
def RX0 : String := "RowPress$Order"
def TX0 : u_T := fun k => match k with
  | _ => ("", "", "", false)
def tyX0 : Nat → FieldType := fun k => match k with
  | _ => .int
abbrev wsX00 : List Cond := u_ws RX0 TX0 0
theorem nmX0 : ∀ a, a < 0 → ∀ b, b < 0 → a ≠ b → (TX0 a).2.1 ≠ (TX0 b).2.1 := by decide +kernel
theorem tyX0_ok : ∀ k, k < 0 → parseFieldDescriptor (TX0 k).2.2.1 = some (tyX0 k) := by decide +kernel
abbrev cX0_exists : ByteArray := prog_2_method_2_code
def yX0_exists : MethodName := ⟨RX0, "exists", "(I)Z"⟩
abbrev cX0_isLess : ByteArray := prog_2_method_3_code
def yX0_isLess : MethodName := ⟨RX0, "isLess", "(III)Z"⟩
def RX1 : String := "RowPress$Row"
def TX1 : u_T := fun k => match k with
  | 0 => ("RowPress$Row", "keys", "[I", true)
  | 1 => ("RowPress$Row", "tags", "[I", true)
  | 2 => ("RowPress$Row", "size", "I", false)
  | 3 => ("RowPress$Row", "compares", "I", false)
  | _ => ("RowPress$Row", "writes", "I", false)
def tyX1 : Nat → FieldType := fun k => match k with
  | 0 => .array .int
  | 1 => .array .int
  | 2 => .int
  | 3 => .int
  | _ => .int
abbrev wsX10 : List Cond := u_ws RX1 TX1 5
theorem nmX1 : ∀ a, a < 5 → ∀ b, b < 5 → a ≠ b → (TX1 a).2.1 ≠ (TX1 b).2.1 := by decide +kernel
theorem tyX1_ok : ∀ k, k < 5 → parseFieldDescriptor (TX1 k).2.2.1 = some (tyX1 k) := by decide +kernel
abbrev cX1_init : ByteArray := prog_3_method_1_code
def yX1_init : MethodName := ⟨RX1, "<init>", "()V"⟩
abbrev cX1_hasRoomFor : ByteArray := prog_3_method_2_code
def yX1_hasRoomFor : MethodName := ⟨RX1, "hasRoomFor", "(I)Z"⟩
abbrev cX1_hasPlace : ByteArray := prog_3_method_3_code
def yX1_hasPlace : MethodName := ⟨RX1, "hasPlace", "(I)Z"⟩
abbrev cX1_hasStretch : ByteArray := prog_3_method_4_code
def yX1_hasStretch : MethodName := ⟨RX1, "hasStretch", "(II)Z"⟩
abbrev cX1_hasStretches : ByteArray := prog_3_method_5_code
def yX1_hasStretches : MethodName := ⟨RX1, "hasStretches", "(III)Z"⟩
abbrev cX1_append : ByteArray := prog_3_method_6_code
def yX1_append : MethodName := ⟨RX1, "append", "(II)V"⟩
abbrev cX1_startCounting : ByteArray := prog_3_method_7_code
def yX1_startCounting : MethodName := ⟨RX1, "startCounting", "()V"⟩
abbrev cX1_inOrder : ByteArray := prog_3_method_8_code
def yX1_inOrder : MethodName := ⟨RX1, "inOrder", "(III)Z"⟩
abbrev cX1_countLess : ByteArray := prog_3_method_9_code
def yX1_countLess : MethodName := ⟨RX1, "countLess", "(IIII)I"⟩
abbrev cX1_countNotMore : ByteArray := prog_3_method_10_code
def yX1_countNotMore : MethodName := ⟨RX1, "countNotMore", "(IIII)I"⟩
abbrev cX1_countSortedStretches : ByteArray := prog_3_method_11_code
def yX1_countSortedStretches : MethodName := ⟨RX1, "countSortedStretches", "()I"⟩
abbrev cX1_countDifferentKeys : ByteArray := prog_3_method_12_code
def yX1_countDifferentKeys : MethodName := ⟨RX1, "countDifferentKeys", "()I"⟩
abbrev cX1_standsBefore : ByteArray := prog_3_method_13_code
def yX1_standsBefore : MethodName := ⟨RX1, "standsBefore", "(I)Z"⟩
abbrev cX1_sortInPlace : ByteArray := prog_3_method_14_code
def yX1_sortInPlace : MethodName := ⟨RX1, "sortInPlace", "(III)V"⟩
abbrev cX1_mergeInPlace : ByteArray := prog_3_method_15_code
def yX1_mergeInPlace : MethodName := ⟨RX1, "mergeInPlace", "(LRowPress$Row;IIIII)V"⟩
abbrev cX1_startOfBlocks : ByteArray := prog_3_method_16_code
def yX1_startOfBlocks : MethodName := ⟨RX1, "startOfBlocks", "(IIII)I"⟩
abbrev cX1_splitInPlace : ByteArray := prog_3_method_17_code
def yX1_splitInPlace : MethodName := ⟨RX1, "splitInPlace", "(IIII)V"⟩
abbrev cX1_dropAlike : ByteArray := prog_3_method_18_code
def yX1_dropAlike : MethodName := ⟨RX1, "dropAlike", "(I)V"⟩
abbrev cX1_swapBlocks : ByteArray := prog_3_method_19_code
def yX1_swapBlocks : MethodName := ⟨RX1, "swapBlocks", "(III)V"⟩
abbrev cX1_reverse : ByteArray := prog_3_method_20_code
def yX1_reverse : MethodName := ⟨RX1, "reverse", "(II)V"⟩
abbrev cX1_swapPairs : ByteArray := prog_3_method_21_code
def yX1_swapPairs : MethodName := ⟨RX1, "swapPairs", "(II)V"⟩
abbrev cX1_lessAt : ByteArray := prog_3_method_22_code
def yX1_lessAt : MethodName := ⟨RX1, "lessAt", "(III)Z"⟩
def RX2 : String := "RowPress"
def TX2 : u_T := fun k => match k with
  | 0 => ("RowPress", "row", "LRowPress$Row;", true)
  | 1 => ("RowPress", "latestPairs", "I", false)
  | 2 => ("RowPress", "latestCompares", "I", false)
  | _ => ("RowPress", "latestWrites", "I", false)
def tyX2 : Nat → FieldType := fun k => match k with
  | 0 => .object "RowPress$Row"
  | 1 => .int
  | 2 => .int
  | _ => .int
abbrev wsX20 : List Cond := u_ws RX2 TX2 4
theorem nmX2 : ∀ a, a < 4 → ∀ b, b < 4 → a ≠ b → (TX2 a).2.1 ≠ (TX2 b).2.1 := by decide +kernel
theorem tyX2_ok : ∀ k, k < 4 → parseFieldDescriptor (TX2 k).2.2.1 = some (tyX2 k) := by decide +kernel
abbrev cX2_init : ByteArray := prog_1_method_1_code
def yX2_init : MethodName := ⟨RX2, "<init>", "()V"⟩
abbrev cX2_put : ByteArray := prog_1_method_2_code
def yX2_put : MethodName := ⟨RX2, "put", "(II)I"⟩
abbrev cX2_run : ByteArray := prog_1_method_3_code
def yX2_run : MethodName := ⟨RX2, "run", "(IIII)I"⟩
abbrev cX2_clear : ByteArray := prog_1_method_4_code
def yX2_clear : MethodName := ⟨RX2, "clear", "()I"⟩
abbrev cX2_sort : ByteArray := prog_1_method_5_code
def yX2_sort : MethodName := ⟨RX2, "sort", "(I)I"⟩
abbrev cX2_sortPart : ByteArray := prog_1_method_6_code
def yX2_sortPart : MethodName := ⟨RX2, "sortPart", "(III)I"⟩
abbrev cX2_merge : ByteArray := prog_1_method_7_code
def yX2_merge : MethodName := ⟨RX2, "merge", "(IIII)I"⟩
abbrev cX2_rotate : ByteArray := prog_1_method_8_code
def yX2_rotate : MethodName := ⟨RX2, "rotate", "(III)I"⟩
abbrev cX2_turn : ByteArray := prog_1_method_9_code
def yX2_turn : MethodName := ⟨RX2, "turn", "(II)I"⟩
abbrev cX2_split : ByteArray := prog_1_method_10_code
def yX2_split : MethodName := ⟨RX2, "split", "(IIII)I"⟩
abbrev cX2_thin : ByteArray := prog_1_method_11_code
def yX2_thin : MethodName := ⟨RX2, "thin", "(I)I"⟩
abbrev cX2_sorted : ByteArray := prog_1_method_12_code
def yX2_sorted : MethodName := ⟨RX2, "sorted", "(III)I"⟩
abbrev cX2_find : ByteArray := prog_1_method_13_code
def yX2_find : MethodName := ⟨RX2, "find", "(III)I"⟩
abbrev cX2_rank : ByteArray := prog_1_method_14_code
def yX2_rank : MethodName := ⟨RX2, "rank", "(II)I"⟩
abbrev cX2_key : ByteArray := prog_1_method_15_code
def yX2_key : MethodName := ⟨RX2, "key", "(I)I"⟩
abbrev cX2_tag : ByteArray := prog_1_method_16_code
def yX2_tag : MethodName := ⟨RX2, "tag", "(I)I"⟩
abbrev cX2_count : ByteArray := prog_1_method_17_code
def yX2_count : MethodName := ⟨RX2, "count", "(I)I"⟩
abbrev cX2_check : ByteArray := prog_1_method_18_code
def yX2_check : MethodName := ⟨RX2, "check", "()I"⟩
abbrev cX2_keepCounts : ByteArray := prog_1_method_19_code
def yX2_keepCounts : MethodName := ⟨RX2, "keepCounts", "(I)V"⟩
abbrev cX2_levels : ByteArray := prog_1_method_20_code
def yX2_levels : MethodName := ⟨RX2, "levels", "(I)I"⟩
def RX3 : String := "RowPressModel"
def TX3 : u_T := fun k => match k with
  | 0 => ("RowPressModel", "keys", "[I", true)
  | 1 => ("RowPressModel", "tags", "[I", true)
  | 2 => ("RowPressModel", "many", "I", false)
  | 3 => ("RowPressModel", "nextKeys", "[I", true)
  | _ => ("RowPressModel", "nextTags", "[I", true)
def tyX3 : Nat → FieldType := fun k => match k with
  | 0 => .array .int
  | 1 => .array .int
  | 2 => .int
  | 3 => .array .int
  | _ => .array .int
abbrev wsX30 : List Cond := u_ws RX3 TX3 5
theorem nmX3 : ∀ a, a < 5 → ∀ b, b < 5 → a ≠ b → (TX3 a).2.1 ≠ (TX3 b).2.1 := by decide +kernel
theorem tyX3_ok : ∀ k, k < 5 → parseFieldDescriptor (TX3 k).2.2.1 = some (tyX3 k) := by decide +kernel
abbrev cX3_init : ByteArray := prog_5_method_1_code
def yX3_init : MethodName := ⟨RX3, "<init>", "()V"⟩
abbrev cX3_isOrder : ByteArray := prog_5_method_2_code
def yX3_isOrder : MethodName := ⟨RX3, "isOrder", "(I)Z"⟩
abbrev cX3_isStretch : ByteArray := prog_5_method_3_code
def yX3_isStretch : MethodName := ⟨RX3, "isStretch", "(II)Z"⟩
abbrev cX3_isLess : ByteArray := prog_5_method_4_code
def yX3_isLess : MethodName := ⟨RX3, "isLess", "(III)Z"⟩
abbrev cX3_isSorted : ByteArray := prog_5_method_5_code
def yX3_isSorted : MethodName := ⟨RX3, "isSorted", "(III)Z"⟩
abbrev cX3_put : ByteArray := prog_5_method_6_code
def yX3_put : MethodName := ⟨RX3, "put", "(II)I"⟩
abbrev cX3_run : ByteArray := prog_5_method_7_code
def yX3_run : MethodName := ⟨RX3, "run", "(IIII)I"⟩
abbrev cX3_clear : ByteArray := prog_5_method_8_code
def yX3_clear : MethodName := ⟨RX3, "clear", "()I"⟩
abbrev cX3_place : ByteArray := prog_5_method_9_code
def yX3_place : MethodName := ⟨RX3, "place", "(IIII)I"⟩
abbrev cX3_move : ByteArray := prog_5_method_10_code
def yX3_move : MethodName := ⟨RX3, "move", "(II)V"⟩
abbrev cX3_take : ByteArray := prog_5_method_11_code
def yX3_take : MethodName := ⟨RX3, "take", "(II)V"⟩
abbrev cX3_arrange : ByteArray := prog_5_method_12_code
def yX3_arrange : MethodName := ⟨RX3, "arrange", "(III)V"⟩
abbrev cX3_sort : ByteArray := prog_5_method_13_code
def yX3_sort : MethodName := ⟨RX3, "sort", "(I)I"⟩
abbrev cX3_sortPart : ByteArray := prog_5_method_14_code
def yX3_sortPart : MethodName := ⟨RX3, "sortPart", "(III)I"⟩
abbrev cX3_merge : ByteArray := prog_5_method_15_code
def yX3_merge : MethodName := ⟨RX3, "merge", "(IIII)I"⟩
abbrev cX3_rotate : ByteArray := prog_5_method_16_code
def yX3_rotate : MethodName := ⟨RX3, "rotate", "(III)I"⟩
abbrev cX3_turn : ByteArray := prog_5_method_17_code
def yX3_turn : MethodName := ⟨RX3, "turn", "(II)I"⟩
abbrev cX3_split : ByteArray := prog_5_method_18_code
def yX3_split : MethodName := ⟨RX3, "split", "(IIII)I"⟩
abbrev cX3_thin : ByteArray := prog_5_method_19_code
def yX3_thin : MethodName := ⟨RX3, "thin", "(I)I"⟩
abbrev cX3_sorted : ByteArray := prog_5_method_20_code
def yX3_sorted : MethodName := ⟨RX3, "sorted", "(III)I"⟩
abbrev cX3_find : ByteArray := prog_5_method_21_code
def yX3_find : MethodName := ⟨RX3, "find", "(III)I"⟩
abbrev cX3_rank : ByteArray := prog_5_method_22_code
def yX3_rank : MethodName := ⟨RX3, "rank", "(II)I"⟩
abbrev cX3_key : ByteArray := prog_5_method_23_code
def yX3_key : MethodName := ⟨RX3, "key", "(I)I"⟩
abbrev cX3_tag : ByteArray := prog_5_method_24_code
def yX3_tag : MethodName := ⟨RX3, "tag", "(I)I"⟩
abbrev cX3_stretches : ByteArray := prog_5_method_25_code
def yX3_stretches : MethodName := ⟨RX3, "stretches", "()I"⟩
abbrev cX3_different : ByteArray := prog_5_method_26_code
def yX3_different : MethodName := ⟨RX3, "different", "()I"⟩
abbrev cX3_count : ByteArray := prog_5_method_27_code
def yX3_count : MethodName := ⟨RX3, "count", "(I)I"⟩
abbrev cX3_check : ByteArray := prog_5_method_28_code
def yX3_check : MethodName := ⟨RX3, "check", "()I"⟩
def RJ9 : String := "java/lang/Math"
def TJ9 : u_T := fun k => match k with
  | _ => ("", "", "", false)
def tyJ9 : Nat → FieldType := fun k => match k with
  | _ => .int
abbrev wsJ90 : List Cond := u_ws RJ9 TJ9 0
theorem nmJ9 : ∀ a, a < 0 → ∀ b, b < 0 → a ≠ b → (TJ9 a).2.1 ≠ (TJ9 b).2.1 := by decide +kernel
theorem tyJ9_ok : ∀ k, k < 0 → parseFieldDescriptor (TJ9 k).2.2.1 = some (tyJ9 k) := by decide +kernel
abbrev cJ9_min_7cf53 : ByteArray := prog_6_method_69_code
def yJ9_min_7cf53 : MethodName := ⟨RJ9, "min", "(II)I"⟩
def RL : String := "RowPressLaw"
abbrev cL_law : ByteArray := code
def yL_law : MethodName := ⟨RL, "law", "([I)Z"⟩
def wsX0_exists : List Cond := .code yX0_exists cX0_exists 1 (some .boolean) :: ([])
def wsX0_isLess : List Cond := .code yX0_isLess cX0_isLess 3 (some .boolean) :: ([.constant RX0 9 (-2147483648)])
def wsX1_init : List Cond := .code yX1_init cX1_init 1 none :: ([.methodLink RX1 1 objectInit, .instanceMethod objectInit, .code objectInit ⟨#[0xb1]⟩ 1 none, .arrayClass .int, .fieldLink RX1 9 "RowPress$Row" "keys" "[I", .fieldLink RX1 13 "RowPress$Row" "tags" "[I"] ++ wsX10)
def wsX1_hasRoomFor : List Cond := .code yX1_hasRoomFor cX1_hasRoomFor 2 (some .boolean) :: ([.fieldLink RX1 16 "RowPress$Row" "size" "I"] ++ wsX10)
def wsX1_hasPlace : List Cond := .code yX1_hasPlace cX1_hasPlace 2 (some .boolean) :: ([.fieldLink RX1 16 "RowPress$Row" "size" "I"] ++ wsX10)
def wsX1_hasStretch : List Cond := .code yX1_hasStretch cX1_hasStretch 3 (some .boolean) :: ([.fieldLink RX1 16 "RowPress$Row" "size" "I"] ++ wsX10)
def wsX1_hasStretches : List Cond := .code yX1_hasStretches cX1_hasStretches 4 (some .boolean) :: ([.methodLink RX1 20 yX1_hasStretch, .instanceMethod yX1_hasStretch, .selects RX1 yX1_hasStretch yX1_hasStretch, .initialized RX1, .code yX1_hasStretch cX1_hasStretch 3 (some .boolean), .fieldLink RX1 16 "RowPress$Row" "size" "I"] ++ wsX10)
def wsX1_append : List Cond := .code yX1_append cX1_append 3 none :: ([.fieldLink RX1 9 "RowPress$Row" "keys" "[I", .fieldLink RX1 16 "RowPress$Row" "size" "I", .fieldLink RX1 13 "RowPress$Row" "tags" "[I"] ++ wsX10)
def wsX1_startCounting : List Cond := .code yX1_startCounting cX1_startCounting 1 none :: ([.fieldLink RX1 24 "RowPress$Row" "compares" "I", .fieldLink RX1 27 "RowPress$Row" "writes" "I"] ++ wsX10)
def wsX1_lessAt : List Cond := .code yX1_lessAt cX1_lessAt 4 (some .boolean) :: ([.fieldLink RX1 24 "RowPress$Row" "compares" "I", .fieldLink RX1 9 "RowPress$Row" "keys" "[I", .methodLink RX1 34 yX0_isLess, .static yX0_isLess, .initialized RX0, .code yX0_isLess cX0_isLess 3 (some .boolean), .constant RX0 9 (-2147483648)] ++ wsX10)
def wsX1_inOrder : List Cond := .code yX1_inOrder cX1_inOrder 5 (some .boolean) :: ([.methodLink RX1 30 yX1_lessAt, .instanceMethod yX1_lessAt, .selects RX1 yX1_lessAt yX1_lessAt, .initialized RX1, .code yX1_lessAt cX1_lessAt 4 (some .boolean), .fieldLink RX1 24 "RowPress$Row" "compares" "I", .fieldLink RX1 9 "RowPress$Row" "keys" "[I", .methodLink RX1 34 yX0_isLess, .static yX0_isLess, .initialized RX0, .code yX0_isLess cX0_isLess 3 (some .boolean), .constant RX0 9 (-2147483648)] ++ wsX10)
def wsX1_countLess : List Cond := .code yX1_countLess cX1_countLess 7 (some .int) :: ([.fieldLink RX1 9 "RowPress$Row" "keys" "[I", .methodLink RX1 34 yX0_isLess, .static yX0_isLess, .initialized RX0, .code yX0_isLess cX0_isLess 3 (some .boolean), .constant RX0 9 (-2147483648)] ++ wsX10)
def wsX1_countNotMore : List Cond := .code yX1_countNotMore cX1_countNotMore 7 (some .int) :: ([.fieldLink RX1 9 "RowPress$Row" "keys" "[I", .methodLink RX1 34 yX0_isLess, .static yX0_isLess, .initialized RX0, .code yX0_isLess cX0_isLess 3 (some .boolean), .constant RX0 9 (-2147483648)] ++ wsX10)
def wsX1_countSortedStretches : List Cond := .code yX1_countSortedStretches cX1_countSortedStretches 3 (some .int) :: ([.fieldLink RX1 16 "RowPress$Row" "size" "I", .fieldLink RX1 9 "RowPress$Row" "keys" "[I"] ++ wsX10)
def wsX1_standsBefore : List Cond := .code yX1_standsBefore cX1_standsBefore 3 (some .boolean) :: ([.fieldLink RX1 9 "RowPress$Row" "keys" "[I"] ++ wsX10)
def wsX1_countDifferentKeys : List Cond := .code yX1_countDifferentKeys cX1_countDifferentKeys 3 (some .int) :: ([.fieldLink RX1 16 "RowPress$Row" "size" "I", .methodLink RX1 39 yX1_standsBefore, .instanceMethod yX1_standsBefore, .selects RX1 yX1_standsBefore yX1_standsBefore, .initialized RX1, .code yX1_standsBefore cX1_standsBefore 3 (some .boolean), .fieldLink RX1 9 "RowPress$Row" "keys" "[I"] ++ wsX10)
def wsX1_startOfBlocks : List Cond := .code yX1_startOfBlocks cX1_startOfBlocks 10 (some .int) :: ([.methodLink RX1 30 yX1_lessAt, .instanceMethod yX1_lessAt, .selects RX1 yX1_lessAt yX1_lessAt, .initialized RX1, .code yX1_lessAt cX1_lessAt 4 (some .boolean), .fieldLink RX1 24 "RowPress$Row" "compares" "I", .fieldLink RX1 9 "RowPress$Row" "keys" "[I", .methodLink RX1 34 yX0_isLess, .static yX0_isLess, .initialized RX0, .code yX0_isLess cX0_isLess 3 (some .boolean), .constant RX0 9 (-2147483648)] ++ wsX10)
def wsX1_swapPairs : List Cond := .code yX1_swapPairs cX1_swapPairs 5 none :: ([.fieldLink RX1 9 "RowPress$Row" "keys" "[I", .fieldLink RX1 27 "RowPress$Row" "writes" "I", .fieldLink RX1 13 "RowPress$Row" "tags" "[I"] ++ wsX10)
def wsX1_reverse : List Cond := .code yX1_reverse cX1_reverse 5 none :: ([.methodLink RX1 68 yX1_swapPairs, .instanceMethod yX1_swapPairs, .selects RX1 yX1_swapPairs yX1_swapPairs, .initialized RX1, .code yX1_swapPairs cX1_swapPairs 5 none, .fieldLink RX1 9 "RowPress$Row" "keys" "[I", .fieldLink RX1 27 "RowPress$Row" "writes" "I", .fieldLink RX1 13 "RowPress$Row" "tags" "[I"] ++ wsX10)
def wsX1_swapBlocks : List Cond := .code yX1_swapBlocks cX1_swapBlocks 4 none :: ([.methodLink RX1 64 yX1_reverse, .instanceMethod yX1_reverse, .selects RX1 yX1_reverse yX1_reverse, .initialized RX1, .code yX1_reverse cX1_reverse 5 none, .methodLink RX1 68 yX1_swapPairs, .instanceMethod yX1_swapPairs, .selects RX1 yX1_swapPairs yX1_swapPairs, .code yX1_swapPairs cX1_swapPairs 5 none, .fieldLink RX1 9 "RowPress$Row" "keys" "[I", .fieldLink RX1 27 "RowPress$Row" "writes" "I", .fieldLink RX1 13 "RowPress$Row" "tags" "[I"] ++ wsX10)
def wsX1_mergeInPlace_r1 : List Cond := [Cond.methodLink RX1 53 yX1_startOfBlocks, Cond.instanceMethod yX1_startOfBlocks, Cond.selects RX1 yX1_startOfBlocks yX1_startOfBlocks, Cond.initialized RX1, Cond.code yX1_startOfBlocks cX1_startOfBlocks 10 (some .int), Cond.methodLink RX1 30 yX1_lessAt, Cond.instanceMethod yX1_lessAt, Cond.selects RX1 yX1_lessAt yX1_lessAt, Cond.code yX1_lessAt cX1_lessAt 4 (some .boolean), Cond.fieldLink RX1 24 "RowPress$Row" "compares" "I", Cond.fieldLink RX1 9 "RowPress$Row" "keys" "[I", Cond.methodLink RX1 34 yX0_isLess, Cond.static yX0_isLess, Cond.initialized RX0, Cond.code yX0_isLess cX0_isLess 3 (some .boolean), Cond.constant RX0 9 (-2147483648), Cond.methodLink RX1 57 yX1_swapBlocks, Cond.instanceMethod yX1_swapBlocks, Cond.selects RX1 yX1_swapBlocks yX1_swapBlocks, Cond.code yX1_swapBlocks cX1_swapBlocks 4 none, Cond.methodLink RX1 64 yX1_reverse, Cond.instanceMethod yX1_reverse, Cond.selects RX1 yX1_reverse yX1_reverse, Cond.code yX1_reverse cX1_reverse 5 none]
def wsX1_mergeInPlace_r2 : List Cond := [Cond.methodLink RX1 68 yX1_swapPairs, Cond.instanceMethod yX1_swapPairs, Cond.selects RX1 yX1_swapPairs yX1_swapPairs, Cond.code yX1_swapPairs cX1_swapPairs 5 none, Cond.fieldLink RX1 27 "RowPress$Row" "writes" "I", Cond.fieldLink RX1 13 "RowPress$Row" "tags" "[I", Cond.methodLink RX1 49 yX1_mergeInPlace, Cond.static yX1_mergeInPlace]
def wsX1_mergeInPlace : List Cond := .code yX1_mergeInPlace cX1_mergeInPlace 9 none :: ((wsX1_mergeInPlace_r1 ++ wsX1_mergeInPlace_r2) ++ wsX10)
def wsX1_sortInPlace_r1 : List Cond := [Cond.methodLink RX1 43 Lib.Math.min.name, Cond.static Lib.Math.min.name, Cond.initialized "java/lang/Math", Cond.code Lib.Math.min.name Lib.Math.min.code 2 (some .int), Cond.methodLink RX1 49 yX1_mergeInPlace, Cond.static yX1_mergeInPlace, Cond.initialized RX1, Cond.code yX1_mergeInPlace cX1_mergeInPlace 9 none, Cond.methodLink RX1 53 yX1_startOfBlocks, Cond.instanceMethod yX1_startOfBlocks, Cond.selects RX1 yX1_startOfBlocks yX1_startOfBlocks, Cond.code yX1_startOfBlocks cX1_startOfBlocks 10 (some .int), Cond.methodLink RX1 30 yX1_lessAt, Cond.instanceMethod yX1_lessAt, Cond.selects RX1 yX1_lessAt yX1_lessAt, Cond.code yX1_lessAt cX1_lessAt 4 (some .boolean), Cond.fieldLink RX1 24 "RowPress$Row" "compares" "I", Cond.fieldLink RX1 9 "RowPress$Row" "keys" "[I", Cond.methodLink RX1 34 yX0_isLess, Cond.static yX0_isLess, Cond.initialized RX0, Cond.code yX0_isLess cX0_isLess 3 (some .boolean), Cond.constant RX0 9 (-2147483648), Cond.methodLink RX1 57 yX1_swapBlocks]
def wsX1_sortInPlace_r2 : List Cond := [Cond.instanceMethod yX1_swapBlocks, Cond.selects RX1 yX1_swapBlocks yX1_swapBlocks, Cond.code yX1_swapBlocks cX1_swapBlocks 4 none, Cond.methodLink RX1 64 yX1_reverse, Cond.instanceMethod yX1_reverse, Cond.selects RX1 yX1_reverse yX1_reverse, Cond.code yX1_reverse cX1_reverse 5 none, Cond.methodLink RX1 68 yX1_swapPairs, Cond.instanceMethod yX1_swapPairs, Cond.selects RX1 yX1_swapPairs yX1_swapPairs, Cond.code yX1_swapPairs cX1_swapPairs 5 none, Cond.fieldLink RX1 27 "RowPress$Row" "writes" "I", Cond.fieldLink RX1 13 "RowPress$Row" "tags" "[I"]
def wsX1_sortInPlace : List Cond := .code yX1_sortInPlace cX1_sortInPlace 7 none :: ((wsX1_sortInPlace_r1 ++ wsX1_sortInPlace_r2) ++ wsX10)
def wsX1_splitInPlace_r1 : List Cond := [Cond.methodLink RX1 43 Lib.Math.min.name, Cond.static Lib.Math.min.name, Cond.initialized "java/lang/Math", Cond.code Lib.Math.min.name Lib.Math.min.code 2 (some .int), Cond.methodLink RX1 61 yX1_countLess, Cond.instanceMethod yX1_countLess, Cond.selects RX1 yX1_countLess yX1_countLess, Cond.initialized RX1, Cond.code yX1_countLess cX1_countLess 7 (some .int), Cond.fieldLink RX1 9 "RowPress$Row" "keys" "[I", Cond.methodLink RX1 34 yX0_isLess, Cond.static yX0_isLess, Cond.initialized RX0, Cond.code yX0_isLess cX0_isLess 3 (some .boolean), Cond.constant RX0 9 (-2147483648), Cond.methodLink RX1 57 yX1_swapBlocks, Cond.instanceMethod yX1_swapBlocks, Cond.selects RX1 yX1_swapBlocks yX1_swapBlocks, Cond.code yX1_swapBlocks cX1_swapBlocks 4 none, Cond.methodLink RX1 64 yX1_reverse, Cond.instanceMethod yX1_reverse, Cond.selects RX1 yX1_reverse yX1_reverse, Cond.code yX1_reverse cX1_reverse 5 none, Cond.methodLink RX1 68 yX1_swapPairs]
def wsX1_splitInPlace_r2 : List Cond := [Cond.instanceMethod yX1_swapPairs, Cond.selects RX1 yX1_swapPairs yX1_swapPairs, Cond.code yX1_swapPairs cX1_swapPairs 5 none, Cond.fieldLink RX1 27 "RowPress$Row" "writes" "I", Cond.fieldLink RX1 13 "RowPress$Row" "tags" "[I"]
def wsX1_splitInPlace : List Cond := .code yX1_splitInPlace cX1_splitInPlace 11 none :: ((wsX1_splitInPlace_r1 ++ wsX1_splitInPlace_r2) ++ wsX10)
def wsX1_dropAlike : List Cond := .code yX1_dropAlike cX1_dropAlike 4 none :: ([.fieldLink RX1 16 "RowPress$Row" "size" "I", .fieldLink RX1 9 "RowPress$Row" "keys" "[I", .fieldLink RX1 13 "RowPress$Row" "tags" "[I", .methodLink RX1 30 yX1_lessAt, .instanceMethod yX1_lessAt, .selects RX1 yX1_lessAt yX1_lessAt, .initialized RX1, .code yX1_lessAt cX1_lessAt 4 (some .boolean), .fieldLink RX1 24 "RowPress$Row" "compares" "I", .methodLink RX1 34 yX0_isLess, .static yX0_isLess, .initialized RX0, .code yX0_isLess cX0_isLess 3 (some .boolean), .constant RX0 9 (-2147483648)] ++ wsX10)
def wsX2_init : List Cond := .code yX2_init cX2_init 1 none :: ([.methodLink RX2 1 objectInit, .instanceMethod objectInit, .code objectInit ⟨#[0xb1]⟩ 1 none, .classLink RX2 7 RX1, .instantiable RX1 5, .initialized RX1, .fieldLink RX2 10 "RowPress" "row" "LRowPress$Row;", .instanceMethod yX1_init, .code yX1_init cX1_init 1 none, .methodLink RX1 1 objectInit, .arrayClass .int, .fieldLink RX1 9 "RowPress$Row" "keys" "[I", .fieldLink RX1 13 "RowPress$Row" "tags" "[I"] ++ wsX10 ++ wsX20)
def wsX2_put : List Cond := .code yX2_put cX2_put 3 (some .int) :: ([.fieldLink RX2 10 "RowPress" "row" "LRowPress$Row;", .fieldLink RX2 24 "RowPress$Row" "size" "I", .methodLink RX2 16 yX1_hasRoomFor, .instanceMethod yX1_hasRoomFor, .selects RX1 yX1_hasRoomFor yX1_hasRoomFor, .initialized RX1, .code yX1_hasRoomFor cX1_hasRoomFor 2 (some .boolean), .fieldLink RX1 16 "RowPress$Row" "size" "I", .methodLink RX2 20 yX1_append, .instanceMethod yX1_append, .selects RX1 yX1_append yX1_append, .code yX1_append cX1_append 3 none, .fieldLink RX1 9 "RowPress$Row" "keys" "[I", .fieldLink RX1 13 "RowPress$Row" "tags" "[I"] ++ wsX20 ++ wsX10)
def wsX2_run : List Cond := .code yX2_run cX2_run 6 (some .int) :: ([.fieldLink RX2 10 "RowPress" "row" "LRowPress$Row;", .fieldLink RX2 24 "RowPress$Row" "size" "I", .methodLink RX2 16 yX1_hasRoomFor, .instanceMethod yX1_hasRoomFor, .selects RX1 yX1_hasRoomFor yX1_hasRoomFor, .initialized RX1, .code yX1_hasRoomFor cX1_hasRoomFor 2 (some .boolean), .fieldLink RX1 16 "RowPress$Row" "size" "I", .methodLink RX2 20 yX1_append, .instanceMethod yX1_append, .selects RX1 yX1_append yX1_append, .code yX1_append cX1_append 3 none, .fieldLink RX1 9 "RowPress$Row" "keys" "[I", .fieldLink RX1 13 "RowPress$Row" "tags" "[I"] ++ wsX20 ++ wsX10)
def wsX2_clear : List Cond := .code yX2_clear cX2_clear 2 (some .int) :: ([.fieldLink RX2 10 "RowPress" "row" "LRowPress$Row;", .fieldLink RX2 24 "RowPress$Row" "size" "I"] ++ wsX20 ++ wsX10)
def wsX2_keepCounts : List Cond := .code yX2_keepCounts cX2_keepCounts 2 none :: ([.fieldLink RX2 100 "RowPress" "latestPairs" "I", .fieldLink RX2 10 "RowPress" "row" "LRowPress$Row;", .fieldLink RX2 113 "RowPress$Row" "compares" "I", .fieldLink RX2 107 "RowPress" "latestCompares" "I", .fieldLink RX2 116 "RowPress$Row" "writes" "I", .fieldLink RX2 110 "RowPress" "latestWrites" "I"] ++ wsX20 ++ wsX10)
def wsX2_sortPart_r1 : List Cond := [Cond.fieldLink RX2 10 "RowPress" "row" "LRowPress$Row;", Cond.methodLink RX2 32 yX0_exists, Cond.static yX0_exists, Cond.initialized RX0, Cond.code yX0_exists cX0_exists 1 (some .boolean), Cond.methodLink RX2 37 yX1_hasStretch, Cond.instanceMethod yX1_hasStretch, Cond.selects RX1 yX1_hasStretch yX1_hasStretch, Cond.initialized RX1, Cond.code yX1_hasStretch cX1_hasStretch 3 (some .boolean), Cond.fieldLink RX1 16 "RowPress$Row" "size" "I", Cond.methodLink RX2 41 yX1_startCounting, Cond.instanceMethod yX1_startCounting, Cond.selects RX1 yX1_startCounting yX1_startCounting, Cond.code yX1_startCounting cX1_startCounting 1 none, Cond.fieldLink RX1 24 "RowPress$Row" "compares" "I", Cond.fieldLink RX1 27 "RowPress$Row" "writes" "I", Cond.methodLink RX2 44 yX1_sortInPlace, Cond.instanceMethod yX1_sortInPlace, Cond.selects RX1 yX1_sortInPlace yX1_sortInPlace, Cond.code yX1_sortInPlace cX1_sortInPlace 7 none, Cond.methodLink RX1 43 Lib.Math.min.name, Cond.static Lib.Math.min.name, Cond.initialized "java/lang/Math"]
def wsX2_sortPart_r2 : List Cond := [Cond.code Lib.Math.min.name Lib.Math.min.code 2 (some .int), Cond.methodLink RX1 49 yX1_mergeInPlace, Cond.static yX1_mergeInPlace, Cond.code yX1_mergeInPlace cX1_mergeInPlace 9 none, Cond.methodLink RX1 53 yX1_startOfBlocks, Cond.instanceMethod yX1_startOfBlocks, Cond.selects RX1 yX1_startOfBlocks yX1_startOfBlocks, Cond.code yX1_startOfBlocks cX1_startOfBlocks 10 (some .int), Cond.methodLink RX1 30 yX1_lessAt, Cond.instanceMethod yX1_lessAt, Cond.selects RX1 yX1_lessAt yX1_lessAt, Cond.code yX1_lessAt cX1_lessAt 4 (some .boolean), Cond.fieldLink RX1 9 "RowPress$Row" "keys" "[I", Cond.methodLink RX1 34 yX0_isLess, Cond.static yX0_isLess, Cond.code yX0_isLess cX0_isLess 3 (some .boolean), Cond.constant RX0 9 (-2147483648), Cond.methodLink RX1 57 yX1_swapBlocks, Cond.instanceMethod yX1_swapBlocks, Cond.selects RX1 yX1_swapBlocks yX1_swapBlocks, Cond.code yX1_swapBlocks cX1_swapBlocks 4 none, Cond.methodLink RX1 64 yX1_reverse, Cond.instanceMethod yX1_reverse, Cond.selects RX1 yX1_reverse yX1_reverse]
def wsX2_sortPart_r3 : List Cond := [Cond.code yX1_reverse cX1_reverse 5 none, Cond.methodLink RX1 68 yX1_swapPairs, Cond.instanceMethod yX1_swapPairs, Cond.selects RX1 yX1_swapPairs yX1_swapPairs, Cond.code yX1_swapPairs cX1_swapPairs 5 none, Cond.fieldLink RX1 13 "RowPress$Row" "tags" "[I", Cond.methodLink RX2 48 yX2_keepCounts, Cond.instanceMethod yX2_keepCounts, Cond.selects RX2 yX2_keepCounts yX2_keepCounts, Cond.initialized RX2, Cond.code yX2_keepCounts cX2_keepCounts 2 none, Cond.fieldLink RX2 100 "RowPress" "latestPairs" "I", Cond.fieldLink RX2 113 "RowPress$Row" "compares" "I", Cond.fieldLink RX2 107 "RowPress" "latestCompares" "I", Cond.fieldLink RX2 116 "RowPress$Row" "writes" "I", Cond.fieldLink RX2 110 "RowPress" "latestWrites" "I"]
def wsX2_sortPart : List Cond := .code yX2_sortPart cX2_sortPart 4 (some .int) :: ((wsX2_sortPart_r1 ++ (wsX2_sortPart_r2 ++ wsX2_sortPart_r3)) ++ wsX20 ++ wsX10)
def wsX2_sort_r1 : List Cond := [Cond.fieldLink RX2 10 "RowPress" "row" "LRowPress$Row;", Cond.fieldLink RX2 24 "RowPress$Row" "size" "I", Cond.methodLink RX2 28 yX2_sortPart, Cond.instanceMethod yX2_sortPart, Cond.selects RX2 yX2_sortPart yX2_sortPart, Cond.initialized RX2, Cond.code yX2_sortPart cX2_sortPart 4 (some .int), Cond.methodLink RX2 32 yX0_exists, Cond.static yX0_exists, Cond.initialized RX0, Cond.code yX0_exists cX0_exists 1 (some .boolean), Cond.methodLink RX2 37 yX1_hasStretch, Cond.instanceMethod yX1_hasStretch, Cond.selects RX1 yX1_hasStretch yX1_hasStretch, Cond.initialized RX1, Cond.code yX1_hasStretch cX1_hasStretch 3 (some .boolean), Cond.fieldLink RX1 16 "RowPress$Row" "size" "I", Cond.methodLink RX2 41 yX1_startCounting, Cond.instanceMethod yX1_startCounting, Cond.selects RX1 yX1_startCounting yX1_startCounting, Cond.code yX1_startCounting cX1_startCounting 1 none, Cond.fieldLink RX1 24 "RowPress$Row" "compares" "I", Cond.fieldLink RX1 27 "RowPress$Row" "writes" "I", Cond.methodLink RX2 44 yX1_sortInPlace]
def wsX2_sort_r2 : List Cond := [Cond.instanceMethod yX1_sortInPlace, Cond.selects RX1 yX1_sortInPlace yX1_sortInPlace, Cond.code yX1_sortInPlace cX1_sortInPlace 7 none, Cond.methodLink RX1 43 Lib.Math.min.name, Cond.static Lib.Math.min.name, Cond.initialized "java/lang/Math", Cond.code Lib.Math.min.name Lib.Math.min.code 2 (some .int), Cond.methodLink RX1 49 yX1_mergeInPlace, Cond.static yX1_mergeInPlace, Cond.code yX1_mergeInPlace cX1_mergeInPlace 9 none, Cond.methodLink RX1 53 yX1_startOfBlocks, Cond.instanceMethod yX1_startOfBlocks, Cond.selects RX1 yX1_startOfBlocks yX1_startOfBlocks, Cond.code yX1_startOfBlocks cX1_startOfBlocks 10 (some .int), Cond.methodLink RX1 30 yX1_lessAt, Cond.instanceMethod yX1_lessAt, Cond.selects RX1 yX1_lessAt yX1_lessAt, Cond.code yX1_lessAt cX1_lessAt 4 (some .boolean), Cond.fieldLink RX1 9 "RowPress$Row" "keys" "[I", Cond.methodLink RX1 34 yX0_isLess, Cond.static yX0_isLess, Cond.code yX0_isLess cX0_isLess 3 (some .boolean), Cond.constant RX0 9 (-2147483648), Cond.methodLink RX1 57 yX1_swapBlocks]
def wsX2_sort_r3 : List Cond := [Cond.instanceMethod yX1_swapBlocks, Cond.selects RX1 yX1_swapBlocks yX1_swapBlocks, Cond.code yX1_swapBlocks cX1_swapBlocks 4 none, Cond.methodLink RX1 64 yX1_reverse, Cond.instanceMethod yX1_reverse, Cond.selects RX1 yX1_reverse yX1_reverse, Cond.code yX1_reverse cX1_reverse 5 none, Cond.methodLink RX1 68 yX1_swapPairs, Cond.instanceMethod yX1_swapPairs, Cond.selects RX1 yX1_swapPairs yX1_swapPairs, Cond.code yX1_swapPairs cX1_swapPairs 5 none, Cond.fieldLink RX1 13 "RowPress$Row" "tags" "[I", Cond.methodLink RX2 48 yX2_keepCounts, Cond.instanceMethod yX2_keepCounts, Cond.selects RX2 yX2_keepCounts yX2_keepCounts, Cond.code yX2_keepCounts cX2_keepCounts 2 none, Cond.fieldLink RX2 100 "RowPress" "latestPairs" "I", Cond.fieldLink RX2 113 "RowPress$Row" "compares" "I", Cond.fieldLink RX2 107 "RowPress" "latestCompares" "I", Cond.fieldLink RX2 116 "RowPress$Row" "writes" "I", Cond.fieldLink RX2 110 "RowPress" "latestWrites" "I"]
def wsX2_sort : List Cond := .code yX2_sort cX2_sort 2 (some .int) :: ((wsX2_sort_r1 ++ (wsX2_sort_r2 ++ wsX2_sort_r3)) ++ wsX20 ++ wsX10)
def wsX2_merge_r1 : List Cond := [Cond.fieldLink RX2 10 "RowPress" "row" "LRowPress$Row;", Cond.methodLink RX2 32 yX0_exists, Cond.static yX0_exists, Cond.initialized RX0, Cond.code yX0_exists cX0_exists 1 (some .boolean), Cond.methodLink RX2 52 yX1_hasStretches, Cond.instanceMethod yX1_hasStretches, Cond.selects RX1 yX1_hasStretches yX1_hasStretches, Cond.initialized RX1, Cond.code yX1_hasStretches cX1_hasStretches 4 (some .boolean), Cond.methodLink RX1 20 yX1_hasStretch, Cond.instanceMethod yX1_hasStretch, Cond.selects RX1 yX1_hasStretch yX1_hasStretch, Cond.code yX1_hasStretch cX1_hasStretch 3 (some .boolean), Cond.fieldLink RX1 16 "RowPress$Row" "size" "I", Cond.methodLink RX2 41 yX1_startCounting, Cond.instanceMethod yX1_startCounting, Cond.selects RX1 yX1_startCounting yX1_startCounting, Cond.code yX1_startCounting cX1_startCounting 1 none, Cond.fieldLink RX1 24 "RowPress$Row" "compares" "I", Cond.fieldLink RX1 27 "RowPress$Row" "writes" "I", Cond.methodLink RX2 56 yX1_inOrder, Cond.instanceMethod yX1_inOrder, Cond.selects RX1 yX1_inOrder yX1_inOrder]
def wsX2_merge_r2 : List Cond := [Cond.code yX1_inOrder cX1_inOrder 5 (some .boolean), Cond.methodLink RX1 30 yX1_lessAt, Cond.instanceMethod yX1_lessAt, Cond.selects RX1 yX1_lessAt yX1_lessAt, Cond.code yX1_lessAt cX1_lessAt 4 (some .boolean), Cond.fieldLink RX1 9 "RowPress$Row" "keys" "[I", Cond.methodLink RX1 34 yX0_isLess, Cond.static yX0_isLess, Cond.code yX0_isLess cX0_isLess 3 (some .boolean), Cond.constant RX0 9 (-2147483648), Cond.static yX1_mergeInPlace, Cond.code yX1_mergeInPlace cX1_mergeInPlace 9 none, Cond.methodLink RX1 53 yX1_startOfBlocks, Cond.instanceMethod yX1_startOfBlocks, Cond.selects RX1 yX1_startOfBlocks yX1_startOfBlocks, Cond.code yX1_startOfBlocks cX1_startOfBlocks 10 (some .int), Cond.methodLink RX1 57 yX1_swapBlocks, Cond.instanceMethod yX1_swapBlocks, Cond.selects RX1 yX1_swapBlocks yX1_swapBlocks, Cond.code yX1_swapBlocks cX1_swapBlocks 4 none, Cond.methodLink RX1 64 yX1_reverse, Cond.instanceMethod yX1_reverse, Cond.selects RX1 yX1_reverse yX1_reverse, Cond.code yX1_reverse cX1_reverse 5 none]
def wsX2_merge_r3 : List Cond := [Cond.methodLink RX1 68 yX1_swapPairs, Cond.instanceMethod yX1_swapPairs, Cond.selects RX1 yX1_swapPairs yX1_swapPairs, Cond.code yX1_swapPairs cX1_swapPairs 5 none, Cond.fieldLink RX1 13 "RowPress$Row" "tags" "[I", Cond.methodLink RX1 49 yX1_mergeInPlace, Cond.methodLink RX2 48 yX2_keepCounts, Cond.instanceMethod yX2_keepCounts, Cond.selects RX2 yX2_keepCounts yX2_keepCounts, Cond.initialized RX2, Cond.code yX2_keepCounts cX2_keepCounts 2 none, Cond.fieldLink RX2 100 "RowPress" "latestPairs" "I", Cond.fieldLink RX2 113 "RowPress$Row" "compares" "I", Cond.fieldLink RX2 107 "RowPress" "latestCompares" "I", Cond.fieldLink RX2 116 "RowPress$Row" "writes" "I", Cond.fieldLink RX2 110 "RowPress" "latestWrites" "I"]
def wsX2_merge : List Cond := .code yX2_merge cX2_merge 5 (some .int) :: ((wsX2_merge_r1 ++ (wsX2_merge_r2 ++ wsX2_merge_r3)) ++ wsX20 ++ wsX10)
def wsX2_rotate_r1 : List Cond := [Cond.fieldLink RX2 10 "RowPress" "row" "LRowPress$Row;", Cond.methodLink RX2 52 yX1_hasStretches, Cond.instanceMethod yX1_hasStretches, Cond.selects RX1 yX1_hasStretches yX1_hasStretches, Cond.initialized RX1, Cond.code yX1_hasStretches cX1_hasStretches 4 (some .boolean), Cond.methodLink RX1 20 yX1_hasStretch, Cond.instanceMethod yX1_hasStretch, Cond.selects RX1 yX1_hasStretch yX1_hasStretch, Cond.code yX1_hasStretch cX1_hasStretch 3 (some .boolean), Cond.fieldLink RX1 16 "RowPress$Row" "size" "I", Cond.methodLink RX2 63 yX1_swapBlocks, Cond.instanceMethod yX1_swapBlocks, Cond.selects RX1 yX1_swapBlocks yX1_swapBlocks, Cond.code yX1_swapBlocks cX1_swapBlocks 4 none, Cond.methodLink RX1 64 yX1_reverse, Cond.instanceMethod yX1_reverse, Cond.selects RX1 yX1_reverse yX1_reverse, Cond.code yX1_reverse cX1_reverse 5 none, Cond.methodLink RX1 68 yX1_swapPairs, Cond.instanceMethod yX1_swapPairs, Cond.selects RX1 yX1_swapPairs yX1_swapPairs, Cond.code yX1_swapPairs cX1_swapPairs 5 none, Cond.fieldLink RX1 9 "RowPress$Row" "keys" "[I"]
def wsX2_rotate_r2 : List Cond := [Cond.fieldLink RX1 27 "RowPress$Row" "writes" "I", Cond.fieldLink RX1 13 "RowPress$Row" "tags" "[I"]
def wsX2_rotate : List Cond := .code yX2_rotate cX2_rotate 4 (some .int) :: ((wsX2_rotate_r1 ++ wsX2_rotate_r2) ++ wsX20 ++ wsX10)
def wsX2_turn : List Cond := .code yX2_turn cX2_turn 3 (some .int) :: ([.fieldLink RX2 10 "RowPress" "row" "LRowPress$Row;", .methodLink RX2 37 yX1_hasStretch, .instanceMethod yX1_hasStretch, .selects RX1 yX1_hasStretch yX1_hasStretch, .initialized RX1, .code yX1_hasStretch cX1_hasStretch 3 (some .boolean), .fieldLink RX1 16 "RowPress$Row" "size" "I", .methodLink RX2 66 yX1_reverse, .instanceMethod yX1_reverse, .selects RX1 yX1_reverse yX1_reverse, .code yX1_reverse cX1_reverse 5 none, .methodLink RX1 68 yX1_swapPairs, .instanceMethod yX1_swapPairs, .selects RX1 yX1_swapPairs yX1_swapPairs, .code yX1_swapPairs cX1_swapPairs 5 none, .fieldLink RX1 9 "RowPress$Row" "keys" "[I", .fieldLink RX1 27 "RowPress$Row" "writes" "I", .fieldLink RX1 13 "RowPress$Row" "tags" "[I"] ++ wsX20 ++ wsX10)
def wsX2_split_r1 : List Cond := [Cond.fieldLink RX2 10 "RowPress" "row" "LRowPress$Row;", Cond.methodLink RX2 32 yX0_exists, Cond.static yX0_exists, Cond.initialized RX0, Cond.code yX0_exists cX0_exists 1 (some .boolean), Cond.methodLink RX2 37 yX1_hasStretch, Cond.instanceMethod yX1_hasStretch, Cond.selects RX1 yX1_hasStretch yX1_hasStretch, Cond.initialized RX1, Cond.code yX1_hasStretch cX1_hasStretch 3 (some .boolean), Cond.fieldLink RX1 16 "RowPress$Row" "size" "I", Cond.methodLink RX2 69 yX1_splitInPlace, Cond.instanceMethod yX1_splitInPlace, Cond.selects RX1 yX1_splitInPlace yX1_splitInPlace, Cond.code yX1_splitInPlace cX1_splitInPlace 11 none, Cond.methodLink RX1 43 Lib.Math.min.name, Cond.static Lib.Math.min.name, Cond.initialized "java/lang/Math", Cond.code Lib.Math.min.name Lib.Math.min.code 2 (some .int), Cond.methodLink RX1 61 yX1_countLess, Cond.instanceMethod yX1_countLess, Cond.selects RX1 yX1_countLess yX1_countLess, Cond.code yX1_countLess cX1_countLess 7 (some .int), Cond.fieldLink RX1 9 "RowPress$Row" "keys" "[I"]
def wsX2_split_r2 : List Cond := [Cond.methodLink RX1 34 yX0_isLess, Cond.static yX0_isLess, Cond.code yX0_isLess cX0_isLess 3 (some .boolean), Cond.constant RX0 9 (-2147483648), Cond.methodLink RX1 57 yX1_swapBlocks, Cond.instanceMethod yX1_swapBlocks, Cond.selects RX1 yX1_swapBlocks yX1_swapBlocks, Cond.code yX1_swapBlocks cX1_swapBlocks 4 none, Cond.methodLink RX1 64 yX1_reverse, Cond.instanceMethod yX1_reverse, Cond.selects RX1 yX1_reverse yX1_reverse, Cond.code yX1_reverse cX1_reverse 5 none, Cond.methodLink RX1 68 yX1_swapPairs, Cond.instanceMethod yX1_swapPairs, Cond.selects RX1 yX1_swapPairs yX1_swapPairs, Cond.code yX1_swapPairs cX1_swapPairs 5 none, Cond.fieldLink RX1 27 "RowPress$Row" "writes" "I", Cond.fieldLink RX1 13 "RowPress$Row" "tags" "[I", Cond.methodLink RX2 73 yX1_countLess]
def wsX2_split : List Cond := .code yX2_split cX2_split 5 (some .int) :: ((wsX2_split_r1 ++ wsX2_split_r2) ++ wsX20 ++ wsX10)
def wsX2_thin_r1 : List Cond := [Cond.fieldLink RX2 10 "RowPress" "row" "LRowPress$Row;", Cond.fieldLink RX2 24 "RowPress$Row" "size" "I", Cond.methodLink RX2 32 yX0_exists, Cond.static yX0_exists, Cond.initialized RX0, Cond.code yX0_exists cX0_exists 1 (some .boolean), Cond.methodLink RX2 56 yX1_inOrder, Cond.instanceMethod yX1_inOrder, Cond.selects RX1 yX1_inOrder yX1_inOrder, Cond.initialized RX1, Cond.code yX1_inOrder cX1_inOrder 5 (some .boolean), Cond.methodLink RX1 30 yX1_lessAt, Cond.instanceMethod yX1_lessAt, Cond.selects RX1 yX1_lessAt yX1_lessAt, Cond.code yX1_lessAt cX1_lessAt 4 (some .boolean), Cond.fieldLink RX1 24 "RowPress$Row" "compares" "I", Cond.fieldLink RX1 9 "RowPress$Row" "keys" "[I", Cond.methodLink RX1 34 yX0_isLess, Cond.static yX0_isLess, Cond.code yX0_isLess cX0_isLess 3 (some .boolean), Cond.constant RX0 9 (-2147483648), Cond.methodLink RX2 77 yX1_dropAlike, Cond.instanceMethod yX1_dropAlike, Cond.selects RX1 yX1_dropAlike yX1_dropAlike]
def wsX2_thin_r2 : List Cond := [Cond.code yX1_dropAlike cX1_dropAlike 4 none, Cond.fieldLink RX1 16 "RowPress$Row" "size" "I", Cond.fieldLink RX1 13 "RowPress$Row" "tags" "[I"]
def wsX2_thin : List Cond := .code yX2_thin cX2_thin 2 (some .int) :: ((wsX2_thin_r1 ++ wsX2_thin_r2) ++ wsX20 ++ wsX10)
def wsX2_sorted_r1 : List Cond := [Cond.fieldLink RX2 10 "RowPress" "row" "LRowPress$Row;", Cond.methodLink RX2 32 yX0_exists, Cond.static yX0_exists, Cond.initialized RX0, Cond.code yX0_exists cX0_exists 1 (some .boolean), Cond.methodLink RX2 37 yX1_hasStretch, Cond.instanceMethod yX1_hasStretch, Cond.selects RX1 yX1_hasStretch yX1_hasStretch, Cond.initialized RX1, Cond.code yX1_hasStretch cX1_hasStretch 3 (some .boolean), Cond.fieldLink RX1 16 "RowPress$Row" "size" "I", Cond.methodLink RX2 56 yX1_inOrder, Cond.instanceMethod yX1_inOrder, Cond.selects RX1 yX1_inOrder yX1_inOrder, Cond.code yX1_inOrder cX1_inOrder 5 (some .boolean), Cond.methodLink RX1 30 yX1_lessAt, Cond.instanceMethod yX1_lessAt, Cond.selects RX1 yX1_lessAt yX1_lessAt, Cond.code yX1_lessAt cX1_lessAt 4 (some .boolean), Cond.fieldLink RX1 24 "RowPress$Row" "compares" "I", Cond.fieldLink RX1 9 "RowPress$Row" "keys" "[I", Cond.methodLink RX1 34 yX0_isLess, Cond.static yX0_isLess, Cond.code yX0_isLess cX0_isLess 3 (some .boolean)]
def wsX2_sorted_r2 : List Cond := [Cond.constant RX0 9 (-2147483648)]
def wsX2_sorted : List Cond := .code yX2_sorted cX2_sorted 4 (some .int) :: ((wsX2_sorted_r1 ++ wsX2_sorted_r2) ++ wsX20 ++ wsX10)
def wsX2_find_r1 : List Cond := [Cond.fieldLink RX2 10 "RowPress" "row" "LRowPress$Row;", Cond.fieldLink RX2 24 "RowPress$Row" "size" "I", Cond.methodLink RX2 32 yX0_exists, Cond.static yX0_exists, Cond.initialized RX0, Cond.code yX0_exists cX0_exists 1 (some .boolean), Cond.methodLink RX2 56 yX1_inOrder, Cond.instanceMethod yX1_inOrder, Cond.selects RX1 yX1_inOrder yX1_inOrder, Cond.initialized RX1, Cond.code yX1_inOrder cX1_inOrder 5 (some .boolean), Cond.methodLink RX1 30 yX1_lessAt, Cond.instanceMethod yX1_lessAt, Cond.selects RX1 yX1_lessAt yX1_lessAt, Cond.code yX1_lessAt cX1_lessAt 4 (some .boolean), Cond.fieldLink RX1 24 "RowPress$Row" "compares" "I", Cond.fieldLink RX1 9 "RowPress$Row" "keys" "[I", Cond.methodLink RX1 34 yX0_isLess, Cond.static yX0_isLess, Cond.code yX0_isLess cX0_isLess 3 (some .boolean), Cond.constant RX0 9 (-2147483648), Cond.methodLink RX2 73 yX1_countLess, Cond.instanceMethod yX1_countLess, Cond.selects RX1 yX1_countLess yX1_countLess]
def wsX2_find_r2 : List Cond := [Cond.code yX1_countLess cX1_countLess 7 (some .int), Cond.methodLink RX2 80 yX1_countNotMore, Cond.instanceMethod yX1_countNotMore, Cond.selects RX1 yX1_countNotMore yX1_countNotMore, Cond.code yX1_countNotMore cX1_countNotMore 7 (some .int)]
def wsX2_find : List Cond := .code yX2_find cX2_find 5 (some .int) :: ((wsX2_find_r1 ++ wsX2_find_r2) ++ wsX20 ++ wsX10)
def wsX2_rank_r1 : List Cond := [Cond.fieldLink RX2 10 "RowPress" "row" "LRowPress$Row;", Cond.fieldLink RX2 86 "RowPress$Row" "keys" "[I", Cond.fieldLink RX2 24 "RowPress$Row" "size" "I", Cond.methodLink RX2 32 yX0_exists, Cond.static yX0_exists, Cond.initialized RX0, Cond.code yX0_exists cX0_exists 1 (some .boolean), Cond.methodLink RX2 83 yX1_hasPlace, Cond.instanceMethod yX1_hasPlace, Cond.selects RX1 yX1_hasPlace yX1_hasPlace, Cond.initialized RX1, Cond.code yX1_hasPlace cX1_hasPlace 2 (some .boolean), Cond.fieldLink RX1 16 "RowPress$Row" "size" "I", Cond.methodLink RX2 80 yX1_countNotMore, Cond.instanceMethod yX1_countNotMore, Cond.selects RX1 yX1_countNotMore yX1_countNotMore, Cond.code yX1_countNotMore cX1_countNotMore 7 (some .int), Cond.fieldLink RX1 9 "RowPress$Row" "keys" "[I", Cond.methodLink RX1 34 yX0_isLess, Cond.static yX0_isLess, Cond.code yX0_isLess cX0_isLess 3 (some .boolean), Cond.constant RX0 9 (-2147483648), Cond.methodLink RX2 73 yX1_countLess, Cond.instanceMethod yX1_countLess]
def wsX2_rank_r2 : List Cond := [Cond.selects RX1 yX1_countLess yX1_countLess, Cond.code yX1_countLess cX1_countLess 7 (some .int)]
def wsX2_rank : List Cond := .code yX2_rank cX2_rank 4 (some .int) :: ((wsX2_rank_r1 ++ wsX2_rank_r2) ++ wsX20 ++ wsX10)
def wsX2_key : List Cond := .code yX2_key cX2_key 2 (some .int) :: ([.fieldLink RX2 10 "RowPress" "row" "LRowPress$Row;", .fieldLink RX2 86 "RowPress$Row" "keys" "[I", .methodLink RX2 83 yX1_hasPlace, .instanceMethod yX1_hasPlace, .selects RX1 yX1_hasPlace yX1_hasPlace, .initialized RX1, .code yX1_hasPlace cX1_hasPlace 2 (some .boolean), .fieldLink RX1 16 "RowPress$Row" "size" "I"] ++ wsX20 ++ wsX10)
def wsX2_tag : List Cond := .code yX2_tag cX2_tag 2 (some .int) :: ([.fieldLink RX2 10 "RowPress" "row" "LRowPress$Row;", .fieldLink RX2 90 "RowPress$Row" "tags" "[I", .methodLink RX2 83 yX1_hasPlace, .instanceMethod yX1_hasPlace, .selects RX1 yX1_hasPlace yX1_hasPlace, .initialized RX1, .code yX1_hasPlace cX1_hasPlace 2 (some .boolean), .fieldLink RX1 16 "RowPress$Row" "size" "I"] ++ wsX20 ++ wsX10)
def wsX2_count : List Cond := .code yX2_count cX2_count 2 (some .int) :: ([.fieldLink RX2 10 "RowPress" "row" "LRowPress$Row;", .fieldLink RX2 24 "RowPress$Row" "size" "I", .methodLink RX2 93 yX1_countSortedStretches, .instanceMethod yX1_countSortedStretches, .selects RX1 yX1_countSortedStretches yX1_countSortedStretches, .initialized RX1, .code yX1_countSortedStretches cX1_countSortedStretches 3 (some .int), .fieldLink RX1 16 "RowPress$Row" "size" "I", .fieldLink RX1 9 "RowPress$Row" "keys" "[I", .methodLink RX2 97 yX1_countDifferentKeys, .instanceMethod yX1_countDifferentKeys, .selects RX1 yX1_countDifferentKeys yX1_countDifferentKeys, .code yX1_countDifferentKeys cX1_countDifferentKeys 3 (some .int), .methodLink RX1 39 yX1_standsBefore, .instanceMethod yX1_standsBefore, .selects RX1 yX1_standsBefore yX1_standsBefore, .code yX1_standsBefore cX1_standsBefore 3 (some .boolean)] ++ wsX20 ++ wsX10)
def wsX2_levels : List Cond := .code yX2_levels cX2_levels 2 (some .int) :: ([])
def wsX2_check : List Cond := .code yX2_check cX2_check 3 (some .int) :: ([.fieldLink RX2 100 "RowPress" "latestPairs" "I", .fieldLink RX2 107 "RowPress" "latestCompares" "I", .fieldLink RX2 110 "RowPress" "latestWrites" "I", .methodLink RX2 103 yX2_levels, .static yX2_levels, .initialized RX2, .code yX2_levels cX2_levels 2 (some .int)] ++ wsX20)
def wsX3_init : List Cond := .code yX3_init cX3_init 1 none :: ([.methodLink RX3 1 objectInit, .instanceMethod objectInit, .code objectInit ⟨#[0xb1]⟩ 1 none, .arrayClass .int, .fieldLink RX3 7 "RowPressModel" "keys" "[I", .fieldLink RX3 13 "RowPressModel" "tags" "[I", .fieldLink RX3 16 "RowPressModel" "nextKeys" "[I", .fieldLink RX3 19 "RowPressModel" "nextTags" "[I", .fieldLink RX3 22 "RowPressModel" "many" "I"] ++ wsX30)
def wsX3_isOrder : List Cond := .code yX3_isOrder cX3_isOrder 1 (some .boolean) :: ([])
def wsX3_isStretch : List Cond := .code yX3_isStretch cX3_isStretch 3 (some .boolean) :: ([.fieldLink RX3 22 "RowPressModel" "many" "I"] ++ wsX30)
def wsX3_isLess : List Cond := .code yX3_isLess cX3_isLess 3 (some .boolean) :: ([.constantLong RX3 26 (4294967295)])
def wsX3_isSorted : List Cond := .code yX3_isSorted cX3_isSorted 5 (some .boolean) :: ([.fieldLink RX3 7 "RowPressModel" "keys" "[I", .methodLink RX3 28 yX3_isLess, .static yX3_isLess, .initialized RX3, .code yX3_isLess cX3_isLess 3 (some .boolean), .constantLong RX3 26 (4294967295)] ++ wsX30)
def wsX3_put : List Cond := .code yX3_put cX3_put 3 (some .int) :: ([.fieldLink RX3 22 "RowPressModel" "many" "I", .fieldLink RX3 7 "RowPressModel" "keys" "[I", .fieldLink RX3 13 "RowPressModel" "tags" "[I"] ++ wsX30)
def wsX3_run : List Cond := .code yX3_run cX3_run 6 (some .int) :: ([.fieldLink RX3 22 "RowPressModel" "many" "I", .fieldLink RX3 7 "RowPressModel" "keys" "[I", .fieldLink RX3 13 "RowPressModel" "tags" "[I"] ++ wsX30)
def wsX3_clear : List Cond := .code yX3_clear cX3_clear 2 (some .int) :: ([.fieldLink RX3 22 "RowPressModel" "many" "I"] ++ wsX30)
def wsX3_place : List Cond := .code yX3_place cX3_place 8 (some .int) :: ([.fieldLink RX3 7 "RowPressModel" "keys" "[I", .methodLink RX3 28 yX3_isLess, .static yX3_isLess, .initialized RX3, .code yX3_isLess cX3_isLess 3 (some .boolean), .constantLong RX3 26 (4294967295)] ++ wsX30)
def wsX3_move : List Cond := .code yX3_move cX3_move 3 none :: ([.fieldLink RX3 16 "RowPressModel" "nextKeys" "[I", .fieldLink RX3 7 "RowPressModel" "keys" "[I", .fieldLink RX3 19 "RowPressModel" "nextTags" "[I", .fieldLink RX3 13 "RowPressModel" "tags" "[I"] ++ wsX30)
def wsX3_take : List Cond := .code yX3_take cX3_take 4 none :: ([.fieldLink RX3 7 "RowPressModel" "keys" "[I", .fieldLink RX3 16 "RowPressModel" "nextKeys" "[I", .fieldLink RX3 13 "RowPressModel" "tags" "[I", .fieldLink RX3 19 "RowPressModel" "nextTags" "[I"] ++ wsX30)
def wsX3_arrange : List Cond := .code yX3_arrange cX3_arrange 5 none :: ([.methodLink RX3 32 yX3_place, .instanceMethod yX3_place, .selects RX3 yX3_place yX3_place, .initialized RX3, .code yX3_place cX3_place 8 (some .int), .fieldLink RX3 7 "RowPressModel" "keys" "[I", .methodLink RX3 28 yX3_isLess, .static yX3_isLess, .code yX3_isLess cX3_isLess 3 (some .boolean), .constantLong RX3 26 (4294967295), .methodLink RX3 36 yX3_move, .instanceMethod yX3_move, .selects RX3 yX3_move yX3_move, .code yX3_move cX3_move 3 none, .fieldLink RX3 16 "RowPressModel" "nextKeys" "[I", .fieldLink RX3 19 "RowPressModel" "nextTags" "[I", .fieldLink RX3 13 "RowPressModel" "tags" "[I", .methodLink RX3 40 yX3_take, .instanceMethod yX3_take, .selects RX3 yX3_take yX3_take, .code yX3_take cX3_take 4 none] ++ wsX30)
def wsX3_sort_r1 : List Cond := [Cond.fieldLink RX3 22 "RowPressModel" "many" "I", Cond.methodLink RX3 43 yX3_isOrder, Cond.static yX3_isOrder, Cond.initialized RX3, Cond.code yX3_isOrder cX3_isOrder 1 (some .boolean), Cond.methodLink RX3 47 yX3_arrange, Cond.instanceMethod yX3_arrange, Cond.selects RX3 yX3_arrange yX3_arrange, Cond.code yX3_arrange cX3_arrange 5 none, Cond.methodLink RX3 32 yX3_place, Cond.instanceMethod yX3_place, Cond.selects RX3 yX3_place yX3_place, Cond.code yX3_place cX3_place 8 (some .int), Cond.fieldLink RX3 7 "RowPressModel" "keys" "[I", Cond.methodLink RX3 28 yX3_isLess, Cond.static yX3_isLess, Cond.code yX3_isLess cX3_isLess 3 (some .boolean), Cond.constantLong RX3 26 (4294967295), Cond.methodLink RX3 36 yX3_move, Cond.instanceMethod yX3_move, Cond.selects RX3 yX3_move yX3_move, Cond.code yX3_move cX3_move 3 none, Cond.fieldLink RX3 16 "RowPressModel" "nextKeys" "[I", Cond.fieldLink RX3 19 "RowPressModel" "nextTags" "[I"]
def wsX3_sort_r2 : List Cond := [Cond.fieldLink RX3 13 "RowPressModel" "tags" "[I", Cond.methodLink RX3 40 yX3_take, Cond.instanceMethod yX3_take, Cond.selects RX3 yX3_take yX3_take, Cond.code yX3_take cX3_take 4 none]
def wsX3_sort : List Cond := .code yX3_sort cX3_sort 2 (some .int) :: ((wsX3_sort_r1 ++ wsX3_sort_r2) ++ wsX30)
def wsX3_sortPart_r1 : List Cond := [Cond.methodLink RX3 51 yX3_isStretch, Cond.instanceMethod yX3_isStretch, Cond.selects RX3 yX3_isStretch yX3_isStretch, Cond.initialized RX3, Cond.code yX3_isStretch cX3_isStretch 3 (some .boolean), Cond.fieldLink RX3 22 "RowPressModel" "many" "I", Cond.methodLink RX3 43 yX3_isOrder, Cond.static yX3_isOrder, Cond.code yX3_isOrder cX3_isOrder 1 (some .boolean), Cond.methodLink RX3 47 yX3_arrange, Cond.instanceMethod yX3_arrange, Cond.selects RX3 yX3_arrange yX3_arrange, Cond.code yX3_arrange cX3_arrange 5 none, Cond.methodLink RX3 32 yX3_place, Cond.instanceMethod yX3_place, Cond.selects RX3 yX3_place yX3_place, Cond.code yX3_place cX3_place 8 (some .int), Cond.fieldLink RX3 7 "RowPressModel" "keys" "[I", Cond.methodLink RX3 28 yX3_isLess, Cond.static yX3_isLess, Cond.code yX3_isLess cX3_isLess 3 (some .boolean), Cond.constantLong RX3 26 (4294967295), Cond.methodLink RX3 36 yX3_move, Cond.instanceMethod yX3_move]
def wsX3_sortPart_r2 : List Cond := [Cond.selects RX3 yX3_move yX3_move, Cond.code yX3_move cX3_move 3 none, Cond.fieldLink RX3 16 "RowPressModel" "nextKeys" "[I", Cond.fieldLink RX3 19 "RowPressModel" "nextTags" "[I", Cond.fieldLink RX3 13 "RowPressModel" "tags" "[I", Cond.methodLink RX3 40 yX3_take, Cond.instanceMethod yX3_take, Cond.selects RX3 yX3_take yX3_take, Cond.code yX3_take cX3_take 4 none]
def wsX3_sortPart : List Cond := .code yX3_sortPart cX3_sortPart 4 (some .int) :: ((wsX3_sortPart_r1 ++ wsX3_sortPart_r2) ++ wsX30)
def wsX3_merge_r1 : List Cond := [Cond.methodLink RX3 51 yX3_isStretch, Cond.instanceMethod yX3_isStretch, Cond.selects RX3 yX3_isStretch yX3_isStretch, Cond.initialized RX3, Cond.code yX3_isStretch cX3_isStretch 3 (some .boolean), Cond.fieldLink RX3 22 "RowPressModel" "many" "I", Cond.methodLink RX3 43 yX3_isOrder, Cond.static yX3_isOrder, Cond.code yX3_isOrder cX3_isOrder 1 (some .boolean), Cond.methodLink RX3 55 yX3_isSorted, Cond.instanceMethod yX3_isSorted, Cond.selects RX3 yX3_isSorted yX3_isSorted, Cond.code yX3_isSorted cX3_isSorted 5 (some .boolean), Cond.fieldLink RX3 7 "RowPressModel" "keys" "[I", Cond.methodLink RX3 28 yX3_isLess, Cond.static yX3_isLess, Cond.code yX3_isLess cX3_isLess 3 (some .boolean), Cond.constantLong RX3 26 (4294967295), Cond.methodLink RX3 47 yX3_arrange, Cond.instanceMethod yX3_arrange, Cond.selects RX3 yX3_arrange yX3_arrange, Cond.code yX3_arrange cX3_arrange 5 none, Cond.methodLink RX3 32 yX3_place, Cond.instanceMethod yX3_place]
def wsX3_merge_r2 : List Cond := [Cond.selects RX3 yX3_place yX3_place, Cond.code yX3_place cX3_place 8 (some .int), Cond.methodLink RX3 36 yX3_move, Cond.instanceMethod yX3_move, Cond.selects RX3 yX3_move yX3_move, Cond.code yX3_move cX3_move 3 none, Cond.fieldLink RX3 16 "RowPressModel" "nextKeys" "[I", Cond.fieldLink RX3 19 "RowPressModel" "nextTags" "[I", Cond.fieldLink RX3 13 "RowPressModel" "tags" "[I", Cond.methodLink RX3 40 yX3_take, Cond.instanceMethod yX3_take, Cond.selects RX3 yX3_take yX3_take, Cond.code yX3_take cX3_take 4 none]
def wsX3_merge : List Cond := .code yX3_merge cX3_merge 6 (some .int) :: ((wsX3_merge_r1 ++ wsX3_merge_r2) ++ wsX30)
def wsX3_rotate : List Cond := .code yX3_rotate cX3_rotate 5 (some .int) :: ([.methodLink RX3 51 yX3_isStretch, .instanceMethod yX3_isStretch, .selects RX3 yX3_isStretch yX3_isStretch, .initialized RX3, .code yX3_isStretch cX3_isStretch 3 (some .boolean), .fieldLink RX3 22 "RowPressModel" "many" "I", .methodLink RX3 36 yX3_move, .instanceMethod yX3_move, .selects RX3 yX3_move yX3_move, .code yX3_move cX3_move 3 none, .fieldLink RX3 16 "RowPressModel" "nextKeys" "[I", .fieldLink RX3 7 "RowPressModel" "keys" "[I", .fieldLink RX3 19 "RowPressModel" "nextTags" "[I", .fieldLink RX3 13 "RowPressModel" "tags" "[I", .methodLink RX3 40 yX3_take, .instanceMethod yX3_take, .selects RX3 yX3_take yX3_take, .code yX3_take cX3_take 4 none] ++ wsX30)
def wsX3_turn : List Cond := .code yX3_turn cX3_turn 4 (some .int) :: ([.methodLink RX3 51 yX3_isStretch, .instanceMethod yX3_isStretch, .selects RX3 yX3_isStretch yX3_isStretch, .initialized RX3, .code yX3_isStretch cX3_isStretch 3 (some .boolean), .fieldLink RX3 22 "RowPressModel" "many" "I", .methodLink RX3 36 yX3_move, .instanceMethod yX3_move, .selects RX3 yX3_move yX3_move, .code yX3_move cX3_move 3 none, .fieldLink RX3 16 "RowPressModel" "nextKeys" "[I", .fieldLink RX3 7 "RowPressModel" "keys" "[I", .fieldLink RX3 19 "RowPressModel" "nextTags" "[I", .fieldLink RX3 13 "RowPressModel" "tags" "[I", .methodLink RX3 40 yX3_take, .instanceMethod yX3_take, .selects RX3 yX3_take yX3_take, .code yX3_take cX3_take 4 none] ++ wsX30)
def wsX3_split_r1 : List Cond := [Cond.fieldLink RX3 7 "RowPressModel" "keys" "[I", Cond.methodLink RX3 51 yX3_isStretch, Cond.instanceMethod yX3_isStretch, Cond.selects RX3 yX3_isStretch yX3_isStretch, Cond.initialized RX3, Cond.code yX3_isStretch cX3_isStretch 3 (some .boolean), Cond.fieldLink RX3 22 "RowPressModel" "many" "I", Cond.methodLink RX3 43 yX3_isOrder, Cond.static yX3_isOrder, Cond.code yX3_isOrder cX3_isOrder 1 (some .boolean), Cond.methodLink RX3 28 yX3_isLess, Cond.static yX3_isLess, Cond.code yX3_isLess cX3_isLess 3 (some .boolean), Cond.constantLong RX3 26 (4294967295), Cond.methodLink RX3 36 yX3_move, Cond.instanceMethod yX3_move, Cond.selects RX3 yX3_move yX3_move, Cond.code yX3_move cX3_move 3 none, Cond.fieldLink RX3 16 "RowPressModel" "nextKeys" "[I", Cond.fieldLink RX3 19 "RowPressModel" "nextTags" "[I", Cond.fieldLink RX3 13 "RowPressModel" "tags" "[I", Cond.methodLink RX3 40 yX3_take, Cond.instanceMethod yX3_take, Cond.selects RX3 yX3_take yX3_take]
def wsX3_split_r2 : List Cond := [Cond.code yX3_take cX3_take 4 none]
def wsX3_split : List Cond := .code yX3_split cX3_split 8 (some .int) :: ((wsX3_split_r1 ++ wsX3_split_r2) ++ wsX30)
def wsX3_thin_r1 : List Cond := [Cond.fieldLink RX3 22 "RowPressModel" "many" "I", Cond.fieldLink RX3 7 "RowPressModel" "keys" "[I", Cond.methodLink RX3 43 yX3_isOrder, Cond.static yX3_isOrder, Cond.initialized RX3, Cond.code yX3_isOrder cX3_isOrder 1 (some .boolean), Cond.methodLink RX3 55 yX3_isSorted, Cond.instanceMethod yX3_isSorted, Cond.selects RX3 yX3_isSorted yX3_isSorted, Cond.code yX3_isSorted cX3_isSorted 5 (some .boolean), Cond.methodLink RX3 28 yX3_isLess, Cond.static yX3_isLess, Cond.code yX3_isLess cX3_isLess 3 (some .boolean), Cond.constantLong RX3 26 (4294967295), Cond.methodLink RX3 36 yX3_move, Cond.instanceMethod yX3_move, Cond.selects RX3 yX3_move yX3_move, Cond.code yX3_move cX3_move 3 none, Cond.fieldLink RX3 16 "RowPressModel" "nextKeys" "[I", Cond.fieldLink RX3 19 "RowPressModel" "nextTags" "[I", Cond.fieldLink RX3 13 "RowPressModel" "tags" "[I", Cond.methodLink RX3 40 yX3_take, Cond.instanceMethod yX3_take, Cond.selects RX3 yX3_take yX3_take]
def wsX3_thin_r2 : List Cond := [Cond.code yX3_take cX3_take 4 none]
def wsX3_thin : List Cond := .code yX3_thin cX3_thin 4 (some .int) :: ((wsX3_thin_r1 ++ wsX3_thin_r2) ++ wsX30)
def wsX3_sorted : List Cond := .code yX3_sorted cX3_sorted 4 (some .int) :: ([.methodLink RX3 51 yX3_isStretch, .instanceMethod yX3_isStretch, .selects RX3 yX3_isStretch yX3_isStretch, .initialized RX3, .code yX3_isStretch cX3_isStretch 3 (some .boolean), .fieldLink RX3 22 "RowPressModel" "many" "I", .methodLink RX3 43 yX3_isOrder, .static yX3_isOrder, .code yX3_isOrder cX3_isOrder 1 (some .boolean), .methodLink RX3 55 yX3_isSorted, .instanceMethod yX3_isSorted, .selects RX3 yX3_isSorted yX3_isSorted, .code yX3_isSorted cX3_isSorted 5 (some .boolean), .fieldLink RX3 7 "RowPressModel" "keys" "[I", .methodLink RX3 28 yX3_isLess, .static yX3_isLess, .code yX3_isLess cX3_isLess 3 (some .boolean), .constantLong RX3 26 (4294967295)] ++ wsX30)
def wsX3_find : List Cond := .code yX3_find cX3_find 7 (some .int) :: ([.fieldLink RX3 22 "RowPressModel" "many" "I", .fieldLink RX3 7 "RowPressModel" "keys" "[I", .methodLink RX3 43 yX3_isOrder, .static yX3_isOrder, .initialized RX3, .code yX3_isOrder cX3_isOrder 1 (some .boolean), .methodLink RX3 55 yX3_isSorted, .instanceMethod yX3_isSorted, .selects RX3 yX3_isSorted yX3_isSorted, .code yX3_isSorted cX3_isSorted 5 (some .boolean), .methodLink RX3 28 yX3_isLess, .static yX3_isLess, .code yX3_isLess cX3_isLess 3 (some .boolean), .constantLong RX3 26 (4294967295)] ++ wsX30)
def wsX3_rank : List Cond := .code yX3_rank cX3_rank 3 (some .int) :: ([.fieldLink RX3 22 "RowPressModel" "many" "I", .methodLink RX3 43 yX3_isOrder, .static yX3_isOrder, .initialized RX3, .code yX3_isOrder cX3_isOrder 1 (some .boolean), .methodLink RX3 32 yX3_place, .instanceMethod yX3_place, .selects RX3 yX3_place yX3_place, .code yX3_place cX3_place 8 (some .int), .fieldLink RX3 7 "RowPressModel" "keys" "[I", .methodLink RX3 28 yX3_isLess, .static yX3_isLess, .code yX3_isLess cX3_isLess 3 (some .boolean), .constantLong RX3 26 (4294967295)] ++ wsX30)
def wsX3_key : List Cond := .code yX3_key cX3_key 2 (some .int) :: ([.fieldLink RX3 22 "RowPressModel" "many" "I", .fieldLink RX3 7 "RowPressModel" "keys" "[I"] ++ wsX30)
def wsX3_tag : List Cond := .code yX3_tag cX3_tag 2 (some .int) :: ([.fieldLink RX3 22 "RowPressModel" "many" "I", .fieldLink RX3 13 "RowPressModel" "tags" "[I"] ++ wsX30)
def wsX3_stretches : List Cond := .code yX3_stretches cX3_stretches 3 (some .int) :: ([.fieldLink RX3 22 "RowPressModel" "many" "I", .fieldLink RX3 7 "RowPressModel" "keys" "[I"] ++ wsX30)
def wsX3_different : List Cond := .code yX3_different cX3_different 5 (some .int) :: ([.fieldLink RX3 22 "RowPressModel" "many" "I", .fieldLink RX3 7 "RowPressModel" "keys" "[I"] ++ wsX30)
def wsX3_count : List Cond := .code yX3_count cX3_count 2 (some .int) :: ([.fieldLink RX3 22 "RowPressModel" "many" "I", .methodLink RX3 58 yX3_stretches, .instanceMethod yX3_stretches, .selects RX3 yX3_stretches yX3_stretches, .initialized RX3, .code yX3_stretches cX3_stretches 3 (some .int), .fieldLink RX3 7 "RowPressModel" "keys" "[I", .methodLink RX3 62 yX3_different, .instanceMethod yX3_different, .selects RX3 yX3_different yX3_different, .code yX3_different cX3_different 5 (some .int)] ++ wsX30)
def wsX3_check : List Cond := .code yX3_check cX3_check 1 (some .int) :: ([])
def wsJ9_min_7cf53 : List Cond := .code yJ9_min_7cf53 cJ9_min_7cf53 2 (some .int) :: ([])
def wsL_law_r1 : List Cond := [Cond.classLink RL 7 RX2, Cond.instantiable RX2 4, Cond.initialized RX2, Cond.classLink RL 10 RX3, Cond.instantiable RX3 5, Cond.initialized RX3, Cond.methodLink RL 9 yX2_init, Cond.instanceMethod yX2_init, Cond.code yX2_init cX2_init 1 none, Cond.methodLink RX2 1 objectInit, Cond.instanceMethod objectInit, Cond.code objectInit ⟨#[0xb1]⟩ 1 none, Cond.classLink RX2 7 RX1, Cond.instantiable RX1 5, Cond.initialized RX1, Cond.fieldLink RX2 10 "RowPress" "row" "LRowPress$Row;", Cond.instanceMethod yX1_init, Cond.code yX1_init cX1_init 1 none, Cond.methodLink RX1 1 objectInit, Cond.arrayClass .int, Cond.fieldLink RX1 9 "RowPress$Row" "keys" "[I", Cond.fieldLink RX1 13 "RowPress$Row" "tags" "[I", Cond.methodLink RL 12 yX3_init, Cond.instanceMethod yX3_init]
def wsL_law_r2 : List Cond := [Cond.code yX3_init cX3_init 1 none, Cond.methodLink RX3 1 objectInit, Cond.fieldLink RX3 7 "RowPressModel" "keys" "[I", Cond.fieldLink RX3 13 "RowPressModel" "tags" "[I", Cond.fieldLink RX3 16 "RowPressModel" "nextKeys" "[I", Cond.fieldLink RX3 19 "RowPressModel" "nextTags" "[I", Cond.fieldLink RX3 22 "RowPressModel" "many" "I", Cond.methodLink RL 13 yX2_put, Cond.instanceMethod yX2_put, Cond.selects RX2 yX2_put yX2_put, Cond.code yX2_put cX2_put 3 (some .int), Cond.fieldLink RX2 24 "RowPress$Row" "size" "I", Cond.methodLink RX2 16 yX1_hasRoomFor, Cond.instanceMethod yX1_hasRoomFor, Cond.selects RX1 yX1_hasRoomFor yX1_hasRoomFor, Cond.code yX1_hasRoomFor cX1_hasRoomFor 2 (some .boolean), Cond.fieldLink RX1 16 "RowPress$Row" "size" "I", Cond.methodLink RX2 20 yX1_append, Cond.instanceMethod yX1_append, Cond.selects RX1 yX1_append yX1_append, Cond.code yX1_append cX1_append 3 none, Cond.methodLink RL 17 yX3_put, Cond.instanceMethod yX3_put, Cond.selects RX3 yX3_put yX3_put]
def wsL_law_r3 : List Cond := [Cond.code yX3_put cX3_put 3 (some .int), Cond.methodLink RL 18 yX2_run, Cond.instanceMethod yX2_run, Cond.selects RX2 yX2_run yX2_run, Cond.code yX2_run cX2_run 6 (some .int), Cond.methodLink RL 22 yX3_run, Cond.instanceMethod yX3_run, Cond.selects RX3 yX3_run yX3_run, Cond.code yX3_run cX3_run 6 (some .int), Cond.methodLink RL 23 yX2_clear, Cond.instanceMethod yX2_clear, Cond.selects RX2 yX2_clear yX2_clear, Cond.code yX2_clear cX2_clear 2 (some .int), Cond.methodLink RL 27 yX3_clear, Cond.instanceMethod yX3_clear, Cond.selects RX3 yX3_clear yX3_clear, Cond.code yX3_clear cX3_clear 2 (some .int), Cond.methodLink RL 28 yX2_sort, Cond.instanceMethod yX2_sort, Cond.selects RX2 yX2_sort yX2_sort, Cond.code yX2_sort cX2_sort 2 (some .int), Cond.methodLink RX2 28 yX2_sortPart, Cond.instanceMethod yX2_sortPart, Cond.selects RX2 yX2_sortPart yX2_sortPart]
def wsL_law_r4 : List Cond := [Cond.code yX2_sortPart cX2_sortPart 4 (some .int), Cond.methodLink RX2 32 yX0_exists, Cond.static yX0_exists, Cond.initialized RX0, Cond.code yX0_exists cX0_exists 1 (some .boolean), Cond.methodLink RX2 37 yX1_hasStretch, Cond.instanceMethod yX1_hasStretch, Cond.selects RX1 yX1_hasStretch yX1_hasStretch, Cond.code yX1_hasStretch cX1_hasStretch 3 (some .boolean), Cond.methodLink RX2 41 yX1_startCounting, Cond.instanceMethod yX1_startCounting, Cond.selects RX1 yX1_startCounting yX1_startCounting, Cond.code yX1_startCounting cX1_startCounting 1 none, Cond.fieldLink RX1 24 "RowPress$Row" "compares" "I", Cond.fieldLink RX1 27 "RowPress$Row" "writes" "I", Cond.methodLink RX2 44 yX1_sortInPlace, Cond.instanceMethod yX1_sortInPlace, Cond.selects RX1 yX1_sortInPlace yX1_sortInPlace, Cond.code yX1_sortInPlace cX1_sortInPlace 7 none, Cond.methodLink RX1 43 Lib.Math.min.name, Cond.static Lib.Math.min.name, Cond.initialized "java/lang/Math", Cond.code Lib.Math.min.name Lib.Math.min.code 2 (some .int), Cond.methodLink RX1 49 yX1_mergeInPlace]
def wsL_law_r5 : List Cond := [Cond.static yX1_mergeInPlace, Cond.code yX1_mergeInPlace cX1_mergeInPlace 9 none, Cond.methodLink RX1 53 yX1_startOfBlocks, Cond.instanceMethod yX1_startOfBlocks, Cond.selects RX1 yX1_startOfBlocks yX1_startOfBlocks, Cond.code yX1_startOfBlocks cX1_startOfBlocks 10 (some .int), Cond.methodLink RX1 30 yX1_lessAt, Cond.instanceMethod yX1_lessAt, Cond.selects RX1 yX1_lessAt yX1_lessAt, Cond.code yX1_lessAt cX1_lessAt 4 (some .boolean), Cond.methodLink RX1 34 yX0_isLess, Cond.static yX0_isLess, Cond.code yX0_isLess cX0_isLess 3 (some .boolean), Cond.constant RX0 9 (-2147483648), Cond.methodLink RX1 57 yX1_swapBlocks, Cond.instanceMethod yX1_swapBlocks, Cond.selects RX1 yX1_swapBlocks yX1_swapBlocks, Cond.code yX1_swapBlocks cX1_swapBlocks 4 none, Cond.methodLink RX1 64 yX1_reverse, Cond.instanceMethod yX1_reverse, Cond.selects RX1 yX1_reverse yX1_reverse, Cond.code yX1_reverse cX1_reverse 5 none, Cond.methodLink RX1 68 yX1_swapPairs, Cond.instanceMethod yX1_swapPairs]
def wsL_law_r6 : List Cond := [Cond.selects RX1 yX1_swapPairs yX1_swapPairs, Cond.code yX1_swapPairs cX1_swapPairs 5 none, Cond.methodLink RX2 48 yX2_keepCounts, Cond.instanceMethod yX2_keepCounts, Cond.selects RX2 yX2_keepCounts yX2_keepCounts, Cond.code yX2_keepCounts cX2_keepCounts 2 none, Cond.fieldLink RX2 100 "RowPress" "latestPairs" "I", Cond.fieldLink RX2 113 "RowPress$Row" "compares" "I", Cond.fieldLink RX2 107 "RowPress" "latestCompares" "I", Cond.fieldLink RX2 116 "RowPress$Row" "writes" "I", Cond.fieldLink RX2 110 "RowPress" "latestWrites" "I", Cond.methodLink RL 32 yX3_sort, Cond.instanceMethod yX3_sort, Cond.selects RX3 yX3_sort yX3_sort, Cond.code yX3_sort cX3_sort 2 (some .int), Cond.methodLink RX3 43 yX3_isOrder, Cond.static yX3_isOrder, Cond.code yX3_isOrder cX3_isOrder 1 (some .boolean), Cond.methodLink RX3 47 yX3_arrange, Cond.instanceMethod yX3_arrange, Cond.selects RX3 yX3_arrange yX3_arrange, Cond.code yX3_arrange cX3_arrange 5 none, Cond.methodLink RX3 32 yX3_place, Cond.instanceMethod yX3_place]
def wsL_law_r7 : List Cond := [Cond.selects RX3 yX3_place yX3_place, Cond.code yX3_place cX3_place 8 (some .int), Cond.methodLink RX3 28 yX3_isLess, Cond.static yX3_isLess, Cond.code yX3_isLess cX3_isLess 3 (some .boolean), Cond.constantLong RX3 26 (4294967295), Cond.methodLink RX3 36 yX3_move, Cond.instanceMethod yX3_move, Cond.selects RX3 yX3_move yX3_move, Cond.code yX3_move cX3_move 3 none, Cond.methodLink RX3 40 yX3_take, Cond.instanceMethod yX3_take, Cond.selects RX3 yX3_take yX3_take, Cond.code yX3_take cX3_take 4 none, Cond.methodLink RL 33 yX2_sortPart, Cond.methodLink RL 37 yX3_sortPart, Cond.instanceMethod yX3_sortPart, Cond.selects RX3 yX3_sortPart yX3_sortPart, Cond.code yX3_sortPart cX3_sortPart 4 (some .int), Cond.methodLink RX3 51 yX3_isStretch, Cond.instanceMethod yX3_isStretch, Cond.selects RX3 yX3_isStretch yX3_isStretch, Cond.code yX3_isStretch cX3_isStretch 3 (some .boolean), Cond.methodLink RL 38 yX2_merge]
def wsL_law_r8 : List Cond := [Cond.instanceMethod yX2_merge, Cond.selects RX2 yX2_merge yX2_merge, Cond.code yX2_merge cX2_merge 5 (some .int), Cond.methodLink RX2 52 yX1_hasStretches, Cond.instanceMethod yX1_hasStretches, Cond.selects RX1 yX1_hasStretches yX1_hasStretches, Cond.code yX1_hasStretches cX1_hasStretches 4 (some .boolean), Cond.methodLink RX1 20 yX1_hasStretch, Cond.methodLink RX2 56 yX1_inOrder, Cond.instanceMethod yX1_inOrder, Cond.selects RX1 yX1_inOrder yX1_inOrder, Cond.code yX1_inOrder cX1_inOrder 5 (some .boolean), Cond.methodLink RL 41 yX3_merge, Cond.instanceMethod yX3_merge, Cond.selects RX3 yX3_merge yX3_merge, Cond.code yX3_merge cX3_merge 6 (some .int), Cond.methodLink RX3 55 yX3_isSorted, Cond.instanceMethod yX3_isSorted, Cond.selects RX3 yX3_isSorted yX3_isSorted, Cond.code yX3_isSorted cX3_isSorted 5 (some .boolean), Cond.methodLink RL 42 yX2_rotate, Cond.instanceMethod yX2_rotate, Cond.selects RX2 yX2_rotate yX2_rotate, Cond.code yX2_rotate cX2_rotate 4 (some .int)]
def wsL_law_r9 : List Cond := [Cond.methodLink RX2 63 yX1_swapBlocks, Cond.methodLink RL 45 yX3_rotate, Cond.instanceMethod yX3_rotate, Cond.selects RX3 yX3_rotate yX3_rotate, Cond.code yX3_rotate cX3_rotate 5 (some .int), Cond.methodLink RL 46 yX2_turn, Cond.instanceMethod yX2_turn, Cond.selects RX2 yX2_turn yX2_turn, Cond.code yX2_turn cX2_turn 3 (some .int), Cond.methodLink RX2 66 yX1_reverse, Cond.methodLink RL 49 yX3_turn, Cond.instanceMethod yX3_turn, Cond.selects RX3 yX3_turn yX3_turn, Cond.code yX3_turn cX3_turn 4 (some .int), Cond.methodLink RL 50 yX2_split, Cond.instanceMethod yX2_split, Cond.selects RX2 yX2_split yX2_split, Cond.code yX2_split cX2_split 5 (some .int), Cond.methodLink RX2 69 yX1_splitInPlace, Cond.instanceMethod yX1_splitInPlace, Cond.selects RX1 yX1_splitInPlace yX1_splitInPlace, Cond.code yX1_splitInPlace cX1_splitInPlace 11 none, Cond.methodLink RX1 61 yX1_countLess, Cond.instanceMethod yX1_countLess]
def wsL_law_r10 : List Cond := [Cond.selects RX1 yX1_countLess yX1_countLess, Cond.code yX1_countLess cX1_countLess 7 (some .int), Cond.methodLink RX2 73 yX1_countLess, Cond.methodLink RL 53 yX3_split, Cond.instanceMethod yX3_split, Cond.selects RX3 yX3_split yX3_split, Cond.code yX3_split cX3_split 8 (some .int), Cond.methodLink RL 54 yX2_thin, Cond.instanceMethod yX2_thin, Cond.selects RX2 yX2_thin yX2_thin, Cond.code yX2_thin cX2_thin 2 (some .int), Cond.methodLink RX2 77 yX1_dropAlike, Cond.instanceMethod yX1_dropAlike, Cond.selects RX1 yX1_dropAlike yX1_dropAlike, Cond.code yX1_dropAlike cX1_dropAlike 4 none, Cond.methodLink RL 57 yX3_thin, Cond.instanceMethod yX3_thin, Cond.selects RX3 yX3_thin yX3_thin, Cond.code yX3_thin cX3_thin 4 (some .int), Cond.methodLink RL 58 yX2_sorted, Cond.instanceMethod yX2_sorted, Cond.selects RX2 yX2_sorted yX2_sorted, Cond.code yX2_sorted cX2_sorted 4 (some .int), Cond.methodLink RL 61 yX3_sorted]
def wsL_law_r11 : List Cond := [Cond.instanceMethod yX3_sorted, Cond.selects RX3 yX3_sorted yX3_sorted, Cond.code yX3_sorted cX3_sorted 4 (some .int), Cond.methodLink RL 62 yX2_find, Cond.instanceMethod yX2_find, Cond.selects RX2 yX2_find yX2_find, Cond.code yX2_find cX2_find 5 (some .int), Cond.methodLink RX2 80 yX1_countNotMore, Cond.instanceMethod yX1_countNotMore, Cond.selects RX1 yX1_countNotMore yX1_countNotMore, Cond.code yX1_countNotMore cX1_countNotMore 7 (some .int), Cond.methodLink RL 65 yX3_find, Cond.instanceMethod yX3_find, Cond.selects RX3 yX3_find yX3_find, Cond.code yX3_find cX3_find 7 (some .int), Cond.methodLink RL 66 yX2_rank, Cond.instanceMethod yX2_rank, Cond.selects RX2 yX2_rank yX2_rank, Cond.code yX2_rank cX2_rank 4 (some .int), Cond.fieldLink RX2 86 "RowPress$Row" "keys" "[I", Cond.methodLink RX2 83 yX1_hasPlace, Cond.instanceMethod yX1_hasPlace, Cond.selects RX1 yX1_hasPlace yX1_hasPlace, Cond.code yX1_hasPlace cX1_hasPlace 2 (some .boolean)]
def wsL_law_r12 : List Cond := [Cond.methodLink RL 69 yX3_rank, Cond.instanceMethod yX3_rank, Cond.selects RX3 yX3_rank yX3_rank, Cond.code yX3_rank cX3_rank 3 (some .int), Cond.methodLink RL 70 yX2_key, Cond.instanceMethod yX2_key, Cond.selects RX2 yX2_key yX2_key, Cond.code yX2_key cX2_key 2 (some .int), Cond.methodLink RL 73 yX3_key, Cond.instanceMethod yX3_key, Cond.selects RX3 yX3_key yX3_key, Cond.code yX3_key cX3_key 2 (some .int), Cond.methodLink RL 74 yX2_tag, Cond.instanceMethod yX2_tag, Cond.selects RX2 yX2_tag yX2_tag, Cond.code yX2_tag cX2_tag 2 (some .int), Cond.fieldLink RX2 90 "RowPress$Row" "tags" "[I", Cond.methodLink RL 77 yX3_tag, Cond.instanceMethod yX3_tag, Cond.selects RX3 yX3_tag yX3_tag, Cond.code yX3_tag cX3_tag 2 (some .int), Cond.methodLink RL 78 yX2_count, Cond.instanceMethod yX2_count, Cond.selects RX2 yX2_count yX2_count]
def wsL_law_r13 : List Cond := [Cond.code yX2_count cX2_count 2 (some .int), Cond.methodLink RX2 93 yX1_countSortedStretches, Cond.instanceMethod yX1_countSortedStretches, Cond.selects RX1 yX1_countSortedStretches yX1_countSortedStretches, Cond.code yX1_countSortedStretches cX1_countSortedStretches 3 (some .int), Cond.methodLink RX2 97 yX1_countDifferentKeys, Cond.instanceMethod yX1_countDifferentKeys, Cond.selects RX1 yX1_countDifferentKeys yX1_countDifferentKeys, Cond.code yX1_countDifferentKeys cX1_countDifferentKeys 3 (some .int), Cond.methodLink RX1 39 yX1_standsBefore, Cond.instanceMethod yX1_standsBefore, Cond.selects RX1 yX1_standsBefore yX1_standsBefore, Cond.code yX1_standsBefore cX1_standsBefore 3 (some .boolean), Cond.methodLink RL 81 yX3_count, Cond.instanceMethod yX3_count, Cond.selects RX3 yX3_count yX3_count, Cond.code yX3_count cX3_count 2 (some .int), Cond.methodLink RX3 58 yX3_stretches, Cond.instanceMethod yX3_stretches, Cond.selects RX3 yX3_stretches yX3_stretches, Cond.code yX3_stretches cX3_stretches 3 (some .int), Cond.methodLink RX3 62 yX3_different, Cond.instanceMethod yX3_different, Cond.selects RX3 yX3_different yX3_different]
def wsL_law_r14 : List Cond := [Cond.code yX3_different cX3_different 5 (some .int), Cond.methodLink RL 82 yX2_check, Cond.instanceMethod yX2_check, Cond.selects RX2 yX2_check yX2_check, Cond.code yX2_check cX2_check 3 (some .int), Cond.methodLink RX2 103 yX2_levels, Cond.static yX2_levels, Cond.code yX2_levels cX2_levels 2 (some .int), Cond.methodLink RL 85 yX3_check, Cond.instanceMethod yX3_check, Cond.selects RX3 yX3_check yX3_check, Cond.code yX3_check cX3_check 1 (some .int)]
def wsL_law : List Cond := (wsL_law_r1 ++ (wsL_law_r2 ++ (wsL_law_r3 ++ (wsL_law_r4 ++ (wsL_law_r5 ++ (wsL_law_r6 ++ (wsL_law_r7 ++ (wsL_law_r8 ++ (wsL_law_r9 ++ (wsL_law_r10 ++ (wsL_law_r11 ++ (wsL_law_r12 ++ (wsL_law_r13 ++ wsL_law_r14))))))))))))) ++ wsX20 ++ wsX30 ++ wsX10 ++ ([] : List Cond)
set_option maxRecDepth 20000 in
theorem wsL_law_in : ∀ w ∈ wsL_law, w ∈ lw_tbl := fun w h => (goodIn_p wsL_law [23, 26, 31, 246, 71, 75, 79, 267, 83, 271, 87, 275, 91, 95, 98, 102, 106, 110, 113, 116, 120, 124, 127, 132, 136, 140, 144, 279, 282, 286, 290, 293, 298, 302, 306, 310, 149, 153, 158, 314, 318, 163, 322, 168, 326, 173, 177, 181, 330, 186, 190, 334, 194, 338, 198, 202, 342, 206, 210, 346, 214, 350, 218, 354, 222, 226, 230, 234, 358, 362, 366, 238, 241, 370] (by decide +kernel) (by decide +kernel) w h).1
theorem inX0 : ∀ w ∈ wsX00, w ∈ lw_tbl := by decide +kernel
theorem inlX1 : ∀ w ∈ wsX10, w ∈ wsL_law := fun _ h => List.mem_append_left _ (List.mem_append_right _ h)
theorem inX1 : ∀ w ∈ wsX10, w ∈ lw_tbl := fun w h => wsL_law_in w (inlX1 w h)
theorem inlX2 : ∀ w ∈ wsX20, w ∈ wsL_law := fun _ h => List.mem_append_left _ (List.mem_append_left _ (List.mem_append_left _ (List.mem_append_right _ h)))
theorem inX2 : ∀ w ∈ wsX20, w ∈ lw_tbl := fun w h => wsL_law_in w (inlX2 w h)
theorem inlX3 : ∀ w ∈ wsX30, w ∈ wsL_law := fun _ h => List.mem_append_left _ (List.mem_append_left _ (List.mem_append_right _ h))
theorem inX3 : ∀ w ∈ wsX30, w ∈ lw_tbl := fun w h => wsL_law_in w (inlX3 w h)
theorem inJ9 : ∀ w ∈ wsJ90, w ∈ lw_tbl := by decide +kernel
theorem dX0_exists_0 : decode cX0_exists 0 = .ok (.iload_n 0, 1) := by decide +kernel
theorem dX0_exists_1 : decode cX0_exists 1 = .ok (.ifCond .lt 12, 3) := by decide +kernel
theorem dX0_exists_4 : decode cX0_exists 4 = .ok (.iload_n 0, 1) := by decide +kernel
theorem dX0_exists_5 : decode cX0_exists 5 = .ok (.iconst 3, 1) := by decide +kernel
theorem dX0_exists_6 : decode cX0_exists 6 = .ok (.if_icmp .gt 7, 3) := by decide +kernel
theorem dX0_exists_9 : decode cX0_exists 9 = .ok (.iconst 1, 1) := by decide +kernel
theorem dX0_exists_10 : decode cX0_exists 10 = .ok (.goto 4, 3) := by decide +kernel
theorem dX0_exists_13 : decode cX0_exists 13 = .ok (.iconst 0, 1) := by decide +kernel
theorem dX0_exists_14 : decode cX0_exists 14 = .ok (.ireturn, 1) := by decide +kernel
theorem dX0_isLess_0 : decode cX0_isLess 0 = .ok (.iload_n 2, 1) := by decide +kernel
theorem dX0_isLess_1 : decode cX0_isLess 1 = .ok (.tableswitch 74 1 3 #[27, 44, 55], 27) := by decide +kernel
theorem dX0_isLess_28 : decode cX0_isLess 28 = .ok (.iload_n 0, 1) := by decide +kernel
theorem dX0_isLess_29 : decode cX0_isLess 29 = .ok (.ldc 9, 2) := by decide +kernel
theorem dX0_isLess_31 : decode cX0_isLess 31 = .ok (.ixor, 1) := by decide +kernel
theorem dX0_isLess_32 : decode cX0_isLess 32 = .ok (.iload_n 1, 1) := by decide +kernel
theorem dX0_isLess_33 : decode cX0_isLess 33 = .ok (.ldc 9, 2) := by decide +kernel
theorem dX0_isLess_35 : decode cX0_isLess 35 = .ok (.ixor, 1) := by decide +kernel
theorem dX0_isLess_36 : decode cX0_isLess 36 = .ok (.if_icmp .ge 7, 3) := by decide +kernel
theorem dX0_isLess_39 : decode cX0_isLess 39 = .ok (.iconst 1, 1) := by decide +kernel
theorem dX0_isLess_40 : decode cX0_isLess 40 = .ok (.goto 4, 3) := by decide +kernel
theorem dX0_isLess_43 : decode cX0_isLess 43 = .ok (.iconst 0, 1) := by decide +kernel
theorem dX0_isLess_44 : decode cX0_isLess 44 = .ok (.ireturn, 1) := by decide +kernel
theorem dX0_isLess_45 : decode cX0_isLess 45 = .ok (.iload_n 0, 1) := by decide +kernel
theorem dX0_isLess_46 : decode cX0_isLess 46 = .ok (.iload_n 1, 1) := by decide +kernel
theorem dX0_isLess_47 : decode cX0_isLess 47 = .ok (.if_icmp .le 7, 3) := by decide +kernel
theorem dX0_isLess_50 : decode cX0_isLess 50 = .ok (.iconst 1, 1) := by decide +kernel
theorem dX0_isLess_51 : decode cX0_isLess 51 = .ok (.goto 4, 3) := by decide +kernel
theorem dX0_isLess_54 : decode cX0_isLess 54 = .ok (.iconst 0, 1) := by decide +kernel
theorem dX0_isLess_55 : decode cX0_isLess 55 = .ok (.ireturn, 1) := by decide +kernel
theorem dX0_isLess_56 : decode cX0_isLess 56 = .ok (.iload_n 0, 1) := by decide +kernel
theorem dX0_isLess_57 : decode cX0_isLess 57 = .ok (.sipush 255, 3) := by decide +kernel
theorem dX0_isLess_60 : decode cX0_isLess 60 = .ok (.iand, 1) := by decide +kernel
theorem dX0_isLess_61 : decode cX0_isLess 61 = .ok (.iload_n 1, 1) := by decide +kernel
theorem dX0_isLess_62 : decode cX0_isLess 62 = .ok (.sipush 255, 3) := by decide +kernel
theorem dX0_isLess_65 : decode cX0_isLess 65 = .ok (.iand, 1) := by decide +kernel
theorem dX0_isLess_66 : decode cX0_isLess 66 = .ok (.if_icmp .ge 7, 3) := by decide +kernel
theorem dX0_isLess_69 : decode cX0_isLess 69 = .ok (.iconst 1, 1) := by decide +kernel
theorem dX0_isLess_70 : decode cX0_isLess 70 = .ok (.goto 4, 3) := by decide +kernel
theorem dX0_isLess_73 : decode cX0_isLess 73 = .ok (.iconst 0, 1) := by decide +kernel
theorem dX0_isLess_74 : decode cX0_isLess 74 = .ok (.ireturn, 1) := by decide +kernel
theorem dX0_isLess_75 : decode cX0_isLess 75 = .ok (.iload_n 0, 1) := by decide +kernel
theorem dX0_isLess_76 : decode cX0_isLess 76 = .ok (.iload_n 1, 1) := by decide +kernel
theorem dX0_isLess_77 : decode cX0_isLess 77 = .ok (.if_icmp .ge 7, 3) := by decide +kernel
theorem dX0_isLess_80 : decode cX0_isLess 80 = .ok (.iconst 1, 1) := by decide +kernel
theorem dX0_isLess_81 : decode cX0_isLess 81 = .ok (.goto 4, 3) := by decide +kernel
theorem dX0_isLess_84 : decode cX0_isLess 84 = .ok (.iconst 0, 1) := by decide +kernel
theorem dX0_isLess_85 : decode cX0_isLess 85 = .ok (.ireturn, 1) := by decide +kernel
abbrev vwCl : List vw_C := [(RX1, TX1, 5), (RX2, TX2, 4), (RX3, TX3, 5)]
