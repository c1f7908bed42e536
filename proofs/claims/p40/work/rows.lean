section
-- ===== PART A: goes FIRST, ahead of the names: the tables' words, and 'selects' of the private methods out of them =====
/-- a private method of a class that the tables say can be made, by its rows of tables_1 -/
def lw_okq (q : MethodName × Nat) : Prop := (q.1.cls ≠ "java/lang/invoke/MethodHandle" ∧ q.1.cls ≠ "java/lang/invoke/VarHandle") ∧ Cond.instantiable q.1.cls q.2 ∈ tables_1 ∧ Cond.privateMethod q.1 ∈ tables_1 ∧ Cond.instanceMethod q.1 ∈ tables_1
theorem lw_p0 : lw_okq (⟨"NameThrownBack$Reader", "next", "()V"⟩, 9) := ⟨⟨by decide +kernel, by decide +kernel⟩, List.mem_of_getElem? (i := 211) (by decide +kernel), List.mem_of_getElem? (i := 663) (by decide +kernel), List.mem_of_getElem? (i := 664) (by decide +kernel)⟩
theorem lw_p1 : lw_okq (⟨"NameThrownBack$Reader", "isLetter", "(I)Z"⟩, 9) := ⟨⟨by decide +kernel, by decide +kernel⟩, List.mem_of_getElem? (i := 211) (by decide +kernel), List.mem_of_getElem? (i := 668) (by decide +kernel), List.mem_of_getElem? (i := 669) (by decide +kernel)⟩
theorem lw_p2 : lw_okq (⟨"NameThrownBack$Reader", "endOfWord", "(I)I"⟩, 9) := ⟨⟨by decide +kernel, by decide +kernel⟩, List.mem_of_getElem? (i := 211) (by decide +kernel), List.mem_of_getElem? (i := 672) (by decide +kernel), List.mem_of_getElem? (i := 673) (by decide +kernel)⟩
theorem lw_p3 : lw_okq (⟨"NameThrownBack$Reader", "wordOf", "()I"⟩, 9) := ⟨⟨by decide +kernel, by decide +kernel⟩, List.mem_of_getElem? (i := 211) (by decide +kernel), List.mem_of_getElem? (i := 676) (by decide +kernel), List.mem_of_getElem? (i := 677) (by decide +kernel)⟩
theorem lw_p4 : lw_okq (⟨"NameThrownBack$Reader", "spells", "(Ljava/lang/String;)Z"⟩, 9) := ⟨⟨by decide +kernel, by decide +kernel⟩, List.mem_of_getElem? (i := 211) (by decide +kernel), List.mem_of_getElem? (i := 681) (by decide +kernel), List.mem_of_getElem? (i := 682) (by decide +kernel)⟩
theorem lw_p5 : lw_okq (⟨"NameThrownBack$Reader", "isDigit", "(I)Z"⟩, 9) := ⟨⟨by decide +kernel, by decide +kernel⟩, List.mem_of_getElem? (i := 211) (by decide +kernel), List.mem_of_getElem? (i := 698) (by decide +kernel), List.mem_of_getElem? (i := 699) (by decide +kernel)⟩
theorem lw_p6 : lw_okq (⟨"NameThrownBack$Reader", "endOfNumber", "(I)I"⟩, 9) := ⟨⟨by decide +kernel, by decide +kernel⟩, List.mem_of_getElem? (i := 211) (by decide +kernel), List.mem_of_getElem? (i := 702) (by decide +kernel), List.mem_of_getElem? (i := 703) (by decide +kernel)⟩
theorem lw_p7 : lw_okq (⟨"NameThrownBack$Reader", "write", "(I)V"⟩, 9) := ⟨⟨by decide +kernel, by decide +kernel⟩, List.mem_of_getElem? (i := 211) (by decide +kernel), List.mem_of_getElem? (i := 718) (by decide +kernel), List.mem_of_getElem? (i := 719) (by decide +kernel)⟩
theorem lw_p8 : lw_okq (⟨"NameThrownBack", "rowAt", "(I)LNameThrownBack$Sheet;"⟩, 7) := ⟨⟨by decide +kernel, by decide +kernel⟩, List.mem_of_getElem? (i := 182) (by decide +kernel), List.mem_of_getElem? (i := 746) (by decide +kernel), List.mem_of_getElem? (i := 747) (by decide +kernel)⟩
def lw_privs_1 : List (MethodName × Nat) := [(⟨"NameThrownBack$Reader", "next", "()V"⟩, 9), (⟨"NameThrownBack$Reader", "isLetter", "(I)Z"⟩, 9), (⟨"NameThrownBack$Reader", "endOfWord", "(I)I"⟩, 9), (⟨"NameThrownBack$Reader", "wordOf", "()I"⟩, 9), (⟨"NameThrownBack$Reader", "spells", "(Ljava/lang/String;)Z"⟩, 9), (⟨"NameThrownBack$Reader", "isDigit", "(I)Z"⟩, 9), (⟨"NameThrownBack$Reader", "endOfNumber", "(I)I"⟩, 9), (⟨"NameThrownBack$Reader", "write", "(I)V"⟩, 9), (⟨"NameThrownBack", "rowAt", "(I)LNameThrownBack$Sheet;"⟩, 7)]
theorem lw_r1 : ∀ q ∈ lw_privs_1, lw_okq q := List.forall_mem_cons.mpr ⟨lw_p0, List.forall_mem_cons.mpr ⟨lw_p1, List.forall_mem_cons.mpr ⟨lw_p2, List.forall_mem_cons.mpr ⟨lw_p3, List.forall_mem_cons.mpr ⟨lw_p4, List.forall_mem_cons.mpr ⟨lw_p5, List.forall_mem_cons.mpr ⟨lw_p6, List.forall_mem_cons.mpr ⟨lw_p7, List.forall_mem_cons.mpr ⟨lw_p8, fun _ h => absurd h List.not_mem_nil⟩⟩⟩⟩⟩⟩⟩⟩⟩
def lw_privs : List (MethodName × Nat) := lw_privs_1
def lw_tbl : List Cond := k2_sels lw_privs ++ tables_1
theorem lw_privs_ok : ∀ q ∈ lw_privs, lw_okq q := lw_r1
def RX0 : String := "NameThrownBack$Coast"
def TX0 : u_T := fun k => match k with
  | 0 => ("NameThrownBack$Coast", "texts", "LNameThrownBack$Texts;", true)
  | 1 => ("NameThrownBack$Coast", "names", "[I", true)
  | 2 => ("NameThrownBack$Coast", "fishers", "I", false)
  | 3 => ("NameThrownBack$Coast", "sea", "I", false)
  | 4 => ("NameThrownBack$Coast", "tide", "I", false)
  | 5 => ("NameThrownBack$Coast", "law", "I", false)
  | 6 => ("NameThrownBack$Coast", "kind", "[I", true)
  | 7 => ("NameThrownBack$Coast", "more", "[I", true)
  | 8 => ("NameThrownBack$Coast", "known", "[I", true)
  | 9 => ("NameThrownBack$Coast", "kept", "[I", true)
  | _ => ("NameThrownBack$Coast", "luck", "[I", true)
def tyX0 : Nat → FieldType := fun k => match k with
  | 0 => .object "NameThrownBack$Texts"
  | 1 => .array .int
  | 2 => .int
  | 3 => .int
  | 4 => .int
  | 5 => .int
  | 6 => .array .int
  | 7 => .array .int
  | 8 => .array .int
  | 9 => .array .int
  | _ => .array .int
theorem nmX0 : ∀ a, a < 11 → ∀ b, b < 11 → a ≠ b → (TX0 a).2.1 ≠ (TX0 b).2.1 := by decide +kernel
theorem tyX0_ok : ∀ k, k < 11 → parseFieldDescriptor (TX0 k).2.2.1 = some (tyX0 k) := by decide +kernel
abbrev cX0_init : ByteArray := prog_2_method_1_code
def yX0_init : MethodName := ⟨RX0, "<init>", "(LNameThrownBack$Texts;)V"⟩
abbrev cX0_become : ByteArray := prog_2_method_2_code
def yX0_become : MethodName := ⟨RX0, "become", "(LNameThrownBack$Coast;)V"⟩
abbrev cX0_has : ByteArray := prog_2_method_3_code
def yX0_has : MethodName := ⟨RX0, "has", "(I)Z"⟩
abbrev cX0_comes : ByteArray := prog_2_method_4_code
def yX0_comes : MethodName := ⟨RX0, "comes", "(III)I"⟩
abbrev cX0_nameless : ByteArray := prog_2_method_5_code
def yX0_nameless : MethodName := ⟨RX0, "nameless", "(I)I"⟩
abbrev cX0_knownToAny : ByteArray := prog_2_method_6_code
def yX0_knownToAny : MethodName := ⟨RX0, "knownToAny", "()I"⟩
abbrev cX0_says : ByteArray := prog_2_method_7_code
def yX0_says : MethodName := ⟨RX0, "says", "(III)I"⟩
abbrev cX0_letsGo : ByteArray := prog_2_method_8_code
def yX0_letsGo : MethodName := ⟨RX0, "letsGo", "(II)I"⟩
abbrev cX0_lucksBy : ByteArray := prog_2_method_9_code
def yX0_lucksBy : MethodName := ⟨RX0, "lucksBy", "(II)I"⟩
abbrev cX0_takesOf : ByteArray := prog_2_method_10_code
def yX0_takesOf : MethodName := ⟨RX0, "takesOf", "(I)I"⟩
abbrev cX0_landing : ByteArray := prog_2_method_11_code
def yX0_landing : MethodName := ⟨RX0, "landing", "(II)I"⟩
abbrev cX0_learns : ByteArray := prog_2_method_12_code
def yX0_learns : MethodName := ⟨RX0, "learns", "(II)I"⟩
abbrev cX0_isTold : ByteArray := prog_2_method_13_code
def yX0_isTold : MethodName := ⟨RX0, "isTold", "(II)V"⟩
abbrev cX0_washes : ByteArray := prog_2_method_14_code
def yX0_washes : MethodName := ⟨RX0, "washes", "()I"⟩
def RX1 : String := "NameThrownBack$Reader"
def TX1 : u_T := fun k => match k with
  | 0 => ("NameThrownBack$Reader", "tape", "[I", true)
  | 1 => ("NameThrownBack$Reader", "size", "I", false)
  | 2 => ("NameThrownBack$Reader", "code", "[I", true)
  | 3 => ("NameThrownBack$Reader", "written", "I", false)
  | 4 => ("NameThrownBack$Reader", "ends", "[I", true)
  | 5 => ("NameThrownBack$Reader", "token", "I", false)
  | 6 => ("NameThrownBack$Reader", "place", "I", false)
  | 7 => ("NameThrownBack$Reader", "behind", "I", false)
  | _ => ("NameThrownBack$Reader", "number", "I", false)
def tyX1 : Nat → FieldType := fun k => match k with
  | 0 => .array .int
  | 1 => .int
  | 2 => .array .int
  | 3 => .int
  | 4 => .array .int
  | 5 => .int
  | 6 => .int
  | 7 => .int
  | _ => .int
theorem nmX1 : ∀ a, a < 9 → ∀ b, b < 9 → a ≠ b → (TX1 a).2.1 ≠ (TX1 b).2.1 := by decide +kernel
theorem tyX1_ok : ∀ k, k < 9 → parseFieldDescriptor (TX1 k).2.2.1 = some (tyX1 k) := by decide +kernel
abbrev cX1_init : ByteArray := prog_3_method_1_code
def yX1_init : MethodName := ⟨RX1, "<init>", "()V"⟩
abbrev cX1_add : ByteArray := prog_3_method_2_code
def yX1_add : MethodName := ⟨RX1, "add", "(I)V"⟩
abbrev cX1_faultOf : ByteArray := prog_3_method_3_code
def yX1_faultOf : MethodName := ⟨RX1, "faultOf", "()I"⟩
abbrev cX1_readsE : ByteArray := prog_3_method_4_code
def yX1_readsE : MethodName := ⟨RX1, "readsE", "(LNameThrownBack$Reader;I)Z"⟩
abbrev cX1_readsAnd : ByteArray := prog_3_method_5_code
def yX1_readsAnd : MethodName := ⟨RX1, "readsAnd", "(LNameThrownBack$Reader;I)Z"⟩
abbrev cX1_readsNot : ByteArray := prog_3_method_6_code
def yX1_readsNot : MethodName := ⟨RX1, "readsNot", "(LNameThrownBack$Reader;I)Z"⟩
abbrev cX1_readsSum : ByteArray := prog_3_method_7_code
def yX1_readsSum : MethodName := ⟨RX1, "readsSum", "(LNameThrownBack$Reader;I)Z"⟩
abbrev cX1_readsTerm : ByteArray := prog_3_method_8_code
def yX1_readsTerm : MethodName := ⟨RX1, "readsTerm", "(LNameThrownBack$Reader;I)Z"⟩
abbrev cX1_readsOne : ByteArray := prog_3_method_9_code
def yX1_readsOne : MethodName := ⟨RX1, "readsOne", "(LNameThrownBack$Reader;I)Z"⟩
abbrev cX1_write : ByteArray := prog_3_method_10_code
def yX1_write : MethodName := ⟨RX1, "write", "(I)V"⟩
abbrev cX1_next : ByteArray := prog_3_method_11_code
def yX1_next : MethodName := ⟨RX1, "next", "()V"⟩
abbrev cX1_endOfWord : ByteArray := prog_3_method_12_code
def yX1_endOfWord : MethodName := ⟨RX1, "endOfWord", "(I)I"⟩
abbrev cX1_endOfNumber : ByteArray := prog_3_method_13_code
def yX1_endOfNumber : MethodName := ⟨RX1, "endOfNumber", "(I)I"⟩
abbrev cX1_wordOf : ByteArray := prog_3_method_14_code
def yX1_wordOf : MethodName := ⟨RX1, "wordOf", "()I"⟩
abbrev cX1_spells : ByteArray := prog_3_method_15_code
def yX1_spells : MethodName := ⟨RX1, "spells", "(Ljava/lang/String;)Z"⟩
abbrev cX1_isLetter : ByteArray := prog_3_method_16_code
def yX1_isLetter : MethodName := ⟨RX1, "isLetter", "(I)Z"⟩
abbrev cX1_isDigit : ByteArray := prog_3_method_17_code
def yX1_isDigit : MethodName := ⟨RX1, "isDigit", "(I)Z"⟩
abbrev cX1_isSign : ByteArray := prog_3_method_18_code
def yX1_isSign : MethodName := ⟨RX1, "isSign", "(I)Z"⟩
def RX2 : String := "NameThrownBack$Sheet"
def TX2 : u_T := fun k => match k with
  | 0 => ("NameThrownBack$Sheet", "sort", "I", false)
  | 1 => ("NameThrownBack$Sheet", "size", "I", false)
  | _ => ("NameThrownBack$Sheet", "cells", "[I", true)
def tyX2 : Nat → FieldType := fun k => match k with
  | 0 => .int
  | 1 => .int
  | _ => .array .int
theorem nmX2 : ∀ a, a < 3 → ∀ b, b < 3 → a ≠ b → (TX2 a).2.1 ≠ (TX2 b).2.1 := by decide +kernel
theorem tyX2_ok : ∀ k, k < 3 → parseFieldDescriptor (TX2 k).2.2.1 = some (tyX2 k) := by decide +kernel
abbrev cX2_init : ByteArray := prog_4_method_1_code
def yX2_init : MethodName := ⟨RX2, "<init>", "()V"⟩
abbrev cX2_becomes : ByteArray := prog_4_method_2_code
def yX2_becomes : MethodName := ⟨RX2, "becomes", "(II)V"⟩
abbrev cX2_write : ByteArray := prog_4_method_3_code
def yX2_write : MethodName := ⟨RX2, "write", "(II)V"⟩
def RX3 : String := "NameThrownBack$Texts"
def TX3 : u_T := fun k => match k with
  | 0 => ("NameThrownBack$Texts", "many", "I", false)
  | 1 => ("NameThrownBack$Texts", "codes", "[I", true)
  | 2 => ("NameThrownBack$Texts", "ends", "[I", true)
  | _ => ("NameThrownBack$Texts", "waiting", "[I", true)
def tyX3 : Nat → FieldType := fun k => match k with
  | 0 => .int
  | 1 => .array .int
  | 2 => .array .int
  | _ => .array .int
theorem nmX3 : ∀ a, a < 4 → ∀ b, b < 4 → a ≠ b → (TX3 a).2.1 ≠ (TX3 b).2.1 := by decide +kernel
theorem tyX3_ok : ∀ k, k < 4 → parseFieldDescriptor (TX3 k).2.2.1 = some (tyX3 k) := by decide +kernel
abbrev cX3_init : ByteArray := prog_5_method_1_code
def yX3_init : MethodName := ⟨RX3, "<init>", "()V"⟩
abbrev cX3_add : ByteArray := prog_5_method_2_code
def yX3_add : MethodName := ⟨RX3, "add", "([I[I)I"⟩
abbrev cX3_value : ByteArray := prog_5_method_3_code
def yX3_value : MethodName := ⟨RX3, "value", "(II[I)I"⟩
abbrev cX3_ofTwo : ByteArray := prog_5_method_4_code
def yX3_ofTwo : MethodName := ⟨RX3, "ofTwo", "(III)I"⟩
def RX4 : String := "NameThrownBack"
def TX4 : u_T := fun k => match k with
  | 0 => ("NameThrownBack", "texts", "LNameThrownBack$Texts;", true)
  | 1 => ("NameThrownBack", "reader", "LNameThrownBack$Reader;", true)
  | 2 => ("NameThrownBack", "now", "LNameThrownBack$Coast;", true)
  | 3 => ("NameThrownBack", "thought", "LNameThrownBack$Coast;", true)
  | 4 => ("NameThrownBack", "kept", "LNameThrownBack$Coast;", true)
  | 5 => ("NameThrownBack", "imaged", "Z", false)
  | _ => ("NameThrownBack", "sheets", "[LNameThrownBack$Sheet;", true)
def tyX4 : Nat → FieldType := fun k => match k with
  | 0 => .object "NameThrownBack$Texts"
  | 1 => .object "NameThrownBack$Reader"
  | 2 => .object "NameThrownBack$Coast"
  | 3 => .object "NameThrownBack$Coast"
  | 4 => .object "NameThrownBack$Coast"
  | 5 => .boolean
  | _ => .array (.object "NameThrownBack$Sheet")
theorem nmX4 : ∀ a, a < 7 → ∀ b, b < 7 → a ≠ b → (TX4 a).2.1 ≠ (TX4 b).2.1 := by decide +kernel
theorem tyX4_ok : ∀ k, k < 7 → parseFieldDescriptor (TX4 k).2.2.1 = some (tyX4 k) := by decide +kernel
abbrev cX4_init : ByteArray := prog_1_method_1_code
def yX4_init : MethodName := ⟨RX4, "<init>", "()V"⟩
abbrev cX4_count : ByteArray := prog_1_method_2_code
def yX4_count : MethodName := ⟨RX4, "count", "(I)I"⟩
abbrev cX4_shore : ByteArray := prog_1_method_3_code
def yX4_shore : MethodName := ⟨RX4, "shore", "(II)I"⟩
abbrev cX4_feed : ByteArray := prog_1_method_4_code
def yX4_feed : MethodName := ⟨RX4, "feed", "(IIIIII)I"⟩
abbrev cX4_text : ByteArray := prog_1_method_5_code
def yX4_text : MethodName := ⟨RX4, "text", "()I"⟩
abbrev cX4_force : ByteArray := prog_1_method_6_code
def yX4_force : MethodName := ⟨RX4, "force", "(I)I"⟩
abbrev cX4_fisher : ByteArray := prog_1_method_8_code
def yX4_fisher : MethodName := ⟨RX4, "fisher", "(II)I"⟩
abbrev cX4_put : ByteArray := prog_1_method_9_code
def yX4_put : MethodName := ⟨RX4, "put", "(III)I"⟩
abbrev cX4_told : ByteArray := prog_1_method_10_code
def yX4_told : MethodName := ⟨RX4, "told", "(II)I"⟩
abbrev cX4_lands : ByteArray := prog_1_method_11_code
def yX4_lands : MethodName := ⟨RX4, "lands", "(III)I"⟩
abbrev cX4_land : ByteArray := prog_1_method_12_code
def yX4_land : MethodName := ⟨RX4, "land", "(II)I"⟩
abbrev cX4_teach : ByteArray := prog_1_method_13_code
def yX4_teach : MethodName := ⟨RX4, "teach", "(II)I"⟩
abbrev cX4_tide : ByteArray := prog_1_method_14_code
def yX4_tide : MethodName := ⟨RX4, "tide", "()I"⟩
abbrev cX4_talk : ByteArray := prog_1_method_15_code
def yX4_talk : MethodName := ⟨RX4, "talk", "(II)I"⟩
abbrev cX4_which : ByteArray := prog_1_method_21_code
def yX4_which : MethodName := ⟨RX4, "which", "(II)I"⟩
abbrev cX4_lessons : ByteArray := prog_1_method_23_code
def yX4_lessons : MethodName := ⟨RX4, "lessons", "(III)I"⟩
abbrev cX4_lessonsTo : ByteArray := prog_1_method_24_code
def yX4_lessonsTo : MethodName := ⟨RX4, "lessonsTo", "(LNameThrownBack$Coast;III)I"⟩
abbrev cX4_lessonsFrom : ByteArray := prog_1_method_25_code
def yX4_lessonsFrom : MethodName := ⟨RX4, "lessonsFrom", "(LNameThrownBack$Coast;IIII)I"⟩
abbrev cX4_when : ByteArray := prog_1_method_26_code
def yX4_when : MethodName := ⟨RX4, "when", "(I)I"⟩
abbrev cX4_sheet : ByteArray := prog_1_method_43_code
def yX4_sheet : MethodName := ⟨RX4, "sheet", "(III)I"⟩
abbrev cX4_cell : ByteArray := prog_1_method_44_code
def yX4_cell : MethodName := ⟨RX4, "cell", "(III)I"⟩
abbrev cX4_rowAt : ByteArray := prog_1_method_48_code
def yX4_rowAt : MethodName := ⟨RX4, "rowAt", "(I)LNameThrownBack$Sheet;"⟩
abbrev cX4_at : ByteArray := prog_1_method_51_code
def yX4_at : MethodName := ⟨RX4, "at", "([II)I"⟩
abbrev cX4_set : ByteArray := prog_1_method_52_code
def yX4_set : MethodName := ⟨RX4, "set", "([III)V"⟩
abbrev cX4_swap : ByteArray := prog_1_method_53_code
def yX4_swap : MethodName := ⟨RX4, "swap", "([III)I"⟩
abbrev cX4_isThing : ByteArray := prog_1_method_54_code
def yX4_isThing : MethodName := ⟨RX4, "isThing", "(I)Z"⟩
abbrev cX4_isSet : ByteArray := prog_1_method_55_code
def yX4_isSet : MethodName := ⟨RX4, "isSet", "(I)Z"⟩
abbrev cX4_isByte : ByteArray := prog_1_method_56_code
def yX4_isByte : MethodName := ⟨RX4, "isByte", "(I)Z"⟩
abbrev cX4_holds : ByteArray := prog_1_method_58_code
def yX4_holds : MethodName := ⟨RX4, "holds", "(II)Z"⟩
abbrev cX4_bounded : ByteArray := prog_1_method_59_code
def yX4_bounded : MethodName := ⟨RX4, "bounded", "(III)I"⟩
abbrev cX4_numbered : ByteArray := prog_1_method_60_code
def yX4_numbered : MethodName := ⟨RX4, "numbered", "(II)I"⟩
abbrev cX4_leastOf : ByteArray := prog_1_method_61_code
def yX4_leastOf : MethodName := ⟨RX4, "leastOf", "(II)I"⟩
def RX5 : String := "NameThrownBackModel"
def TX5 : u_T := fun k => match k with
  | _ => ("", "", "", false)
def tyX5 : Nat → FieldType := fun k => match k with
  | _ => .int
theorem nmX5 : ∀ a, a < 0 → ∀ b, b < 0 → a ≠ b → (TX5 a).2.1 ≠ (TX5 b).2.1 := by decide +kernel
theorem tyX5_ok : ∀ k, k < 0 → parseFieldDescriptor (TX5 k).2.2.1 = some (tyX5 k) := by decide +kernel
def RJ5 : String := "java/lang/AbstractStringBuilder"
abbrev cJ5_init_d00df : ByteArray := prog_8_method_2_code
def yJ5_init_d00df : MethodName := ⟨RJ5, "<init>", "(I)V"⟩
abbrev cJ5_length_8abf5 : ByteArray := prog_8_method_6_code
def yJ5_length_8abf5 : MethodName := ⟨RJ5, "length", "()I"⟩
abbrev cJ5_ensureCapacityInternal_d00df : ByteArray := prog_8_method_9_code
def yJ5_ensureCapacityInternal_d00df : MethodName := ⟨RJ5, "ensureCapacityInternal", "(I)V"⟩
abbrev cJ5_newCapacity_0f7a4 : ByteArray := prog_8_method_10_code
def yJ5_newCapacity_0f7a4 : MethodName := ⟨RJ5, "newCapacity", "(I)I"⟩
abbrev cJ5_inflate_da8c8 : ByteArray := prog_8_method_11_code
def yJ5_inflate_da8c8 : MethodName := ⟨RJ5, "inflate", "()V"⟩
abbrev cJ5_append_cf1ce : ByteArray := prog_8_method_22_code
def yJ5_append_cf1ce : MethodName := ⟨RJ5, "append", "(Ljava/lang/String;)Ljava/lang/AbstractStringBuilder;"⟩
abbrev cJ5_appendNull_278bc : ByteArray := prog_8_method_26_code
def yJ5_appendNull_278bc : MethodName := ⟨RJ5, "appendNull", "()Ljava/lang/AbstractStringBuilder;"⟩
abbrev cJ5_append_c97b9 : ByteArray := prog_8_method_32_code
def yJ5_append_c97b9 : MethodName := ⟨RJ5, "append", "(I)Ljava/lang/AbstractStringBuilder;"⟩
abbrev cJ5_getValue_6d5f1 : ByteArray := prog_8_method_64_code
def yJ5_getValue_6d5f1 : MethodName := ⟨RJ5, "getValue", "()[B"⟩
abbrev cJ5_isLatin1_aae02 : ByteArray := prog_8_method_68_code
def yJ5_isLatin1_aae02 : MethodName := ⟨RJ5, "isLatin1", "()Z"⟩
abbrev cJ5_inflateIfNeededFor_a7421 : ByteArray := prog_8_method_71_code
def yJ5_inflateIfNeededFor_a7421 : MethodName := ⟨RJ5, "inflateIfNeededFor", "(Ljava/lang/String;)V"⟩
abbrev cJ5_putStringAt_47b60 : ByteArray := prog_8_method_73_code
def yJ5_putStringAt_47b60 : MethodName := ⟨RJ5, "putStringAt", "(ILjava/lang/String;)V"⟩
def RJx8e188 : String := "java/lang/Cloneable"
def RJ6 : String := "java/lang/Integer"
abbrev cJ6_getChars_ba4f3 : ByteArray := prog_10_method_12_code
def yJ6_getChars_ba4f3 : MethodName := ⟨RJ6, "getChars", "(II[B)I"⟩
abbrev cJ6_stringSize_0f7a4 : ByteArray := prog_10_method_13_code
def yJ6_stringSize_0f7a4 : MethodName := ⟨RJ6, "stringSize", "(I)I"⟩
abbrev cJ6_numberOfTrailingZeros_0f7a4 : ByteArray := prog_10_method_48_code
def yJ6_numberOfTrailingZeros_0f7a4 : MethodName := ⟨RJ6, "numberOfTrailingZeros", "(I)I"⟩
abbrev cJ6_bitCount_0f7a4 : ByteArray := prog_10_method_49_code
def yJ6_bitCount_0f7a4 : MethodName := ⟨RJ6, "bitCount", "(I)I"⟩
def RJ13 : String := "java/lang/Long"
abbrev cJ13_numberOfTrailingZeros_95d88 : ByteArray := prog_11_method_49_code
def yJ13_numberOfTrailingZeros_95d88 : MethodName := ⟨RJ13, "numberOfTrailingZeros", "(J)I"⟩
abbrev cJ13_bitCount_95d88 : ByteArray := prog_11_method_50_code
def yJ13_bitCount_95d88 : MethodName := ⟨RJ13, "bitCount", "(J)I"⟩
def RJ9 : String := "java/lang/Math"
abbrev cJ9_floorMod_7cf53 : ByteArray := prog_12_method_50_code
def yJ9_floorMod_7cf53 : MethodName := ⟨RJ9, "floorMod", "(II)I"⟩
abbrev cJ9_max_7cf53 : ByteArray := prog_12_method_65_code
def yJ9_max_7cf53 : MethodName := ⟨RJ9, "max", "(II)I"⟩
abbrev cJ9_max_f86c9 : ByteArray := prog_12_method_66_code
def yJ9_max_f86c9 : MethodName := ⟨RJ9, "max", "(JJ)J"⟩
abbrev cJ9_min_7cf53 : ByteArray := prog_12_method_69_code
def yJ9_min_7cf53 : MethodName := ⟨RJ9, "min", "(II)I"⟩
abbrev cJ9_min_f86c9 : ByteArray := prog_12_method_70_code
def yJ9_min_f86c9 : MethodName := ⟨RJ9, "min", "(JJ)J"⟩
def RJ0 : String := "java/lang/String"
abbrev cJ0_init_81219 : ByteArray := prog_13_method_53_code
def yJ0_init_81219 : MethodName := ⟨RJ0, "<init>", "(Ljava/lang/StringBuilder;)V"⟩
abbrev cJ0_length_8abf5 : ByteArray := prog_13_method_54_code
def yJ0_length_8abf5 : MethodName := ⟨RJ0, "length", "()I"⟩
abbrev cJ0_charAt_5068e : ByteArray := prog_13_method_56_code
def yJ0_charAt_5068e : MethodName := ⟨RJ0, "charAt", "(I)C"⟩
abbrev cJ0_getBytes_840e7 : ByteArray := prog_13_method_147_code
def yJ0_getBytes_840e7 : MethodName := ⟨RJ0, "getBytes", "([BIB)V"⟩
abbrev cJ0_init_db425 : ByteArray := prog_13_method_150_code
def yJ0_init_db425 : MethodName := ⟨RJ0, "<init>", "(Ljava/lang/AbstractStringBuilder;Ljava/lang/Void;)V"⟩
abbrev cJ0_coder_7d493 : ByteArray := prog_13_method_152_code
def yJ0_coder_7d493 : MethodName := ⟨RJ0, "coder", "()B"⟩
abbrev cJ0_isLatin1_aae02 : ByteArray := prog_13_method_154_code
def yJ0_isLatin1_aae02 : MethodName := ⟨RJ0, "isLatin1", "()Z"⟩
abbrev cJ0_checkIndex_df160 : ByteArray := prog_13_method_155_code
def yJ0_checkIndex_df160 : MethodName := ⟨RJ0, "checkIndex", "(II)V"⟩
abbrev cJ0_checkBoundsOffCount_cabcc : ByteArray := prog_13_method_157_code
def yJ0_checkBoundsOffCount_cabcc : MethodName := ⟨RJ0, "checkBoundsOffCount", "(III)I"⟩
abbrev cJ0_checkBoundsBeginEnd_23922 : ByteArray := prog_13_method_158_code
def yJ0_checkBoundsBeginEnd_23922 : MethodName := ⟨RJ0, "checkBoundsBeginEnd", "(III)V"⟩
def RJ4 : String := "java/lang/StringBuilder"
abbrev cJ4_init_da8c8 : ByteArray := prog_14_method_1_code
def yJ4_init_da8c8 : MethodName := ⟨RJ4, "<init>", "()V"⟩
abbrev cJ4_append_15ec4 : ByteArray := prog_14_method_7_code
def yJ4_append_15ec4 : MethodName := ⟨RJ4, "append", "(Ljava/lang/String;)Ljava/lang/StringBuilder;"⟩
abbrev cJ4_append_bf812 : ByteArray := prog_14_method_15_code
def yJ4_append_bf812 : MethodName := ⟨RJ4, "append", "(I)Ljava/lang/StringBuilder;"⟩
abbrev cJ4_toString_0e30d : ByteArray := prog_14_method_42_code
def yJ4_toString_0e30d : MethodName := ⟨RJ4, "toString", "()Ljava/lang/String;"⟩
abbrev cJ4_length_8abf5 : ByteArray := prog_14_method_93_code
def yJ4_length_8abf5 : MethodName := ⟨RJ4, "length", "()I"⟩
def RJ1 : String := "java/lang/StringLatin1"
abbrev cJ1_charAt_3b067 : ByteArray := prog_15_method_2_code
def yJ1_charAt_3b067 : MethodName := ⟨RJ1, "charAt", "([BI)C"⟩
abbrev cJ1_inflate_0e8fd : ByteArray := prog_15_method_50_code
def yJ1_inflate_0e8fd : MethodName := ⟨RJ1, "inflate", "([BI[BII)V"⟩
def RJ2 : String := "java/lang/StringUTF16"
abbrev cJ2_newBytesFor_77867 : ByteArray := prog_16_method_2_code
def yJ2_newBytesFor_77867 : MethodName := ⟨RJ2, "newBytesFor", "(I)[B"⟩
abbrev cJ2_newBytesLength_0f7a4 : ByteArray := prog_16_method_3_code
def yJ2_newBytesLength_0f7a4 : MethodName := ⟨RJ2, "newBytesLength", "(I)I"⟩
abbrev cJ2_putChar_b72d1 : ByteArray := prog_16_method_4_code
def yJ2_putChar_b72d1 : MethodName := ⟨RJ2, "putChar", "([BII)V"⟩
abbrev cJ2_getChar_3b067 : ByteArray := prog_16_method_5_code
def yJ2_getChar_3b067 : MethodName := ⟨RJ2, "getChar", "([BI)C"⟩
abbrev cJ2_length_9d52b : ByteArray := prog_16_method_6_code
def yJ2_length_9d52b : MethodName := ⟨RJ2, "length", "([B)I"⟩
abbrev cJ2_coderFromArrayLen_85cad : ByteArray := prog_16_method_15_code
def yJ2_coderFromArrayLen_85cad : MethodName := ⟨RJ2, "coderFromArrayLen", "([BI)B"⟩
abbrev cJ2_compress_39247 : ByteArray := prog_16_method_17_code
def yJ2_compress_39247 : MethodName := ⟨RJ2, "compress", "([BII)[B"⟩
abbrev cJ2_compress_5af95 : ByteArray := prog_16_method_22_code
def yJ2_compress_5af95 : MethodName := ⟨RJ2, "compress", "([BI[BII)I"⟩
abbrev cJ2_getChars_46870 : ByteArray := prog_16_method_77_code
def yJ2_getChars_46870 : MethodName := ⟨RJ2, "getChars", "(III[B)I"⟩
abbrev cJ2_putCharsAt_cd4e5 : ByteArray := prog_16_method_81_code
def yJ2_putCharsAt_cd4e5 : MethodName := ⟨RJ2, "putCharsAt", "([BICCCC)I"⟩
abbrev cJ2_charAt_3b067 : ByteArray := prog_16_method_83_code
def yJ2_charAt_3b067 : MethodName := ⟨RJ2, "charAt", "([BI)C"⟩
abbrev cJ2_inflate_0e8fd : ByteArray := prog_16_method_86_code
def yJ2_inflate_0e8fd : MethodName := ⟨RJ2, "inflate", "([BI[BII)V"⟩
abbrev cJ2_getChars_ba4f3 : ByteArray := prog_16_method_89_code
def yJ2_getChars_ba4f3 : MethodName := ⟨RJ2, "getChars", "(II[B)I"⟩
abbrev cJ2_checkIndex_2214a : ByteArray := prog_16_method_91_code
def yJ2_checkIndex_2214a : MethodName := ⟨RJ2, "checkIndex", "(I[B)V"⟩
abbrev cJ2_checkBoundsBeginEnd_d044e : ByteArray := prog_16_method_93_code
def yJ2_checkBoundsBeginEnd_d044e : MethodName := ⟨RJ2, "checkBoundsBeginEnd", "(II[B)V"⟩
abbrev cJ2_checkBoundsOffCount_d044e : ByteArray := prog_16_method_94_code
def yJ2_checkBoundsOffCount_d044e : MethodName := ⟨RJ2, "checkBoundsOffCount", "(II[B)V"⟩
def RJ10 : String := "java/lang/System"
def RJ7 : String := "java/util/Arrays"
abbrev cJ7_copyOf_9075b : ByteArray := prog_18_method_121_code
def yJ7_copyOf_9075b : MethodName := ⟨RJ7, "copyOf", "([BI)[B"⟩
abbrev cJ7_checkLength_df160 : ByteArray := prog_18_method_131_code
def yJ7_checkLength_df160 : MethodName := ⟨RJ7, "checkLength", "(II)V"⟩
abbrev cJ7_copyOfRange_39247 : ByteArray := prog_18_method_132_code
def yJ7_copyOfRange_39247 : MethodName := ⟨RJ7, "copyOfRange", "([BII)[B"⟩
abbrev cJ7_copyOfRangeByte_39247 : ByteArray := prog_18_method_133_code
def yJ7_copyOfRangeByte_39247 : MethodName := ⟨RJ7, "copyOfRangeByte", "([BII)[B"⟩
def RJ8 : String := "jdk/internal/util/ArraysSupport"
abbrev cJ8_newLength_cabcc : ByteArray := prog_19_method_27_code
def yJ8_newLength_cabcc : MethodName := ⟨RJ8, "newLength", "(III)I"⟩
abbrev cJ8_hugeLength_7cf53 : ByteArray := prog_19_method_28_code
def yJ8_hugeLength_7cf53 : MethodName := ⟨RJ8, "hugeLength", "(II)I"⟩
def RJ3 : String := "jdk/internal/util/Preconditions"
abbrev cJ3_checkIndex_8e157 : ByteArray := prog_20_method_11_code
def yJ3_checkIndex_8e157 : MethodName := ⟨RJ3, "checkIndex", "(IILjava/util/function/BiFunction;)I"⟩
abbrev cJ3_checkFromToIndex_8c36e : ByteArray := prog_20_method_12_code
def yJ3_checkFromToIndex_8c36e : MethodName := ⟨RJ3, "checkFromToIndex", "(IIILjava/util/function/BiFunction;)I"⟩
abbrev cJ3_checkFromIndexSize_8c36e : ByteArray := prog_20_method_13_code
def yJ3_checkFromIndexSize_8c36e : MethodName := ⟨RJ3, "checkFromIndexSize", "(IIILjava/util/function/BiFunction;)I"⟩
def RL : String := "NameThrownBackLaw"
abbrev cL_at : ByteArray := method_2_code
def yL_at : MethodName := ⟨RL, "at", "([II)I"⟩
abbrev cL_text : ByteArray := method_3_code
def yL_text : MethodName := ⟨RL, "text", "(LNameThrownBack;Ljava/lang/String;)V"⟩
abbrev cL_build : ByteArray := method_4_code
def yL_build : MethodName := ⟨RL, "build", "([I)LNameThrownBack;"⟩
abbrev cL_plain : ByteArray := method_5_code
def yL_plain : MethodName := ⟨RL, "plain", "([I)Z"⟩
abbrev cL_many : ByteArray := method_6_code
def yL_many : MethodName := ⟨RL, "many", "([I)I"⟩
abbrev cL_sea : ByteArray := method_7_code
def yL_sea : MethodName := ⟨RL, "sea", "([I)I"⟩
abbrev cL_tide : ByteArray := method_8_code
def yL_tide : MethodName := ⟨RL, "tide", "([I)I"⟩
abbrev cL_length : ByteArray := method_9_code
def yL_length : MethodName := ⟨RL, "length", "([I)I"⟩
abbrev cL_thing : ByteArray := method_10_code
def yL_thing : MethodName := ⟨RL, "thing", "([II)I"⟩
abbrev cL_kind : ByteArray := method_11_code
def yL_kind : MethodName := ⟨RL, "kind", "([II)I"⟩
abbrev cL_more : ByteArray := method_12_code
def yL_more : MethodName := ⟨RL, "more", "([II)I"⟩
abbrev cL_known : ByteArray := method_13_code
def yL_known : MethodName := ⟨RL, "known", "([II)I"⟩
abbrev cL_kept : ByteArray := method_14_code
def yL_kept : MethodName := ⟨RL, "kept", "([II)I"⟩
abbrev cL_luck : ByteArray := method_15_code
def yL_luck : MethodName := ⟨RL, "luck", "([II)I"⟩
abbrev cL_held : ByteArray := method_16_code
def yL_held : MethodName := ⟨RL, "held", "(JII)I"⟩
abbrev cL_start : ByteArray := method_17_code
def yL_start : MethodName := ⟨RL, "start", "([I[J)V"⟩
abbrev cL_lets : ByteArray := method_18_code
def yL_lets : MethodName := ⟨RL, "lets", "([I[JII)I"⟩
abbrev cL_lucks : ByteArray := method_19_code
def yL_lucks : MethodName := ⟨RL, "lucks", "([I[JII)J"⟩
abbrev cL_takes : ByteArray := method_20_code
def yL_takes : MethodName := ⟨RL, "takes", "([I[JI)J"⟩
abbrev cL_land : ByteArray := method_21_code
def yL_land : MethodName := ⟨RL, "land", "([I[JII)I"⟩
abbrev cL_lesson : ByteArray := method_22_code
def yL_lesson : MethodName := ⟨RL, "lesson", "([I[JII)J"⟩
abbrev cL_pass : ByteArray := method_23_code
def yL_pass : MethodName := ⟨RL, "pass", "([I[J)I"⟩
abbrev cL_same : ByteArray := method_24_code
def yL_same : MethodName := ⟨RL, "same", "([I[JLNameThrownBack;)Z"⟩
abbrev cL_law : ByteArray := code
def yL_law : MethodName := ⟨RL, "law", "([I)Z"⟩
abbrev classes : List vw_C := [(RX0, TX0, 11), (RX1, TX1, 9), (RX2, TX2, 3), (RX3, TX3, 4), (RX4, TX4, 7), (RX4, TX4, 7)]
def cC (ci : Nat) : vw_C := classes.getD ci (RX0, TX0, 0)
def tyC (ci : Nat) : Nat → FieldType := [tyX0, tyX1, tyX2, tyX3, tyX4, tyX4].getD ci tyX0
theorem inX0 : ∀ w ∈ u_ws RX0 TX0 11, w ∈ lw_tbl := by
  have h : u_ws RX0 TX0 11 = ([282, 284, 286, 288, 290, 292, 294, 296, 298, 300, 302] : List Nat).filterMap (fun i => lw_tbl[i]?) := by decide +kernel
  intro w hw; rw [h] at hw; obtain ⟨i, -, hi⟩ := List.mem_filterMap.mp hw; exact List.mem_of_getElem? hi
theorem inX1 : ∀ w ∈ u_ws RX1 TX1 9, w ∈ lw_tbl := by
  have h : u_ws RX1 TX1 9 = ([237, 239, 241, 243, 245, 247, 249, 251, 253] : List Nat).filterMap (fun i => lw_tbl[i]?) := by decide +kernel
  intro w hw; rw [h] at hw; obtain ⟨i, -, hi⟩ := List.mem_filterMap.mp hw; exact List.mem_of_getElem? hi
theorem inX2 : ∀ w ∈ u_ws RX2 TX2 3, w ∈ lw_tbl := by
  have h : u_ws RX2 TX2 3 = ([317, 319, 321] : List Nat).filterMap (fun i => lw_tbl[i]?) := by decide +kernel
  intro w hw; rw [h] at hw; obtain ⟨i, -, hi⟩ := List.mem_filterMap.mp hw; exact List.mem_of_getElem? hi
theorem inX3 : ∀ w ∈ u_ws RX3 TX3 4, w ∈ lw_tbl := by
  have h : u_ws RX3 TX3 4 = ([209, 211, 213, 215] : List Nat).filterMap (fun i => lw_tbl[i]?) := by decide +kernel
  intro w hw; rw [h] at hw; obtain ⟨i, -, hi⟩ := List.mem_filterMap.mp hw; exact List.mem_of_getElem? hi
theorem inX4 : ∀ w ∈ u_ws RX4 TX4 7, w ∈ lw_tbl := by
  have h : u_ws RX4 TX4 7 = ([330, 332, 334, 336, 338, 340, 342] : List Nat).filterMap (fun i => lw_tbl[i]?) := by decide +kernel
  intro w hw; rw [h] at hw; obtain ⟨i, -, hi⟩ := List.mem_filterMap.mp hw; exact List.mem_of_getElem? hi
theorem cC_in : ∀ ci, ci < 6 → ∀ w ∈ u_ws (cC ci).1 (cC ci).2.1 (cC ci).2.2, w ∈ lw_tbl := fun ci h => match ci, h with
  | 0, _ => inX0
  | 1, _ => inX1
  | 2, _ => inX2
  | 3, _ => inX3
  | 4, _ => inX4
  | 5, _ => inX4
  | n + 6, h => absurd h (by omega)
theorem cC_ty : ∀ ci, ci < 6 → ∀ k, k < (cC ci).2.2 → parseFieldDescriptor ((cC ci).2.1 k).2.2.1 = some (tyC ci k) := fun ci h => match ci, h with
  | 0, _ => tyX0_ok
  | 1, _ => tyX1_ok
  | 2, _ => tyX2_ok
  | 3, _ => tyX3_ok
  | 4, _ => tyX4_ok
  | 5, _ => tyX4_ok
  | n + 6, h => absurd h (by omega)
theorem cC_nm : ∀ ci, ci < 6 → ∀ a, a < (cC ci).2.2 → ∀ b, b < (cC ci).2.2 → a ≠ b → ((cC ci).2.1 a).2.1 ≠ ((cC ci).2.1 b).2.1 := fun ci h => match ci, h with
  | 0, _ => nmX0
  | 1, _ => nmX1
  | 2, _ => nmX2
  | 3, _ => nmX3
  | 4, _ => nmX4
  | 5, _ => nmX4
  | n + 6, h => absurd h (by omega)
theorem cC_get : ∀ ci, ci < 6 → classes[ci]? = some (cC ci) := fun ci h => match ci, h with
  | 0, _ => rfl
  | 1, _ => rfl
  | 2, _ => rfl
  | 3, _ => rfl
  | 4, _ => rfl
  | 5, _ => rfl
  | n + 6, h => absurd h (by omega)
theorem tb_of {α : Type} (l : List (α × Nat)) (f : α → Cond) (h : l.all (fun q => decide (lw_tbl[q.2]? = some (f q.1))) = true) : ∀ a ∈ l.map (fun q => q.1), f a ∈ lw_tbl := by
  intro a ha; obtain ⟨q, hq, rfl⟩ := List.mem_map.mp ha; have h1 := List.all_eq_true.mp h q hq; exact List.mem_of_getElem? (of_decide_eq_true h1)
def ftW (own : String) (q : Nat × Nat × Nat) : Cond := .fieldLink own q.1 (cC q.2.1).1 ((cC q.2.1).2.1 q.2.2).2.1 ((cC q.2.1).2.1 q.2.2).2.2.1
def ctW (own : String) (q : Nat × Int32) : Cond := .constant own q.1 q.2
def clW (own : String) (q : Nat × Int64) : Cond := .constantLong own q.1 q.2
def ftp_X0 : List ((Nat × Nat × Nat) × Nat) := [((30, 0, 0), 262), ((9, 0, 1), 263), ((34, 0, 2), 264), ((38, 0, 3), 266), ((41, 0, 4), 268), ((44, 0, 5), 270), ((15, 0, 6), 272), ((18, 0, 7), 274), ((21, 0, 8), 276), ((24, 0, 9), 278), ((27, 0, 10), 280)]
def ctp_X0 : List ((Nat × Int32) × Nat) := []
def clp_X0 : List ((Nat × Int64) × Nat) := []
theorem ft_X0_ok : ∀ q : Nat × Nat × Nat, q ∈ ftp_X0.map (fun q => q.1) → ftW RX0 q ∈ lw_tbl := tb_of ftp_X0 (ftW RX0) (by decide +kernel)
theorem ct_X0_ok : ∀ q : Nat × Int32, q ∈ ctp_X0.map (fun q => q.1) → ctW RX0 q ∈ lw_tbl := tb_of ctp_X0 (ctW RX0) (by decide +kernel)
theorem cl_X0_ok : ∀ q : Nat × Int64, q ∈ clp_X0.map (fun q => q.1) → clW RX0 q ∈ lw_tbl := tb_of clp_X0 (clW RX0) (by decide +kernel)
def ftp_X1 : List ((Nat × Nat × Nat) × Nat) := [((9, 1, 0), 225), ((21, 1, 1), 226), ((15, 1, 2), 228), ((29, 1, 3), 230), ((18, 1, 4), 231), ((38, 1, 5), 233), ((41, 1, 6), 234), ((32, 1, 7), 235), ((67, 1, 8), 236)]
def ctp_X1 : List ((Nat × Int32) × Nat) := []
def clp_X1 : List ((Nat × Int64) × Nat) := []
theorem ft_X1_ok : ∀ q : Nat × Nat × Nat, q ∈ ftp_X1.map (fun q => q.1) → ftW RX1 q ∈ lw_tbl := tb_of ftp_X1 (ftW RX1) (by decide +kernel)
theorem ct_X1_ok : ∀ q : Nat × Int32, q ∈ ctp_X1.map (fun q => q.1) → ctW RX1 q ∈ lw_tbl := tb_of ctp_X1 (ctW RX1) (by decide +kernel)
theorem cl_X1_ok : ∀ q : Nat × Int64, q ∈ clp_X1.map (fun q => q.1) → clW RX1 q ∈ lw_tbl := tb_of clp_X1 (clW RX1) (by decide +kernel)
def ftp_X2 : List ((Nat × Nat × Nat) × Nat) := [((9, 2, 0), 312), ((19, 2, 1), 314), ((15, 2, 2), 316)]
def ctp_X2 : List ((Nat × Int32) × Nat) := []
def clp_X2 : List ((Nat × Int64) × Nat) := []
theorem ft_X2_ok : ∀ q : Nat × Nat × Nat, q ∈ ftp_X2.map (fun q => q.1) → ftW RX2 q ∈ lw_tbl := tb_of ftp_X2 (ftW RX2) (by decide +kernel)
theorem ct_X2_ok : ∀ q : Nat × Int32, q ∈ ctp_X2.map (fun q => q.1) → ctW RX2 q ∈ lw_tbl := tb_of ctp_X2 (ctW RX2) (by decide +kernel)
theorem cl_X2_ok : ∀ q : Nat × Int64, q ∈ clp_X2.map (fun q => q.1) → clW RX2 q ∈ lw_tbl := tb_of clp_X2 (clW RX2) (by decide +kernel)
def ftp_X3 : List ((Nat × Nat × Nat) × Nat) := [((25, 3, 0), 204), ((9, 3, 1), 206), ((15, 3, 2), 207), ((18, 3, 3), 208)]
def ctp_X3 : List ((Nat × Int32) × Nat) := []
def clp_X3 : List ((Nat × Int64) × Nat) := []
theorem ft_X3_ok : ∀ q : Nat × Nat × Nat, q ∈ ftp_X3.map (fun q => q.1) → ftW RX3 q ∈ lw_tbl := tb_of ftp_X3 (ftW RX3) (by decide +kernel)
theorem ct_X3_ok : ∀ q : Nat × Int32, q ∈ ctp_X3.map (fun q => q.1) → ctW RX3 q ∈ lw_tbl := tb_of ctp_X3 (ctW RX3) (by decide +kernel)
theorem cl_X3_ok : ∀ q : Nat × Int64, q ∈ clp_X3.map (fun q => q.1) → clW RX3 q ∈ lw_tbl := tb_of clp_X3 (clW RX3) (by decide +kernel)
def ftp_X4 : List ((Nat × Nat × Nat) × Nat) := [((61, 3, 0), 205), ((67, 1, 1), 227), ((85, 1, 2), 229), ((89, 1, 4), 232), ((45, 0, 2), 265), ((49, 0, 3), 267), ((58, 0, 4), 269), ((64, 0, 5), 271), ((124, 0, 6), 273), ((127, 0, 7), 275), ((108, 0, 8), 277), ((115, 0, 9), 279), ((117, 0, 10), 281), ((179, 2, 0), 313), ((189, 2, 1), 315), ((10, 4, 0), 324), ((19, 4, 1), 325), ((28, 4, 2), 326), ((32, 4, 3), 327), ((35, 4, 4), 328), ((40, 4, 6), 329)]
def ctp_X4 : List ((Nat × Int32) × Nat) := [((156, (65535)), 34)]
def clp_X4 : List ((Nat × Int64) × Nat) := []
theorem ft_X4_ok : ∀ q : Nat × Nat × Nat, q ∈ ftp_X4.map (fun q => q.1) → ftW RX4 q ∈ lw_tbl := tb_of ftp_X4 (ftW RX4) (by decide +kernel)
theorem ct_X4_ok : ∀ q : Nat × Int32, q ∈ ctp_X4.map (fun q => q.1) → ctW RX4 q ∈ lw_tbl := tb_of ctp_X4 (ctW RX4) (by decide +kernel)
theorem cl_X4_ok : ∀ q : Nat × Int64, q ∈ clp_X4.map (fun q => q.1) → clW RX4 q ∈ lw_tbl := tb_of clp_X4 (clW RX4) (by decide +kernel)
def ftp_X5 : List ((Nat × Nat × Nat) × Nat) := []
def ctp_X5 : List ((Nat × Int32) × Nat) := []
def clp_X5 : List ((Nat × Int64) × Nat) := []
theorem ft_X5_ok : ∀ q : Nat × Nat × Nat, q ∈ ftp_X5.map (fun q => q.1) → ftW RX5 q ∈ lw_tbl := tb_of ftp_X5 (ftW RX5) (by decide +kernel)
theorem ct_X5_ok : ∀ q : Nat × Int32, q ∈ ctp_X5.map (fun q => q.1) → ctW RX5 q ∈ lw_tbl := tb_of ctp_X5 (ctW RX5) (by decide +kernel)
theorem cl_X5_ok : ∀ q : Nat × Int64, q ∈ clp_X5.map (fun q => q.1) → clW RX5 q ∈ lw_tbl := tb_of clp_X5 (clW RX5) (by decide +kernel)
def ftp_J6 : List ((Nat × Nat × Nat) × Nat) := []
def ctp_J6 : List ((Nat × Int32) × Nat) := [((265, (1431655765)), 73), ((266, (858993459)), 74), ((267, (252645135)), 75), ((264, (65536)), 806)]
def clp_J6 : List ((Nat × Int64) × Nat) := []
theorem ft_J6_ok : ∀ q : Nat × Nat × Nat, q ∈ ftp_J6.map (fun q => q.1) → ftW RJ6 q ∈ lw_tbl := tb_of ftp_J6 (ftW RJ6) (by decide +kernel)
theorem ct_J6_ok : ∀ q : Nat × Int32, q ∈ ctp_J6.map (fun q => q.1) → ctW RJ6 q ∈ lw_tbl := tb_of ctp_J6 (ctW RJ6) (by decide +kernel)
theorem cl_J6_ok : ∀ q : Nat × Int64, q ∈ clp_J6.map (fun q => q.1) → clW RJ6 q ∈ lw_tbl := tb_of clp_J6 (clW RJ6) (by decide +kernel)
def ftp_J13 : List ((Nat × Nat × Nat) × Nat) := []
def ctp_J13 : List ((Nat × Int32) × Nat) := []
def clp_J13 : List ((Nat × Int64) × Nat) := [((314, (6148914691236517205)), 786), ((316, (3689348814741910323)), 787), ((318, (1085102592571150095)), 788)]
theorem ft_J13_ok : ∀ q : Nat × Nat × Nat, q ∈ ftp_J13.map (fun q => q.1) → ftW RJ13 q ∈ lw_tbl := tb_of ftp_J13 (ftW RJ13) (by decide +kernel)
theorem ct_J13_ok : ∀ q : Nat × Int32, q ∈ ctp_J13.map (fun q => q.1) → ctW RJ13 q ∈ lw_tbl := tb_of ctp_J13 (ctW RJ13) (by decide +kernel)
theorem cl_J13_ok : ∀ q : Nat × Int64, q ∈ clp_J13.map (fun q => q.1) → clW RJ13 q ∈ lw_tbl := tb_of clp_J13 (clW RJ13) (by decide +kernel)
def ftp_L : List ((Nat × Nat × Nat) × Nat) := []
def ctp_L : List ((Nat × Int32) × Nat) := [((119, (65535)), 351), ((218, (65536)), 832)]
def clp_L : List ((Nat × Int64) × Nat) := [((139, (3)), 798), ((141, (5)), 799), ((146, (4)), 810), ((148, (2)), 811), ((158, (-1)), 812), ((167, (16)), 825), ((207, (-5)), 831)]
theorem ft_L_ok : ∀ q : Nat × Nat × Nat, q ∈ ftp_L.map (fun q => q.1) → ftW RL q ∈ lw_tbl := tb_of ftp_L (ftW RL) (by decide +kernel)
theorem ct_L_ok : ∀ q : Nat × Int32, q ∈ ctp_L.map (fun q => q.1) → ctW RL q ∈ lw_tbl := tb_of ctp_L (ctW RL) (by decide +kernel)
theorem cl_L_ok : ∀ q : Nat × Int64, q ∈ clp_L.map (fun q => q.1) → clW RL q ∈ lw_tbl := tb_of clp_L (clW RL) (by decide +kernel)
def meOK (y : MethodName) (cc : ByteArray) (maxL : Nat) (ret : Option FieldType) (n : Nat) : Prop := Cond.code y cc maxL ret ∈ lw_tbl ∧ Cond.initialized y.cls ∈ lw_tbl ∧ plainFor y = true ∧ y.cls ≠ "java/lang/invoke/MethodHandle" ∧ y.cls ≠ "java/lang/invoke/VarHandle" ∧ (parseMethodDescriptor y.desc).map (fun d => d.parameters.length) = some n
def eqB (a b : ByteArray) : Bool := decide (a.data.toList = b.data.toList)
theorem eqB_eq {a b : ByteArray} (h : eqB a b = true) : a = b := by
  have h1 := of_decide_eq_true h; cases a; cases b; simp only at h1; congr 1; exact Array.toList_inj.mp h1
def codeAt (k : Nat) (y : MethodName) (cc : ByteArray) (maxL : Nat) (ret : Option FieldType) : Bool := match lw_tbl[k]? with
  | some (.code y1 c1 m1 r1) => decide (y1 = y) && (eqB c1 cc && (decide (m1 = maxL) && decide (r1 = ret)))
  | _ => false
theorem codeAt_in {k : Nat} {y : MethodName} {cc : ByteArray} {maxL : Nat} {ret : Option FieldType} (h : codeAt k y cc maxL ret = true) : Cond.code y cc maxL ret ∈ lw_tbl := by
  unfold codeAt at h; split at h
  · rename_i y1 c1 m1 r1 hk; simp only [Bool.and_eq_true, decide_eq_true_eq] at h; obtain ⟨rfl, h2, rfl, rfl⟩ := h; rw [← eqB_eq h2]; exact List.mem_of_getElem? hk
  · cases h
theorem me_X0_init : meOK yX0_init cX0_init 2 none 1 := ⟨codeAt_in (k := 260) (by decide +kernel), List.mem_of_getElem? (i := 13) (by decide +kernel), by decide +kernel, by decide +kernel, by decide +kernel, by decide +kernel⟩
theorem mi_X0_init : Cond.instanceMethod yX0_init ∈ lw_tbl := List.mem_of_getElem? (i := 259) (by decide +kernel)
theorem me_X0_become : meOK yX0_become cX0_become 3 none 1 := ⟨codeAt_in (k := 169) (by decide +kernel), List.mem_of_getElem? (i := 13) (by decide +kernel), by decide +kernel, by decide +kernel, by decide +kernel, by decide +kernel⟩
theorem mi_X0_become : Cond.instanceMethod yX0_become ∈ lw_tbl := List.mem_of_getElem? (i := 167) (by decide +kernel)
theorem mv_X0_become : Cond.selects yX0_become.cls yX0_become yX0_become ∈ lw_tbl := List.mem_of_getElem? (i := 168) (by decide +kernel)
theorem me_X0_has : meOK yX0_has cX0_has 2 (some .boolean) 1 := ⟨codeAt_in (k := 42) (by decide +kernel), List.mem_of_getElem? (i := 13) (by decide +kernel), by decide +kernel, by decide +kernel, by decide +kernel, by decide +kernel⟩
theorem mi_X0_has : Cond.instanceMethod yX0_has ∈ lw_tbl := List.mem_of_getElem? (i := 40) (by decide +kernel)
theorem mv_X0_has : Cond.selects yX0_has.cls yX0_has yX0_has ∈ lw_tbl := List.mem_of_getElem? (i := 41) (by decide +kernel)
theorem me_X0_comes : meOK yX0_comes cX0_comes 5 (some .int) 3 := ⟨codeAt_in (k := 371) (by decide +kernel), List.mem_of_getElem? (i := 13) (by decide +kernel), by decide +kernel, by decide +kernel, by decide +kernel, by decide +kernel⟩
theorem mi_X0_comes : Cond.instanceMethod yX0_comes ∈ lw_tbl := List.mem_of_getElem? (i := 369) (by decide +kernel)
theorem mv_X0_comes : Cond.selects yX0_comes.cls yX0_comes yX0_comes ∈ lw_tbl := List.mem_of_getElem? (i := 370) (by decide +kernel)
theorem me_X0_nameless : meOK yX0_nameless cX0_nameless 2 (some .int) 1 := ⟨codeAt_in (k := 59) (by decide +kernel), List.mem_of_getElem? (i := 13) (by decide +kernel), by decide +kernel, by decide +kernel, by decide +kernel, by decide +kernel⟩
theorem mi_X0_nameless : Cond.instanceMethod yX0_nameless ∈ lw_tbl := List.mem_of_getElem? (i := 57) (by decide +kernel)
theorem mv_X0_nameless : Cond.selects yX0_nameless.cls yX0_nameless yX0_nameless ∈ lw_tbl := List.mem_of_getElem? (i := 58) (by decide +kernel)
theorem me_X0_knownToAny : meOK yX0_knownToAny cX0_knownToAny 3 (some .int) 0 := ⟨codeAt_in (k := 183) (by decide +kernel), List.mem_of_getElem? (i := 13) (by decide +kernel), by decide +kernel, by decide +kernel, by decide +kernel, by decide +kernel⟩
theorem mi_X0_knownToAny : Cond.instanceMethod yX0_knownToAny ∈ lw_tbl := List.mem_of_getElem? (i := 181) (by decide +kernel)
theorem mv_X0_knownToAny : Cond.selects yX0_knownToAny.cls yX0_knownToAny yX0_knownToAny ∈ lw_tbl := List.mem_of_getElem? (i := 182) (by decide +kernel)
theorem me_X0_says : meOK yX0_says cX0_says 5 (some .int) 3 := ⟨codeAt_in (k := 68) (by decide +kernel), List.mem_of_getElem? (i := 13) (by decide +kernel), by decide +kernel, by decide +kernel, by decide +kernel, by decide +kernel⟩
theorem mi_X0_says : Cond.instanceMethod yX0_says ∈ lw_tbl := List.mem_of_getElem? (i := 66) (by decide +kernel)
theorem mv_X0_says : Cond.selects yX0_says.cls yX0_says yX0_says ∈ lw_tbl := List.mem_of_getElem? (i := 67) (by decide +kernel)
theorem me_X0_letsGo : meOK yX0_letsGo cX0_letsGo 6 (some .int) 2 := ⟨codeAt_in (k := 98) (by decide +kernel), List.mem_of_getElem? (i := 13) (by decide +kernel), by decide +kernel, by decide +kernel, by decide +kernel, by decide +kernel⟩
theorem mi_X0_letsGo : Cond.instanceMethod yX0_letsGo ∈ lw_tbl := List.mem_of_getElem? (i := 96) (by decide +kernel)
theorem mv_X0_letsGo : Cond.selects yX0_letsGo.cls yX0_letsGo yX0_letsGo ∈ lw_tbl := List.mem_of_getElem? (i := 97) (by decide +kernel)
theorem me_X0_lucksBy : meOK yX0_lucksBy cX0_lucksBy 5 (some .int) 2 := ⟨codeAt_in (k := 114) (by decide +kernel), List.mem_of_getElem? (i := 13) (by decide +kernel), by decide +kernel, by decide +kernel, by decide +kernel, by decide +kernel⟩
theorem mi_X0_lucksBy : Cond.instanceMethod yX0_lucksBy ∈ lw_tbl := List.mem_of_getElem? (i := 112) (by decide +kernel)
theorem mv_X0_lucksBy : Cond.selects yX0_lucksBy.cls yX0_lucksBy yX0_lucksBy ∈ lw_tbl := List.mem_of_getElem? (i := 113) (by decide +kernel)
theorem me_X0_takesOf : meOK yX0_takesOf cX0_takesOf 3 (some .int) 1 := ⟨codeAt_in (k := 64) (by decide +kernel), List.mem_of_getElem? (i := 13) (by decide +kernel), by decide +kernel, by decide +kernel, by decide +kernel, by decide +kernel⟩
theorem mi_X0_takesOf : Cond.instanceMethod yX0_takesOf ∈ lw_tbl := List.mem_of_getElem? (i := 62) (by decide +kernel)
theorem mv_X0_takesOf : Cond.selects yX0_takesOf.cls yX0_takesOf yX0_takesOf ∈ lw_tbl := List.mem_of_getElem? (i := 63) (by decide +kernel)
theorem me_X0_landing : meOK yX0_landing cX0_landing 4 (some .int) 2 := ⟨codeAt_in (k := 123) (by decide +kernel), List.mem_of_getElem? (i := 13) (by decide +kernel), by decide +kernel, by decide +kernel, by decide +kernel, by decide +kernel⟩
theorem mi_X0_landing : Cond.instanceMethod yX0_landing ∈ lw_tbl := List.mem_of_getElem? (i := 121) (by decide +kernel)
theorem mv_X0_landing : Cond.selects yX0_landing.cls yX0_landing yX0_landing ∈ lw_tbl := List.mem_of_getElem? (i := 122) (by decide +kernel)
theorem me_X0_learns : meOK yX0_learns cX0_learns 4 (some .int) 2 := ⟨codeAt_in (k := 135) (by decide +kernel), List.mem_of_getElem? (i := 13) (by decide +kernel), by decide +kernel, by decide +kernel, by decide +kernel, by decide +kernel⟩
theorem mi_X0_learns : Cond.instanceMethod yX0_learns ∈ lw_tbl := List.mem_of_getElem? (i := 133) (by decide +kernel)
theorem mv_X0_learns : Cond.selects yX0_learns.cls yX0_learns yX0_learns ∈ lw_tbl := List.mem_of_getElem? (i := 134) (by decide +kernel)
theorem me_X0_isTold : meOK yX0_isTold cX0_isTold 3 none 2 := ⟨codeAt_in (k := 143) (by decide +kernel), List.mem_of_getElem? (i := 13) (by decide +kernel), by decide +kernel, by decide +kernel, by decide +kernel, by decide +kernel⟩
theorem mi_X0_isTold : Cond.instanceMethod yX0_isTold ∈ lw_tbl := List.mem_of_getElem? (i := 141) (by decide +kernel)
theorem mv_X0_isTold : Cond.selects yX0_isTold.cls yX0_isTold yX0_isTold ∈ lw_tbl := List.mem_of_getElem? (i := 142) (by decide +kernel)
theorem me_X0_washes : meOK yX0_washes cX0_washes 3 (some .int) 0 := ⟨codeAt_in (k := 151) (by decide +kernel), List.mem_of_getElem? (i := 13) (by decide +kernel), by decide +kernel, by decide +kernel, by decide +kernel, by decide +kernel⟩
theorem mi_X0_washes : Cond.instanceMethod yX0_washes ∈ lw_tbl := List.mem_of_getElem? (i := 149) (by decide +kernel)
theorem mv_X0_washes : Cond.selects yX0_washes.cls yX0_washes yX0_washes ∈ lw_tbl := List.mem_of_getElem? (i := 150) (by decide +kernel)
theorem me_X1_init : meOK yX1_init cX1_init 1 none 0 := ⟨codeAt_in (k := 223) (by decide +kernel), List.mem_of_getElem? (i := 12) (by decide +kernel), by decide +kernel, by decide +kernel, by decide +kernel, by decide +kernel⟩
theorem mi_X1_init : Cond.instanceMethod yX1_init ∈ lw_tbl := List.mem_of_getElem? (i := 222) (by decide +kernel)
theorem me_X1_add : meOK yX1_add cX1_add 2 none 1 := ⟨codeAt_in (k := 661) (by decide +kernel), List.mem_of_getElem? (i := 12) (by decide +kernel), by decide +kernel, by decide +kernel, by decide +kernel, by decide +kernel⟩
theorem mi_X1_add : Cond.instanceMethod yX1_add ∈ lw_tbl := List.mem_of_getElem? (i := 659) (by decide +kernel)
theorem mv_X1_add : Cond.selects yX1_add.cls yX1_add yX1_add ∈ lw_tbl := List.mem_of_getElem? (i := 660) (by decide +kernel)
theorem me_X1_faultOf : meOK yX1_faultOf cX1_faultOf 2 (some .int) 0 := ⟨codeAt_in (k := 670) (by decide +kernel), List.mem_of_getElem? (i := 12) (by decide +kernel), by decide +kernel, by decide +kernel, by decide +kernel, by decide +kernel⟩
theorem mi_X1_faultOf : Cond.instanceMethod yX1_faultOf ∈ lw_tbl := List.mem_of_getElem? (i := 668) (by decide +kernel)
theorem mv_X1_faultOf : Cond.selects yX1_faultOf.cls yX1_faultOf yX1_faultOf ∈ lw_tbl := List.mem_of_getElem? (i := 669) (by decide +kernel)
theorem me_X1_readsE : meOK yX1_readsE cX1_readsE 3 (some .boolean) 2 := ⟨codeAt_in (k := 719) (by decide +kernel), List.mem_of_getElem? (i := 12) (by decide +kernel), by decide +kernel, by decide +kernel, by decide +kernel, by decide +kernel⟩
theorem ms_X1_readsE : Cond.static yX1_readsE ∈ lw_tbl := List.mem_of_getElem? (i := 718) (by decide +kernel)
theorem me_X1_readsAnd : meOK yX1_readsAnd cX1_readsAnd 3 (some .boolean) 2 := ⟨codeAt_in (k := 722) (by decide +kernel), List.mem_of_getElem? (i := 12) (by decide +kernel), by decide +kernel, by decide +kernel, by decide +kernel, by decide +kernel⟩
theorem ms_X1_readsAnd : Cond.static yX1_readsAnd ∈ lw_tbl := List.mem_of_getElem? (i := 721) (by decide +kernel)
theorem me_X1_readsNot : meOK yX1_readsNot cX1_readsNot 3 (some .boolean) 2 := ⟨codeAt_in (k := 725) (by decide +kernel), List.mem_of_getElem? (i := 12) (by decide +kernel), by decide +kernel, by decide +kernel, by decide +kernel, by decide +kernel⟩
theorem ms_X1_readsNot : Cond.static yX1_readsNot ∈ lw_tbl := List.mem_of_getElem? (i := 724) (by decide +kernel)
theorem me_X1_readsSum : meOK yX1_readsSum cX1_readsSum 4 (some .boolean) 2 := ⟨codeAt_in (k := 732) (by decide +kernel), List.mem_of_getElem? (i := 12) (by decide +kernel), by decide +kernel, by decide +kernel, by decide +kernel, by decide +kernel⟩
theorem ms_X1_readsSum : Cond.static yX1_readsSum ∈ lw_tbl := List.mem_of_getElem? (i := 731) (by decide +kernel)
theorem me_X1_readsTerm : meOK yX1_readsTerm cX1_readsTerm 3 (some .boolean) 2 := ⟨codeAt_in (k := 735) (by decide +kernel), List.mem_of_getElem? (i := 12) (by decide +kernel), by decide +kernel, by decide +kernel, by decide +kernel, by decide +kernel⟩
theorem ms_X1_readsTerm : Cond.static yX1_readsTerm ∈ lw_tbl := List.mem_of_getElem? (i := 734) (by decide +kernel)
theorem me_X1_readsOne : meOK yX1_readsOne cX1_readsOne 3 (some .boolean) 2 := ⟨codeAt_in (k := 738) (by decide +kernel), List.mem_of_getElem? (i := 12) (by decide +kernel), by decide +kernel, by decide +kernel, by decide +kernel, by decide +kernel⟩
theorem ms_X1_readsOne : Cond.static yX1_readsOne ∈ lw_tbl := List.mem_of_getElem? (i := 737) (by decide +kernel)
theorem me_X1_write : meOK yX1_write cX1_write 2 none 1 := ⟨codeAt_in (k := 729) (by decide +kernel), List.mem_of_getElem? (i := 12) (by decide +kernel), by decide +kernel, by decide +kernel, by decide +kernel, by decide +kernel⟩
theorem mi_X1_write : Cond.instanceMethod yX1_write ∈ lw_tbl := List.mem_of_getElem? (i := 728) (by decide +kernel)
theorem mv_X1_write : Cond.selects yX1_write.cls yX1_write yX1_write ∈ lw_tbl := List.mem_of_getElem? (i := 7) (by decide +kernel)
theorem me_X1_next : meOK yX1_next cX1_next 2 none 0 := ⟨codeAt_in (k := 674) (by decide +kernel), List.mem_of_getElem? (i := 12) (by decide +kernel), by decide +kernel, by decide +kernel, by decide +kernel, by decide +kernel⟩
theorem mi_X1_next : Cond.instanceMethod yX1_next ∈ lw_tbl := List.mem_of_getElem? (i := 673) (by decide +kernel)
theorem mv_X1_next : Cond.selects yX1_next.cls yX1_next yX1_next ∈ lw_tbl := List.mem_of_getElem? (i := 0) (by decide +kernel)
theorem me_X1_endOfWord : meOK yX1_endOfWord cX1_endOfWord 3 (some .int) 1 := ⟨codeAt_in (k := 683) (by decide +kernel), List.mem_of_getElem? (i := 12) (by decide +kernel), by decide +kernel, by decide +kernel, by decide +kernel, by decide +kernel⟩
theorem mi_X1_endOfWord : Cond.instanceMethod yX1_endOfWord ∈ lw_tbl := List.mem_of_getElem? (i := 682) (by decide +kernel)
theorem mv_X1_endOfWord : Cond.selects yX1_endOfWord.cls yX1_endOfWord yX1_endOfWord ∈ lw_tbl := List.mem_of_getElem? (i := 2) (by decide +kernel)
theorem me_X1_endOfNumber : meOK yX1_endOfNumber cX1_endOfNumber 3 (some .int) 1 := ⟨codeAt_in (k := 713) (by decide +kernel), List.mem_of_getElem? (i := 12) (by decide +kernel), by decide +kernel, by decide +kernel, by decide +kernel, by decide +kernel⟩
theorem mi_X1_endOfNumber : Cond.instanceMethod yX1_endOfNumber ∈ lw_tbl := List.mem_of_getElem? (i := 712) (by decide +kernel)
theorem mv_X1_endOfNumber : Cond.selects yX1_endOfNumber.cls yX1_endOfNumber yX1_endOfNumber ∈ lw_tbl := List.mem_of_getElem? (i := 6) (by decide +kernel)
theorem me_X1_wordOf : meOK yX1_wordOf cX1_wordOf 1 (some .int) 0 := ⟨codeAt_in (k := 687) (by decide +kernel), List.mem_of_getElem? (i := 12) (by decide +kernel), by decide +kernel, by decide +kernel, by decide +kernel, by decide +kernel⟩
theorem mi_X1_wordOf : Cond.instanceMethod yX1_wordOf ∈ lw_tbl := List.mem_of_getElem? (i := 686) (by decide +kernel)
theorem mv_X1_wordOf : Cond.selects yX1_wordOf.cls yX1_wordOf yX1_wordOf ∈ lw_tbl := List.mem_of_getElem? (i := 3) (by decide +kernel)
theorem me_X1_spells : meOK yX1_spells cX1_spells 3 (some .boolean) 1 := ⟨codeAt_in (k := 692) (by decide +kernel), List.mem_of_getElem? (i := 12) (by decide +kernel), by decide +kernel, by decide +kernel, by decide +kernel, by decide +kernel⟩
theorem mi_X1_spells : Cond.instanceMethod yX1_spells ∈ lw_tbl := List.mem_of_getElem? (i := 691) (by decide +kernel)
theorem mv_X1_spells : Cond.selects yX1_spells.cls yX1_spells yX1_spells ∈ lw_tbl := List.mem_of_getElem? (i := 4) (by decide +kernel)
theorem me_X1_isLetter : meOK yX1_isLetter cX1_isLetter 3 (some .boolean) 1 := ⟨codeAt_in (k := 679) (by decide +kernel), List.mem_of_getElem? (i := 12) (by decide +kernel), by decide +kernel, by decide +kernel, by decide +kernel, by decide +kernel⟩
theorem mi_X1_isLetter : Cond.instanceMethod yX1_isLetter ∈ lw_tbl := List.mem_of_getElem? (i := 678) (by decide +kernel)
theorem mv_X1_isLetter : Cond.selects yX1_isLetter.cls yX1_isLetter yX1_isLetter ∈ lw_tbl := List.mem_of_getElem? (i := 1) (by decide +kernel)
theorem me_X1_isDigit : meOK yX1_isDigit cX1_isDigit 3 (some .boolean) 1 := ⟨codeAt_in (k := 709) (by decide +kernel), List.mem_of_getElem? (i := 12) (by decide +kernel), by decide +kernel, by decide +kernel, by decide +kernel, by decide +kernel⟩
theorem mi_X1_isDigit : Cond.instanceMethod yX1_isDigit ∈ lw_tbl := List.mem_of_getElem? (i := 708) (by decide +kernel)
theorem mv_X1_isDigit : Cond.selects yX1_isDigit.cls yX1_isDigit yX1_isDigit ∈ lw_tbl := List.mem_of_getElem? (i := 5) (by decide +kernel)
theorem me_X1_isSign : meOK yX1_isSign cX1_isSign 1 (some .boolean) 1 := ⟨codeAt_in (k := 716) (by decide +kernel), List.mem_of_getElem? (i := 12) (by decide +kernel), by decide +kernel, by decide +kernel, by decide +kernel, by decide +kernel⟩
theorem ms_X1_isSign : Cond.static yX1_isSign ∈ lw_tbl := List.mem_of_getElem? (i := 715) (by decide +kernel)
theorem me_X2_init : meOK yX2_init cX2_init 1 none 0 := ⟨codeAt_in (k := 310) (by decide +kernel), List.mem_of_getElem? (i := 14) (by decide +kernel), by decide +kernel, by decide +kernel, by decide +kernel, by decide +kernel⟩
theorem mi_X2_init : Cond.instanceMethod yX2_init ∈ lw_tbl := List.mem_of_getElem? (i := 309) (by decide +kernel)
theorem me_X2_becomes : meOK yX2_becomes cX2_becomes 4 none 2 := ⟨codeAt_in (k := 761) (by decide +kernel), List.mem_of_getElem? (i := 14) (by decide +kernel), by decide +kernel, by decide +kernel, by decide +kernel, by decide +kernel⟩
theorem mi_X2_becomes : Cond.instanceMethod yX2_becomes ∈ lw_tbl := List.mem_of_getElem? (i := 759) (by decide +kernel)
theorem mv_X2_becomes : Cond.selects yX2_becomes.cls yX2_becomes yX2_becomes ∈ lw_tbl := List.mem_of_getElem? (i := 760) (by decide +kernel)
theorem me_X2_write : meOK yX2_write cX2_write 3 none 2 := ⟨codeAt_in (k := 773) (by decide +kernel), List.mem_of_getElem? (i := 14) (by decide +kernel), by decide +kernel, by decide +kernel, by decide +kernel, by decide +kernel⟩
theorem mi_X2_write : Cond.instanceMethod yX2_write ∈ lw_tbl := List.mem_of_getElem? (i := 771) (by decide +kernel)
theorem mv_X2_write : Cond.selects yX2_write.cls yX2_write yX2_write ∈ lw_tbl := List.mem_of_getElem? (i := 772) (by decide +kernel)
theorem me_X3_init : meOK yX3_init cX3_init 2 none 0 := ⟨codeAt_in (k := 202) (by decide +kernel), List.mem_of_getElem? (i := 11) (by decide +kernel), by decide +kernel, by decide +kernel, by decide +kernel, by decide +kernel⟩
theorem mi_X3_init : Cond.instanceMethod yX3_init ∈ lw_tbl := List.mem_of_getElem? (i := 201) (by decide +kernel)
theorem me_X3_add : meOK yX3_add cX3_add 5 (some .int) 2 := ⟨codeAt_in (k := 742) (by decide +kernel), List.mem_of_getElem? (i := 11) (by decide +kernel), by decide +kernel, by decide +kernel, by decide +kernel, by decide +kernel⟩
theorem mi_X3_add : Cond.instanceMethod yX3_add ∈ lw_tbl := List.mem_of_getElem? (i := 740) (by decide +kernel)
theorem mv_X3_add : Cond.selects yX3_add.cls yX3_add yX3_add ∈ lw_tbl := List.mem_of_getElem? (i := 741) (by decide +kernel)
theorem me_X3_value : meOK yX3_value cX3_value 9 (some .int) 3 := ⟨codeAt_in (k := 79) (by decide +kernel), List.mem_of_getElem? (i := 11) (by decide +kernel), by decide +kernel, by decide +kernel, by decide +kernel, by decide +kernel⟩
theorem mi_X3_value : Cond.instanceMethod yX3_value ∈ lw_tbl := List.mem_of_getElem? (i := 77) (by decide +kernel)
theorem mv_X3_value : Cond.selects yX3_value.cls yX3_value yX3_value ∈ lw_tbl := List.mem_of_getElem? (i := 78) (by decide +kernel)
theorem me_X3_ofTwo : meOK yX3_ofTwo cX3_ofTwo 3 (some .int) 3 := ⟨codeAt_in (k := 84) (by decide +kernel), List.mem_of_getElem? (i := 11) (by decide +kernel), by decide +kernel, by decide +kernel, by decide +kernel, by decide +kernel⟩
theorem ms_X3_ofTwo : Cond.static yX3_ofTwo ∈ lw_tbl := List.mem_of_getElem? (i := 83) (by decide +kernel)
theorem me_X4_init : meOK yX4_init cX4_init 2 none 0 := ⟨codeAt_in (k := 194) (by decide +kernel), List.mem_of_getElem? (i := 10) (by decide +kernel), by decide +kernel, by decide +kernel, by decide +kernel, by decide +kernel⟩
theorem mi_X4_init : Cond.instanceMethod yX4_init ∈ lw_tbl := List.mem_of_getElem? (i := 193) (by decide +kernel)
theorem me_X4_count : meOK yX4_count cX4_count 2 (some .int) 1 := ⟨codeAt_in (k := 829) (by decide +kernel), List.mem_of_getElem? (i := 10) (by decide +kernel), by decide +kernel, by decide +kernel, by decide +kernel, by decide +kernel⟩
theorem mi_X4_count : Cond.instanceMethod yX4_count ∈ lw_tbl := List.mem_of_getElem? (i := 827) (by decide +kernel)
theorem mv_X4_count : Cond.selects yX4_count.cls yX4_count yX4_count ∈ lw_tbl := List.mem_of_getElem? (i := 828) (by decide +kernel)
theorem me_X4_shore : meOK yX4_shore cX4_shore 4 (some .int) 2 := ⟨codeAt_in (k := 30) (by decide +kernel), List.mem_of_getElem? (i := 10) (by decide +kernel), by decide +kernel, by decide +kernel, by decide +kernel, by decide +kernel⟩
theorem mi_X4_shore : Cond.instanceMethod yX4_shore ∈ lw_tbl := List.mem_of_getElem? (i := 28) (by decide +kernel)
theorem mv_X4_shore : Cond.selects yX4_shore.cls yX4_shore yX4_shore ∈ lw_tbl := List.mem_of_getElem? (i := 29) (by decide +kernel)
theorem me_X4_feed : meOK yX4_feed cX4_feed 7 (some .int) 6 := ⟨codeAt_in (k := 654) (by decide +kernel), List.mem_of_getElem? (i := 10) (by decide +kernel), by decide +kernel, by decide +kernel, by decide +kernel, by decide +kernel⟩
theorem mi_X4_feed : Cond.instanceMethod yX4_feed ∈ lw_tbl := List.mem_of_getElem? (i := 652) (by decide +kernel)
theorem mv_X4_feed : Cond.selects yX4_feed.cls yX4_feed yX4_feed ∈ lw_tbl := List.mem_of_getElem? (i := 653) (by decide +kernel)
theorem me_X4_text : meOK yX4_text cX4_text 2 (some .int) 0 := ⟨codeAt_in (k := 666) (by decide +kernel), List.mem_of_getElem? (i := 10) (by decide +kernel), by decide +kernel, by decide +kernel, by decide +kernel, by decide +kernel⟩
theorem mi_X4_text : Cond.instanceMethod yX4_text ∈ lw_tbl := List.mem_of_getElem? (i := 664) (by decide +kernel)
theorem mv_X4_text : Cond.selects yX4_text.cls yX4_text yX4_text ∈ lw_tbl := List.mem_of_getElem? (i := 665) (by decide +kernel)
theorem me_X4_force : meOK yX4_force cX4_force 3 (some .int) 1 := ⟨codeAt_in (k := 746) (by decide +kernel), List.mem_of_getElem? (i := 10) (by decide +kernel), by decide +kernel, by decide +kernel, by decide +kernel, by decide +kernel⟩
theorem mi_X4_force : Cond.instanceMethod yX4_force ∈ lw_tbl := List.mem_of_getElem? (i := 744) (by decide +kernel)
theorem mv_X4_force : Cond.selects yX4_force.cls yX4_force yX4_force ∈ lw_tbl := List.mem_of_getElem? (i := 745) (by decide +kernel)
theorem me_X4_fisher : meOK yX4_fisher cX4_fisher 3 (some .int) 2 := ⟨codeAt_in (k := 367) (by decide +kernel), List.mem_of_getElem? (i := 10) (by decide +kernel), by decide +kernel, by decide +kernel, by decide +kernel, by decide +kernel⟩
theorem mi_X4_fisher : Cond.instanceMethod yX4_fisher ∈ lw_tbl := List.mem_of_getElem? (i := 365) (by decide +kernel)
theorem mv_X4_fisher : Cond.selects yX4_fisher.cls yX4_fisher yX4_fisher ∈ lw_tbl := List.mem_of_getElem? (i := 366) (by decide +kernel)
theorem me_X4_put : meOK yX4_put cX4_put 4 (some .int) 3 := ⟨codeAt_in (k := 38) (by decide +kernel), List.mem_of_getElem? (i := 10) (by decide +kernel), by decide +kernel, by decide +kernel, by decide +kernel, by decide +kernel⟩
theorem mi_X4_put : Cond.instanceMethod yX4_put ∈ lw_tbl := List.mem_of_getElem? (i := 36) (by decide +kernel)
theorem mv_X4_put : Cond.selects yX4_put.cls yX4_put yX4_put ∈ lw_tbl := List.mem_of_getElem? (i := 37) (by decide +kernel)
theorem me_X4_told : meOK yX4_told cX4_told 3 (some .int) 2 := ⟨codeAt_in (k := 55) (by decide +kernel), List.mem_of_getElem? (i := 10) (by decide +kernel), by decide +kernel, by decide +kernel, by decide +kernel, by decide +kernel⟩
theorem mi_X4_told : Cond.instanceMethod yX4_told ∈ lw_tbl := List.mem_of_getElem? (i := 53) (by decide +kernel)
theorem mv_X4_told : Cond.selects yX4_told.cls yX4_told yX4_told ∈ lw_tbl := List.mem_of_getElem? (i := 54) (by decide +kernel)
theorem me_X4_lands : meOK yX4_lands cX4_lands 4 (some .int) 3 := ⟨codeAt_in (k := 91) (by decide +kernel), List.mem_of_getElem? (i := 10) (by decide +kernel), by decide +kernel, by decide +kernel, by decide +kernel, by decide +kernel⟩
theorem mi_X4_lands : Cond.instanceMethod yX4_lands ∈ lw_tbl := List.mem_of_getElem? (i := 89) (by decide +kernel)
theorem mv_X4_lands : Cond.selects yX4_lands.cls yX4_lands yX4_lands ∈ lw_tbl := List.mem_of_getElem? (i := 90) (by decide +kernel)
theorem me_X4_land : meOK yX4_land cX4_land 3 (some .int) 2 := ⟨codeAt_in (k := 119) (by decide +kernel), List.mem_of_getElem? (i := 10) (by decide +kernel), by decide +kernel, by decide +kernel, by decide +kernel, by decide +kernel⟩
theorem mi_X4_land : Cond.instanceMethod yX4_land ∈ lw_tbl := List.mem_of_getElem? (i := 117) (by decide +kernel)
theorem mv_X4_land : Cond.selects yX4_land.cls yX4_land yX4_land ∈ lw_tbl := List.mem_of_getElem? (i := 118) (by decide +kernel)
theorem me_X4_teach : meOK yX4_teach cX4_teach 4 (some .int) 2 := ⟨codeAt_in (k := 131) (by decide +kernel), List.mem_of_getElem? (i := 10) (by decide +kernel), by decide +kernel, by decide +kernel, by decide +kernel, by decide +kernel⟩
theorem mi_X4_teach : Cond.instanceMethod yX4_teach ∈ lw_tbl := List.mem_of_getElem? (i := 129) (by decide +kernel)
theorem mv_X4_teach : Cond.selects yX4_teach.cls yX4_teach yX4_teach ∈ lw_tbl := List.mem_of_getElem? (i := 130) (by decide +kernel)
theorem me_X4_tide : meOK yX4_tide cX4_tide 1 (some .int) 0 := ⟨codeAt_in (k := 147) (by decide +kernel), List.mem_of_getElem? (i := 10) (by decide +kernel), by decide +kernel, by decide +kernel, by decide +kernel, by decide +kernel⟩
theorem mi_X4_tide : Cond.instanceMethod yX4_tide ∈ lw_tbl := List.mem_of_getElem? (i := 145) (by decide +kernel)
theorem mv_X4_tide : Cond.selects yX4_tide.cls yX4_tide yX4_tide ∈ lw_tbl := List.mem_of_getElem? (i := 146) (by decide +kernel)
theorem me_X4_talk : meOK yX4_talk cX4_talk 8 (some .int) 2 := ⟨codeAt_in (k := 156) (by decide +kernel), List.mem_of_getElem? (i := 10) (by decide +kernel), by decide +kernel, by decide +kernel, by decide +kernel, by decide +kernel⟩
theorem mi_X4_talk : Cond.instanceMethod yX4_talk ∈ lw_tbl := List.mem_of_getElem? (i := 154) (by decide +kernel)
theorem mv_X4_talk : Cond.selects yX4_talk.cls yX4_talk yX4_talk ∈ lw_tbl := List.mem_of_getElem? (i := 155) (by decide +kernel)
theorem me_X4_which : meOK yX4_which cX4_which 7 (some .int) 2 := ⟨codeAt_in (k := 160) (by decide +kernel), List.mem_of_getElem? (i := 10) (by decide +kernel), by decide +kernel, by decide +kernel, by decide +kernel, by decide +kernel⟩
theorem mi_X4_which : Cond.instanceMethod yX4_which ∈ lw_tbl := List.mem_of_getElem? (i := 158) (by decide +kernel)
theorem mv_X4_which : Cond.selects yX4_which.cls yX4_which yX4_which ∈ lw_tbl := List.mem_of_getElem? (i := 159) (by decide +kernel)
theorem me_X4_lessons : meOK yX4_lessons cX4_lessons 6 (some .int) 3 := ⟨codeAt_in (k := 165) (by decide +kernel), List.mem_of_getElem? (i := 10) (by decide +kernel), by decide +kernel, by decide +kernel, by decide +kernel, by decide +kernel⟩
theorem mi_X4_lessons : Cond.instanceMethod yX4_lessons ∈ lw_tbl := List.mem_of_getElem? (i := 163) (by decide +kernel)
theorem mv_X4_lessons : Cond.selects yX4_lessons.cls yX4_lessons yX4_lessons ∈ lw_tbl := List.mem_of_getElem? (i := 164) (by decide +kernel)
theorem me_X4_lessonsTo : meOK yX4_lessonsTo cX4_lessonsTo 7 (some .int) 4 := ⟨codeAt_in (k := 172) (by decide +kernel), List.mem_of_getElem? (i := 10) (by decide +kernel), by decide +kernel, by decide +kernel, by decide +kernel, by decide +kernel⟩
theorem ms_X4_lessonsTo : Cond.static yX4_lessonsTo ∈ lw_tbl := List.mem_of_getElem? (i := 171) (by decide +kernel)
theorem me_X4_lessonsFrom : meOK yX4_lessonsFrom cX4_lessonsFrom 10 (some .int) 5 := ⟨codeAt_in (k := 175) (by decide +kernel), List.mem_of_getElem? (i := 10) (by decide +kernel), by decide +kernel, by decide +kernel, by decide +kernel, by decide +kernel⟩
theorem ms_X4_lessonsFrom : Cond.static yX4_lessonsFrom ∈ lw_tbl := List.mem_of_getElem? (i := 174) (by decide +kernel)
theorem me_X4_when : meOK yX4_when cX4_when 3 (some .int) 1 := ⟨codeAt_in (k := 179) (by decide +kernel), List.mem_of_getElem? (i := 10) (by decide +kernel), by decide +kernel, by decide +kernel, by decide +kernel, by decide +kernel⟩
theorem mi_X4_when : Cond.instanceMethod yX4_when ∈ lw_tbl := List.mem_of_getElem? (i := 177) (by decide +kernel)
theorem mv_X4_when : Cond.selects yX4_when.cls yX4_when yX4_when ∈ lw_tbl := List.mem_of_getElem? (i := 178) (by decide +kernel)
theorem me_X4_sheet : meOK yX4_sheet cX4_sheet 5 (some .int) 3 := ⟨codeAt_in (k := 753) (by decide +kernel), List.mem_of_getElem? (i := 10) (by decide +kernel), by decide +kernel, by decide +kernel, by decide +kernel, by decide +kernel⟩
theorem mi_X4_sheet : Cond.instanceMethod yX4_sheet ∈ lw_tbl := List.mem_of_getElem? (i := 751) (by decide +kernel)
theorem mv_X4_sheet : Cond.selects yX4_sheet.cls yX4_sheet yX4_sheet ∈ lw_tbl := List.mem_of_getElem? (i := 752) (by decide +kernel)
theorem me_X4_cell : meOK yX4_cell cX4_cell 5 (some .int) 3 := ⟨codeAt_in (k := 769) (by decide +kernel), List.mem_of_getElem? (i := 10) (by decide +kernel), by decide +kernel, by decide +kernel, by decide +kernel, by decide +kernel⟩
theorem mi_X4_cell : Cond.instanceMethod yX4_cell ∈ lw_tbl := List.mem_of_getElem? (i := 767) (by decide +kernel)
theorem mv_X4_cell : Cond.selects yX4_cell.cls yX4_cell yX4_cell ∈ lw_tbl := List.mem_of_getElem? (i := 768) (by decide +kernel)
theorem me_X4_rowAt : meOK yX4_rowAt cX4_rowAt 2 (some (.object "NameThrownBack$Sheet")) 1 := ⟨codeAt_in (k := 757) (by decide +kernel), List.mem_of_getElem? (i := 10) (by decide +kernel), by decide +kernel, by decide +kernel, by decide +kernel, by decide +kernel⟩
theorem mi_X4_rowAt : Cond.instanceMethod yX4_rowAt ∈ lw_tbl := List.mem_of_getElem? (i := 756) (by decide +kernel)
theorem mv_X4_rowAt : Cond.selects yX4_rowAt.cls yX4_rowAt yX4_rowAt ∈ lw_tbl := List.mem_of_getElem? (i := 8) (by decide +kernel)
theorem me_X4_at : meOK yX4_at cX4_at 2 (some .int) 2 := ⟨codeAt_in (k := 48) (by decide +kernel), List.mem_of_getElem? (i := 10) (by decide +kernel), by decide +kernel, by decide +kernel, by decide +kernel, by decide +kernel⟩
theorem ms_X4_at : Cond.static yX4_at ∈ lw_tbl := List.mem_of_getElem? (i := 47) (by decide +kernel)
theorem me_X4_set : meOK yX4_set cX4_set 3 none 3 := ⟨codeAt_in (k := 51) (by decide +kernel), List.mem_of_getElem? (i := 10) (by decide +kernel), by decide +kernel, by decide +kernel, by decide +kernel, by decide +kernel⟩
theorem ms_X4_set : Cond.static yX4_set ∈ lw_tbl := List.mem_of_getElem? (i := 50) (by decide +kernel)
theorem me_X4_swap : meOK yX4_swap cX4_swap 4 (some .int) 3 := ⟨codeAt_in (k := 45) (by decide +kernel), List.mem_of_getElem? (i := 10) (by decide +kernel), by decide +kernel, by decide +kernel, by decide +kernel, by decide +kernel⟩
theorem ms_X4_swap : Cond.static yX4_swap ∈ lw_tbl := List.mem_of_getElem? (i := 44) (by decide +kernel)
theorem me_X4_isThing : meOK yX4_isThing cX4_isThing 1 (some .boolean) 1 := ⟨codeAt_in (k := 94) (by decide +kernel), List.mem_of_getElem? (i := 10) (by decide +kernel), by decide +kernel, by decide +kernel, by decide +kernel, by decide +kernel⟩
theorem ms_X4_isThing : Cond.static yX4_isThing ∈ lw_tbl := List.mem_of_getElem? (i := 93) (by decide +kernel)
theorem me_X4_isSet : meOK yX4_isSet cX4_isSet 1 (some .boolean) 1 := ⟨codeAt_in (k := 33) (by decide +kernel), List.mem_of_getElem? (i := 10) (by decide +kernel), by decide +kernel, by decide +kernel, by decide +kernel, by decide +kernel⟩
theorem ms_X4_isSet : Cond.static yX4_isSet ∈ lw_tbl := List.mem_of_getElem? (i := 32) (by decide +kernel)
theorem me_X4_isByte : meOK yX4_isByte cX4_isByte 1 (some .boolean) 1 := ⟨codeAt_in (k := 657) (by decide +kernel), List.mem_of_getElem? (i := 10) (by decide +kernel), by decide +kernel, by decide +kernel, by decide +kernel, by decide +kernel⟩
theorem ms_X4_isByte : Cond.static yX4_isByte ∈ lw_tbl := List.mem_of_getElem? (i := 656) (by decide +kernel)
theorem me_X4_holds : meOK yX4_holds cX4_holds 2 (some .boolean) 2 := ⟨codeAt_in (k := 107) (by decide +kernel), List.mem_of_getElem? (i := 10) (by decide +kernel), by decide +kernel, by decide +kernel, by decide +kernel, by decide +kernel⟩
theorem ms_X4_holds : Cond.static yX4_holds ∈ lw_tbl := List.mem_of_getElem? (i := 106) (by decide +kernel)
theorem me_X4_bounded : meOK yX4_bounded cX4_bounded 3 (some .int) 3 := ⟨codeAt_in (k := 87) (by decide +kernel), List.mem_of_getElem? (i := 10) (by decide +kernel), by decide +kernel, by decide +kernel, by decide +kernel, by decide +kernel⟩
theorem ms_X4_bounded : Cond.static yX4_bounded ∈ lw_tbl := List.mem_of_getElem? (i := 86) (by decide +kernel)
theorem me_X4_numbered : meOK yX4_numbered cX4_numbered 4 (some .int) 2 := ⟨codeAt_in (k := 104) (by decide +kernel), List.mem_of_getElem? (i := 10) (by decide +kernel), by decide +kernel, by decide +kernel, by decide +kernel, by decide +kernel⟩
theorem ms_X4_numbered : Cond.static yX4_numbered ∈ lw_tbl := List.mem_of_getElem? (i := 103) (by decide +kernel)
theorem me_X4_leastOf : meOK yX4_leastOf cX4_leastOf 5 (some .int) 2 := ⟨codeAt_in (k := 139) (by decide +kernel), List.mem_of_getElem? (i := 10) (by decide +kernel), by decide +kernel, by decide +kernel, by decide +kernel, by decide +kernel⟩
theorem ms_X4_leastOf : Cond.static yX4_leastOf ∈ lw_tbl := List.mem_of_getElem? (i := 138) (by decide +kernel)
theorem me_J5_init_d00df : meOK yJ5_init_d00df cJ5_init_d00df 2 none 1 := ⟨codeAt_in (k := 388) (by decide +kernel), List.mem_of_getElem? (i := 15) (by decide +kernel), by decide +kernel, by decide +kernel, by decide +kernel, by decide +kernel⟩
theorem mi_J5_init_d00df : Cond.instanceMethod yJ5_init_d00df ∈ lw_tbl := List.mem_of_getElem? (i := 387) (by decide +kernel)
theorem me_J5_length_8abf5 : meOK yJ5_length_8abf5 cJ5_length_8abf5 1 (some .int) 0 := ⟨codeAt_in (k := 588) (by decide +kernel), List.mem_of_getElem? (i := 15) (by decide +kernel), by decide +kernel, by decide +kernel, by decide +kernel, by decide +kernel⟩
theorem mi_J5_length_8abf5 : Cond.instanceMethod yJ5_length_8abf5 ∈ lw_tbl := List.mem_of_getElem? (i := 582) (by decide +kernel)
theorem me_J5_ensureCapacityInternal_d00df : meOK yJ5_ensureCapacityInternal_d00df cJ5_ensureCapacityInternal_d00df 3 none 1 := ⟨codeAt_in (k := 428) (by decide +kernel), List.mem_of_getElem? (i := 15) (by decide +kernel), by decide +kernel, by decide +kernel, by decide +kernel, by decide +kernel⟩
theorem mi_J5_ensureCapacityInternal_d00df : Cond.instanceMethod yJ5_ensureCapacityInternal_d00df ∈ lw_tbl := List.mem_of_getElem? (i := 427) (by decide +kernel)
theorem me_J5_newCapacity_0f7a4 : meOK yJ5_newCapacity_0f7a4 cJ5_newCapacity_0f7a4 6 (some .int) 1 := ⟨codeAt_in (k := 432) (by decide +kernel), List.mem_of_getElem? (i := 15) (by decide +kernel), by decide +kernel, by decide +kernel, by decide +kernel, by decide +kernel⟩
theorem mi_J5_newCapacity_0f7a4 : Cond.instanceMethod yJ5_newCapacity_0f7a4 ∈ lw_tbl := List.mem_of_getElem? (i := 431) (by decide +kernel)
theorem me_J5_inflate_da8c8 : meOK yJ5_inflate_da8c8 cJ5_inflate_da8c8 2 none 0 := ⟨codeAt_in (k := 510) (by decide +kernel), List.mem_of_getElem? (i := 15) (by decide +kernel), by decide +kernel, by decide +kernel, by decide +kernel, by decide +kernel⟩
theorem mi_J5_inflate_da8c8 : Cond.instanceMethod yJ5_inflate_da8c8 ∈ lw_tbl := List.mem_of_getElem? (i := 509) (by decide +kernel)
theorem me_J5_append_cf1ce : meOK yJ5_append_cf1ce cJ5_append_cf1ce 3 (some (.object "java/lang/AbstractStringBuilder")) 1 := ⟨codeAt_in (k := 420) (by decide +kernel), List.mem_of_getElem? (i := 15) (by decide +kernel), by decide +kernel, by decide +kernel, by decide +kernel, by decide +kernel⟩
theorem mi_J5_append_cf1ce : Cond.instanceMethod yJ5_append_cf1ce ∈ lw_tbl := List.mem_of_getElem? (i := 419) (by decide +kernel)
theorem me_J5_appendNull_278bc : meOK yJ5_appendNull_278bc cJ5_appendNull_278bc 3 (some (.object "java/lang/AbstractStringBuilder")) 0 := ⟨codeAt_in (k := 424) (by decide +kernel), List.mem_of_getElem? (i := 15) (by decide +kernel), by decide +kernel, by decide +kernel, by decide +kernel, by decide +kernel⟩
theorem mi_J5_appendNull_278bc : Cond.instanceMethod yJ5_appendNull_278bc ∈ lw_tbl := List.mem_of_getElem? (i := 423) (by decide +kernel)
theorem me_J5_append_c97b9 : meOK yJ5_append_c97b9 cJ5_append_c97b9 4 (some (.object "java/lang/AbstractStringBuilder")) 1 := ⟨codeAt_in (k := 538) (by decide +kernel), List.mem_of_getElem? (i := 15) (by decide +kernel), by decide +kernel, by decide +kernel, by decide +kernel, by decide +kernel⟩
theorem mi_J5_append_c97b9 : Cond.instanceMethod yJ5_append_c97b9 ∈ lw_tbl := List.mem_of_getElem? (i := 537) (by decide +kernel)
theorem me_J5_getValue_6d5f1 : meOK yJ5_getValue_6d5f1 cJ5_getValue_6d5f1 1 (some (.array .byte)) 0 := ⟨codeAt_in (k := 580) (by decide +kernel), List.mem_of_getElem? (i := 15) (by decide +kernel), by decide +kernel, by decide +kernel, by decide +kernel, by decide +kernel⟩
theorem mi_J5_getValue_6d5f1 : Cond.instanceMethod yJ5_getValue_6d5f1 ∈ lw_tbl := List.mem_of_getElem? (i := 577) (by decide +kernel)
theorem me_J5_isLatin1_aae02 : meOK yJ5_isLatin1_aae02 cJ5_isLatin1_aae02 1 (some .boolean) 0 := ⟨codeAt_in (k := 462) (by decide +kernel), List.mem_of_getElem? (i := 15) (by decide +kernel), by decide +kernel, by decide +kernel, by decide +kernel, by decide +kernel⟩
theorem mi_J5_isLatin1_aae02 : Cond.instanceMethod yJ5_isLatin1_aae02 ∈ lw_tbl := List.mem_of_getElem? (i := 459) (by decide +kernel)
theorem me_J5_inflateIfNeededFor_a7421 : meOK yJ5_inflateIfNeededFor_a7421 cJ5_inflateIfNeededFor_a7421 2 none 1 := ⟨codeAt_in (k := 505) (by decide +kernel), List.mem_of_getElem? (i := 15) (by decide +kernel), by decide +kernel, by decide +kernel, by decide +kernel, by decide +kernel⟩
theorem mi_J5_inflateIfNeededFor_a7421 : Cond.instanceMethod yJ5_inflateIfNeededFor_a7421 ∈ lw_tbl := List.mem_of_getElem? (i := 504) (by decide +kernel)
theorem me_J5_putStringAt_47b60 : meOK yJ5_putStringAt_47b60 cJ5_putStringAt_47b60 3 none 2 := ⟨codeAt_in (k := 501) (by decide +kernel), List.mem_of_getElem? (i := 15) (by decide +kernel), by decide +kernel, by decide +kernel, by decide +kernel, by decide +kernel⟩
theorem mi_J5_putStringAt_47b60 : Cond.instanceMethod yJ5_putStringAt_47b60 ∈ lw_tbl := List.mem_of_getElem? (i := 500) (by decide +kernel)
theorem me_J6_getChars_ba4f3 : meOK yJ6_getChars_ba4f3 cJ6_getChars_ba4f3 7 (some .int) 3 := ⟨codeAt_in (k := 544) (by decide +kernel), List.mem_of_getElem? (i := 25) (by decide +kernel), by decide +kernel, by decide +kernel, by decide +kernel, by decide +kernel⟩
theorem ms_J6_getChars_ba4f3 : Cond.static yJ6_getChars_ba4f3 ∈ lw_tbl := List.mem_of_getElem? (i := 543) (by decide +kernel)
theorem me_J6_stringSize_0f7a4 : meOK yJ6_stringSize_0f7a4 cJ6_stringSize_0f7a4 4 (some .int) 1 := ⟨codeAt_in (k := 541) (by decide +kernel), List.mem_of_getElem? (i := 25) (by decide +kernel), by decide +kernel, by decide +kernel, by decide +kernel, by decide +kernel⟩
theorem ms_J6_stringSize_0f7a4 : Cond.static yJ6_stringSize_0f7a4 ∈ lw_tbl := List.mem_of_getElem? (i := 540) (by decide +kernel)
theorem me_J6_numberOfTrailingZeros_0f7a4 : meOK yJ6_numberOfTrailingZeros_0f7a4 cJ6_numberOfTrailingZeros_0f7a4 2 (some .int) 1 := ⟨codeAt_in (k := 805) (by decide +kernel), List.mem_of_getElem? (i := 25) (by decide +kernel), by decide +kernel, by decide +kernel, by decide +kernel, by decide +kernel⟩
theorem ms_J6_numberOfTrailingZeros_0f7a4 : Cond.static yJ6_numberOfTrailingZeros_0f7a4 ∈ lw_tbl := List.mem_of_getElem? (i := 804) (by decide +kernel)
theorem me_J6_bitCount_0f7a4 : meOK yJ6_bitCount_0f7a4 cJ6_bitCount_0f7a4 1 (some .int) 1 := ⟨codeAt_in (k := 72) (by decide +kernel), List.mem_of_getElem? (i := 25) (by decide +kernel), by decide +kernel, by decide +kernel, by decide +kernel, by decide +kernel⟩
theorem ms_J6_bitCount_0f7a4 : Cond.static yJ6_bitCount_0f7a4 ∈ lw_tbl := List.mem_of_getElem? (i := 71) (by decide +kernel)
theorem me_J13_numberOfTrailingZeros_95d88 : meOK yJ13_numberOfTrailingZeros_95d88 cJ13_numberOfTrailingZeros_95d88 3 (some .int) 1 := ⟨codeAt_in (k := 802) (by decide +kernel), List.mem_of_getElem? (i := 26) (by decide +kernel), by decide +kernel, by decide +kernel, by decide +kernel, by decide +kernel⟩
theorem ms_J13_numberOfTrailingZeros_95d88 : Cond.static yJ13_numberOfTrailingZeros_95d88 ∈ lw_tbl := List.mem_of_getElem? (i := 801) (by decide +kernel)
theorem me_J13_bitCount_95d88 : meOK yJ13_bitCount_95d88 cJ13_bitCount_95d88 2 (some .int) 1 := ⟨codeAt_in (k := 785) (by decide +kernel), List.mem_of_getElem? (i := 26) (by decide +kernel), by decide +kernel, by decide +kernel, by decide +kernel, by decide +kernel⟩
theorem ms_J13_bitCount_95d88 : Cond.static yJ13_bitCount_95d88 ∈ lw_tbl := List.mem_of_getElem? (i := 784) (by decide +kernel)
theorem me_J9_floorMod_7cf53 : meOK yJ9_floorMod_7cf53 cJ9_floorMod_7cf53 3 (some .int) 2 := ⟨codeAt_in (k := 101) (by decide +kernel), List.mem_of_getElem? (i := 20) (by decide +kernel), by decide +kernel, by decide +kernel, by decide +kernel, by decide +kernel⟩
theorem ms_J9_floorMod_7cf53 : Cond.static yJ9_floorMod_7cf53 ∈ lw_tbl := List.mem_of_getElem? (i := 100) (by decide +kernel)
theorem me_J9_max_7cf53 : meOK yJ9_max_7cf53 cJ9_max_7cf53 2 (some .int) 2 := ⟨codeAt_in (k := 110) (by decide +kernel), List.mem_of_getElem? (i := 20) (by decide +kernel), by decide +kernel, by decide +kernel, by decide +kernel, by decide +kernel⟩
theorem ms_J9_max_7cf53 : Cond.static yJ9_max_7cf53 ∈ lw_tbl := List.mem_of_getElem? (i := 109) (by decide +kernel)
theorem me_J9_max_f86c9 : meOK yJ9_max_f86c9 cJ9_max_f86c9 4 (some .long) 2 := ⟨codeAt_in (k := 797) (by decide +kernel), List.mem_of_getElem? (i := 20) (by decide +kernel), by decide +kernel, by decide +kernel, by decide +kernel, by decide +kernel⟩
theorem ms_J9_max_f86c9 : Cond.static yJ9_max_f86c9 ∈ lw_tbl := List.mem_of_getElem? (i := 796) (by decide +kernel)
theorem me_J9_min_7cf53 : meOK yJ9_min_7cf53 cJ9_min_7cf53 2 (some .int) 2 := ⟨codeAt_in (k := 454) (by decide +kernel), List.mem_of_getElem? (i := 20) (by decide +kernel), by decide +kernel, by decide +kernel, by decide +kernel, by decide +kernel⟩
theorem ms_J9_min_7cf53 : Cond.static yJ9_min_7cf53 ∈ lw_tbl := List.mem_of_getElem? (i := 453) (by decide +kernel)
theorem me_J9_min_f86c9 : meOK yJ9_min_f86c9 cJ9_min_f86c9 4 (some .long) 2 := ⟨codeAt_in (k := 794) (by decide +kernel), List.mem_of_getElem? (i := 20) (by decide +kernel), by decide +kernel, by decide +kernel, by decide +kernel, by decide +kernel⟩
theorem ms_J9_min_f86c9 : Cond.static yJ9_min_f86c9 ∈ lw_tbl := List.mem_of_getElem? (i := 793) (by decide +kernel)
theorem me_J0_init_81219 : meOK yJ0_init_81219 cJ0_init_81219 2 none 1 := ⟨codeAt_in (k := 571) (by decide +kernel), List.mem_of_getElem? (i := 17) (by decide +kernel), by decide +kernel, by decide +kernel, by decide +kernel, by decide +kernel⟩
theorem mi_J0_init_81219 : Cond.instanceMethod yJ0_init_81219 ∈ lw_tbl := List.mem_of_getElem? (i := 570) (by decide +kernel)
theorem me_J0_length_8abf5 : meOK yJ0_length_8abf5 cJ0_length_8abf5 1 (some .int) 0 := ⟨codeAt_in (k := 492) (by decide +kernel), List.mem_of_getElem? (i := 17) (by decide +kernel), by decide +kernel, by decide +kernel, by decide +kernel, by decide +kernel⟩
theorem mi_J0_length_8abf5 : Cond.instanceMethod yJ0_length_8abf5 ∈ lw_tbl := List.mem_of_getElem? (i := 490) (by decide +kernel)
theorem mv_J0_length_8abf5 : Cond.selects yJ0_length_8abf5.cls yJ0_length_8abf5 yJ0_length_8abf5 ∈ lw_tbl := List.mem_of_getElem? (i := 491) (by decide +kernel)
theorem me_J0_charAt_5068e : meOK yJ0_charAt_5068e cJ0_charAt_5068e 2 (some .char) 1 := ⟨codeAt_in (k := 630) (by decide +kernel), List.mem_of_getElem? (i := 17) (by decide +kernel), by decide +kernel, by decide +kernel, by decide +kernel, by decide +kernel⟩
theorem mi_J0_charAt_5068e : Cond.instanceMethod yJ0_charAt_5068e ∈ lw_tbl := List.mem_of_getElem? (i := 628) (by decide +kernel)
theorem mv_J0_charAt_5068e : Cond.selects yJ0_charAt_5068e.cls yJ0_charAt_5068e yJ0_charAt_5068e ∈ lw_tbl := List.mem_of_getElem? (i := 629) (by decide +kernel)
theorem me_J0_getBytes_840e7 : meOK yJ0_getBytes_840e7 cJ0_getBytes_840e7 4 none 3 := ⟨codeAt_in (k := 529) (by decide +kernel), List.mem_of_getElem? (i := 17) (by decide +kernel), by decide +kernel, by decide +kernel, by decide +kernel, by decide +kernel⟩
theorem mi_J0_getBytes_840e7 : Cond.instanceMethod yJ0_getBytes_840e7 ∈ lw_tbl := List.mem_of_getElem? (i := 527) (by decide +kernel)
theorem mv_J0_getBytes_840e7 : Cond.selects yJ0_getBytes_840e7.cls yJ0_getBytes_840e7 yJ0_getBytes_840e7 ∈ lw_tbl := List.mem_of_getElem? (i := 528) (by decide +kernel)
theorem me_J0_init_db425 : meOK yJ0_init_db425 cJ0_init_db425 5 none 2 := ⟨codeAt_in (k := 574) (by decide +kernel), List.mem_of_getElem? (i := 17) (by decide +kernel), by decide +kernel, by decide +kernel, by decide +kernel, by decide +kernel⟩
theorem mi_J0_init_db425 : Cond.instanceMethod yJ0_init_db425 ∈ lw_tbl := List.mem_of_getElem? (i := 573) (by decide +kernel)
theorem me_J0_coder_7d493 : meOK yJ0_coder_7d493 cJ0_coder_7d493 1 (some .byte) 0 := ⟨codeAt_in (k := 496) (by decide +kernel), List.mem_of_getElem? (i := 17) (by decide +kernel), by decide +kernel, by decide +kernel, by decide +kernel, by decide +kernel⟩
theorem mi_J0_coder_7d493 : Cond.instanceMethod yJ0_coder_7d493 ∈ lw_tbl := List.mem_of_getElem? (i := 494) (by decide +kernel)
theorem mv_J0_coder_7d493 : Cond.selects yJ0_coder_7d493.cls yJ0_coder_7d493 yJ0_coder_7d493 ∈ lw_tbl := List.mem_of_getElem? (i := 495) (by decide +kernel)
theorem me_J0_isLatin1_aae02 : meOK yJ0_isLatin1_aae02 cJ0_isLatin1_aae02 1 (some .boolean) 0 := ⟨codeAt_in (k := 634) (by decide +kernel), List.mem_of_getElem? (i := 17) (by decide +kernel), by decide +kernel, by decide +kernel, by decide +kernel, by decide +kernel⟩
theorem mi_J0_isLatin1_aae02 : Cond.instanceMethod yJ0_isLatin1_aae02 ∈ lw_tbl := List.mem_of_getElem? (i := 632) (by decide +kernel)
theorem mv_J0_isLatin1_aae02 : Cond.selects yJ0_isLatin1_aae02.cls yJ0_isLatin1_aae02 yJ0_isLatin1_aae02 ∈ lw_tbl := List.mem_of_getElem? (i := 633) (by decide +kernel)
theorem me_J0_checkIndex_df160 : meOK yJ0_checkIndex_df160 cJ0_checkIndex_df160 2 none 2 := ⟨codeAt_in (k := 640) (by decide +kernel), List.mem_of_getElem? (i := 17) (by decide +kernel), by decide +kernel, by decide +kernel, by decide +kernel, by decide +kernel⟩
theorem ms_J0_checkIndex_df160 : Cond.static yJ0_checkIndex_df160 ∈ lw_tbl := List.mem_of_getElem? (i := 639) (by decide +kernel)
theorem me_J0_checkBoundsOffCount_cabcc : meOK yJ0_checkBoundsOffCount_cabcc cJ0_checkBoundsOffCount_cabcc 3 (some .int) 3 := ⟨codeAt_in (k := 522) (by decide +kernel), List.mem_of_getElem? (i := 17) (by decide +kernel), by decide +kernel, by decide +kernel, by decide +kernel, by decide +kernel⟩
theorem ms_J0_checkBoundsOffCount_cabcc : Cond.static yJ0_checkBoundsOffCount_cabcc ∈ lw_tbl := List.mem_of_getElem? (i := 521) (by decide +kernel)
theorem me_J0_checkBoundsBeginEnd_23922 : meOK yJ0_checkBoundsBeginEnd_23922 cJ0_checkBoundsBeginEnd_23922 3 none 3 := ⟨codeAt_in (k := 474) (by decide +kernel), List.mem_of_getElem? (i := 17) (by decide +kernel), by decide +kernel, by decide +kernel, by decide +kernel, by decide +kernel⟩
theorem ms_J0_checkBoundsBeginEnd_23922 : Cond.static yJ0_checkBoundsBeginEnd_23922 ∈ lw_tbl := List.mem_of_getElem? (i := 473) (by decide +kernel)
theorem me_J4_init_da8c8 : meOK yJ4_init_da8c8 cJ4_init_da8c8 1 none 0 := ⟨codeAt_in (k := 385) (by decide +kernel), List.mem_of_getElem? (i := 16) (by decide +kernel), by decide +kernel, by decide +kernel, by decide +kernel, by decide +kernel⟩
theorem mi_J4_init_da8c8 : Cond.instanceMethod yJ4_init_da8c8 ∈ lw_tbl := List.mem_of_getElem? (i := 384) (by decide +kernel)
theorem me_J4_append_15ec4 : meOK yJ4_append_15ec4 cJ4_append_15ec4 2 (some (.object "java/lang/StringBuilder")) 1 := ⟨codeAt_in (k := 417) (by decide +kernel), List.mem_of_getElem? (i := 16) (by decide +kernel), by decide +kernel, by decide +kernel, by decide +kernel, by decide +kernel⟩
theorem mi_J4_append_15ec4 : Cond.instanceMethod yJ4_append_15ec4 ∈ lw_tbl := List.mem_of_getElem? (i := 415) (by decide +kernel)
theorem mv_J4_append_15ec4 : Cond.selects yJ4_append_15ec4.cls yJ4_append_15ec4 yJ4_append_15ec4 ∈ lw_tbl := List.mem_of_getElem? (i := 416) (by decide +kernel)
theorem me_J4_append_bf812 : meOK yJ4_append_bf812 cJ4_append_bf812 2 (some (.object "java/lang/StringBuilder")) 1 := ⟨codeAt_in (k := 535) (by decide +kernel), List.mem_of_getElem? (i := 16) (by decide +kernel), by decide +kernel, by decide +kernel, by decide +kernel, by decide +kernel⟩
theorem mi_J4_append_bf812 : Cond.instanceMethod yJ4_append_bf812 ∈ lw_tbl := List.mem_of_getElem? (i := 533) (by decide +kernel)
theorem mv_J4_append_bf812 : Cond.selects yJ4_append_bf812.cls yJ4_append_bf812 yJ4_append_bf812 ∈ lw_tbl := List.mem_of_getElem? (i := 534) (by decide +kernel)
theorem me_J4_toString_0e30d : meOK yJ4_toString_0e30d cJ4_toString_0e30d 1 (some (.object "java/lang/String")) 0 := ⟨codeAt_in (k := 566) (by decide +kernel), List.mem_of_getElem? (i := 16) (by decide +kernel), by decide +kernel, by decide +kernel, by decide +kernel, by decide +kernel⟩
theorem mi_J4_toString_0e30d : Cond.instanceMethod yJ4_toString_0e30d ∈ lw_tbl := List.mem_of_getElem? (i := 564) (by decide +kernel)
theorem mv_J4_toString_0e30d : Cond.selects yJ4_toString_0e30d.cls yJ4_toString_0e30d yJ4_toString_0e30d ∈ lw_tbl := List.mem_of_getElem? (i := 565) (by decide +kernel)
theorem me_J4_length_8abf5 : meOK yJ4_length_8abf5 cJ4_length_8abf5 1 (some .int) 0 := ⟨codeAt_in (k := 586) (by decide +kernel), List.mem_of_getElem? (i := 16) (by decide +kernel), by decide +kernel, by decide +kernel, by decide +kernel, by decide +kernel⟩
theorem mi_J4_length_8abf5 : Cond.instanceMethod yJ4_length_8abf5 ∈ lw_tbl := List.mem_of_getElem? (i := 585) (by decide +kernel)
theorem me_J1_charAt_3b067 : meOK yJ1_charAt_3b067 cJ1_charAt_3b067 2 (some .char) 2 := ⟨codeAt_in (k := 637) (by decide +kernel), List.mem_of_getElem? (i := 24) (by decide +kernel), by decide +kernel, by decide +kernel, by decide +kernel, by decide +kernel⟩
theorem ms_J1_charAt_3b067 : Cond.static yJ1_charAt_3b067 ∈ lw_tbl := List.mem_of_getElem? (i := 636) (by decide +kernel)
theorem me_J1_inflate_0e8fd : meOK yJ1_inflate_0e8fd cJ1_inflate_0e8fd 5 none 5 := ⟨codeAt_in (k := 513) (by decide +kernel), List.mem_of_getElem? (i := 24) (by decide +kernel), by decide +kernel, by decide +kernel, by decide +kernel, by decide +kernel⟩
theorem ms_J1_inflate_0e8fd : Cond.static yJ1_inflate_0e8fd ∈ lw_tbl := List.mem_of_getElem? (i := 512) (by decide +kernel)
theorem me_J2_newBytesFor_77867 : meOK yJ2_newBytesFor_77867 cJ2_newBytesFor_77867 1 (some (.array .byte)) 1 := ⟨codeAt_in (k := 394) (by decide +kernel), List.mem_of_getElem? (i := 18) (by decide +kernel), by decide +kernel, by decide +kernel, by decide +kernel, by decide +kernel⟩
theorem ms_J2_newBytesFor_77867 : Cond.static yJ2_newBytesFor_77867 ∈ lw_tbl := List.mem_of_getElem? (i := 393) (by decide +kernel)
theorem me_J2_newBytesLength_0f7a4 : meOK yJ2_newBytesLength_0f7a4 cJ2_newBytesLength_0f7a4 1 (some .int) 1 := ⟨codeAt_in (k := 397) (by decide +kernel), List.mem_of_getElem? (i := 18) (by decide +kernel), by decide +kernel, by decide +kernel, by decide +kernel, by decide +kernel⟩
theorem ms_J2_newBytesLength_0f7a4 : Cond.static yJ2_newBytesLength_0f7a4 ∈ lw_tbl := List.mem_of_getElem? (i := 396) (by decide +kernel)
theorem me_J2_putChar_b72d1 : meOK yJ2_putChar_b72d1 cJ2_putChar_b72d1 3 none 3 := ⟨codeAt_in (k := 482) (by decide +kernel), List.mem_of_getElem? (i := 18) (by decide +kernel), by decide +kernel, by decide +kernel, by decide +kernel, by decide +kernel⟩
theorem ms_J2_putChar_b72d1 : Cond.static yJ2_putChar_b72d1 ∈ lw_tbl := List.mem_of_getElem? (i := 481) (by decide +kernel)
theorem me_J2_getChar_3b067 : meOK yJ2_getChar_3b067 cJ2_getChar_3b067 2 (some .char) 2 := ⟨codeAt_in (k := 607) (by decide +kernel), List.mem_of_getElem? (i := 18) (by decide +kernel), by decide +kernel, by decide +kernel, by decide +kernel, by decide +kernel⟩
theorem ms_J2_getChar_3b067 : Cond.static yJ2_getChar_3b067 ∈ lw_tbl := List.mem_of_getElem? (i := 606) (by decide +kernel)
theorem me_J2_length_9d52b : meOK yJ2_length_9d52b cJ2_length_9d52b 1 (some .int) 1 := ⟨codeAt_in (k := 471) (by decide +kernel), List.mem_of_getElem? (i := 18) (by decide +kernel), by decide +kernel, by decide +kernel, by decide +kernel, by decide +kernel⟩
theorem ms_J2_length_9d52b : Cond.static yJ2_length_9d52b ∈ lw_tbl := List.mem_of_getElem? (i := 470) (by decide +kernel)
theorem me_J2_coderFromArrayLen_85cad : meOK yJ2_coderFromArrayLen_85cad cJ2_coderFromArrayLen_85cad 2 (some .byte) 2 := ⟨codeAt_in (k := 611) (by decide +kernel), List.mem_of_getElem? (i := 18) (by decide +kernel), by decide +kernel, by decide +kernel, by decide +kernel, by decide +kernel⟩
theorem ms_J2_coderFromArrayLen_85cad : Cond.static yJ2_coderFromArrayLen_85cad ∈ lw_tbl := List.mem_of_getElem? (i := 610) (by decide +kernel)
theorem me_J2_compress_39247 : meOK yJ2_compress_39247 cJ2_compress_39247 6 (some (.array .byte)) 3 := ⟨codeAt_in (k := 601) (by decide +kernel), List.mem_of_getElem? (i := 18) (by decide +kernel), by decide +kernel, by decide +kernel, by decide +kernel, by decide +kernel⟩
theorem ms_J2_compress_39247 : Cond.static yJ2_compress_39247 ∈ lw_tbl := List.mem_of_getElem? (i := 600) (by decide +kernel)
theorem me_J2_compress_5af95 : meOK yJ2_compress_5af95 cJ2_compress_5af95 7 (some .int) 5 := ⟨codeAt_in (k := 604) (by decide +kernel), List.mem_of_getElem? (i := 18) (by decide +kernel), by decide +kernel, by decide +kernel, by decide +kernel, by decide +kernel⟩
theorem ms_J2_compress_5af95 : Cond.static yJ2_compress_5af95 ∈ lw_tbl := List.mem_of_getElem? (i := 603) (by decide +kernel)
theorem me_J2_getChars_46870 : meOK yJ2_getChars_46870 cJ2_getChars_46870 5 (some .int) 4 := ⟨codeAt_in (k := 551) (by decide +kernel), List.mem_of_getElem? (i := 18) (by decide +kernel), by decide +kernel, by decide +kernel, by decide +kernel, by decide +kernel⟩
theorem ms_J2_getChars_46870 : Cond.static yJ2_getChars_46870 ∈ lw_tbl := List.mem_of_getElem? (i := 550) (by decide +kernel)
theorem me_J2_putCharsAt_cd4e5 : meOK yJ2_putCharsAt_cd4e5 cJ2_putCharsAt_cd4e5 7 (some .int) 6 := ⟨codeAt_in (k := 465) (by decide +kernel), List.mem_of_getElem? (i := 18) (by decide +kernel), by decide +kernel, by decide +kernel, by decide +kernel, by decide +kernel⟩
theorem ms_J2_putCharsAt_cd4e5 : Cond.static yJ2_putCharsAt_cd4e5 ∈ lw_tbl := List.mem_of_getElem? (i := 464) (by decide +kernel)
theorem me_J2_charAt_3b067 : meOK yJ2_charAt_3b067 cJ2_charAt_3b067 2 (some .char) 2 := ⟨codeAt_in (k := 646) (by decide +kernel), List.mem_of_getElem? (i := 18) (by decide +kernel), by decide +kernel, by decide +kernel, by decide +kernel, by decide +kernel⟩
theorem ms_J2_charAt_3b067 : Cond.static yJ2_charAt_3b067 ∈ lw_tbl := List.mem_of_getElem? (i := 645) (by decide +kernel)
theorem me_J2_inflate_0e8fd : meOK yJ2_inflate_0e8fd cJ2_inflate_0e8fd 6 none 5 := ⟨codeAt_in (k := 516) (by decide +kernel), List.mem_of_getElem? (i := 18) (by decide +kernel), by decide +kernel, by decide +kernel, by decide +kernel, by decide +kernel⟩
theorem ms_J2_inflate_0e8fd : Cond.static yJ2_inflate_0e8fd ∈ lw_tbl := List.mem_of_getElem? (i := 515) (by decide +kernel)
theorem me_J2_getChars_ba4f3 : meOK yJ2_getChars_ba4f3 cJ2_getChars_ba4f3 7 (some .int) 3 := ⟨codeAt_in (k := 554) (by decide +kernel), List.mem_of_getElem? (i := 18) (by decide +kernel), by decide +kernel, by decide +kernel, by decide +kernel, by decide +kernel⟩
theorem ms_J2_getChars_ba4f3 : Cond.static yJ2_getChars_ba4f3 ∈ lw_tbl := List.mem_of_getElem? (i := 553) (by decide +kernel)
theorem me_J2_checkIndex_2214a : meOK yJ2_checkIndex_2214a cJ2_checkIndex_2214a 2 none 2 := ⟨codeAt_in (k := 649) (by decide +kernel), List.mem_of_getElem? (i := 18) (by decide +kernel), by decide +kernel, by decide +kernel, by decide +kernel, by decide +kernel⟩
theorem ms_J2_checkIndex_2214a : Cond.static yJ2_checkIndex_2214a ∈ lw_tbl := List.mem_of_getElem? (i := 648) (by decide +kernel)
theorem me_J2_checkBoundsBeginEnd_d044e : meOK yJ2_checkBoundsBeginEnd_d044e cJ2_checkBoundsBeginEnd_d044e 3 none 3 := ⟨codeAt_in (k := 468) (by decide +kernel), List.mem_of_getElem? (i := 18) (by decide +kernel), by decide +kernel, by decide +kernel, by decide +kernel, by decide +kernel⟩
theorem ms_J2_checkBoundsBeginEnd_d044e : Cond.static yJ2_checkBoundsBeginEnd_d044e ∈ lw_tbl := List.mem_of_getElem? (i := 467) (by decide +kernel)
theorem me_J2_checkBoundsOffCount_d044e : meOK yJ2_checkBoundsOffCount_d044e cJ2_checkBoundsOffCount_d044e 3 none 3 := ⟨codeAt_in (k := 519) (by decide +kernel), List.mem_of_getElem? (i := 18) (by decide +kernel), by decide +kernel, by decide +kernel, by decide +kernel, by decide +kernel⟩
theorem ms_J2_checkBoundsOffCount_d044e : Cond.static yJ2_checkBoundsOffCount_d044e ∈ lw_tbl := List.mem_of_getElem? (i := 518) (by decide +kernel)
theorem me_J7_copyOf_9075b : meOK yJ7_copyOf_9075b cJ7_copyOf_9075b 3 (some (.array .byte)) 2 := ⟨codeAt_in (k := 444) (by decide +kernel), List.mem_of_getElem? (i := 21) (by decide +kernel), by decide +kernel, by decide +kernel, by decide +kernel, by decide +kernel⟩
theorem ms_J7_copyOf_9075b : Cond.static yJ7_copyOf_9075b ∈ lw_tbl := List.mem_of_getElem? (i := 443) (by decide +kernel)
theorem me_J7_checkLength_df160 : meOK yJ7_checkLength_df160 cJ7_checkLength_df160 2 none 2 := ⟨codeAt_in (k := 598) (by decide +kernel), List.mem_of_getElem? (i := 21) (by decide +kernel), by decide +kernel, by decide +kernel, by decide +kernel, by decide +kernel⟩
theorem ms_J7_checkLength_df160 : Cond.static yJ7_checkLength_df160 ∈ lw_tbl := List.mem_of_getElem? (i := 597) (by decide +kernel)
theorem me_J7_copyOfRange_39247 : meOK yJ7_copyOfRange_39247 cJ7_copyOfRange_39247 3 (some (.array .byte)) 3 := ⟨codeAt_in (k := 592) (by decide +kernel), List.mem_of_getElem? (i := 21) (by decide +kernel), by decide +kernel, by decide +kernel, by decide +kernel, by decide +kernel⟩
theorem ms_J7_copyOfRange_39247 : Cond.static yJ7_copyOfRange_39247 ∈ lw_tbl := List.mem_of_getElem? (i := 591) (by decide +kernel)
theorem me_J7_copyOfRangeByte_39247 : meOK yJ7_copyOfRangeByte_39247 cJ7_copyOfRangeByte_39247 5 (some (.array .byte)) 3 := ⟨codeAt_in (k := 595) (by decide +kernel), List.mem_of_getElem? (i := 21) (by decide +kernel), by decide +kernel, by decide +kernel, by decide +kernel, by decide +kernel⟩
theorem ms_J7_copyOfRangeByte_39247 : Cond.static yJ7_copyOfRangeByte_39247 ∈ lw_tbl := List.mem_of_getElem? (i := 594) (by decide +kernel)
theorem me_J8_newLength_cabcc : meOK yJ8_newLength_cabcc cJ8_newLength_cabcc 4 (some .int) 3 := ⟨codeAt_in (k := 435) (by decide +kernel), List.mem_of_getElem? (i := 19) (by decide +kernel), by decide +kernel, by decide +kernel, by decide +kernel, by decide +kernel⟩
theorem ms_J8_newLength_cabcc : Cond.static yJ8_newLength_cabcc ∈ lw_tbl := List.mem_of_getElem? (i := 434) (by decide +kernel)
theorem me_J8_hugeLength_7cf53 : meOK yJ8_hugeLength_7cf53 cJ8_hugeLength_7cf53 3 (some .int) 2 := ⟨codeAt_in (k := 440) (by decide +kernel), List.mem_of_getElem? (i := 19) (by decide +kernel), by decide +kernel, by decide +kernel, by decide +kernel, by decide +kernel⟩
theorem ms_J8_hugeLength_7cf53 : Cond.static yJ8_hugeLength_7cf53 ∈ lw_tbl := List.mem_of_getElem? (i := 439) (by decide +kernel)
theorem me_J3_checkIndex_8e157 : meOK yJ3_checkIndex_8e157 cJ3_checkIndex_8e157 3 (some .int) 3 := ⟨codeAt_in (k := 643) (by decide +kernel), List.mem_of_getElem? (i := 23) (by decide +kernel), by decide +kernel, by decide +kernel, by decide +kernel, by decide +kernel⟩
theorem ms_J3_checkIndex_8e157 : Cond.static yJ3_checkIndex_8e157 ∈ lw_tbl := List.mem_of_getElem? (i := 642) (by decide +kernel)
theorem me_J3_checkFromToIndex_8c36e : meOK yJ3_checkFromToIndex_8c36e cJ3_checkFromToIndex_8c36e 4 (some .int) 4 := ⟨codeAt_in (k := 479) (by decide +kernel), List.mem_of_getElem? (i := 23) (by decide +kernel), by decide +kernel, by decide +kernel, by decide +kernel, by decide +kernel⟩
theorem ms_J3_checkFromToIndex_8c36e : Cond.static yJ3_checkFromToIndex_8c36e ∈ lw_tbl := List.mem_of_getElem? (i := 478) (by decide +kernel)
theorem me_J3_checkFromIndexSize_8c36e : meOK yJ3_checkFromIndexSize_8c36e cJ3_checkFromIndexSize_8c36e 4 (some .int) 4 := ⟨codeAt_in (k := 525) (by decide +kernel), List.mem_of_getElem? (i := 23) (by decide +kernel), by decide +kernel, by decide +kernel, by decide +kernel, by decide +kernel⟩
theorem ms_J3_checkFromIndexSize_8c36e : Cond.static yJ3_checkFromIndexSize_8c36e ∈ lw_tbl := List.mem_of_getElem? (i := 524) (by decide +kernel)
theorem me_L_at : meOK yL_at cL_at 2 (some .int) 2 := ⟨codeAt_in (k := 186) (by decide +kernel), List.mem_of_getElem? (i := 9) (by decide +kernel), by decide +kernel, by decide +kernel, by decide +kernel, by decide +kernel⟩
theorem ms_L_at : Cond.static yL_at ∈ lw_tbl := List.mem_of_getElem? (i := 185) (by decide +kernel)
theorem me_L_text : meOK yL_text cL_text 3 none 2 := ⟨codeAt_in (k := 625) (by decide +kernel), List.mem_of_getElem? (i := 9) (by decide +kernel), by decide +kernel, by decide +kernel, by decide +kernel, by decide +kernel⟩
theorem ms_L_text : Cond.static yL_text ∈ lw_tbl := List.mem_of_getElem? (i := 624) (by decide +kernel)
theorem me_L_build : meOK yL_build cL_build 3 (some (.object "NameThrownBack")) 1 := ⟨codeAt_in (k := 189) (by decide +kernel), List.mem_of_getElem? (i := 9) (by decide +kernel), by decide +kernel, by decide +kernel, by decide +kernel, by decide +kernel⟩
theorem ms_L_build : Cond.static yL_build ∈ lw_tbl := List.mem_of_getElem? (i := 188) (by decide +kernel)
theorem me_L_plain : meOK yL_plain cL_plain 1 (some .boolean) 1 := ⟨codeAt_in (k := 380) (by decide +kernel), List.mem_of_getElem? (i := 9) (by decide +kernel), by decide +kernel, by decide +kernel, by decide +kernel, by decide +kernel⟩
theorem ms_L_plain : Cond.static yL_plain ∈ lw_tbl := List.mem_of_getElem? (i := 379) (by decide +kernel)
theorem me_L_many : meOK yL_many cL_many 1 (some .int) 1 := ⟨codeAt_in (k := 354) (by decide +kernel), List.mem_of_getElem? (i := 9) (by decide +kernel), by decide +kernel, by decide +kernel, by decide +kernel, by decide +kernel⟩
theorem ms_L_many : Cond.static yL_many ∈ lw_tbl := List.mem_of_getElem? (i := 353) (by decide +kernel)
theorem me_L_sea : meOK yL_sea cL_sea 1 (some .int) 1 := ⟨codeAt_in (k := 350) (by decide +kernel), List.mem_of_getElem? (i := 9) (by decide +kernel), by decide +kernel, by decide +kernel, by decide +kernel, by decide +kernel⟩
theorem ms_L_sea : Cond.static yL_sea ∈ lw_tbl := List.mem_of_getElem? (i := 349) (by decide +kernel)
theorem me_L_tide : meOK yL_tide cL_tide 1 (some .int) 1 := ⟨codeAt_in (k := 347) (by decide +kernel), List.mem_of_getElem? (i := 9) (by decide +kernel), by decide +kernel, by decide +kernel, by decide +kernel, by decide +kernel⟩
theorem ms_L_tide : Cond.static yL_tide ∈ lw_tbl := List.mem_of_getElem? (i := 346) (by decide +kernel)
theorem me_L_length : meOK yL_length cL_length 1 (some .int) 1 := ⟨codeAt_in (k := 749) (by decide +kernel), List.mem_of_getElem? (i := 9) (by decide +kernel), by decide +kernel, by decide +kernel, by decide +kernel, by decide +kernel⟩
theorem ms_L_length : Cond.static yL_length ∈ lw_tbl := List.mem_of_getElem? (i := 748) (by decide +kernel)
theorem me_L_thing : meOK yL_thing cL_thing 2 (some .int) 2 := ⟨codeAt_in (k := 765) (by decide +kernel), List.mem_of_getElem? (i := 9) (by decide +kernel), by decide +kernel, by decide +kernel, by decide +kernel, by decide +kernel⟩
theorem ms_L_thing : Cond.static yL_thing ∈ lw_tbl := List.mem_of_getElem? (i := 764) (by decide +kernel)
theorem me_L_kind : meOK yL_kind cL_kind 2 (some .int) 2 := ⟨codeAt_in (k := 357) (by decide +kernel), List.mem_of_getElem? (i := 9) (by decide +kernel), by decide +kernel, by decide +kernel, by decide +kernel, by decide +kernel⟩
theorem ms_L_kind : Cond.static yL_kind ∈ lw_tbl := List.mem_of_getElem? (i := 356) (by decide +kernel)
theorem me_L_more : meOK yL_more cL_more 2 (some .int) 2 := ⟨codeAt_in (k := 360) (by decide +kernel), List.mem_of_getElem? (i := 9) (by decide +kernel), by decide +kernel, by decide +kernel, by decide +kernel, by decide +kernel⟩
theorem ms_L_more : Cond.static yL_more ∈ lw_tbl := List.mem_of_getElem? (i := 359) (by decide +kernel)
theorem me_L_known : meOK yL_known cL_known 2 (some .int) 2 := ⟨codeAt_in (k := 363) (by decide +kernel), List.mem_of_getElem? (i := 9) (by decide +kernel), by decide +kernel, by decide +kernel, by decide +kernel, by decide +kernel⟩
theorem ms_L_known : Cond.static yL_known ∈ lw_tbl := List.mem_of_getElem? (i := 362) (by decide +kernel)
theorem me_L_kept : meOK yL_kept cL_kept 2 (some .int) 2 := ⟨codeAt_in (k := 374) (by decide +kernel), List.mem_of_getElem? (i := 9) (by decide +kernel), by decide +kernel, by decide +kernel, by decide +kernel, by decide +kernel⟩
theorem ms_L_kept : Cond.static yL_kept ∈ lw_tbl := List.mem_of_getElem? (i := 373) (by decide +kernel)
theorem me_L_luck : meOK yL_luck cL_luck 2 (some .int) 2 := ⟨codeAt_in (k := 377) (by decide +kernel), List.mem_of_getElem? (i := 9) (by decide +kernel), by decide +kernel, by decide +kernel, by decide +kernel, by decide +kernel⟩
theorem ms_L_luck : Cond.static yL_luck ∈ lw_tbl := List.mem_of_getElem? (i := 376) (by decide +kernel)
theorem me_L_held : meOK yL_held cL_held 4 (some .int) 3 := ⟨codeAt_in (k := 791) (by decide +kernel), List.mem_of_getElem? (i := 9) (by decide +kernel), by decide +kernel, by decide +kernel, by decide +kernel, by decide +kernel⟩
theorem ms_L_held : Cond.static yL_held ∈ lw_tbl := List.mem_of_getElem? (i := 790) (by decide +kernel)
theorem me_L_start : meOK yL_start cL_start 3 none 2 := ⟨codeAt_in (k := 776) (by decide +kernel), List.mem_of_getElem? (i := 9) (by decide +kernel), by decide +kernel, by decide +kernel, by decide +kernel, by decide +kernel⟩
theorem ms_L_start : Cond.static yL_start ∈ lw_tbl := List.mem_of_getElem? (i := 775) (by decide +kernel)
theorem me_L_lets : meOK yL_lets cL_lets 16 (some .int) 4 := ⟨codeAt_in (k := 782) (by decide +kernel), List.mem_of_getElem? (i := 9) (by decide +kernel), by decide +kernel, by decide +kernel, by decide +kernel, by decide +kernel⟩
theorem ms_L_lets : Cond.static yL_lets ∈ lw_tbl := List.mem_of_getElem? (i := 781) (by decide +kernel)
theorem me_L_lucks : meOK yL_lucks cL_lucks 9 (some .long) 4 := ⟨codeAt_in (k := 809) (by decide +kernel), List.mem_of_getElem? (i := 9) (by decide +kernel), by decide +kernel, by decide +kernel, by decide +kernel, by decide +kernel⟩
theorem ms_L_lucks : Cond.static yL_lucks ∈ lw_tbl := List.mem_of_getElem? (i := 808) (by decide +kernel)
theorem me_L_takes : meOK yL_takes cL_takes 7 (some .long) 3 := ⟨codeAt_in (k := 818) (by decide +kernel), List.mem_of_getElem? (i := 9) (by decide +kernel), by decide +kernel, by decide +kernel, by decide +kernel, by decide +kernel⟩
theorem ms_L_takes : Cond.static yL_takes ∈ lw_tbl := List.mem_of_getElem? (i := 817) (by decide +kernel)
theorem me_L_land : meOK yL_land cL_land 5 (some .int) 4 := ⟨codeAt_in (k := 779) (by decide +kernel), List.mem_of_getElem? (i := 9) (by decide +kernel), by decide +kernel, by decide +kernel, by decide +kernel, by decide +kernel⟩
theorem ms_L_land : Cond.static yL_land ∈ lw_tbl := List.mem_of_getElem? (i := 778) (by decide +kernel)
theorem me_L_lesson : meOK yL_lesson cL_lesson 10 (some .long) 4 := ⟨codeAt_in (k := 815) (by decide +kernel), List.mem_of_getElem? (i := 9) (by decide +kernel), by decide +kernel, by decide +kernel, by decide +kernel, by decide +kernel⟩
theorem ms_L_lesson : Cond.static yL_lesson ∈ lw_tbl := List.mem_of_getElem? (i := 814) (by decide +kernel)
theorem me_L_pass : meOK yL_pass cL_pass 4 (some .int) 2 := ⟨codeAt_in (k := 821) (by decide +kernel), List.mem_of_getElem? (i := 9) (by decide +kernel), by decide +kernel, by decide +kernel, by decide +kernel, by decide +kernel⟩
theorem ms_L_pass : Cond.static yL_pass ∈ lw_tbl := List.mem_of_getElem? (i := 820) (by decide +kernel)
theorem me_L_same : meOK yL_same cL_same 5 (some .boolean) 3 := ⟨codeAt_in (k := 824) (by decide +kernel), List.mem_of_getElem? (i := 9) (by decide +kernel), by decide +kernel, by decide +kernel, by decide +kernel, by decide +kernel⟩
theorem ms_L_same : Cond.static yL_same ∈ lw_tbl := List.mem_of_getElem? (i := 823) (by decide +kernel)
theorem lk_L_30 : Cond.methodLink RL 30 yX4_shore ∈ lw_tbl := List.mem_of_getElem? (i := 27) (by decide +kernel)
theorem lk_X4_70 : Cond.methodLink RX4 70 yX4_isSet ∈ lw_tbl := List.mem_of_getElem? (i := 31) (by decide +kernel)
theorem lk_L_56 : Cond.methodLink RL 56 yX4_put ∈ lw_tbl := List.mem_of_getElem? (i := 35) (by decide +kernel)
theorem lk_X4_95 : Cond.methodLink RX4 95 yX0_has ∈ lw_tbl := List.mem_of_getElem? (i := 39) (by decide +kernel)
theorem lk_X4_111 : Cond.methodLink RX4 111 yX4_swap ∈ lw_tbl := List.mem_of_getElem? (i := 43) (by decide +kernel)
theorem lk_X4_120 : Cond.methodLink RX4 120 yX4_at ∈ lw_tbl := List.mem_of_getElem? (i := 46) (by decide +kernel)
theorem lk_X4_204 : Cond.methodLink RX4 204 yX4_set ∈ lw_tbl := List.mem_of_getElem? (i := 49) (by decide +kernel)
theorem lk_L_164 : Cond.methodLink RL 164 yX4_told ∈ lw_tbl := List.mem_of_getElem? (i := 52) (by decide +kernel)
theorem lk_X4_130 : Cond.methodLink RX4 130 yX0_nameless ∈ lw_tbl := List.mem_of_getElem? (i := 56) (by decide +kernel)
theorem ln_X0_47 : Cond.methodLinkNest RX0 47 yX4_at RX4 ∈ lw_tbl := List.mem_of_getElem? (i := 60) (by decide +kernel)
theorem lk_X4_133 : Cond.methodLink RX4 133 yX0_takesOf ∈ lw_tbl := List.mem_of_getElem? (i := 61) (by decide +kernel)
theorem lk_X0_71 : Cond.methodLink RX0 71 yX0_says ∈ lw_tbl := List.mem_of_getElem? (i := 65) (by decide +kernel)
theorem ln_X0_51 : Cond.methodLinkNest RX0 51 yX4_set RX4 ∈ lw_tbl := List.mem_of_getElem? (i := 69) (by decide +kernel)
theorem lk_X0_55 : Cond.methodLink RX0 55 yJ6_bitCount_0f7a4 ∈ lw_tbl := List.mem_of_getElem? (i := 70) (by decide +kernel)
theorem lk_X0_61 : Cond.methodLink RX0 61 yX3_value ∈ lw_tbl := List.mem_of_getElem? (i := 76) (by decide +kernel)
theorem ln_X3_29 : Cond.methodLinkNest RX3 29 yX4_at RX4 ∈ lw_tbl := List.mem_of_getElem? (i := 80) (by decide +kernel)
theorem ln_X3_21 : Cond.methodLinkNest RX3 21 yX4_set RX4 ∈ lw_tbl := List.mem_of_getElem? (i := 81) (by decide +kernel)
theorem lk_X3_33 : Cond.methodLink RX3 33 yX3_ofTwo ∈ lw_tbl := List.mem_of_getElem? (i := 82) (by decide +kernel)
theorem ln_X0_67 : Cond.methodLinkNest RX0 67 yX4_bounded RX4 ∈ lw_tbl := List.mem_of_getElem? (i := 85) (by decide +kernel)
theorem lk_L_169 : Cond.methodLink RL 169 yX4_lands ∈ lw_tbl := List.mem_of_getElem? (i := 88) (by decide +kernel)
theorem lk_X4_98 : Cond.methodLink RX4 98 yX4_isThing ∈ lw_tbl := List.mem_of_getElem? (i := 92) (by decide +kernel)
theorem lk_X4_136 : Cond.methodLink RX4 136 yX0_letsGo ∈ lw_tbl := List.mem_of_getElem? (i := 95) (by decide +kernel)
theorem lk_X0_74 : Cond.methodLink RX0 74 yJ9_floorMod_7cf53 ∈ lw_tbl := List.mem_of_getElem? (i := 99) (by decide +kernel)
theorem ln_X0_80 : Cond.methodLinkNest RX0 80 yX4_numbered RX4 ∈ lw_tbl := List.mem_of_getElem? (i := 102) (by decide +kernel)
theorem lk_X4_157 : Cond.methodLink RX4 157 yX4_holds ∈ lw_tbl := List.mem_of_getElem? (i := 105) (by decide +kernel)
theorem lk_X0_83 : Cond.methodLink RX0 83 yJ9_max_7cf53 ∈ lw_tbl := List.mem_of_getElem? (i := 108) (by decide +kernel)
theorem lk_X4_140 : Cond.methodLink RX4 140 yX0_lucksBy ∈ lw_tbl := List.mem_of_getElem? (i := 111) (by decide +kernel)
theorem ln_X0_86 : Cond.methodLinkNest RX0 86 yX4_holds RX4 ∈ lw_tbl := List.mem_of_getElem? (i := 115) (by decide +kernel)
theorem lk_L_199 : Cond.methodLink RL 199 yX4_land ∈ lw_tbl := List.mem_of_getElem? (i := 116) (by decide +kernel)
theorem lk_X4_143 : Cond.methodLink RX4 143 yX0_landing ∈ lw_tbl := List.mem_of_getElem? (i := 120) (by decide +kernel)
theorem lk_X0_90 : Cond.methodLink RX0 90 yX0_has ∈ lw_tbl := List.mem_of_getElem? (i := 124) (by decide +kernel)
theorem ln_X0_94 : Cond.methodLinkNest RX0 94 yX4_isThing RX4 ∈ lw_tbl := List.mem_of_getElem? (i := 125) (by decide +kernel)
theorem lk_X0_97 : Cond.methodLink RX0 97 yX0_letsGo ∈ lw_tbl := List.mem_of_getElem? (i := 126) (by decide +kernel)
theorem lk_X0_100 : Cond.methodLink RX0 100 yX0_lucksBy ∈ lw_tbl := List.mem_of_getElem? (i := 127) (by decide +kernel)
theorem lk_L_204 : Cond.methodLink RL 204 yX4_teach ∈ lw_tbl := List.mem_of_getElem? (i := 128) (by decide +kernel)
theorem lk_X4_146 : Cond.methodLink RX4 146 yX0_learns ∈ lw_tbl := List.mem_of_getElem? (i := 132) (by decide +kernel)
theorem lk_X0_103 : Cond.methodLink RX0 103 yX0_takesOf ∈ lw_tbl := List.mem_of_getElem? (i := 136) (by decide +kernel)
theorem ln_X0_106 : Cond.methodLinkNest RX0 106 yX4_leastOf RX4 ∈ lw_tbl := List.mem_of_getElem? (i := 137) (by decide +kernel)
theorem lk_X4_149 : Cond.methodLink RX4 149 yX0_isTold ∈ lw_tbl := List.mem_of_getElem? (i := 140) (by decide +kernel)
theorem lk_L_212 : Cond.methodLink RL 212 yX4_tide ∈ lw_tbl := List.mem_of_getElem? (i := 144) (by decide +kernel)
theorem lk_X4_153 : Cond.methodLink RX4 153 yX0_washes ∈ lw_tbl := List.mem_of_getElem? (i := 148) (by decide +kernel)
theorem lk_X0_109 : Cond.methodLink RX0 109 yX0_isTold ∈ lw_tbl := List.mem_of_getElem? (i := 152) (by decide +kernel)
theorem lk_L_183 : Cond.methodLink RL 183 yX4_talk ∈ lw_tbl := List.mem_of_getElem? (i := 153) (by decide +kernel)
theorem lk_L_186 : Cond.methodLink RL 186 yX4_which ∈ lw_tbl := List.mem_of_getElem? (i := 157) (by decide +kernel)
theorem lk_X4_193 : Cond.methodLink RX4 193 yX4_bounded ∈ lw_tbl := List.mem_of_getElem? (i := 161) (by decide +kernel)
theorem lk_L_189 : Cond.methodLink RL 189 yX4_lessons ∈ lw_tbl := List.mem_of_getElem? (i := 162) (by decide +kernel)
theorem lk_X4_164 : Cond.methodLink RX4 164 yX0_become ∈ lw_tbl := List.mem_of_getElem? (i := 166) (by decide +kernel)
theorem lk_X4_196 : Cond.methodLink RX4 196 yX4_lessonsTo ∈ lw_tbl := List.mem_of_getElem? (i := 170) (by decide +kernel)
theorem lk_X4_200 : Cond.methodLink RX4 200 yX4_lessonsFrom ∈ lw_tbl := List.mem_of_getElem? (i := 173) (by decide +kernel)
theorem lk_L_192 : Cond.methodLink RL 192 yX4_when ∈ lw_tbl := List.mem_of_getElem? (i := 176) (by decide +kernel)
theorem lk_X4_208 : Cond.methodLink RX4 208 yX0_knownToAny ∈ lw_tbl := List.mem_of_getElem? (i := 180) (by decide +kernel)
theorem lk_L_76 : Cond.methodLink RL 76 yL_at ∈ lw_tbl := List.mem_of_getElem? (i := 184) (by decide +kernel)
theorem lk_L_175 : Cond.methodLink RL 175 yL_build ∈ lw_tbl := List.mem_of_getElem? (i := 187) (by decide +kernel)
theorem lk_L_23 : Cond.methodLink RL 23 yX4_init ∈ lw_tbl := List.mem_of_getElem? (i := 192) (by decide +kernel)
theorem lk_X4_9 : Cond.methodLink RX4 9 yX3_init ∈ lw_tbl := List.mem_of_getElem? (i := 200) (by decide +kernel)
theorem ln_X4_18 : Cond.methodLinkNest RX4 18 yX1_init RX4 ∈ lw_tbl := List.mem_of_getElem? (i := 221) (by decide +kernel)
theorem lk_X4_25 : Cond.methodLink RX4 25 yX0_init ∈ lw_tbl := List.mem_of_getElem? (i := 258) (by decide +kernel)
theorem ln_X4_44 : Cond.methodLinkNest RX4 44 yX2_init RX4 ∈ lw_tbl := List.mem_of_getElem? (i := 308) (by decide +kernel)
theorem lk_L_24 : Cond.methodLink RL 24 yL_tide ∈ lw_tbl := List.mem_of_getElem? (i := 345) (by decide +kernel)
theorem lk_L_34 : Cond.methodLink RL 34 yL_sea ∈ lw_tbl := List.mem_of_getElem? (i := 348) (by decide +kernel)
theorem lk_L_37 : Cond.methodLink RL 37 yL_many ∈ lw_tbl := List.mem_of_getElem? (i := 352) (by decide +kernel)
theorem lk_L_40 : Cond.methodLink RL 40 yL_kind ∈ lw_tbl := List.mem_of_getElem? (i := 355) (by decide +kernel)
theorem lk_L_44 : Cond.methodLink RL 44 yL_more ∈ lw_tbl := List.mem_of_getElem? (i := 358) (by decide +kernel)
theorem lk_L_47 : Cond.methodLink RL 47 yL_known ∈ lw_tbl := List.mem_of_getElem? (i := 361) (by decide +kernel)
theorem lk_L_50 : Cond.methodLink RL 50 yX4_fisher ∈ lw_tbl := List.mem_of_getElem? (i := 364) (by decide +kernel)
theorem lk_X4_105 : Cond.methodLink RX4 105 yX0_comes ∈ lw_tbl := List.mem_of_getElem? (i := 368) (by decide +kernel)
theorem lk_L_53 : Cond.methodLink RL 53 yL_kept ∈ lw_tbl := List.mem_of_getElem? (i := 372) (by decide +kernel)
theorem lk_L_60 : Cond.methodLink RL 60 yL_luck ∈ lw_tbl := List.mem_of_getElem? (i := 375) (by decide +kernel)
theorem lk_L_63 : Cond.methodLink RL 63 yL_plain ∈ lw_tbl := List.mem_of_getElem? (i := 378) (by decide +kernel)
theorem lk_L_69 : Cond.methodLink RL 69 yJ4_init_da8c8 ∈ lw_tbl := List.mem_of_getElem? (i := 383) (by decide +kernel)
theorem lk_J4_1 : Cond.methodLink RJ4 1 yJ5_init_d00df ∈ lw_tbl := List.mem_of_getElem? (i := 386) (by decide +kernel)
theorem lk_J5_26 : Cond.methodLink RJ5 26 yJ2_newBytesFor_77867 ∈ lw_tbl := List.mem_of_getElem? (i := 392) (by decide +kernel)
theorem lk_J2_11 : Cond.methodLink RJ2 11 yJ2_newBytesLength_0f7a4 ∈ lw_tbl := List.mem_of_getElem? (i := 395) (by decide +kernel)
theorem lk_L_72 : Cond.methodLink RL 72 yJ4_append_15ec4 ∈ lw_tbl := List.mem_of_getElem? (i := 414) (by decide +kernel)
theorem lk_J4_29 : Cond.methodLink RJ4 29 yJ5_append_cf1ce ∈ lw_tbl := List.mem_of_getElem? (i := 418) (by decide +kernel)
theorem lk_J5_204 : Cond.methodLink RJ5 204 yJ5_appendNull_278bc ∈ lw_tbl := List.mem_of_getElem? (i := 421) (by decide +kernel)
theorem lk_J5_100 : Cond.methodLink RJ5 100 yJ5_ensureCapacityInternal_d00df ∈ lw_tbl := List.mem_of_getElem? (i := 425) (by decide +kernel)
theorem lk_J5_104 : Cond.methodLink RJ5 104 yJ5_newCapacity_0f7a4 ∈ lw_tbl := List.mem_of_getElem? (i := 429) (by decide +kernel)
theorem lk_J5_114 : Cond.methodLink RJ5 114 yJ8_newLength_cabcc ∈ lw_tbl := List.mem_of_getElem? (i := 433) (by decide +kernel)
theorem lk_J8_194 : Cond.methodLink RJ8 194 yJ9_max_7cf53 ∈ lw_tbl := List.mem_of_getElem? (i := 436) (by decide +kernel)
theorem lk_J8_201 : Cond.methodLink RJ8 201 yJ8_hugeLength_7cf53 ∈ lw_tbl := List.mem_of_getElem? (i := 438) (by decide +kernel)
theorem lk_J5_108 : Cond.methodLink RJ5 108 yJ7_copyOf_9075b ∈ lw_tbl := List.mem_of_getElem? (i := 442) (by decide +kernel)
theorem lk_J7_304 : Cond.methodLink RJ7 304 yJ9_min_7cf53 ∈ lw_tbl := List.mem_of_getElem? (i := 452) (by decide +kernel)
theorem lk_J5_83 : Cond.methodLink RJ5 83 yJ5_isLatin1_aae02 ∈ lw_tbl := List.mem_of_getElem? (i := 458) (by decide +kernel)
theorem lk_J5_226 : Cond.methodLink RJ5 226 yJ2_putCharsAt_cd4e5 ∈ lw_tbl := List.mem_of_getElem? (i := 463) (by decide +kernel)
theorem lk_J2_96 : Cond.methodLink RJ2 96 yJ2_checkBoundsBeginEnd_d044e ∈ lw_tbl := List.mem_of_getElem? (i := 466) (by decide +kernel)
theorem lk_J2_48 : Cond.methodLink RJ2 48 yJ2_length_9d52b ∈ lw_tbl := List.mem_of_getElem? (i := 469) (by decide +kernel)
theorem lk_J2_241 : Cond.methodLink RJ2 241 yJ0_checkBoundsBeginEnd_23922 ∈ lw_tbl := List.mem_of_getElem? (i := 472) (by decide +kernel)
theorem lk_J0_1062 : Cond.methodLink RJ0 1062 yJ3_checkFromToIndex_8c36e ∈ lw_tbl := List.mem_of_getElem? (i := 477) (by decide +kernel)
theorem lk_J2_111 : Cond.methodLink RJ2 111 yJ2_putChar_b72d1 ∈ lw_tbl := List.mem_of_getElem? (i := 480) (by decide +kernel)
theorem lk_J5_32 : Cond.methodLink RJ5 32 yJ0_length_8abf5 ∈ lw_tbl := List.mem_of_getElem? (i := 489) (by decide +kernel)
theorem lk_J0_335 : Cond.methodLink RJ0 335 yJ0_coder_7d493 ∈ lw_tbl := List.mem_of_getElem? (i := 493) (by decide +kernel)
theorem lk_J5_208 : Cond.methodLink RJ5 208 yJ5_putStringAt_47b60 ∈ lw_tbl := List.mem_of_getElem? (i := 498) (by decide +kernel)
theorem lk_J5_397 : Cond.methodLink RJ5 397 yJ5_inflateIfNeededFor_a7421 ∈ lw_tbl := List.mem_of_getElem? (i := 502) (by decide +kernel)
theorem lk_J5_40 : Cond.methodLink RJ5 40 yJ0_coder_7d493 ∈ lw_tbl := List.mem_of_getElem? (i := 506) (by decide +kernel)
theorem lk_J5_195 : Cond.methodLink RJ5 195 yJ5_inflate_da8c8 ∈ lw_tbl := List.mem_of_getElem? (i := 507) (by decide +kernel)
theorem lk_J5_125 : Cond.methodLink RJ5 125 yJ1_inflate_0e8fd ∈ lw_tbl := List.mem_of_getElem? (i := 511) (by decide +kernel)
theorem lk_J1_240 : Cond.methodLink RJ1 240 yJ2_inflate_0e8fd ∈ lw_tbl := List.mem_of_getElem? (i := 514) (by decide +kernel)
theorem lk_J2_173 : Cond.methodLink RJ2 173 yJ2_checkBoundsOffCount_d044e ∈ lw_tbl := List.mem_of_getElem? (i := 517) (by decide +kernel)
theorem lk_J2_419 : Cond.methodLink RJ2 419 yJ0_checkBoundsOffCount_cabcc ∈ lw_tbl := List.mem_of_getElem? (i := 520) (by decide +kernel)
theorem lk_J0_1065 : Cond.methodLink RJ0 1065 yJ3_checkFromIndexSize_8c36e ∈ lw_tbl := List.mem_of_getElem? (i := 523) (by decide +kernel)
theorem lk_J5_399 : Cond.methodLink RJ5 399 yJ0_getBytes_840e7 ∈ lw_tbl := List.mem_of_getElem? (i := 526) (by decide +kernel)
theorem lk_J0_106 : Cond.methodLink RJ0 106 yJ1_inflate_0e8fd ∈ lw_tbl := List.mem_of_getElem? (i := 531) (by decide +kernel)
theorem lk_L_79 : Cond.methodLink RL 79 yJ4_append_bf812 ∈ lw_tbl := List.mem_of_getElem? (i := 532) (by decide +kernel)
theorem lk_J4_53 : Cond.methodLink RJ4 53 yJ5_append_c97b9 ∈ lw_tbl := List.mem_of_getElem? (i := 536) (by decide +kernel)
theorem lk_J5_245 : Cond.methodLink RJ5 245 yJ6_stringSize_0f7a4 ∈ lw_tbl := List.mem_of_getElem? (i := 539) (by decide +kernel)
theorem lk_J5_248 : Cond.methodLink RJ5 248 yJ6_getChars_ba4f3 ∈ lw_tbl := List.mem_of_getElem? (i := 542) (by decide +kernel)
theorem lk_J5_251 : Cond.methodLink RJ5 251 yJ2_getChars_46870 ∈ lw_tbl := List.mem_of_getElem? (i := 549) (by decide +kernel)
theorem lk_J2_393 : Cond.methodLink RJ2 393 yJ2_getChars_ba4f3 ∈ lw_tbl := List.mem_of_getElem? (i := 552) (by decide +kernel)
theorem lk_L_94 : Cond.methodLink RL 94 yJ4_toString_0e30d ∈ lw_tbl := List.mem_of_getElem? (i := 563) (by decide +kernel)
theorem lk_J4_137 : Cond.methodLink RJ4 137 yJ0_init_81219 ∈ lw_tbl := List.mem_of_getElem? (i := 569) (by decide +kernel)
theorem lk_J0_489 : Cond.methodLink RJ0 489 yJ0_init_db425 ∈ lw_tbl := List.mem_of_getElem? (i := 572) (by decide +kernel)
theorem lk_J0_552 : Cond.methodLink RJ0 552 yJ5_getValue_6d5f1 ∈ lw_tbl := List.mem_of_getElem? (i := 576) (by decide +kernel)
theorem lk_J0_549 : Cond.methodLink RJ0 549 yJ5_length_8abf5 ∈ lw_tbl := List.mem_of_getElem? (i := 581) (by decide +kernel)
theorem lk_J4_343 : Cond.methodLink RJ4 343 yJ5_length_8abf5 ∈ lw_tbl := List.mem_of_getElem? (i := 587) (by decide +kernel)
theorem lk_J0_1047 : Cond.methodLink RJ0 1047 yJ5_isLatin1_aae02 ∈ lw_tbl := List.mem_of_getElem? (i := 589) (by decide +kernel)
theorem lk_J0_54 : Cond.methodLink RJ0 54 yJ7_copyOfRange_39247 ∈ lw_tbl := List.mem_of_getElem? (i := 590) (by decide +kernel)
theorem lk_J7_339 : Cond.methodLink RJ7 339 yJ7_copyOfRangeByte_39247 ∈ lw_tbl := List.mem_of_getElem? (i := 593) (by decide +kernel)
theorem lk_J7_343 : Cond.methodLink RJ7 343 yJ7_checkLength_df160 ∈ lw_tbl := List.mem_of_getElem? (i := 596) (by decide +kernel)
theorem lk_J0_1051 : Cond.methodLink RJ0 1051 yJ2_compress_39247 ∈ lw_tbl := List.mem_of_getElem? (i := 599) (by decide +kernel)
theorem lk_J2_123 : Cond.methodLink RJ2 123 yJ2_compress_5af95 ∈ lw_tbl := List.mem_of_getElem? (i := 602) (by decide +kernel)
theorem lk_J2_71 : Cond.methodLink RJ2 71 yJ2_getChar_3b067 ∈ lw_tbl := List.mem_of_getElem? (i := 605) (by decide +kernel)
theorem lk_J2_126 : Cond.methodLink RJ2 126 yJ7_copyOfRange_39247 ∈ lw_tbl := List.mem_of_getElem? (i := 608) (by decide +kernel)
theorem lk_J0_47 : Cond.methodLink RJ0 47 yJ2_coderFromArrayLen_85cad ∈ lw_tbl := List.mem_of_getElem? (i := 609) (by decide +kernel)
theorem lk_L_98 : Cond.methodLink RL 98 yL_text ∈ lw_tbl := List.mem_of_getElem? (i := 623) (by decide +kernel)
theorem lk_L_7 : Cond.methodLink RL 7 yJ0_length_8abf5 ∈ lw_tbl := List.mem_of_getElem? (i := 626) (by decide +kernel)
theorem lk_L_13 : Cond.methodLink RL 13 yJ0_charAt_5068e ∈ lw_tbl := List.mem_of_getElem? (i := 627) (by decide +kernel)
theorem lk_J0_492 : Cond.methodLink RJ0 492 yJ0_isLatin1_aae02 ∈ lw_tbl := List.mem_of_getElem? (i := 631) (by decide +kernel)
theorem lk_J0_495 : Cond.methodLink RJ0 495 yJ1_charAt_3b067 ∈ lw_tbl := List.mem_of_getElem? (i := 635) (by decide +kernel)
theorem lk_J1_9 : Cond.methodLink RJ1 9 yJ0_checkIndex_df160 ∈ lw_tbl := List.mem_of_getElem? (i := 638) (by decide +kernel)
theorem lk_J0_1059 : Cond.methodLink RJ0 1059 yJ3_checkIndex_8e157 ∈ lw_tbl := List.mem_of_getElem? (i := 641) (by decide +kernel)
theorem lk_J0_498 : Cond.methodLink RJ0 498 yJ2_charAt_3b067 ∈ lw_tbl := List.mem_of_getElem? (i := 644) (by decide +kernel)
theorem lk_J2_67 : Cond.methodLink RJ2 67 yJ2_checkIndex_2214a ∈ lw_tbl := List.mem_of_getElem? (i := 647) (by decide +kernel)
theorem lk_J2_414 : Cond.methodLink RJ2 414 yJ0_checkIndex_df160 ∈ lw_tbl := List.mem_of_getElem? (i := 650) (by decide +kernel)
theorem lk_L_17 : Cond.methodLink RL 17 yX4_feed ∈ lw_tbl := List.mem_of_getElem? (i := 651) (by decide +kernel)
theorem lk_X4_74 : Cond.methodLink RX4 74 yX4_isByte ∈ lw_tbl := List.mem_of_getElem? (i := 655) (by decide +kernel)
theorem lk_X4_77 : Cond.methodLink RX4 77 yX1_add ∈ lw_tbl := List.mem_of_getElem? (i := 658) (by decide +kernel)
theorem ln_X1_25 : Cond.methodLinkNest RX1 25 yX4_set RX4 ∈ lw_tbl := List.mem_of_getElem? (i := 662) (by decide +kernel)
theorem lk_L_102 : Cond.methodLink RL 102 yX4_text ∈ lw_tbl := List.mem_of_getElem? (i := 663) (by decide +kernel)
theorem lk_X4_81 : Cond.methodLink RX4 81 yX1_faultOf ∈ lw_tbl := List.mem_of_getElem? (i := 667) (by decide +kernel)
theorem lk_X1_35 : Cond.methodLink RX1 35 yX1_next ∈ lw_tbl := List.mem_of_getElem? (i := 671) (by decide +kernel)
theorem ln_X1_70 : Cond.methodLinkNest RX1 70 yX4_at RX4 ∈ lw_tbl := List.mem_of_getElem? (i := 675) (by decide +kernel)
theorem lk_X1_74 : Cond.methodLink RX1 74 yX1_isLetter ∈ lw_tbl := List.mem_of_getElem? (i := 676) (by decide +kernel)
theorem lk_X1_78 : Cond.methodLink RX1 78 yX1_endOfWord ∈ lw_tbl := List.mem_of_getElem? (i := 680) (by decide +kernel)
theorem lk_X1_82 : Cond.methodLink RX1 82 yX1_wordOf ∈ lw_tbl := List.mem_of_getElem? (i := 684) (by decide +kernel)
theorem lk_X1_97 : Cond.methodLink RX1 97 yX1_spells ∈ lw_tbl := List.mem_of_getElem? (i := 689) (by decide +kernel)
theorem lk_X1_123 : Cond.methodLink RX1 123 yJ0_length_8abf5 ∈ lw_tbl := List.mem_of_getElem? (i := 693) (by decide +kernel)
theorem lk_X1_128 : Cond.methodLink RX1 128 yJ0_charAt_5068e ∈ lw_tbl := List.mem_of_getElem? (i := 694) (by decide +kernel)
theorem lk_X1_86 : Cond.methodLink RX1 86 yX1_isDigit ∈ lw_tbl := List.mem_of_getElem? (i := 706) (by decide +kernel)
theorem lk_X1_89 : Cond.methodLink RX1 89 yX1_endOfNumber ∈ lw_tbl := List.mem_of_getElem? (i := 710) (by decide +kernel)
theorem lk_X1_92 : Cond.methodLink RX1 92 yX1_isSign ∈ lw_tbl := List.mem_of_getElem? (i := 714) (by decide +kernel)
theorem lk_X1_44 : Cond.methodLink RX1 44 yX1_readsE ∈ lw_tbl := List.mem_of_getElem? (i := 717) (by decide +kernel)
theorem lk_X1_48 : Cond.methodLink RX1 48 yX1_readsAnd ∈ lw_tbl := List.mem_of_getElem? (i := 720) (by decide +kernel)
theorem lk_X1_55 : Cond.methodLink RX1 55 yX1_readsNot ∈ lw_tbl := List.mem_of_getElem? (i := 723) (by decide +kernel)
theorem lk_X1_51 : Cond.methodLink RX1 51 yX1_write ∈ lw_tbl := List.mem_of_getElem? (i := 726) (by decide +kernel)
theorem lk_X1_58 : Cond.methodLink RX1 58 yX1_readsSum ∈ lw_tbl := List.mem_of_getElem? (i := 730) (by decide +kernel)
theorem lk_X1_61 : Cond.methodLink RX1 61 yX1_readsTerm ∈ lw_tbl := List.mem_of_getElem? (i := 733) (by decide +kernel)
theorem lk_X1_64 : Cond.methodLink RX1 64 yX1_readsOne ∈ lw_tbl := List.mem_of_getElem? (i := 736) (by decide +kernel)
theorem lk_X4_92 : Cond.methodLink RX4 92 yX3_add ∈ lw_tbl := List.mem_of_getElem? (i := 739) (by decide +kernel)
theorem lk_L_104 : Cond.methodLink RL 104 yX4_force ∈ lw_tbl := List.mem_of_getElem? (i := 743) (by decide +kernel)
theorem lk_L_108 : Cond.methodLink RL 108 yL_length ∈ lw_tbl := List.mem_of_getElem? (i := 747) (by decide +kernel)
theorem lk_L_110 : Cond.methodLink RL 110 yX4_sheet ∈ lw_tbl := List.mem_of_getElem? (i := 750) (by decide +kernel)
theorem lk_X4_175 : Cond.methodLink RX4 175 yX4_rowAt ∈ lw_tbl := List.mem_of_getElem? (i := 754) (by decide +kernel)
theorem lk_X4_226 : Cond.methodLink RX4 226 yX2_becomes ∈ lw_tbl := List.mem_of_getElem? (i := 758) (by decide +kernel)
theorem ln_X2_22 : Cond.methodLinkNest RX2 22 yX4_set RX4 ∈ lw_tbl := List.mem_of_getElem? (i := 762) (by decide +kernel)
theorem lk_L_113 : Cond.methodLink RL 113 yL_thing ∈ lw_tbl := List.mem_of_getElem? (i := 763) (by decide +kernel)
theorem lk_L_116 : Cond.methodLink RL 116 yX4_cell ∈ lw_tbl := List.mem_of_getElem? (i := 766) (by decide +kernel)
theorem lk_X4_229 : Cond.methodLink RX4 229 yX2_write ∈ lw_tbl := List.mem_of_getElem? (i := 770) (by decide +kernel)
theorem lk_L_179 : Cond.methodLink RL 179 yL_start ∈ lw_tbl := List.mem_of_getElem? (i := 774) (by decide +kernel)
theorem lk_L_202 : Cond.methodLink RL 202 yL_land ∈ lw_tbl := List.mem_of_getElem? (i := 777) (by decide +kernel)
theorem lk_L_150 : Cond.methodLink RL 150 yL_lets ∈ lw_tbl := List.mem_of_getElem? (i := 780) (by decide +kernel)
theorem lk_L_129 : Cond.methodLink RL 129 yJ13_bitCount_95d88 ∈ lw_tbl := List.mem_of_getElem? (i := 783) (by decide +kernel)
theorem lk_L_135 : Cond.methodLink RL 135 yL_held ∈ lw_tbl := List.mem_of_getElem? (i := 789) (by decide +kernel)
theorem lk_L_120 : Cond.methodLink RL 120 yJ9_min_f86c9 ∈ lw_tbl := List.mem_of_getElem? (i := 792) (by decide +kernel)
theorem lk_L_126 : Cond.methodLink RL 126 yJ9_max_f86c9 ∈ lw_tbl := List.mem_of_getElem? (i := 795) (by decide +kernel)
theorem lk_L_143 : Cond.methodLink RL 143 yJ13_numberOfTrailingZeros_95d88 ∈ lw_tbl := List.mem_of_getElem? (i := 800) (by decide +kernel)
theorem lk_J13_311 : Cond.methodLink RJ13 311 yJ6_numberOfTrailingZeros_0f7a4 ∈ lw_tbl := List.mem_of_getElem? (i := 803) (by decide +kernel)
theorem lk_L_154 : Cond.methodLink RL 154 yL_lucks ∈ lw_tbl := List.mem_of_getElem? (i := 807) (by decide +kernel)
theorem lk_L_209 : Cond.methodLink RL 209 yL_lesson ∈ lw_tbl := List.mem_of_getElem? (i := 813) (by decide +kernel)
theorem lk_L_160 : Cond.methodLink RL 160 yL_takes ∈ lw_tbl := List.mem_of_getElem? (i := 816) (by decide +kernel)
theorem lk_L_214 : Cond.methodLink RL 214 yL_pass ∈ lw_tbl := List.mem_of_getElem? (i := 819) (by decide +kernel)
theorem lk_L_195 : Cond.methodLink RL 195 yL_same ∈ lw_tbl := List.mem_of_getElem? (i := 822) (by decide +kernel)
theorem lk_L_172 : Cond.methodLink RL 172 yX4_count ∈ lw_tbl := List.mem_of_getElem? (i := 826) (by decide +kernel)
theorem lk_X4_52 : Cond.methodLink RX4 52 yJ6_bitCount_0f7a4 ∈ lw_tbl := List.mem_of_getElem? (i := 830) (by decide +kernel)
def gtb : List Cond := lw_tbl.filter goodWord
theorem gm {w : Cond} (h : w ∈ lw_tbl) (hg : goodWord w = true) : w ∈ gtb := List.mem_filter.mpr ⟨h, hg⟩
theorem gtb_good : GoodIn gtb gtb := fun w hw => ⟨hw, good_of_word (List.mem_filter.mp hw).2⟩
theorem gtb_sub : ∀ w ∈ gtb, w ∈ lw_tbl := fun w hw => (List.mem_filter.mp hw).1
end
section
/-! THE WORLD: cells by kind and number, in the order in which they are made. Kinds 0 .. 4: Coast, Reader, Sheet, Texts, the class (5 is 4 again, and has no cell); 6 .. 19 their arrays; 20 the law's row of longs (its numbers are ints here); 40 texts of the pool, 41 the script. -/
abbrev AV : Type := Int32 ⊕ (Int64 ⊕ Option (Nat × Nat))
abbrev Mem : Type := Nat → Nat → Nat → Int32
abbrev Fl : Type := Nat → Nat → Nat → Bool
def flT : Fl := fun _ _ _ => true
def ordT : List (Nat × Nat) := [(9, 7), (5, 0), (31, 2), (1, 0), (0, 0), (1000, 0), (2, 0), (3, 0), (4, 0), (6, 0), (7, 0), (8, 0), (10, 7), (11, 7), (12, 7), (13, 7), (14, 7), (15, 7), (30, 0), (32, 2), (39, 0)]
def ord (k i : Nat) : Nat := (ordT.getD k (1000, 0)).1 + (ordT.getD k (1000, 0)).2 * i
def alT : List (Nat × Nat) := [(4, 0), (3, 0), (6, 0), (7, 0), (8, 0), (1, 0), (9, 0), (10, 0), (11, 0), (0, 0), (12, 0), (13, 0), (14, 0), (15, 0), (16, 0), (17, 0), (0, 1), (12, 1), (13, 1), (14, 1), (15, 1), (16, 1), (17, 1), (0, 2), (12, 2), (13, 2), (14, 2), (15, 2), (16, 2), (17, 2), (18, 0), (2, 0), (19, 0), (2, 1), (19, 1), (2, 2), (19, 2), (2, 3), (19, 3), (20, 0)]
def al (q : Nat) : Nat × Nat := alT.getD q (99, 0)
theorem al_ord : ∀ q, q < 40 → ord (al q).1 (al q).2 = q := by decide +kernel
theorem al_lt : ∀ q, q < 40 → (al q).1 < 37 := by decide +kernel
/-- a cell of the claim's own that stands when n cells are made -/
def okc (n k i : Nat) : Bool := decide (ord k i < n) && decide (al (ord k i) = (k, i))
def okR (n : Nat) (q : Nat × Nat) : Bool := match q.1 with
  | 40 => decide (q.2 < 50)
  | 41 => decide (q.2 = 0)
  | k => okc n k q.2
def okV (n : Nat) (v : AV) : Bool := match v with
  | .inr (.inr (some q)) => okR n q
  | _ => true
/-- what a world stands on: where the classes are, the two array classes, the law's start, the pool's texts, the script -/
abbrev XC : Type := va_G × (ClassId × ClassId) × State × (Nat → Nat) × Nat
def xb (X : XC) : Nat := X.2.2.1.heap.size
/-- where the class's cells begin, where the law's row lies, the class of rows of longs -/
def xc (X : XC) : Nat := X.2.2.2.1 98
def hb (X : XC) : Nat := X.2.2.2.1 99
def lc (X : XC) : ClassId := X.2.2.2.1 97
def ad (X : XC) (q : Nat) : Nat := if q = 39 then hb X else xc X + q
def adr (X : XC) (k i : Nat) : Nat := match k with
  | 40 => X.2.2.2.1 i
  | 41 => X.2.2.2.2
  | k => ad X (ord k i)
def cv (X : XC) (v : AV) : Value := match v with
  | .inl x => .int x
  | .inr (.inl x) => .long x
  | .inr (.inr none) => .null
  | .inr (.inr (some q)) => .ref (adr X q.1 q.2)
/-- the fields of a kind: none an int, else the kind that it points to, and which one (none: the same number) -/
def fldT : List (List (Option (Nat × Option Nat))) := [
  [some (3, some 0), some (12, none), none, none, none, none, some (13, none), some (14, none), some (15, none), some (16, none), some (17, none)],
  [some (9, none), none, some (10, none), none, some (11, none), none, none, none, none],
  [none, none, some (19, none)],
  [none, some (6, none), some (7, none), some (8, none)],
  [some (3, some 0), some (1, some 0), some (0, some 0), some (0, some 1), some (0, some 2), none, some (18, none)],
  [some (3, some 0), some (1, some 0), some (0, some 0), some (0, some 1), some (0, some 2), none, some (18, none)]]
def lenT : List Nat := [0, 0, 0, 0, 0, 0, 960, 18, 40, 160, 160, 3, 6, 6, 6, 6, 6, 6, 4, 40, 60]
def fdD (k j : Nat) : Option (Nat × Option Nat) := (fldT.getD k []).getD j none
def lenK (k : Nat) : Nat := lenT.getD k 0
theorem fld_len : ∀ k, k < 6 → (fldT.getD k []).length = (cC k).2.2 := by decide +kernel
def fv (X : XC) (fl : Fl) (w : Mem) (k i j : Nat) : Value := match fdD k j with
  | none => .int (w k i j)
  | some t => if fl k i j = true then .ref (adr X t.1 (t.2.getD i)) else .null
def fvs (X : XC) (fl : Fl) (w : Mem) (k i : Nat) : List Value := (List.range (cC k).2.2).map (fv X fl w k i)
def isO (k : Nat) : Bool := decide (k < 6)
def isA (k : Nat) : Bool := decide (6 ≤ k) && (decide (k < 37) && (decide (k ≠ 18) && decide (k ≠ 20)))
def ent (X : XC) (fl : Fl) (w : Mem) (q : Nat × Nat) : va_E :=
  if q.1 < 6 then .inr (q.1, fvs X fl w q.1 q.2)
  else if q.1 = 18 then .inl (X.2.1.2, 4, .inr (.inr (.inr (.inr (fun j => if fl 18 q.2 j = true then some (adr X 2 j) else none)))))
  else if q.1 = 20 then .inl (lc X, 60, .inr (.inl (fun j => (w 20 q.2 j).toInt64)))
  else .inl (X.2.1.1, lenK q.1, .inl (w q.1 q.2))
def wl (X : XC) (n : Nat) (fl : Fl) (w : Mem) : va_W := (List.range n).map fun q => (ad X q, ent X fl w (al q))
abbrev tysL (X : XC) : List (ClassId × FieldType) := [(X.2.1.1, .int), (X.2.1.2, .object "NameThrownBack$Sheet"), (lc X, .long)]
abbrev AA (X : XC) : Nat → Prop := fun q => (xc X ≤ q ∧ q < xc X + 39) ∨ xb X ≤ q
def up (w : Mem) (k i j : Nat) (v : Int32) : Mem := fun a b c => if a = k ∧ b = i ∧ c = j then v else w a b c
def upF (fl : Fl) (k i j : Nat) : Fl := fun a b c => if a = k ∧ b = i ∧ c = j then true else fl a b c
theorem up_s (w : Mem) (k i j : Nat) (v : Int32) : up w k i j v k i j = v := by simp [up]
theorem up_n {w : Mem} {k i j : Nat} {v : Int32} {a b c : Nat} (h : ¬ (a = k ∧ b = i ∧ c = j)) : up w k i j v a b c = w a b c := by simp [up, h]
theorem okc_spec {n k i : Nat} (h : okc n k i = true) : ord k i < n ∧ al (ord k i) = (k, i) := by
  simp only [okc, Bool.and_eq_true, decide_eq_true_eq] at h; exact h
theorem okc_lt {n k i : Nat} (hn : n ≤ 40) (h : okc n k i = true) : k < 37 := by
  obtain ⟨h1, h2⟩ := okc_spec h
  have h3 := al_lt (ord k i) (by omega)
  rw [h2] at h3; exact h3
theorem adr_own (X : XC) {k : Nat} (h : k < 37) (i : Nat) : adr X k i = ad X (ord k i) := by
  unfold adr
  split
  · omega
  · omega
  · rfl
theorem okR_own {n k i : Nat} (h : k < 37) : okR n (k, i) = okc n k i := by
  unfold okR
  split
  · rename_i h2; exact absurd h (by omega)
  · rename_i h2; exact absurd h (by omega)
  · rfl
theorem wl_len (X : XC) (n : Nat) (fl : Fl) (w : Mem) : (wl X n fl w).length = n := by simp [wl]
theorem wl_get {X : XC} {n : Nat} {fl : Fl} {w : Mem} {k i : Nat} (hn : n ≤ 40) (h : okc n k i = true) : (wl X n fl w)[ord k i]? = some (adr X k i, ent X fl w (k, i)) := by
  obtain ⟨h1, h2⟩ := okc_spec h
  rw [adr_own X (okc_lt hn h)]
  simp [wl, h1, h2]
theorem wl_at {X : XC} {n q : Nat} {fl : Fl} {w : Mem} (h : q < n) : (wl X n fl w)[q]? = some (ad X q, ent X fl w (al q)) := by simp [wl, h]
theorem fvs_get {X : XC} {fl : Fl} {w : Mem} {k i j : Nat} (h : j < (cC k).2.2) : (fvs X fl w k i)[j]? = some (fv X fl w k i j) := by simp [fvs, h]
theorem ent_o {X : XC} {fl : Fl} {w : Mem} {k i : Nat} (h : k < 6) : ent X fl w (k, i) = .inr (k, fvs X fl w k i) := by unfold ent; rw [if_pos h]
theorem isA_spec {k : Nat} (h : isA k = true) : 6 ≤ k ∧ k < 37 ∧ k ≠ 18 := by
  simp only [isA, Bool.and_eq_true, decide_eq_true_eq] at h; exact ⟨h.1, h.2.1, h.2.2.1⟩
theorem isA_20 {k : Nat} (h : isA k = true) : k ≠ 20 := by
  simp only [isA, Bool.and_eq_true, decide_eq_true_eq] at h; exact h.2.2.2
theorem ent_a {X : XC} {fl : Fl} {w : Mem} {k i : Nat} (h : isA k = true) : ent X fl w (k, i) = .inl (X.2.1.1, lenK k, .inl (w k i)) := by
  obtain ⟨h1, -, h3⟩ := isA_spec h
  have h4 := isA_20 h; unfold ent; rw [if_neg (by show ¬ k < 6; omega), if_neg h3, if_neg h4]
theorem ent_q {X : XC} {fl : Fl} {w : Mem} {i : Nat} : ent X fl w (18, i) = .inl (X.2.1.2, 4, .inr (.inr (.inr (.inr (fun j => if fl 18 i j = true then some (adr X 2 j) else none))))) := by
  unfold ent; rw [if_neg (show ¬ (18 : Nat) < 6 by decide), if_pos rfl]
theorem ent_h {X : XC} {fl : Fl} {w : Mem} {i : Nat} : ent X fl w (20, i) = .inl (lc X, 60, .inr (.inl (fun j => (w 20 i j).toInt64))) := by
  unfold ent; rw [if_neg (show ¬ (20 : Nat) < 6 by decide), if_neg (show ¬ (20 : Nat) = 18 by decide), if_pos rfl]
/-- another cell's entry, where only one cell is otherwise -/
theorem ent_n {X : XC} {fl fl' : Fl} {w w' : Mem} {q : Nat × Nat} (hf : ∀ j, fl' q.1 q.2 j = fl q.1 q.2 j) (hw : ∀ j, w' q.1 q.2 j = w q.1 q.2 j) : ent X fl' w' q = ent X fl w q := by
  obtain ⟨k, i⟩ := q
  unfold ent
  have e1 : fvs X fl' w' k i = fvs X fl w k i := by
    unfold fvs; refine List.map_congr_left (fun j _ => ?_); unfold fv; rw [show fl' k i j = fl k i j from hf j, show w' k i j = w k i j from hw j]
  have e2 : w' k i = w k i := funext hw
  dsimp only
  split
  · rw [e1]
  · split
    · rename_i h; subst h
      have e3 : (fun j => if fl' 18 i j = true then some (adr X 2 j) else none) = (fun j => if fl 18 i j = true then some (adr X 2 j) else none) := by
        funext j; rw [show fl' 18 i j = fl 18 i j from hf j]
      rw [e3]
    · split
      · rename_i h; subst h
        rw [e2]
      · rw [e2]
theorem wl_set {X : XC} {n : Nat} {fl fl' : Fl} {w w' : Mem} {k i : Nat} {e : va_E} (hn : n ≤ 40) (h : okc n k i = true) (he : e = ent X fl' w' (k, i)) (hf : ∀ a b c, ¬ (a = k ∧ b = i) → fl' a b c = fl a b c) (hw : ∀ a b c, ¬ (a = k ∧ b = i) → w' a b c = w a b c) :
    (wl X n fl w).set (ord k i) (adr X k i, e) = wl X n fl' w' := by
  obtain ⟨h1, h2⟩ := okc_spec h
  refine List.ext_getElem? (fun q => ?_)
  by_cases hq : q < n
  · by_cases hqo : q = ord k i
    · subst hqo
      rw [List.getElem?_set_self (by rw [wl_len]; exact h1), wl_get hn h, he]
    · rw [List.getElem?_set_ne (Ne.symm hqo), wl_at hq, wl_at hq]
      have hne : ¬ ((al q).1 = k ∧ (al q).2 = i) := by
        rintro ⟨e1, e2⟩
        exact hqo (by rw [← al_ord q (by omega), e1, e2])
      rw [ent_n (fun j => hf _ _ j hne) (fun j => hw _ _ j hne)]
  · rw [List.getElem?_eq_none (by rw [List.length_set, wl_len]; omega), List.getElem?_eq_none (by rw [wl_len]; omega)]
/-- the pool's texts: entry, text, number; their lengths, their bytes -/
def strT : List (Nat × String × Nat) := [(95, "lets", 0), (101, "lucks", 1), (103, "takes", 2), (105, "or", 3), (107, "and", 4), (109, "not", 5), (111, "thing", 6), (113, "known", 7), (115, "kept", 8), (117, "tide", 9), (119, "luck", 10), (121, "more", 11)]
def strL : List (Nat × String × Nat) := [(70, "lets thing*", 12), (82, "-known+tide;lucks ", 13), (84, "-(kept<", 14), (86, ")*", 15), (88, ";takes ", 16), (90, "+(luck<", 17), (92, ");", 18)]
def lenS : List Nat := [4, 5, 5, 2, 3, 3, 5, 5, 4, 4, 4, 4, 11, 18, 7, 2, 7, 7, 2]
def bytS : List (List Int32) := [[108, 101, 116, 115], [108, 117, 99, 107, 115], [116, 97, 107, 101, 115], [111, 114], [97, 110, 100], [110, 111, 116], [116, 104, 105, 110, 103], [107, 110, 111, 119, 110], [107, 101, 112, 116], [116, 105, 100, 101], [108, 117, 99, 107], [109, 111, 114, 101], [108, 101, 116, 115, 32, 116, 104, 105, 110, 103, 42], [45, 107, 110, 111, 119, 110, 43, 116, 105, 100, 101, 59, 108, 117, 99, 107, 115, 32], [45, 40, 107, 101, 112, 116, 60], [41, 42], [59, 116, 97, 107, 101, 115, 32], [43, 40, 108, 117, 99, 107, 60], [41, 59]]
def strOK (X : XC) : Prop := vk_S 19 lenS bytS (fun i => X.2.2.2.1 i) (fun i => X.2.2.2.1 (19 + i)) (AA X) X.2.2.1 X.2.2.1.heap ∧ va_Z "java/lang/String" "COMPACT_STRINGS" "Z" (.int 1) (AA X) X.2.2.1 X.2.2.1.heap ∧
  (va_Z "jdk/internal/util/Preconditions" "SIOOBE_FORMATTER" "Ljava/util/function/BiFunction;" .null (AA X) X.2.2.1 X.2.2.1.heap ∨ va_Z "jdk/internal/util/Preconditions" "SIOOBE_FORMATTER" "Ljava/util/function/BiFunction;" (.ref (X.2.2.2.1 38)) (AA X) X.2.2.1 X.2.2.1.heap)
/-- what is fixed: the classes and the texts are known at the law's start -/
def XOK (X : XC) : Prop := va_K X.1 classes (tysL X) X.2.2.1 ∧ strOK X
/-- how large the heap is -/
def SZ (X : XC) (n z : Nat) : Prop := xb X ≤ z ∧ (n < 39 → xb X = xc X ∧ z = xc X + n) ∧ (39 ≤ n → xc X + 39 ≤ z)
/-- the heap holds the world -/
def Wd (X : XC) (n : Nat) (fl : Fl) (w : Mem) (H : Heap) : Prop := va_P X.1 classes (wl X n fl w) H ∧ va_D (AA X) (wl X n fl w) ∧ SZ X n H.size ∧ n ≤ 40 ∧ ∀ q, ¬ AA X q → H[q]? = X.2.2.1.heap[q]?
end
section
/-! ONE INSTRUCTION, as a function on (locals, stack, memory), and what it has to do with the machine -/
abbrev EI : Type := Instr × Nat × Nat × Int32 × Int64
abbrev MI : Type := String × ByteArray × Nat × Option FieldType × List (Nat × Nat × Nat) × List (Nat × Int32) × List (Nat × Int64)
def MIok (mi : MI) : Prop := (∀ q : Nat × Nat × Nat, q ∈ mi.2.2.2.2.1 → ftW mi.1 q ∈ lw_tbl) ∧ (∀ q : Nat × Int32, q ∈ mi.2.2.2.2.2.1 → ctW mi.1 q ∈ lw_tbl) ∧ ∀ q : Nat × Int64, q ∈ mi.2.2.2.2.2.2 → clW mi.1 q ∈ lw_tbl
def lenI : Instr → Nat
  | .iload _ => 2 | .istore _ => 2 | .aload _ => 2 | .astore _ => 2 | .lload _ => 2 | .lstore _ => 2
  | .bipush _ => 2 | .sipush _ => 3 | .ldc _ => 2 | .ldc_w _ => 3 | .ldc2_w _ => 3
  | .iinc _ _ => 3 | .getfield _ => 3 | .putfield _ => 3 | .goto _ => 3
  | _ => 1
def lkF (mi : MI) (e : EI) (i : Nat) : Bool := decide ((i, e.2.1, e.2.2.1) ∈ mi.2.2.2.2.1) && (decide (e.2.1 < 6) && decide (e.2.2.1 < (cC e.2.1).2.2))
def lkI (mi : MI) (pc : Nat) (e : EI) : Bool := match e.1 with
  | .iconst n => decide (Int32.ofInt n = e.2.2.2.1)
  | .bipush n => decide ((Int8.ofInt n).toInt32 = e.2.2.2.1)
  | .sipush n => decide ((Int16.ofInt n).toInt32 = e.2.2.2.1)
  | .iinc _ n => decide (Int32.ofInt n = e.2.2.2.1)
  | .lconst n => decide (Int64.ofNat (n : Nat) = e.2.2.2.2)
  | .ldc i => decide ((i, e.2.2.2.1) ∈ mi.2.2.2.2.2.1)
  | .ldc_w i => decide ((i, e.2.2.2.1) ∈ mi.2.2.2.2.2.1)
  | .ldc2_w i => decide ((i, e.2.2.2.2) ∈ mi.2.2.2.2.2.2)
  | .getfield i => lkF mi e i
  | .putfield i => lkF mi e i && (decide (((cC e.2.1).2.1 e.2.2.1).2.2.2 = false) && (decide (fdD e.2.1 e.2.2.1 = none) && (decide (tyC e.2.1 e.2.2.1 = .int) || decide (tyC e.2.1 e.2.2.1 = .boolean))))
  | .goto off => decide (0 ≤ (pc : Int) + off)
  | _ => true
def nxt (pc : Nat) : Instr → Nat
  | .goto off => ((pc : Int) + off).toNat
  | i => pc + lenI i
def ste (mi : MI) (pc : Nat) (e : EI) : Option Nat := if decode mi.2.1 pc = .ok (e.1, lenI e.1) ∧ lkI mi pc e = true then some (nxt pc e.1) else none
theorem ste_spec {mi : MI} {pc pc1 : Nat} {e : EI} (h : ste mi pc e = some pc1) : decode mi.2.1 pc = .ok (e.1, lenI e.1) ∧ lkI mi pc e = true ∧ nxt pc e.1 = pc1 := by
  unfold ste at h
  split at h
  · rename_i h1; exact ⟨h1.1, h1.2, Option.some.inj h⟩
  · cases h
abbrev LL : Type := List (Option AV)
abbrev AS : Type := LL × List AV × Mem
def unL (L : LL) (i : Nat) : LL := match i with
  | 0 => L
  | j + 1 => match L[j]? with
    | some (some (.inr (.inl _))) => L.set j none
    | _ => L
def stL (L : LL) (i : Nat) (v : AV) : LL := (unL L i).set i (some v)
def stL2 (L : LL) (i : Nat) (v : AV) : LL := (stL L i v).set (i + 1) none
def rmI (x y : Int32) : Int32 := x - x / y * y
def rmL (x y : Int64) : Int64 := x - x / y * y
def shlI (x y : Int32) : Int32 := x <<< (y &&& 31)
def shrI (x y : Int32) : Int32 := x >>> (y &&& 31)
def shlL (x : Int64) (y : Int32) : Int64 := x <<< (y.toInt64 &&& 63)
def shrL (x : Int64) (y : Int32) : Int64 := x >>> (y.toInt64 &&& 63)
def ushrL (x : Int64) (y : Int32) : Int64 := (x.toUInt64 >>> (y.toInt64.toUInt64 &&& Int64.toUInt64 63)).toInt64
def ushrI (x y : Int32) : Int32 := (x.toUInt32 >>> (y.toUInt32 &&& Int32.toUInt32 31)).toInt32
abbrev inB (x : Int32) (n : Nat) : Prop := ¬ (x < 0 ∨ n ≤ x.toNatClampNeg)
abbrev tn (x : Int32) : Nat := x.toNatClampNeg
abbrev OX : Type := Option (Option Prop × AS)
def xPush (σ : AS) (v : AV) : OX := some (none, σ.1, v :: σ.2.1, σ.2.2)
def xLdI (σ : AS) (i : Nat) : OX := match σ.1[i]? with
  | some (some (.inl x)) => some (none, σ.1, .inl x :: σ.2.1, σ.2.2)
  | _ => none
def xLdL (σ : AS) (i : Nat) : OX := match σ.1[i]? with
  | some (some (.inr (.inl x))) => some (none, σ.1, .inr (.inl x) :: σ.2.1, σ.2.2)
  | _ => none
def xLdA (σ : AS) (i : Nat) : OX := match σ.1[i]? with
  | some (some (.inr (.inr x))) => some (none, σ.1, .inr (.inr x) :: σ.2.1, σ.2.2)
  | _ => none
def xStI (σ : AS) (i : Nat) : OX := match σ with
  | (L, .inl x :: S, w) => if i < L.length then some (none, stL L i (.inl x), S, w) else none
  | _ => none
def xStL (σ : AS) (i : Nat) : OX := match σ with
  | (L, .inr (.inl x) :: S, w) => if i + 1 < L.length then some (none, stL2 L i (.inr (.inl x)), S, w) else none
  | _ => none
def xStA (σ : AS) (i : Nat) : OX := match σ with
  | (L, .inr (.inr x) :: S, w) => if i < L.length then some (none, stL L i (.inr (.inr x)), S, w) else none
  | _ => none
def xInc (σ : AS) (i : Nat) (k : Int32) : OX := match σ.1[i]? with
  | some (some (.inl x)) => if i < σ.1.length then some (none, stL σ.1 i (.inl (x + k)), σ.2.1, σ.2.2) else none
  | _ => none
def xII (σ : AS) (f : Int32 → Int32 → Int32) : OX := match σ with
  | (L, .inl y :: .inl x :: S, w) => some (none, L, .inl (f x y) :: S, w)
  | _ => none
def xIz (σ : AS) (f : Int32 → Int32 → Int32) : OX := match σ with
  | (L, .inl y :: .inl x :: S, w) => some (some (¬ y = 0), L, .inl (f x y) :: S, w)
  | _ => none
def xLL (σ : AS) (f : Int64 → Int64 → Int64) : OX := match σ with
  | (L, .inr (.inl y) :: .inr (.inl x) :: S, w) => some (none, L, .inr (.inl (f x y)) :: S, w)
  | _ => none
def xLz (σ : AS) (f : Int64 → Int64 → Int64) : OX := match σ with
  | (L, .inr (.inl y) :: .inr (.inl x) :: S, w) => some (some (¬ y = 0), L, .inr (.inl (f x y)) :: S, w)
  | _ => none
def xLI (σ : AS) (f : Int64 → Int32 → Int64) : OX := match σ with
  | (L, .inl y :: .inr (.inl x) :: S, w) => some (none, L, .inr (.inl (f x y)) :: S, w)
  | _ => none
def xLald (σ : AS) : OX := match σ with
  | (L, .inl x :: .inr (.inr (some q)) :: S, w) => if q = (20, 0) then some (some (inB x 60), L, .inr (.inl (w 20 0 (tn x)).toInt64) :: S, w) else none
  | _ => none
def xLast (σ : AS) : OX := match σ with
  | (L, .inr (.inl v) :: .inl x :: .inr (.inr (some q)) :: S, w) => if q = (20, 0) then some (some (inB x 60 ∧ v.toInt32.toInt64 = v), L, S, up w 20 0 (tn x) v.toInt32) else none
  | _ => none
def xCmp (σ : AS) : OX := match σ with
  | (L, .inr (.inl y) :: .inr (.inl x) :: S, w) => some (none, L, .inl (lg_cmp x y) :: S, w)
  | _ => none
def xI1 (σ : AS) (f : Int32 → AV) : OX := match σ with
  | (L, .inl x :: S, w) => some (none, L, f x :: S, w)
  | _ => none
def xL1 (σ : AS) (f : Int64 → AV) : OX := match σ with
  | (L, .inr (.inl x) :: S, w) => some (none, L, f x :: S, w)
  | _ => none
def cat1 : AV → Bool
  | .inr (.inl _) => false
  | _ => true
def xDup (σ : AS) : OX := match σ with
  | (L, v :: S, w) => if cat1 v = true then some (none, L, v :: v :: S, w) else none
  | _ => none
def xPop (σ : AS) : OX := match σ with
  | (L, v :: S, w) => if cat1 v = true then some (none, L, S, w) else none
  | _ => none
def xDup2 (σ : AS) : OX := match σ with
  | (L, v :: u :: S, w) => if cat1 v = true then (if cat1 u = true then some (none, L, v :: u :: v :: u :: S, w) else none) else none
  | _ => none
def xGet (fl : Fl) (σ : AS) (k j : Nat) : OX := match σ with
  | (L, .inr (.inr (some q)) :: S, w) => if q.1 = k then
      (match fdD k j with
      | none => some (none, L, .inl (w k q.2 j) :: S, w)
      | some t => if fl k q.2 j = true then some (none, L, .inr (.inr (some (t.1, t.2.getD q.2))) :: S, w) else some (none, L, .inr (.inr none) :: S, w)) else none
  | _ => none
def isZ (k j : Nat) : Bool := decide (tyC k j = .boolean)
def zfT : List (Nat × Nat) := [(4, 5), (5, 5)]
def xPut (σ : AS) (k j : Nat) : OX := match σ with
  | (L, .inl x :: .inr (.inr (some q)) :: S, w) => if q.1 = k then some (if (k, j) ∈ zfT then some (x = 1) else none, L, S, up w k q.2 j x) else none
  | _ => none
def xIald (σ : AS) : OX := match σ with
  | (L, .inl x :: .inr (.inr (some q)) :: S, w) => if isA q.1 = true then some (some (inB x (lenK q.1)), L, .inl (w q.1 q.2 (tn x)) :: S, w) else none
  | _ => none
def xIast (σ : AS) : OX := match σ with
  | (L, .inl v :: .inl x :: .inr (.inr (some q)) :: S, w) => if isA q.1 = true then some (some (inB x (lenK q.1)), L, S, up w q.1 q.2 (tn x) v) else none
  | _ => none
def xAald (fl : Fl) (σ : AS) : OX := match σ with
  | (L, .inl x :: .inr (.inr (some q)) :: S, w) => if q = (18, 0) then (if fl 18 0 (tn x) = true then some (some (inB x 4), L, .inr (.inr (some (2, tn x))) :: S, w) else none) else none
  | _ => none
def xAlen (σ : AS) : OX := match σ with
  | (L, .inr (.inr (some q)) :: S, w) => if decide (6 ≤ q.1) && (decide (q.1 < 37) && decide (q.1 ≠ 20)) = true then some (none, L, .inl (Int32.ofNat (lenK q.1)) :: S, w) else none
  | _ => none
def ex1 (fl : Fl) (e : EI) (σ : AS) : OX := match e.1 with
  | .iconst _ => xPush σ (.inl e.2.2.2.1)
  | .bipush _ => xPush σ (.inl e.2.2.2.1)
  | .sipush _ => xPush σ (.inl e.2.2.2.1)
  | .ldc _ => xPush σ (.inl e.2.2.2.1)
  | .ldc_w _ => xPush σ (.inl e.2.2.2.1)
  | .lconst _ => xPush σ (.inr (.inl e.2.2.2.2))
  | .ldc2_w _ => xPush σ (.inr (.inl e.2.2.2.2))
  | .aconst_null => xPush σ (.inr (.inr none))
  | .iload_n k => xLdI σ k
  | .iload i => xLdI σ i
  | .lload_n k => xLdL σ k
  | .lload i => xLdL σ i
  | .aload_n k => xLdA σ k
  | .aload i => xLdA σ i
  | .istore_n k => xStI σ k
  | .istore i => xStI σ i
  | .lstore_n k => xStL σ k
  | .lstore i => xStL σ i
  | .astore_n k => xStA σ k
  | .astore i => xStA σ i
  | .iinc i _ => xInc σ i e.2.2.2.1
  | .iadd => xII σ (fun x y => x + y)
  | .isub => xII σ (fun x y => x - y)
  | .imul => xII σ (fun x y => x * y)
  | .iand => xII σ (fun x y => x &&& y)
  | .ior => xII σ (fun x y => x ||| y)
  | .ixor => xII σ (fun x y => x ^^^ y)
  | .ishl => xII σ shlI
  | .ishr => xII σ shrI
  | .iushr => xII σ ushrI
  | .idiv => xIz σ (fun x y => x / y)
  | .irem => xIz σ rmI
  | .ladd => xLL σ (fun x y => x + y)
  | .lmul => xLL σ (fun x y => x * y)
  | .ldiv => xLz σ (fun x y => x / y)
  | .lrem => xLz σ rmL
  | .lsub => xLL σ (fun x y => x - y)
  | .land => xLL σ (fun x y => x &&& y)
  | .lor => xLL σ (fun x y => x ||| y)
  | .lxor => xLL σ (fun x y => x ^^^ y)
  | .lshl => xLI σ shlL
  | .lshr => xLI σ shrL
  | .lushr => xLI σ ushrL
  | .laload => xLald σ
  | .lastore => xLast σ
  | .lcmp => xCmp σ
  | .ineg => xI1 σ (fun x => .inl (-x))
  | .i2l => xI1 σ (fun x => .inr (.inl x.toInt64))
  | .i2b => xI1 σ (fun x => .inl x.toInt8.toInt32)
  | .i2s => xI1 σ (fun x => .inl x.toInt16.toInt32)
  | .i2c => xI1 σ (fun x => .inl (x.toUInt32 % 65536).toInt32)
  | .l2i => xL1 σ (fun x => .inl x.toInt32)
  | .dup => xDup σ
  | .pop => xPop σ
  | .dup2 => xDup2 σ
  | .getfield _ => xGet fl σ e.2.1 e.2.2.1
  | .putfield _ => xPut σ e.2.1 e.2.2.1
  | .iaload => xIald σ
  | .iastore => xIast σ
  | .aaload => xAald fl σ
  | .arraylength => xAlen σ
  | .goto _ => some (none, σ)
  | _ => none
/-- the listed locals as the kit lists them -/
def lvP (X : XC) : Nat → LL → List (Nat × Value)
  | _, [] => []
  | k, none :: t => lvP X (k + 1) t
  | k, some v :: t => (k, cv X v) :: lvP X (k + 1) t
theorem mem_lvP {X : XC} {q : Nat × Value} : ∀ (L : LL) (k : Nat), q ∈ lvP X k L ↔ ∃ (j : Nat) (v : AV), L[j]? = some (some v) ∧ q = (k + j, cv X v) := by
  intro L
  induction L with
  | nil => intro k; simp [lvP]
  | cons a t ih =>
    intro k
    have key : (∃ (j : Nat) (v : AV), (a :: t)[j]? = some (some v) ∧ q = (k + j, cv X v)) ↔ (∃ v, a = some v ∧ q = (k, cv X v)) ∨ ∃ (j : Nat) (v : AV), t[j]? = some (some v) ∧ q = (k + 1 + j, cv X v) := by
      constructor
      · rintro ⟨j, v, h1, h2⟩
        cases j with
        | zero => simp at h1; exact Or.inl ⟨v, h1, h2⟩
        | succ j => simp at h1; exact Or.inr ⟨j, v, h1, by rw [h2]; congr 1; omega⟩
      · rintro (⟨v, h1, h2⟩ | ⟨j, v, h1, h2⟩)
        · exact ⟨0, v, by simp [h1], h2⟩
        · exact ⟨j + 1, v, by simpa using h1, by rw [h2]; congr 1; omega⟩
    rw [key]
    cases a with
    | none => simp [lvP, ih (k + 1)]
    | some v => simp [lvP, ih (k + 1), eq_comm]
theorem lv_mono {ls : Array Slot} {nL : Nat} {l l' : List (Nat × Value)} (h : lv_has ls nL l) (hs : ∀ q ∈ l', q ∈ l) : lv_has ls nL l' := ⟨h.1, h.2.1, fun q hq => h.2.2 q (hs q hq)⟩
theorem lvP_at {X : XC} {ls : Array Slot} {nL : Nat} {L : LL} {i : Nat} {v : AV} (h : lv_has ls nL (lvP X 0 L)) (hi : L[i]? = some (some v)) : ls[i]? = some (.val (cv X v)) :=
  h.2.2 (i, cv X v) ((mem_lvP L 0).mpr ⟨i, v, hi, by simp⟩)
theorem unL_get {L : LL} {i j : Nat} {u : AV} (h : (unL L i)[j]? = some (some u)) : L[j]? = some (some u) ∧ ¬ (j + 1 = i ∧ ∃ x, u = .inr (.inl x)) := by
  cases i with
  | zero => exact ⟨h, by omega⟩
  | succ k =>
    unfold unL at h
    dsimp only at h
    split at h
    · rename_i x hk
      by_cases hj : j = k
      · subst hj
        have hl := (List.getElem?_eq_some_iff.mp hk).1
        rw [List.getElem?_set_self hl] at h
        cases h
      · rw [List.getElem?_set_ne (Ne.symm hj)] at h
        exact ⟨h, by omega⟩
    · rename_i hk
      refine ⟨h, ?_⟩
      rintro ⟨e1, x, rfl⟩
      have : j = k := by omega
      subst this
      exact hk x h
theorem unL_len (L : LL) (i : Nat) : (unL L i).length = L.length := by
  cases i with
  | zero => rfl
  | succ k => unfold unL; dsimp only; split <;> simp
theorem stL_len (L : LL) (i : Nat) (v : AV) : (stL L i v).length = L.length := by simp [stL, unL_len]
theorem stL2_len (L : LL) (i : Nat) (v : AV) : (stL2 L i v).length = L.length := by simp [stL2, stL_len]
theorem cv_cat {X : XC} {u : AV} (h : (cv X u).category = 2) : ∃ x, u = .inr (.inl x) := by
  rcases u with x | x | _ | q
  · simp [cv, Value.category] at h
  · exact ⟨x, rfl⟩
  · simp [cv, Value.category] at h
  · simp [cv, Value.category] at h
theorem stL_get {L : LL} {i j : Nat} {v u : AV} (hi : i < L.length) (h : (stL L i v)[j]? = some (some u)) : (j = i ∧ u = v) ∨ (¬ j = i ∧ L[j]? = some (some u) ∧ ¬ (j + 1 = i ∧ ∃ x, u = .inr (.inl x))) := by
  unfold stL at h
  by_cases hj : j = i
  · subst hj
    rw [List.getElem?_set_self (by rw [unL_len]; exact hi)] at h
    cases h; exact Or.inl ⟨rfl, rfl⟩
  · rw [List.getElem?_set_ne (Ne.symm hj)] at h
    exact Or.inr ⟨hj, unL_get h⟩
theorem lvP_st {X : XC} {L : LL} {i : Nat} {v : AV} (hi : i < L.length) : ∀ q ∈ lvP X 0 (stL L i v), q ∈ (i, cv X v) :: (lvP X 0 L).filter (fun q => !(q.1 == i) && !(q.1 + 1 == i && q.2.category == 2)) := by
  intro q hq
  obtain ⟨j, u, h1, rfl⟩ := (mem_lvP _ 0).mp hq
  rcases stL_get hi h1 with ⟨rfl, rfl⟩ | ⟨h2, h3, h4⟩
  · simp
  · refine List.mem_cons_of_mem _ (List.mem_filter.mpr ⟨(mem_lvP _ 0).mpr ⟨j, u, h3, rfl⟩, ?_⟩)
    have h5 : ¬ (j + 1 = i ∧ (cv X u).category = 2) := fun z => h4 ⟨z.1, cv_cat z.2⟩
    simp only [Nat.zero_add, Bool.and_eq_true, Bool.not_eq_true', beq_eq_false_iff_ne, ne_eq, Bool.and_eq_false_iff]
    refine ⟨h2, ?_⟩
    by_cases h6 : j + 1 = i
    · exact Or.inr (fun z => h5 ⟨h6, z⟩)
    · exact Or.inl h6
theorem lvP_st2 {X : XC} {L : LL} {i : Nat} {v : AV} (hi : i + 1 < L.length) : ∀ q ∈ lvP X 0 (stL2 L i v), q ∈ (i, cv X v) :: (lvP X 0 L).filter (fun q => !(q.1 == i) && (!(q.1 == i + 1) && !(q.1 + 1 == i && q.2.category == 2))) := by
  intro q hq
  obtain ⟨j, u, h1, rfl⟩ := (mem_lvP _ 0).mp hq
  unfold stL2 at h1
  have hne : ¬ j = i + 1 := by
    intro e1; subst e1
    rw [List.getElem?_set_self (by rw [stL_len]; exact hi)] at h1
    cases h1
  rw [List.getElem?_set_ne (Ne.symm hne)] at h1
  rcases stL_get (by omega) h1 with ⟨rfl, rfl⟩ | ⟨h2, h3, h4⟩
  · simp
  · refine List.mem_cons_of_mem _ (List.mem_filter.mpr ⟨(mem_lvP _ 0).mpr ⟨j, u, h3, rfl⟩, ?_⟩)
    have h5 : ¬ (j + 1 = i ∧ (cv X u).category = 2) := fun z => h4 ⟨z.1, cv_cat z.2⟩
    simp only [Nat.zero_add, Bool.and_eq_true, Bool.not_eq_true', beq_eq_false_iff_ne, ne_eq, Bool.and_eq_false_iff]
    refine ⟨h2, hne, ?_⟩
    by_cases h6 : j + 1 = i
    · exact Or.inr (fun z => h5 ⟨h6, z⟩)
    · exact Or.inl h6
end
section
def strA : List (String × Nat × String × Nat) := strT.map (fun q => (RX1, q)) ++ strL.map (fun q => (RL, q))
/-- the links of nest mates hold -/
def nstOK (X : XC) (U : State) : Prop := (∀ (a : String) (i : Nat) (x : MethodName) (h : String), Cond.methodLinkNest a i x h ∈ lw_tbl → va_Nw (.methodLinkNest a i x h) U) ∧ ∀ q : String × Nat × String × Nat, q ∈ strA → vk_R q.1 q.2.1 q.2.2.1 (X.2.2.2.1 q.2.2.2) U
/-- what a method's body knows -/
def Bd (X : XC) (mi : MI) (p : Program) (s : State) (m : MethodId) (args : Array Value) (meth : Method) (c : Code) : Prop :=
  p.tables.exec = Jvm.exec ∧ c.code = mi.2.1 ∧ c.maxLocals = mi.2.2.1 ∧ s.vm.findClass mi.1 = some m.cls ∧ (∀ w ∈ gtb, w.before args s = true) ∧ meth.sig.returnType = mi.2.2.2.1 ∧ meth.locks = false ∧ X.2.2.1.vm.Alike s.vm ∧ XOK X ∧ MIok mi ∧ xb X ≤ s.heap.size ∧ nstOK X s
/-- from this state on the run comes to Q -/
def G (l : Launch) (X : XC) (mi : MI) (p : Program) (e : Env) (R : Room) (s : State) (m : MethodId) (args : Array Value) (below : List Frame) (meth : Method) (c : Code) (ce sl : Nat) (Q : State → Prop) (n : Nat) (fl : Fl) (pc : Nat) (L : LL) (S : List AV) (w : Mem) : Prop :=
  ∀ (H : Heap) (locs : List Loc) (ls : Array Slot), Wd X n fl w H → va_S (AA X) s.heap H locs → lv_has ls mi.2.2.1 (lvP X 0 L) → L.length = mi.2.2.1 → (∀ v, some v ∈ L → okV n v = true) → (∀ v ∈ S, okV n v = true) → W p l e R s m args below meth c H locs ce sl Q (F0 m pc ls (S.map (cv X)))
def flOK (n : Nat) (fl : Fl) : Prop := ∀ k i j : Nat, okc n k i = true → k < 6 → ∀ t, fdD k j = some t → fl k i j = true → okR n (t.1, t.2.getD i) = true
section WALK
variable {l : Launch} {X : XC} {mi : MI} {p : Program} {e : Env} {R : Room} {s : State} {m : MethodId} {args : Array Value} {below : List Frame} {meth : Method} {c : Code} {ce sl : Nat} {Q : State → Prop} {n : Nat} {fl : Fl} {pc pc1 : Nat} {L L1 : LL} {S S1 : List AV} {w w1 : Mem} {cd : Option Prop}

theorem g_push {v : AV} {len : Nat} (hv : okV n v = true) (row : ∀ (H : Heap) (locs : List Loc) (ls : Array Slot) (rest : List Value), W p l e R s m args below meth c H locs ce sl Q (F0 m (pc + len) ls (cv X v :: rest)) → W p l e R s m args below meth c H locs ce sl Q (F0 m pc ls rest)) (hex : xPush (L, S, w) v = some (cd, L1, S1, w1)) (kk : G l X mi p e R s m args below meth c ce sl Q n fl (pc + len) L1 S1 w1) : G l X mi p e R s m args below meth c ce sl Q n fl pc L S w := by
  unfold xPush at hex
  simp only [Option.some.injEq, Prod.mk.injEq] at hex
  obtain ⟨rfl, rfl, rfl, rfl⟩ := hex
  intro H locs ls hW hS hl hL oL oS
  exact row H locs ls _ (kk H locs ls hW hS hl hL oL (List.forall_mem_cons.mpr ⟨hv, oS⟩))
theorem g_ldI {i len : Nat} (row : ∀ (H : Heap) (locs : List Loc) (ls : Array Slot) (rest : List Value) (x : Int32), ls[i]? = some (.val (.int x)) → W p l e R s m args below meth c H locs ce sl Q (F0 m (pc + len) ls (.int x :: rest)) → W p l e R s m args below meth c H locs ce sl Q (F0 m pc ls rest)) (hex : xLdI (L, S, w) i = some (cd, L1, S1, w1)) (kk : G l X mi p e R s m args below meth c ce sl Q n fl (pc + len) L1 S1 w1) : G l X mi p e R s m args below meth c ce sl Q n fl pc L S w := by
  unfold xLdI at hex
  split at hex
  · rename_i x hx
    simp only [Option.some.injEq, Prod.mk.injEq] at hex
    obtain ⟨rfl, rfl, rfl, rfl⟩ := hex
    intro H locs ls hW hS hl hL oL oS
    exact row H locs ls _ x (lvP_at hl hx) (kk H locs ls hW hS hl hL oL (List.forall_mem_cons.mpr ⟨rfl, oS⟩))
  · cases hex
theorem g_ldL {i len : Nat} (row : ∀ (H : Heap) (locs : List Loc) (ls : Array Slot) (rest : List Value) (x : Int64), ls[i]? = some (.val (.long x)) → W p l e R s m args below meth c H locs ce sl Q (F0 m (pc + len) ls (.long x :: rest)) → W p l e R s m args below meth c H locs ce sl Q (F0 m pc ls rest)) (hex : xLdL (L, S, w) i = some (cd, L1, S1, w1)) (kk : G l X mi p e R s m args below meth c ce sl Q n fl (pc + len) L1 S1 w1) : G l X mi p e R s m args below meth c ce sl Q n fl pc L S w := by
  unfold xLdL at hex
  split at hex
  · rename_i x hx
    simp only [Option.some.injEq, Prod.mk.injEq] at hex
    obtain ⟨rfl, rfl, rfl, rfl⟩ := hex
    intro H locs ls hW hS hl hL oL oS
    exact row H locs ls _ x (lvP_at hl hx) (kk H locs ls hW hS hl hL oL (List.forall_mem_cons.mpr ⟨rfl, oS⟩))
  · cases hex
theorem g_ldA {i len : Nat} (row : ∀ (H : Heap) (locs : List Loc) (ls : Array Slot) (rest : List Value) (a : Nat), ls[i]? = some (.val (.ref a)) → W p l e R s m args below meth c H locs ce sl Q (F0 m (pc + len) ls (.ref a :: rest)) → W p l e R s m args below meth c H locs ce sl Q (F0 m pc ls rest)) (rowN : ∀ (H : Heap) (locs : List Loc) (ls : Array Slot) (rest : List Value), ls[i]? = some (.val .null) → W p l e R s m args below meth c H locs ce sl Q (F0 m (pc + len) ls (.null :: rest)) → W p l e R s m args below meth c H locs ce sl Q (F0 m pc ls rest)) (hex : xLdA (L, S, w) i = some (cd, L1, S1, w1)) (kk : G l X mi p e R s m args below meth c ce sl Q n fl (pc + len) L1 S1 w1) : G l X mi p e R s m args below meth c ce sl Q n fl pc L S w := by
  unfold xLdA at hex
  split at hex
  · rename_i x hx
    simp only [Option.some.injEq, Prod.mk.injEq] at hex
    obtain ⟨rfl, rfl, rfl, rfl⟩ := hex
    intro H locs ls hW hS hl hL oL oS
    have k1 := kk H locs ls hW hS hl hL oL (List.forall_mem_cons.mpr ⟨oL _ (List.mem_of_getElem? hx), oS⟩)
    cases x with
    | none => exact rowN H locs ls _ (lvP_at hl hx) k1
    | some q => exact row H locs ls _ _ (lvP_at hl hx) k1
  · cases hex
theorem st_okL {i : Nat} {v : AV} (hi : i < L.length) (hv : okV n v = true) (oL : ∀ u, some u ∈ L → okV n u = true) : ∀ u, some u ∈ stL L i v → okV n u = true := by
  intro u hu
  obtain ⟨j, hj⟩ := List.getElem?_of_mem hu
  rcases stL_get hi hj with ⟨-, rfl⟩ | ⟨-, h, -⟩
  · exact hv
  · exact oL u (List.mem_of_getElem? h)
theorem st2_okL {i : Nat} {v : AV} (hi : i + 1 < L.length) (hv : okV n v = true) (oL : ∀ u, some u ∈ L → okV n u = true) : ∀ u, some u ∈ stL2 L i v → okV n u = true := by
  intro u hu
  obtain ⟨j, hj⟩ := List.getElem?_of_mem hu
  unfold stL2 at hj
  by_cases hne : j = i + 1
  · subst hne
    rw [List.getElem?_set_self (by rw [stL_len]; exact hi)] at hj
    cases hj
  · rw [List.getElem?_set_ne (Ne.symm hne)] at hj
    exact st_okL (by omega) hv oL u (List.mem_of_getElem? hj)
theorem g_stI {i len : Nat} (row : ∀ (H : Heap) (locs : List Loc) (ls : Array Slot) (rest : List Value) (x : Int32) (lv lv' : List (Nat × Value)), lv_has ls mi.2.2.1 lv → i < mi.2.2.1 → (i, Value.int x) :: lv.filter (fun q => !(q.1 == i) && !(q.1 + 1 == i && q.2.category == 2)) = lv' → (∀ ls' : Array Slot, lv_has ls' mi.2.2.1 lv' → W p l e R s m args below meth c H locs ce sl Q (F0 m (pc + len) ls' rest)) → W p l e R s m args below meth c H locs ce sl Q (F0 m pc ls (.int x :: rest))) (hex : xStI (L, S, w) i = some (cd, L1, S1, w1)) (kk : G l X mi p e R s m args below meth c ce sl Q n fl (pc + len) L1 S1 w1) : G l X mi p e R s m args below meth c ce sl Q n fl pc L S w := by
  unfold xStI at hex
  split at hex
  · rename_i q L0 x S0 w0 e0
    cases e0
    split at hex
    · rename_i hi
      simp only [Option.some.injEq, Prod.mk.injEq] at hex
      obtain ⟨rfl, rfl, rfl, rfl⟩ := hex
      intro H locs ls hW hS hl hL oL oS
      have oS2 := List.forall_mem_cons.mp oS
      exact row H locs ls _ x _ _ hl (by rw [← hL]; exact hi) rfl (fun ls' h' => kk H locs ls' hW hS (lv_mono h' (lvP_st hi)) (by rw [stL_len]; exact hL) (st_okL hi oS2.1 oL) oS2.2)
    · cases hex
  · cases hex
theorem g_stL {i len : Nat} (row : ∀ (H : Heap) (locs : List Loc) (ls : Array Slot) (rest : List Value) (x : Int64) (lv lv' : List (Nat × Value)), lv_has ls mi.2.2.1 lv → i + 1 < mi.2.2.1 → (i, Value.long x) :: lv.filter (fun q => !(q.1 == i) && (!(q.1 == i + 1) && !(q.1 + 1 == i && q.2.category == 2))) = lv' → (∀ ls' : Array Slot, lv_has ls' mi.2.2.1 lv' → W p l e R s m args below meth c H locs ce sl Q (F0 m (pc + len) ls' rest)) → W p l e R s m args below meth c H locs ce sl Q (F0 m pc ls (.long x :: rest))) (hex : xStL (L, S, w) i = some (cd, L1, S1, w1)) (kk : G l X mi p e R s m args below meth c ce sl Q n fl (pc + len) L1 S1 w1) : G l X mi p e R s m args below meth c ce sl Q n fl pc L S w := by
  unfold xStL at hex
  split at hex
  · rename_i q L0 x S0 w0 e0
    cases e0
    split at hex
    · rename_i hi
      simp only [Option.some.injEq, Prod.mk.injEq] at hex
      obtain ⟨rfl, rfl, rfl, rfl⟩ := hex
      intro H locs ls hW hS hl hL oL oS
      have oS2 := List.forall_mem_cons.mp oS
      exact row H locs ls _ x _ _ hl (by rw [← hL]; exact hi) rfl (fun ls' h' => kk H locs ls' hW hS (lv_mono h' (lvP_st2 hi)) (by rw [stL2_len]; exact hL) (st2_okL hi oS2.1 oL) oS2.2)
    · cases hex
  · cases hex
theorem g_stA {i len : Nat} (row : ∀ (H : Heap) (locs : List Loc) (ls : Array Slot) (rest : List Value) (x : Nat) (lv lv' : List (Nat × Value)), lv_has ls mi.2.2.1 lv → i < mi.2.2.1 → (i, Value.ref x) :: lv.filter (fun q => !(q.1 == i) && !(q.1 + 1 == i && q.2.category == 2)) = lv' → (∀ ls' : Array Slot, lv_has ls' mi.2.2.1 lv' → W p l e R s m args below meth c H locs ce sl Q (F0 m (pc + len) ls' rest)) → W p l e R s m args below meth c H locs ce sl Q (F0 m pc ls (.ref x :: rest))) (rowN : ∀ (H : Heap) (locs : List Loc) (ls : Array Slot) (rest : List Value) (lv lv' : List (Nat × Value)), lv_has ls mi.2.2.1 lv → i < mi.2.2.1 → (i, Value.null) :: lv.filter (fun q => !(q.1 == i) && !(q.1 + 1 == i && q.2.category == 2)) = lv' → (∀ ls' : Array Slot, lv_has ls' mi.2.2.1 lv' → W p l e R s m args below meth c H locs ce sl Q (F0 m (pc + len) ls' rest)) → W p l e R s m args below meth c H locs ce sl Q (F0 m pc ls (.null :: rest))) (hex : xStA (L, S, w) i = some (cd, L1, S1, w1)) (kk : G l X mi p e R s m args below meth c ce sl Q n fl (pc + len) L1 S1 w1) : G l X mi p e R s m args below meth c ce sl Q n fl pc L S w := by
  unfold xStA at hex
  split at hex
  · rename_i q L0 x S0 w0 e0
    cases e0
    split at hex
    · rename_i hi
      simp only [Option.some.injEq, Prod.mk.injEq] at hex
      obtain ⟨rfl, rfl, rfl, rfl⟩ := hex
      intro H locs ls hW hS hl hL oL oS
      have oS2 := List.forall_mem_cons.mp oS
      cases x with
      | none => exact rowN H locs ls _ _ _ hl (by rw [← hL]; exact hi) rfl (fun ls' h' => kk H locs ls' hW hS (lv_mono h' (lvP_st hi)) (by rw [stL_len]; exact hL) (st_okL hi oS2.1 oL) oS2.2)
      | some q => exact row H locs ls _ _ _ _ hl (by rw [← hL]; exact hi) rfl (fun ls' h' => kk H locs ls' hW hS (lv_mono h' (lvP_st hi)) (by rw [stL_len]; exact hL) (st_okL hi oS2.1 oL) oS2.2)
    · cases hex
  · cases hex
theorem g_inc {i : Nat} {kn : Int} {k : Int32} (B : Bd X mi p s m args meth c) (hk : Int32.ofInt kn = k) (hd : decode mi.2.1 pc = .ok (.iinc i kn, 3)) (hex : xInc (L, S, w) i k = some (cd, L1, S1, w1)) (kk : G l X mi p e R s m args below meth c ce sl Q n fl (pc + 3) L1 S1 w1) : G l X mi p e R s m args below meth c ce sl Q n fl pc L S w := by
  obtain ⟨hx, hb, -⟩ := B
  unfold xInc at hex
  split at hex
  · rename_i x hx2
    split at hex
    · rename_i hi
      simp only [Option.some.injEq, Prod.mk.injEq] at hex
      obtain ⟨rfl, rfl, rfl, rfl⟩ := hex
      intro H locs ls hW hS hl hL oL oS
      obtain ⟨j, hj⟩ := List.getElem?_of_mem ((mem_lvP (X := X) L 0).mpr ⟨i, _, hx2, rfl⟩)
      rw [Nat.zero_add] at hj
      exact lv_iinc (v := x + k) hx hb hd hl hj (by rw [hk]) (by rw [← hL]; exact hi) rfl (fun ls' h' => kk H locs ls' hW hS (lv_mono h' (lvP_st (v := .inl (x + k)) hi)) (by rw [stL_len]; exact hL) (st_okL hi rfl oL) oS)
    · cases hex
  · cases hex
theorem g_II {f : Int32 → Int32 → Int32} (row : ∀ (H : Heap) (locs : List Loc) (ls : Array Slot) (rest : List Value) (x y : Int32), W p l e R s m args below meth c H locs ce sl Q (F0 m (pc + 1) ls (.int (f x y) :: rest)) → W p l e R s m args below meth c H locs ce sl Q (F0 m pc ls (.int y :: .int x :: rest))) (hex : xII (L, S, w) f = some (cd, L1, S1, w1)) (kk : G l X mi p e R s m args below meth c ce sl Q n fl (pc + 1) L1 S1 w1) : G l X mi p e R s m args below meth c ce sl Q n fl pc L S w := by
  unfold xII at hex
  split at hex
  · rename_i q L0 y x S0 w0 e0
    cases e0
    simp only [Option.some.injEq, Prod.mk.injEq] at hex
    obtain ⟨rfl, rfl, rfl, rfl⟩ := hex
    intro H locs ls hW hS hl hL oL oS
    have oS2 := (List.forall_mem_cons.mp (List.forall_mem_cons.mp oS).2).2
    exact row H locs ls _ x y (kk H locs ls hW hS hl hL oL (List.forall_mem_cons.mpr ⟨rfl, oS2⟩))
  · cases hex
theorem g_Iz {f : Int32 → Int32 → Int32} (row : ∀ (H : Heap) (locs : List Loc) (ls : Array Slot) (rest : List Value) (x y : Int32), ¬ y = 0 → W p l e R s m args below meth c H locs ce sl Q (F0 m (pc + 1) ls (.int (f x y) :: rest)) → W p l e R s m args below meth c H locs ce sl Q (F0 m pc ls (.int y :: .int x :: rest))) (hex : xIz (L, S, w) f = some (cd, L1, S1, w1)) (hc : cd.getD True) (kk : G l X mi p e R s m args below meth c ce sl Q n fl (pc + 1) L1 S1 w1) : G l X mi p e R s m args below meth c ce sl Q n fl pc L S w := by
  unfold xIz at hex
  split at hex
  · rename_i q L0 y x S0 w0 e0
    cases e0
    simp only [Option.some.injEq, Prod.mk.injEq] at hex
    obtain ⟨rfl, rfl, rfl, rfl⟩ := hex
    intro H locs ls hW hS hl hL oL oS
    have oS2 := (List.forall_mem_cons.mp (List.forall_mem_cons.mp oS).2).2
    exact row H locs ls _ x y hc (kk H locs ls hW hS hl hL oL (List.forall_mem_cons.mpr ⟨rfl, oS2⟩))
  · cases hex
theorem g_LL {f : Int64 → Int64 → Int64} (row : ∀ (H : Heap) (locs : List Loc) (ls : Array Slot) (rest : List Value) (x y : Int64), W p l e R s m args below meth c H locs ce sl Q (F0 m (pc + 1) ls (.long (f x y) :: rest)) → W p l e R s m args below meth c H locs ce sl Q (F0 m pc ls (.long y :: .long x :: rest))) (hex : xLL (L, S, w) f = some (cd, L1, S1, w1)) (kk : G l X mi p e R s m args below meth c ce sl Q n fl (pc + 1) L1 S1 w1) : G l X mi p e R s m args below meth c ce sl Q n fl pc L S w := by
  unfold xLL at hex
  split at hex
  · rename_i q L0 y x S0 w0 e0
    cases e0
    simp only [Option.some.injEq, Prod.mk.injEq] at hex
    obtain ⟨rfl, rfl, rfl, rfl⟩ := hex
    intro H locs ls hW hS hl hL oL oS
    have oS2 := (List.forall_mem_cons.mp (List.forall_mem_cons.mp oS).2).2
    exact row H locs ls _ x y (kk H locs ls hW hS hl hL oL (List.forall_mem_cons.mpr ⟨rfl, oS2⟩))
  · cases hex
theorem g_Lz {f : Int64 → Int64 → Int64} (row : ∀ (H : Heap) (locs : List Loc) (ls : Array Slot) (rest : List Value) (x y : Int64), ¬ y = 0 → W p l e R s m args below meth c H locs ce sl Q (F0 m (pc + 1) ls (.long (f x y) :: rest)) → W p l e R s m args below meth c H locs ce sl Q (F0 m pc ls (.long y :: .long x :: rest))) (hex : xLz (L, S, w) f = some (cd, L1, S1, w1)) (hc : cd.getD True) (kk : G l X mi p e R s m args below meth c ce sl Q n fl (pc + 1) L1 S1 w1) : G l X mi p e R s m args below meth c ce sl Q n fl pc L S w := by
  unfold xLz at hex
  split at hex
  · rename_i q L0 y x S0 w0 e0
    cases e0
    simp only [Option.some.injEq, Prod.mk.injEq] at hex
    obtain ⟨rfl, rfl, rfl, rfl⟩ := hex
    intro H locs ls hW hS hl hL oL oS
    have oS2 := (List.forall_mem_cons.mp (List.forall_mem_cons.mp oS).2).2
    exact row H locs ls _ x y hc (kk H locs ls hW hS hl hL oL (List.forall_mem_cons.mpr ⟨rfl, oS2⟩))
  · cases hex
theorem g_Cmp (row : ∀ (H : Heap) (locs : List Loc) (ls : Array Slot) (rest : List Value) (x y : Int64), W p l e R s m args below meth c H locs ce sl Q (F0 m (pc + 1) ls (.int (lg_cmp x y) :: rest)) → W p l e R s m args below meth c H locs ce sl Q (F0 m pc ls (.long y :: .long x :: rest))) (hex : xCmp (L, S, w) = some (cd, L1, S1, w1)) (kk : G l X mi p e R s m args below meth c ce sl Q n fl (pc + 1) L1 S1 w1) : G l X mi p e R s m args below meth c ce sl Q n fl pc L S w := by
  unfold xCmp at hex
  split at hex
  · rename_i q L0 y x S0 w0 e0
    cases e0
    simp only [Option.some.injEq, Prod.mk.injEq] at hex
    obtain ⟨rfl, rfl, rfl, rfl⟩ := hex
    intro H locs ls hW hS hl hL oL oS
    have oS2 := (List.forall_mem_cons.mp (List.forall_mem_cons.mp oS).2).2
    exact row H locs ls _ x y (kk H locs ls hW hS hl hL oL (List.forall_mem_cons.mpr ⟨rfl, oS2⟩))
  · cases hex
theorem g_I1 {f : Int32 → AV} (hf : ∀ x, okV n (f x) = true) (row : ∀ (H : Heap) (locs : List Loc) (ls : Array Slot) (rest : List Value) (x : Int32), W p l e R s m args below meth c H locs ce sl Q (F0 m (pc + 1) ls (cv X (f x) :: rest)) → W p l e R s m args below meth c H locs ce sl Q (F0 m pc ls (.int x :: rest))) (hex : xI1 (L, S, w) f = some (cd, L1, S1, w1)) (kk : G l X mi p e R s m args below meth c ce sl Q n fl (pc + 1) L1 S1 w1) : G l X mi p e R s m args below meth c ce sl Q n fl pc L S w := by
  unfold xI1 at hex
  split at hex
  · rename_i q L0 x S0 w0 e0
    cases e0
    simp only [Option.some.injEq, Prod.mk.injEq] at hex
    obtain ⟨rfl, rfl, rfl, rfl⟩ := hex
    intro H locs ls hW hS hl hL oL oS
    exact row H locs ls _ x (kk H locs ls hW hS hl hL oL (List.forall_mem_cons.mpr ⟨hf x, (List.forall_mem_cons.mp oS).2⟩))
  · cases hex
theorem g_L1 {f : Int64 → AV} (hf : ∀ x, okV n (f x) = true) (row : ∀ (H : Heap) (locs : List Loc) (ls : Array Slot) (rest : List Value) (x : Int64), W p l e R s m args below meth c H locs ce sl Q (F0 m (pc + 1) ls (cv X (f x) :: rest)) → W p l e R s m args below meth c H locs ce sl Q (F0 m pc ls (.long x :: rest))) (hex : xL1 (L, S, w) f = some (cd, L1, S1, w1)) (kk : G l X mi p e R s m args below meth c ce sl Q n fl (pc + 1) L1 S1 w1) : G l X mi p e R s m args below meth c ce sl Q n fl pc L S w := by
  unfold xL1 at hex
  split at hex
  · rename_i q L0 x S0 w0 e0
    cases e0
    simp only [Option.some.injEq, Prod.mk.injEq] at hex
    obtain ⟨rfl, rfl, rfl, rfl⟩ := hex
    intro H locs ls hW hS hl hL oL oS
    exact row H locs ls _ x (kk H locs ls hW hS hl hL oL (List.forall_mem_cons.mpr ⟨hf x, (List.forall_mem_cons.mp oS).2⟩))
  · cases hex
theorem cat1_cv {v : AV} (h : cat1 v = true) : (cv X v).category = 1 := by
  rcases v with x | x | _ | q
  · rfl
  · cases h
  · rfl
  · rfl
theorem g_Dup (B : Bd X mi p s m args meth c) (hd : decode mi.2.1 pc = .ok (.dup, 1)) (hex : xDup (L, S, w) = some (cd, L1, S1, w1)) (kk : G l X mi p e R s m args below meth c ce sl Q n fl (pc + 1) L1 S1 w1) : G l X mi p e R s m args below meth c ce sl Q n fl pc L S w := by
  obtain ⟨hx, hb, -⟩ := B
  unfold xDup at hex
  split at hex
  · rename_i q L0 v S0 w0 e0
    cases e0
    split at hex
    · rename_i hv
      simp only [Option.some.injEq, Prod.mk.injEq] at hex
      obtain ⟨rfl, rfl, rfl, rfl⟩ := hex
      intro H locs ls hW hS hl hL oL oS
      exact lv_dup hx hb hd (cat1_cv hv) (kk H locs ls hW hS hl hL oL (List.forall_mem_cons.mpr ⟨(List.forall_mem_cons.mp oS).1, oS⟩))
    · cases hex
  · cases hex
theorem g_Pop (B : Bd X mi p s m args meth c) (hd : decode mi.2.1 pc = .ok (.pop, 1)) (hex : xPop (L, S, w) = some (cd, L1, S1, w1)) (kk : G l X mi p e R s m args below meth c ce sl Q n fl (pc + 1) L1 S1 w1) : G l X mi p e R s m args below meth c ce sl Q n fl pc L S w := by
  obtain ⟨hx, hb, -⟩ := B
  unfold xPop at hex
  split at hex
  · rename_i q L0 v S0 w0 e0
    cases e0
    split at hex
    · rename_i hv
      simp only [Option.some.injEq, Prod.mk.injEq] at hex
      obtain ⟨rfl, rfl, rfl, rfl⟩ := hex
      intro H locs ls hW hS hl hL oL oS
      exact lv_pop hx hb hd (cat1_cv hv) (kk H locs ls hW hS hl hL oL (List.forall_mem_cons.mp oS).2)
    · cases hex
  · cases hex
theorem g_Dup2 (B : Bd X mi p s m args meth c) (hd : decode mi.2.1 pc = .ok (.dup2, 1)) (hex : xDup2 (L, S, w) = some (cd, L1, S1, w1)) (kk : G l X mi p e R s m args below meth c ce sl Q n fl (pc + 1) L1 S1 w1) : G l X mi p e R s m args below meth c ce sl Q n fl pc L S w := by
  obtain ⟨hx, hb, -⟩ := B
  unfold xDup2 at hex
  split at hex
  · rename_i q L0 v u S0 w0 e0
    cases e0
    split at hex
    · rename_i hv
      split at hex
      · rename_i hu
        simp only [Option.some.injEq, Prod.mk.injEq] at hex
        obtain ⟨rfl, rfl, rfl, rfl⟩ := hex
        intro H locs ls hW hS hl hL oL oS
        have o1 := List.forall_mem_cons.mp oS
        have o2 := List.forall_mem_cons.mp o1.2
        exact lv_dup2_11 hx hb hd (cat1_cv hv) (cat1_cv hu) (kk H locs ls hW hS hl hL oL (List.forall_mem_cons.mpr ⟨o1.1, List.forall_mem_cons.mpr ⟨o2.1, oS⟩⟩))
      · cases hex
    · cases hex
  · cases hex
theorem Bd.hw (B : Bd X mi p s m args meth c) {w : Cond} (h : w ∈ lw_tbl) (hg : goodWord w = true) : w.before args s = true := B.2.2.2.2.1 w (gm h hg)
theorem Bd.hK (B : Bd X mi p s m args meth c) : va_K X.1 classes (tysL X) s := va_K.moved B.2.2.2.2.2.2.2.1 B.2.2.2.2.2.2.2.2.1.1
theorem lay_good (C : String) (T : u_T) (k : Nat) : goodWord (u_lay C T k) = true := by
  unfold u_lay; split <;> rfl
theorem Bd.lay (B : Bd X mi p s m args meth c) {k : Nat} (hk : k < 6) : ∀ w ∈ u_ws (cC k).1 (cC k).2.1 (cC k).2.2, w ∈ gtb := by
  intro w hw
  refine gm (cC_in k hk w hw) ?_
  obtain ⟨j, -, rfl⟩ := List.mem_map.mp hw
  exact lay_good _ _ _
theorem lkF_spec {e : EI} {i : Nat} (h : lkF mi e i = true) : (i, e.2.1, e.2.2.1) ∈ mi.2.2.2.2.1 ∧ e.2.1 < 6 ∧ e.2.2.1 < (cC e.2.1).2.2 := by
  simp only [lkF, Bool.and_eq_true, decide_eq_true_eq] at h; exact h
theorem cC_own : ∀ k, k < 6 → ∀ j, j < (cC k).2.2 → ((cC k).2.1 j).1 = (cC k).1 := by decide +kernel
theorem own_ref {k i : Nat} (hk : k < 37) (h : okV n (.inr (.inr (some (k, i)))) = true) : okc n k i = true := by
  rw [← okR_own hk]; exact h
theorem w_get (B : Bd X mi p s m args meth c) {H : Heap} {locs : List Loc} {ls : Array Slot} {rest : List Value} {k i j idx : Nat} (hW : Wd X n fl w H) (hok : okc n k i = true) (hk : k < 6) (hj : j < (cC k).2.2) (hf : (idx, k, j) ∈ mi.2.2.2.2.1) (hd : decode mi.2.1 pc = .ok (.getfield idx, 3)) (kk : W p l e R s m args below meth c H locs ce sl Q (F0 m (pc + 3) ls (fv X fl w k i j :: rest))) : W p l e R s m args below meth c H locs ce sl Q (F0 m pc ls (.ref (adr X k i) :: rest)) := by
  have hlink : (Cond.fieldLink mi.1 idx (cC k).1 ((cC k).2.1 j).2.1 ((cC k).2.1 j).2.2.1).before args s = true := B.hw (B.2.2.2.2.2.2.2.2.2.1.1 _ hf) rfl
  exact va_get (Ts := gtb) B.1 B.2.1 B.2.2.2.2.1 (B.lay hk) B.2.2.2.1 B.hK hW.1 (ord k i) ((wl_get hW.2.2.2.1 hok).trans (by rw [ent_o hk])) (cC_get k hk) j hj hlink (fun _ h => by rw [cC_own k hk j hj] at h; exact h) (fvs_get hj) hd kk
theorem g_get (B : Bd X mi p s m args meth c) (hfl : flOK n fl) {ei : EI} {idx : Nat} (hlk : lkF mi ei idx = true) (hd : decode mi.2.1 pc = .ok (.getfield idx, 3)) (hex : xGet fl (L, S, w) ei.2.1 ei.2.2.1 = some (cd, L1, S1, w1)) (kk : G l X mi p e R s m args below meth c ce sl Q n fl (pc + 3) L1 S1 w1) : G l X mi p e R s m args below meth c ce sl Q n fl pc L S w := by
  obtain ⟨hf, hk, hj⟩ := lkF_spec hlk
  generalize ei.2.1 = k at hex hf hk hj
  generalize ei.2.2.1 = j at hex hf hj
  unfold xGet at hex
  split at hex
  · rename_i q L0 r S0 w0 e0
    cases e0
    obtain ⟨k', i⟩ := r
    split at hex
    · rename_i hkk
      dsimp only at hkk
      subst hkk
      intro H locs ls hW hS hl hL oL oS
      have o1 := List.forall_mem_cons.mp oS
      have hok := own_ref (by omega) o1.1
      refine w_get B hW hok hk hj hf hd ?_
      unfold fv
      split at hex
      · rename_i hfd
        rw [hfd]
        simp only [Option.some.injEq, Prod.mk.injEq] at hex
        obtain ⟨rfl, rfl, rfl, rfl⟩ := hex
        exact kk H locs ls hW hS hl hL oL (List.forall_mem_cons.mpr ⟨rfl, o1.2⟩)
      · rename_i t hfd
        rw [hfd]
        dsimp only at hex ⊢
        split at hex
        · rename_i hff
          rw [if_pos hff]
          simp only [Option.some.injEq, Prod.mk.injEq] at hex
          obtain ⟨rfl, rfl, rfl, rfl⟩ := hex
          exact kk H locs ls hW hS hl hL oL (List.forall_mem_cons.mpr ⟨hfl _ _ _ hok hk t hfd hff, o1.2⟩)
        · rename_i hff
          rw [if_neg hff]
          simp only [Option.some.injEq, Prod.mk.injEq] at hex
          obtain ⟨rfl, rfl, rfl, rfl⟩ := hex
          exact kk H locs ls hW hS hl hL oL (List.forall_mem_cons.mpr ⟨rfl, o1.2⟩)
    · cases hex
  · cases hex
theorem old_kept {H H1 : Heap} {locs locs1 : List Loc} (hxb : xb X ≤ s.heap.size) (hW : Wd X n fl w H) (hS : va_S (AA X) s.heap H locs) (hS1 : va_S (AA X) s.heap H1 locs1) : ∀ q, ¬ AA X q → H1[q]? = X.2.2.1.heap[q]? := by
  intro q h1
  have h2 : ¬ xb X ≤ q := fun z => h1 (Or.inr z)
  rw [hS1.2.1 q (by omega) h1, ← hS.2.1 q (by omega) h1]
  exact hW.2.2.2.2 q h1
/-- a cell of the world is written: what the machine has to do with a new entry -/
theorem Wd.put {H H1 : Heap} {locs locs1 : List Loc} {k i : Nat} {e2 : va_E} {fl1 : Fl} {w1 : Mem} (hxb : xb X ≤ s.heap.size) (hW : Wd X n fl w H) (hS : va_S (AA X) s.heap H locs) (hS1 : va_S (AA X) s.heap H1 locs1) (hok : okc n k i = true) (hsz : H1.size = H.size)
    (hP : va_P X.1 classes ((wl X n fl w).set (ord k i) (adr X k i, e2)) H1) (hD : va_D (AA X) ((wl X n fl w).set (ord k i) (adr X k i, e2))) (he : e2 = ent X fl1 w1 (k, i)) (hf : ∀ a b c, ¬ (a = k ∧ b = i) → fl1 a b c = fl a b c) (hw : ∀ a b c, ¬ (a = k ∧ b = i) → w1 a b c = w a b c) : Wd X n fl1 w1 H1 := by
  have e1 := wl_set (X := X) (n := n) hW.2.2.2.1 hok he hf hw
  rw [e1] at hP hD
  exact ⟨hP, hD, by rw [hsz]; exact hW.2.2.1, hW.2.2.2.1, old_kept hxb hW hS hS1⟩
theorem w_put (B : Bd X mi p s m args meth c) {H : Heap} {locs : List Loc} {ls : Array Slot} {rest : List Value} {k j idx : Nat} {fs : List Value} {v : Value} {a : Nat} {ws : va_W} {q0 : Nat} (hP : va_P X.1 classes ws H) (hD : va_D (AA X) ws) (hS0 : va_S (AA X) s.heap H locs) (he : ws[q0]? = some (a, .inr (k, fs))) (hk : k < 6) (hj : j < (cC k).2.2) (hf : (idx, k, j) ∈ mi.2.2.2.2.1)
    (hfin : ((cC k).2.1 j).2.2.2 = false) (hn : narrow (tyC k j) v = v) (hfit : fits (tyC k j) v = true) (hl : j < fs.length) (hd : decode mi.2.1 pc = .ok (.putfield idx, 3))
    (kk : ∀ (H1 : Heap) (locs1 : List Loc), va_P X.1 classes (ws.set q0 (a, .inr (k, fs.set j v))) H1 → va_D (AA X) (ws.set q0 (a, .inr (k, fs.set j v))) → va_S (AA X) s.heap H1 locs1 → H1.size = H.size → W p l e R s m args below meth c H1 locs1 ce sl Q (F0 m (pc + 3) ls rest)) : W p l e R s m args below meth c H locs ce sl Q (F0 m pc ls (v :: .ref a :: rest)) := by
  have hlink : (Cond.fieldLink mi.1 idx (cC k).1 ((cC k).2.1 j).2.1 ((cC k).2.1 j).2.2.1).before args s = true := B.hw (B.2.2.2.2.2.2.2.2.2.1.1 _ hf) rfl
  have hts := B.2.2.2.2.1
  have hin := B.lay hk
  have hc := cC_get k hk
  have hap := va_apart (own := mi.1) hts hin (tyC k) (cC_ty k hk) (cC_nm k hk) B.hK hc
  obtain ⟨r, h1, cell, q1, q2, q3, q4⟩ := hP q0 _ he
  have hr : r = cC k := Option.some.inj (h1.symm.trans hc)
  subst hr
  obtain ⟨hS, hfc, kC, hkC, hkind⟩ := B.hK.1 k _ hc
  obtain ⟨cf, kf, fi, f, hi, hsl⟩ := hS j hj
  have hlay := hts _ (hin _ (u_in_lay hj))
  unfold u_lay at hlay
  rw [if_neg (by rw [hfin]; decide)] at hlay
  have hst := (u_facts hfc hkC (u_lays hts hin hj) hi).1
  have h6 := u_store hfc hkC hkind hlay hi (cC_ty k hk j hj) hn hfit
  refine W.putK B.1 B.2.1 (f := f) ⟨B.2.2.2.1, hlink, ⟨_, _, _, by rw [cC_own k hk j hj] at hi; exact hi⟩, hst⟩ (by rw [q2]; exact h6) q1 q3 (by rw [hsl]; exact k2_hasslot (q4 j hj)) rfl rfl hd fun H' e1 e2 e3 => ?_
  rw [hsl] at e1 ⊢
  exact kk H' _ (hP.set hD he ⟨_, hc, t_OB.to (V := updV (vp_V fs) j v) ⟨_, e1, q2, q3, t_set q4 hap hj v⟩ (fun j _ => vp_updV_set hl v j)⟩ e3) (hD.set he) (hS0.put e2 e3 (hD.2 q0 _ he)) e2
theorem fvs_len {k i : Nat} : (fvs X fl w k i).length = (cC k).2.2 := by simp [fvs]
theorem fvs_up {k i j : Nat} {x : Int32} (hj : j < (cC k).2.2) (hfd : fdD k j = none) : (fvs X fl w k i).set j (.int x) = fvs X fl (up w k i j x) k i := by
  refine List.ext_getElem? (fun q => ?_)
  by_cases hq : q < (cC k).2.2
  · by_cases hqj : q = j
    · subst hqj
      rw [List.getElem?_set_self (by rw [fvs_len]; exact hq), fvs_get hq]
      unfold fv; rw [hfd, up_s]
    · rw [List.getElem?_set_ne (Ne.symm hqj), fvs_get hq, fvs_get hq]
      unfold fv; rw [up_n (by omega)]
  · rw [List.getElem?_eq_none (by rw [List.length_set, fvs_len]; omega), List.getElem?_eq_none (by rw [fvs_len]; omega)]
theorem up_o {k i j : Nat} {x : Int32} : ∀ a b c, ¬ (a = k ∧ b = i) → up w k i j x a b c = w a b c := fun a b c h => up_n (fun z => h ⟨z.1, z.2.1⟩)
theorem zf_ty : ∀ k, k < 6 → ∀ j, j < (cC k).2.2 → (k, j) ∉ zfT → tyC k j ≠ .boolean := by decide +kernel
theorem g_put (B : Bd X mi p s m args meth c) {ei : EI} {idx : Nat} (hlk : lkI mi pc (.putfield idx, ei.2) = true) (hd : decode mi.2.1 pc = .ok (.putfield idx, 3)) (hex : xPut (L, S, w) ei.2.1 ei.2.2.1 = some (cd, L1, S1, w1)) (hc : cd.getD True) (kk : G l X mi p e R s m args below meth c ce sl Q n fl (pc + 3) L1 S1 w1) : G l X mi p e R s m args below meth c ce sl Q n fl pc L S w := by
  have h0 : (lkF mi (.putfield idx, ei.2) idx && (decide (((cC ei.2.1).2.1 ei.2.2.1).2.2.2 = false) && (decide (fdD ei.2.1 ei.2.2.1 = none) && (decide (tyC ei.2.1 ei.2.2.1 = .int) || decide (tyC ei.2.1 ei.2.2.1 = .boolean))))) = true := hlk
  simp only [Bool.and_eq_true, Bool.or_eq_true, decide_eq_true_eq] at h0
  obtain ⟨h1, hfin, hfd, hty⟩ := h0
  obtain ⟨hf, hk, hj⟩ := lkF_spec h1
  dsimp only at hf hk hj
  generalize ei.2.1 = k at hex hf hk hj hfin hfd hty
  generalize ei.2.2.1 = j at hex hf hj hfin hfd hty
  unfold xPut at hex
  split at hex
  · rename_i q L0 x r S0 w0 e0
    cases e0
    obtain ⟨k', i⟩ := r
    split at hex
    · rename_i hkk
      dsimp only at hkk
      subst hkk
      simp only [Option.some.injEq, Prod.mk.injEq] at hex
      obtain ⟨hcd, rfl, rfl, rfl⟩ := hex
      intro H locs ls hW hS hl hL oL oS
      have o1 := List.forall_mem_cons.mp (List.forall_mem_cons.mp oS).2
      have hok := own_ref (by omega) o1.1
      have hnf : narrow (tyC k' j) (.int x) = .int x ∧ fits (tyC k' j) (.int x) = true := by
        by_cases hz : (k', j) ∈ zfT
        · rw [if_pos hz] at hcd
          subst hcd
          have hx1 : x = 1 := hc
          subst hx1
          rcases hty with h | h <;> rw [h] <;> exact ⟨by decide +kernel, by decide +kernel⟩
        · have h2 := zf_ty k' hk j hj hz
          rcases hty with h | h
          · rw [h]; exact ⟨rfl, rfl⟩
          · exact absurd h h2
      refine w_put B hW.1 hW.2.1 hS ((wl_get hW.2.2.2.1 hok).trans (by rw [ent_o hk])) hk hj hf hfin hnf.1 hnf.2 (by rw [fvs_len]; exact hj) hd (fun H1 locs1 hP1 hD1 hS1 hsz => ?_)
      exact kk H1 locs1 ls (hW.put B.2.2.2.2.2.2.2.2.2.2.1 hS hS1 hok hsz hP1 hD1 (by rw [ent_o hk]; exact congrArg (fun z => Sum.inr (k', z)) (fvs_up hj hfd)) (fun _ _ _ _ => rfl) up_o) hS1 hl hL oL o1.2
    · cases hex
  · cases hex
theorem g_iald (B : Bd X mi p s m args meth c) (hd : decode mi.2.1 pc = .ok (.iaload, 1)) (hex : xIald (L, S, w) = some (cd, L1, S1, w1)) (hc : cd.getD True) (kk : G l X mi p e R s m args below meth c ce sl Q n fl (pc + 1) L1 S1 w1) : G l X mi p e R s m args below meth c ce sl Q n fl pc L S w := by
  unfold xIald at hex
  split at hex
  · rename_i q L0 x r S0 w0 e0
    cases e0
    obtain ⟨k, i⟩ := r
    split at hex
    · rename_i hA
      dsimp only at hA
      simp only [Option.some.injEq, Prod.mk.injEq] at hex
      obtain ⟨rfl, rfl, rfl, rfl⟩ := hex
      intro H locs ls hW hS hl hL oL oS
      have o1 := List.forall_mem_cons.mp (List.forall_mem_cons.mp oS).2
      have hok := own_ref (isA_spec hA).2.1 o1.1
      exact va_iald B.1 B.2.1 B.hK hW.1 (ord k i) 0 ((wl_get hW.2.2.2.1 hok).trans (by rw [ent_a hA])) rfl hc hd (kk H locs ls hW hS hl hL oL (List.forall_mem_cons.mpr ⟨rfl, o1.2⟩))
    · cases hex
  · cases hex
theorem up_fun {k i j : Nat} {x : Int32} : upd (w k i) j x = up w k i j x k i := by
  funext q
  by_cases hq : q = j
  · subst hq; rw [up_s]; simp [upd]
  · rw [up_n (by omega)]; simp [upd, hq]
theorem w_iast (B : Bd X mi p s m args meth c) {H : Heap} {locs : List Loc} {ls : Array Slot} {rest : List Value} {ws : va_W} {q0 a nn : Nat} {f : Nat → Int32} {i x : Int32} (hP : va_P X.1 classes ws H) (hD : va_D (AA X) ws) (hS : va_S (AA X) s.heap H locs) (ha : ws[q0]? = some (a, .inl (X.2.1.1, nn, .inl f))) (hin : vp_in i nn) (hd : decode mi.2.1 pc = .ok (.iastore, 1))
    (kk : ∀ (H1 : Heap) (locs1 : List Loc), va_P X.1 classes (ws.set q0 (a, .inl (X.2.1.1, nn, .inl (upd f i.toNatClampNeg x)))) H1 → va_D (AA X) (ws.set q0 (a, .inl (X.2.1.1, nn, .inl (upd f i.toNatClampNeg x)))) → va_S (AA X) s.heap H1 locs1 → H1.size = H.size → W p l e R s m args below meth c H1 locs1 ce sl Q (F0 m (pc + 1) ls rest)) : W p l e R s m args below meth c H locs ce sl Q (F0 m pc ls (.int x :: .int i :: .ref a :: rest)) := by
  refine W.iast B.1 B.2.1 (hP q0 _ ha) ((B.hK.2 0 _ rfl).1 nn (fun j => .int (f j))) (fun q => by cases q) (by show ¬ (i < 0 ∨ (arrV _ _ _).slots.size ≤ _); rw [arrV_size]; exact hin) rfl rfl hd fun H1 e z oq => ?_
  refine kk H1 _ (hP.set hD ha ?_ oq) (hD.set ha) (hS.put z oq (hD.2 q0 _ ha)) z
  show H1[a]? = some (vp_cell _ _)
  rw [e]
  rw [vp_cell_i, vp_cell_i, arrV_store]
  congr 2
  funext q
  by_cases hq : q = i.toNatClampNeg
  · subst hq
    simp [updV, upd]
  · simp [updV, upd, hq]
theorem g_iast (B : Bd X mi p s m args meth c) (hd : decode mi.2.1 pc = .ok (.iastore, 1)) (hex : xIast (L, S, w) = some (cd, L1, S1, w1)) (hc : cd.getD True) (kk : G l X mi p e R s m args below meth c ce sl Q n fl (pc + 1) L1 S1 w1) : G l X mi p e R s m args below meth c ce sl Q n fl pc L S w := by
  unfold xIast at hex
  split at hex
  · rename_i q L0 v x r S0 w0 e0
    cases e0
    obtain ⟨k, i⟩ := r
    split at hex
    · rename_i hA
      dsimp only at hA
      simp only [Option.some.injEq, Prod.mk.injEq] at hex
      obtain ⟨rfl, rfl, rfl, rfl⟩ := hex
      intro H locs ls hW hS hl hL oL oS
      have o1 := List.forall_mem_cons.mp (List.forall_mem_cons.mp (List.forall_mem_cons.mp oS).2).2
      have hok := own_ref (isA_spec hA).2.1 o1.1
      refine w_iast B hW.1 hW.2.1 hS ((wl_get hW.2.2.2.1 hok).trans (by rw [ent_a hA])) hc hd (fun H1 locs1 hP1 hD1 hS1 hsz => ?_)
      exact kk H1 locs1 ls (hW.put B.2.2.2.2.2.2.2.2.2.2.1 hS hS1 hok hsz hP1 hD1 (by rw [up_fun, ent_a hA]) (fun _ _ _ _ => rfl) up_o) hS1 hl hL oL o1.2
    · cases hex
  · cases hex
theorem g_aald (B : Bd X mi p s m args meth c) (hfl : flOK n fl) (hfs : ∀ j, j < 4 → fl 18 0 j = true → okc n 2 j = true) (hd : decode mi.2.1 pc = .ok (.aaload, 1)) (hex : xAald fl (L, S, w) = some (cd, L1, S1, w1)) (hc : cd.getD True) (kk : G l X mi p e R s m args below meth c ce sl Q n fl (pc + 1) L1 S1 w1) : G l X mi p e R s m args below meth c ce sl Q n fl pc L S w := by
  unfold xAald at hex
  split at hex
  · rename_i q L0 x r S0 w0 e0
    cases e0
    split at hex
    · rename_i hA
      subst hA
      split at hex
      · rename_i hff
        simp only [Option.some.injEq, Prod.mk.injEq] at hex
        obtain ⟨rfl, rfl, rfl, rfl⟩ := hex
        intro H locs ls hW hS hl hL oL oS
        have o1 := List.forall_mem_cons.mp (List.forall_mem_cons.mp oS).2
        have hok := own_ref (by decide) o1.1
        have hin : vp_in x 4 := hc
        have hlt : tn x < 4 := Nat.not_le.mp fun q => hin (Or.inr q)
        refine va_aldq (C := "NameThrownBack$Sheet") B.1 B.2.1 B.hK hW.1 (ord 18 0) 1 ((wl_get hW.2.2.2.1 hok).trans (by rw [ent_q])) rfl hin hd ?_
        rw [if_pos hff]
        exact kk H locs ls hW hS hl hL oL (List.forall_mem_cons.mpr ⟨by show okR n (2, tn x) = true; rw [okR_own (by decide)]; exact hfs _ hlt hff, o1.2⟩)
      · cases hex
    · cases hex
  · cases hex
theorem g_alen (B : Bd X mi p s m args meth c) (hd : decode mi.2.1 pc = .ok (.arraylength, 1)) (hex : xAlen (L, S, w) = some (cd, L1, S1, w1)) (kk : G l X mi p e R s m args below meth c ce sl Q n fl (pc + 1) L1 S1 w1) : G l X mi p e R s m args below meth c ce sl Q n fl pc L S w := by
  unfold xAlen at hex
  split at hex
  · rename_i q L0 r S0 w0 e0
    cases e0
    obtain ⟨k, i⟩ := r
    split at hex
    · rename_i hA
      simp only [Bool.and_eq_true, decide_eq_true_eq] at hA
      simp only [Option.some.injEq, Prod.mk.injEq] at hex
      obtain ⟨rfl, rfl, rfl, rfl⟩ := hex
      intro H locs ls hW hS hl hL oL oS
      have o1 := List.forall_mem_cons.mp oS
      have hok := own_ref hA.2.1 o1.1
      by_cases h18 : k = 18
      · subst h18
        refine va_alen (ty := .object "NameThrownBack$Sheet") B.1 B.2.1 B.hK hW.1 (ord 18 i) 1 ((wl_get hW.2.2.2.1 hok).trans (by rw [ent_q])) rfl rfl hd ?_
        exact kk H locs ls hW hS hl hL oL (List.forall_mem_cons.mpr ⟨rfl, o1.2⟩)
      · have hA2 : isA k = true := by simp only [isA, Bool.and_eq_true, decide_eq_true_eq]; exact ⟨hA.1, hA.2.1, h18, hA.2.2⟩
        refine va_alen (ty := .int) B.1 B.2.1 B.hK hW.1 (ord k i) 0 ((wl_get hW.2.2.2.1 hok).trans (by rw [ent_a hA2])) rfl rfl hd ?_
        exact kk H locs ls hW hS hl hL oL (List.forall_mem_cons.mpr ⟨rfl, o1.2⟩)
    · cases hex
  · cases hex
theorem g_LI {f : Int64 → Int32 → Int64} (row : ∀ (H : Heap) (locs : List Loc) (ls : Array Slot) (rest : List Value) (x : Int64) (y : Int32), W p l e R s m args below meth c H locs ce sl Q (F0 m (pc + 1) ls (.long (f x y) :: rest)) → W p l e R s m args below meth c H locs ce sl Q (F0 m pc ls (.int y :: .long x :: rest))) (hex : xLI (L, S, w) f = some (cd, L1, S1, w1)) (kk : G l X mi p e R s m args below meth c ce sl Q n fl (pc + 1) L1 S1 w1) : G l X mi p e R s m args below meth c ce sl Q n fl pc L S w := by
  unfold xLI at hex
  split at hex
  · rename_i q L0 y x S0 w0 e0
    cases e0
    simp only [Option.some.injEq, Prod.mk.injEq] at hex
    obtain ⟨rfl, rfl, rfl, rfl⟩ := hex
    intro H locs ls hW hS hl hL oL oS
    have oS2 := (List.forall_mem_cons.mp (List.forall_mem_cons.mp oS).2).2
    exact row H locs ls _ x y (kk H locs ls hW hS hl hL oL (List.forall_mem_cons.mpr ⟨rfl, oS2⟩))
  · cases hex
theorem g_lald (B : Bd X mi p s m args meth c) (hd : decode mi.2.1 pc = .ok (.laload, 1)) (hex : xLald (L, S, w) = some (cd, L1, S1, w1)) (hc : cd.getD True) (kk : G l X mi p e R s m args below meth c ce sl Q n fl (pc + 1) L1 S1 w1) : G l X mi p e R s m args below meth c ce sl Q n fl pc L S w := by
  unfold xLald at hex
  split at hex
  · rename_i q L0 x r S0 w0 e0
    cases e0
    split at hex
    · rename_i hA
      subst hA
      simp only [Option.some.injEq, Prod.mk.injEq] at hex
      obtain ⟨rfl, rfl, rfl, rfl⟩ := hex
      intro H locs ls hW hS hl hL oL oS
      have o1 := List.forall_mem_cons.mp (List.forall_mem_cons.mp oS).2
      have hok := own_ref (by decide) o1.1
      exact va_lald (f := fun j => (w 20 0 j).toInt64) B.1 B.2.1 B.hK hW.1 (ord 20 0) 2 ((wl_get hW.2.2.2.1 hok).trans (by rw [ent_h])) rfl hc hd (kk H locs ls hW hS hl hL oL (List.forall_mem_cons.mpr ⟨rfl, o1.2⟩))
    · cases hex
  · cases hex
def upL (f : Nat → Int64) (k : Nat) (x : Int64) : Nat → Int64 := fun j => if j = k then x else f j
theorem up_fun20 {i : Nat} {v : Int64} (hv : v.toInt32.toInt64 = v) : upL (fun j => (w 20 0 j).toInt64) i v = fun j => (up w 20 0 i v.toInt32 20 0 j).toInt64 := by
  funext q
  by_cases hq : q = i
  · subst hq; rw [up_s, hv]; simp [upL]
  · rw [up_n (by omega)]; simp [upL, hq]
theorem w_last (B : Bd X mi p s m args meth c) {H : Heap} {locs : List Loc} {ls : Array Slot} {rest : List Value} {ws : va_W} {q0 a nn : Nat} {f : Nat → Int64} {i : Int32} {x : Int64} (hP : va_P X.1 classes ws H) (hD : va_D (AA X) ws) (hS : va_S (AA X) s.heap H locs) (ha : ws[q0]? = some (a, .inl (lc X, nn, .inr (.inl f)))) (hin : vp_in i nn) (hd : decode mi.2.1 pc = .ok (.lastore, 1))
    (kk : ∀ (H1 : Heap) (locs1 : List Loc), va_P X.1 classes (ws.set q0 (a, .inl (lc X, nn, .inr (.inl (upL f i.toNatClampNeg x))))) H1 → va_D (AA X) (ws.set q0 (a, .inl (lc X, nn, .inr (.inl (upL f i.toNatClampNeg x))))) → va_S (AA X) s.heap H1 locs1 → H1.size = H.size → W p l e R s m args below meth c H1 locs1 ce sl Q (F0 m (pc + 1) ls rest)) : W p l e R s m args below meth c H locs ce sl Q (F0 m pc ls (.long x :: .int i :: .ref a :: rest)) := by
  refine W.last B.1 B.2.1 (hP q0 _ ha) ((B.hK.2 2 _ rfl).1 nn (fun j => .long (f j))) (fun q => by cases q) (by show ¬ (i < 0 ∨ (arrV _ _ _).slots.size ≤ _); rw [arrV_size]; exact hin) rfl rfl hd fun H1 e z oq => ?_
  refine kk H1 _ (hP.set hD ha ?_ oq) (hD.set ha) (hS.put z oq (hD.2 q0 _ ha)) z
  show H1[a]? = some (vp_cell _ _)
  rw [e]
  rw [vp_cell_l, vp_cell_l, arrV_store]
  congr 2
  funext q
  by_cases hq : q = i.toNatClampNeg
  · subst hq
    simp [updV, upL]
  · simp [updV, upL, hq]
theorem g_last (B : Bd X mi p s m args meth c) (hd : decode mi.2.1 pc = .ok (.lastore, 1)) (hex : xLast (L, S, w) = some (cd, L1, S1, w1)) (hc : cd.getD True) (kk : G l X mi p e R s m args below meth c ce sl Q n fl (pc + 1) L1 S1 w1) : G l X mi p e R s m args below meth c ce sl Q n fl pc L S w := by
  unfold xLast at hex
  split at hex
  · rename_i q L0 v x r S0 w0 e0
    cases e0
    split at hex
    · rename_i hA
      subst hA
      simp only [Option.some.injEq, Prod.mk.injEq] at hex
      obtain ⟨rfl, rfl, rfl, rfl⟩ := hex
      intro H locs ls hW hS hl hL oL oS
      have o1 := List.forall_mem_cons.mp (List.forall_mem_cons.mp (List.forall_mem_cons.mp oS).2).2
      have hok := own_ref (by decide) o1.1
      refine w_last B hW.1 hW.2.1 hS ((wl_get hW.2.2.2.1 hok).trans (by rw [ent_h])) hc.1 hd (fun H1 locs1 hP1 hD1 hS1 hsz => ?_)
      exact kk H1 locs1 ls (hW.put B.2.2.2.2.2.2.2.2.2.2.1 hS hS1 hok hsz hP1 hD1 (by rw [up_fun20 hc.2, ent_h]) (fun _ _ _ _ => rfl) up_o) hS1 hl hL oL o1.2
    · cases hex
  · cases hex
set_option maxHeartbeats 4000000 in
theorem g_one (B : Bd X mi p s m args meth c) (hfl : flOK n fl) (hfs : ∀ j, j < 4 → fl 18 0 j = true → okc n 2 j = true) {ei : EI} (hst : ste mi pc ei = some pc1) (hex : ex1 fl ei (L, S, w) = some (cd, L1, S1, w1)) (hc : cd.getD True) (kk : G l X mi p e R s m args below meth c ce sl Q n fl pc1 L1 S1 w1) : G l X mi p e R s m args below meth c ce sl Q n fl pc L S w := by
  obtain ⟨hd, hlk, rfl⟩ := ste_spec hst
  obtain ⟨ins, ea, eb, ek, el⟩ := ei
  have hx := B.1
  have hb := B.2.1
  have hown := B.2.2.2.1
  cases ins with
  | iconst q => exact g_push (v := .inl ek) (len := 1) rfl (fun H locs ls rest k1 => lv_iconst hx hb hd (of_decide_eq_true hlk) k1) hex kk
  | bipush q => exact g_push (v := .inl ek) (len := 2) rfl (fun H locs ls rest k1 => lv_bipush hx hb hd (of_decide_eq_true hlk) k1) hex kk
  | sipush q => exact g_push (v := .inl ek) (len := 3) rfl (fun H locs ls rest k1 => lv_sipush hx hb hd (of_decide_eq_true hlk) k1) hex kk
  | ldc q => exact g_push (v := .inl ek) (len := 2) rfl (fun H locs ls rest k1 => lv_ldc hx hb hown (B.hw (B.2.2.2.2.2.2.2.2.2.1.2.1 _ (of_decide_eq_true hlk)) rfl) hd k1) hex kk
  | ldc_w q => exact g_push (v := .inl ek) (len := 3) rfl (fun H locs ls rest k1 => lv_ldcw hx hb hown (B.hw (B.2.2.2.2.2.2.2.2.2.1.2.1 _ (of_decide_eq_true hlk)) rfl) hd k1) hex kk
  | ldc2_w q => exact g_push (v := .inr (.inl el)) (len := 3) rfl (fun H locs ls rest k1 => lv_ldc2 hx hb hown (B.hw (B.2.2.2.2.2.2.2.2.2.1.2.2 _ (of_decide_eq_true hlk)) rfl) hd k1) hex kk
  | lconst q => exact g_push (v := .inr (.inl el)) (len := 1) rfl (fun H locs ls rest k1 => lv_lconst hx hb hd (of_decide_eq_true hlk) k1) hex kk
  | aconst_null => exact g_push (v := .inr (.inr none)) (len := 1) rfl (fun H locs ls rest k1 => lv_null hx hb hd k1) hex kk
  | iload_n q => exact g_ldI (len := 1) (fun H locs ls rest x hl k1 => lv_iload_n hx hb hd rfl hl k1) hex kk
  | iload q => exact g_ldI (len := 2) (fun H locs ls rest x hl k1 => lv_iload hx hb hd hl k1) hex kk
  | lload_n q => exact g_ldL (len := 1) (fun H locs ls rest x hl k1 => lv_lload_n hx hb hd rfl hl k1) hex kk
  | lload q => exact g_ldL (len := 2) (fun H locs ls rest x hl k1 => lv_lload hx hb hd hl k1) hex kk
  | aload_n q => exact g_ldA (len := 1) (fun H locs ls rest x hl k1 => lv_aload_n hx hb hd rfl hl k1) (fun H locs ls rest hl k1 => lv_aload_nN hx hb hd rfl hl k1) hex kk
  | aload q => exact g_ldA (len := 2) (fun H locs ls rest x hl k1 => lv_aload hx hb hd hl k1) (fun H locs ls rest hl k1 => lv_aloadN hx hb hd hl k1) hex kk
  | istore_n q => exact g_stI (len := 1) (fun H locs ls rest x lv lv' h1 h2 h3 k1 => lv_istore_n hx hb hd rfl h1 h2 h3 k1) hex kk
  | istore q => exact g_stI (len := 2) (fun H locs ls rest x lv lv' h1 h2 h3 k1 => lv_istore hx hb hd h1 h2 h3 k1) hex kk
  | lstore_n q => exact g_stL (len := 1) (fun H locs ls rest x lv lv' h1 h2 h3 k1 => lv_lstore_n hx hb hd rfl h1 h2 h3 k1) hex kk
  | lstore q => exact g_stL (len := 2) (fun H locs ls rest x lv lv' h1 h2 h3 k1 => lv_lstore hx hb hd h1 h2 h3 k1) hex kk
  | astore_n q => exact g_stA (len := 1) (fun H locs ls rest x lv lv' h1 h2 h3 k1 => lv_astore_n hx hb hd rfl h1 h2 h3 k1) (fun H locs ls rest lv lv' h1 h2 h3 k1 => lv_astore_nN hx hb hd rfl h1 h2 h3 k1) hex kk
  | astore q => exact g_stA (len := 2) (fun H locs ls rest x lv lv' h1 h2 h3 k1 => lv_astore hx hb hd h1 h2 h3 k1) (fun H locs ls rest lv lv' h1 h2 h3 k1 => lv_astoreN hx hb hd h1 h2 h3 k1) hex kk
  | iinc q1 q2 => exact g_inc B (of_decide_eq_true hlk) hd hex kk
  | iadd => exact g_II (fun H locs ls rest x y k1 => lv_iadd hx hb hd k1) hex kk
  | isub => exact g_II (fun H locs ls rest x y k1 => lv_isub hx hb hd k1) hex kk
  | imul => exact g_II (fun H locs ls rest x y k1 => lv_imul hx hb hd k1) hex kk
  | iand => exact g_II (fun H locs ls rest x y k1 => lv_iand hx hb hd k1) hex kk
  | ior => exact g_II (fun H locs ls rest x y k1 => lv_ior hx hb hd k1) hex kk
  | ixor => exact g_II (fun H locs ls rest x y k1 => lv_ixor hx hb hd k1) hex kk
  | ishl => exact g_II (fun H locs ls rest x y k1 => lv_ishl hx hb hd k1) hex kk
  | ishr => exact g_II (fun H locs ls rest x y k1 => lv_ishr hx hb hd k1) hex kk
  | iushr => exact g_II (fun H locs ls rest x y k1 => lv_iushr hx hb hd rfl k1) hex kk
  | idiv => exact g_Iz (fun H locs ls rest x y h0 k1 => lv_idiv hx hb hd h0 k1) hex hc kk
  | irem => exact g_Iz (fun H locs ls rest x y h0 k1 => lv_irem hx hb hd h0 k1) hex hc kk
  | ladd => exact g_LL (fun H locs ls rest x y k1 => lv_ladd hx hb hd k1) hex kk
  | lsub => exact g_LL (fun H locs ls rest x y k1 => lv_lsub hx hb hd k1) hex kk
  | land => exact g_LL (fun H locs ls rest x y k1 => lv_land hx hb hd k1) hex kk
  | lor => exact g_LL (fun H locs ls rest x y k1 => lv_lor hx hb hd k1) hex kk
  | lxor => exact g_LL (fun H locs ls rest x y k1 => lv_lxor hx hb hd k1) hex kk
  | lshl => exact g_LI (fun H locs ls rest x y k1 => lv_lshl hx hb hd rfl k1) hex kk
  | lshr => exact g_LI (fun H locs ls rest x y k1 => lv_lshr hx hb hd rfl k1) hex kk
  | lushr => exact g_LI (fun H locs ls rest x y k1 => lv_lushr hx hb hd rfl k1) hex kk
  | laload => exact g_lald B hd hex hc kk
  | lastore => exact g_last B hd hex hc kk
  | lmul => exact g_LL (fun H locs ls rest x y k1 => lv_lmul hx hb hd k1) hex kk
  | ldiv => exact g_Lz (fun H locs ls rest x y h0 k1 => lv_ldiv hx hb hd h0 k1) hex hc kk
  | lrem => exact g_Lz (fun H locs ls rest x y h0 k1 => lv_lrem hx hb hd h0 k1) hex hc kk
  | lcmp => exact g_Cmp (fun H locs ls rest x y k1 => W.lcmp hx hb hd k1) hex kk
  | ineg => exact g_I1 (f := fun x => .inl (-x)) (fun _ => rfl) (fun H locs ls rest x k1 => lv_ineg hx hb hd k1) hex kk
  | i2l => exact g_I1 (f := fun x => .inr (.inl x.toInt64)) (fun _ => rfl) (fun H locs ls rest x k1 => lv_i2l hx hb hd rfl k1) hex kk
  | i2b => exact g_I1 (f := fun x => .inl x.toInt8.toInt32) (fun _ => rfl) (fun H locs ls rest x k1 => lv_i2b hx hb hd rfl k1) hex kk
  | i2s => exact g_I1 (f := fun x => .inl x.toInt16.toInt32) (fun _ => rfl) (fun H locs ls rest x k1 => lv_i2s hx hb hd rfl k1) hex kk
  | i2c => exact g_I1 (f := fun x => .inl (x.toUInt32 % 65536).toInt32) (fun _ => rfl) (fun H locs ls rest x k1 => lv_i2c hx hb hd rfl k1) hex kk
  | l2i => exact g_L1 (f := fun x => .inl x.toInt32) (fun _ => rfl) (fun H locs ls rest x k1 => lv_l2i hx hb hd rfl k1) hex kk
  | dup => exact g_Dup B hd hex kk
  | pop => exact g_Pop B hd hex kk
  | dup2 => exact g_Dup2 B hd hex kk
  | getfield q => exact g_get B hfl (ei := (.getfield q, ea, eb, ek, el)) hlk hd hex kk
  | putfield q => exact g_put B (ei := (.putfield q, ea, eb, ek, el)) hlk hd hex hc kk
  | iaload => exact g_iald B hd hex hc kk
  | iastore => exact g_iast B hd hex hc kk
  | aaload => exact g_aald B hfl hfs hd hex hc kk
  | arraylength => exact g_alen B hd hex kk
  | goto q => 
    simp only [ex1, Option.some.injEq, Prod.mk.injEq] at hex
    obtain ⟨rfl, rfl, rfl, rfl⟩ := hex
    intro H locs ls hW hS hl hL oL oS
    exact lv_goto hx hb hd (Int.toNat_of_nonneg (of_decide_eq_true hlk)).symm (kk H locs ls hW hS hl hL oL oS)
  | _ => simp [ex1] at hex
end WALK
end
section
/-! stretches, contracts, calls, ends -/
def blk (mi : MI) : Nat → List EI → Option Nat
  | pc, [] => some pc
  | pc, e :: es => match ste mi pc e with
    | none => none
    | some pc1 => blk mi pc1 es
def addC (c : Option Prop) (P : Prop) : Prop := match c with
  | none => P
  | some c => c ∧ P
def exs (fl : Fl) : List EI → AS → Option (Prop × AS)
  | [], σ => some (True, σ)
  | e :: es, σ => match ex1 fl e σ with
    | none => none
    | some (c, σ1) => match exs fl es σ1 with
      | none => none
      | some (P, σ2) => some (addC c P, σ2)
def flG (n : Nat) (fl : Fl) : Prop := flOK n fl ∧ ∀ j, j < 4 → fl 18 0 j = true → okc n 2 j = true
def okAs (n : Nat) (As : List AV) : Prop := ∀ v ∈ As, okV n v = true
def PcW (X : XC) (n : Nat) (fl : Fl) (w : Mem) (As : List AV) : Array Value → State → Prop := va_Pc (As.map (cv X)) (fun U => Wd X n fl w U.heap ∧ X.2.2.1.vm.Alike U.vm ∧ nstOK X U)
def QcW (X : XC) (Q : Option AV → Nat → Fl → Mem → Prop) : Array Value → State → Outcome → State → Prop := fun _ st oc t => (∃ (v : Option AV) (n1 : Nat) (fl1 : Fl) (w1 : Mem), oc = .returned (v.map (cv X)) ∧ Q v n1 fl1 w1 ∧ Wd X n1 fl1 w1 t.heap ∧ ∀ u, v = some u → okV n1 u = true) ∧ va_F (AA X) st t
abbrev rmD (d mc ms : Nat) : Room := { frames := d, cells := mc, slots := ms, locals := 64 * d }
abbrev wsM (y : MethodName) (cc : ByteArray) (maxL : Nat) (ret : Option FieldType) : List Cond := Cond.code y cc maxL ret :: gtb
/-- the contract of a method at one world: it returns, with Q -/
def Mt (l : Launch) (X : XC) (d : Nat) (y : MethodName) (cc : ByteArray) (maxL : Nat) (ret : Option FieldType) (As : List AV) (mc ms n : Nat) (fl : Fl) (w : Mem) (Q : Option AV → Nat → Fl → Mem → Prop) : Prop :=
  Met l y (wsM y cc maxL ret) (rmD d mc ms) (PcW X n fl w As) (QcW X Q) mc ms (AA X)
def enL : List AV → LL
  | [] => []
  | .inr (.inl x) :: t => some (.inr (.inl x)) :: none :: enL t
  | v :: t => some v :: enL t
def enN (As : List AV) (nL : Nat) : LL := enL As ++ List.replicate (nL - (enL As).length) none
theorem cv_cat1 {X : XC} {v : AV} (h : cat1 v = true) : ¬ (cv X v).category = 2 := by
  rcases v with x | x | _ | q
  · simp [cv, Value.category]
  · cases h
  · simp [cv, Value.category]
  · simp [cv, Value.category]
theorem enL_args {X : XC} : ∀ (As : List AV) (k : Nat), lvP X k (enL As) = lv_args k (As.map (cv X)) := by
  intro As
  induction As with
  | nil => intro k; rfl
  | cons v t ih =>
    intro k
    rcases v with x | x | _ | q
    · show (k, Value.int x) :: lvP X (k + 1) (enL t) = (k, Value.int x) :: lv_args (k + 1) _
      rw [ih]
    · show (k, Value.long x) :: lvP X (k + 1 + 1) (enL t) = (k, Value.long x) :: lv_args (k + 2) _
      rw [ih]
    · show (k, Value.null) :: lvP X (k + 1) (enL t) = (k, Value.null) :: lv_args (k + 1) _
      rw [ih]
    · show (k, Value.ref _) :: lvP X (k + 1) (enL t) = (k, Value.ref _) :: lv_args (k + 1) _
      rw [ih]
theorem enL_sl {X : XC} : ∀ (As : List AV), (lg_sl (As.map (cv X))).length = (enL As).length := by
  intro As
  induction As with
  | nil => rfl
  | cons v t ih =>
    rcases v with x | x | _ | q <;> simp [enL, lg_sl, cv, Value.category] at ih ⊢ <;> omega
theorem lvP_app {X : XC} {m : Nat} : ∀ (L : LL) (k : Nat), lvP X k (L ++ List.replicate m none) = lvP X k L := by
  have h0 : ∀ (m k : Nat), lvP X k (List.replicate m none) = [] := by
    intro m
    induction m with
    | zero => intro k; rfl
    | succ m ih => intro k; exact ih (k + 1)
  intro L
  induction L with
  | nil => intro k; exact h0 m k
  | cons a t ih =>
    intro k
    cases a with
    | none => exact ih (k + 1)
    | some v => exact congrArg (fun z => (k, cv X v) :: z) (ih (k + 1))
theorem enL_ok {n : Nat} : ∀ (As : List AV), okAs n As → ∀ v, some v ∈ enL As → okV n v = true := by
  intro As
  induction As with
  | nil => intro _ v hv; cases hv
  | cons a t ih =>
    intro h v hv
    have h2 := List.forall_mem_cons.mp h
    rcases a with x | x | _ | q <;> simp only [enL, List.mem_cons, reduceCtorEq, false_or, Option.some.injEq] at hv
    all_goals
      rcases hv with rfl | hv
      · exact h2.1
      · exact ih h2.2 v hv
theorem Met.ofWF {l : Launch} {y : MethodName} {ws ws' : List Cond} {rm : Room} {Pc : Array Value → State → Prop} {Qc : Array Value → State → Outcome → State → Prop} {mc ms : Nat} {free : Addr → Prop} {cc : ByteArray} {maxL : Nat} {ret : Option FieldType}
    (hy : plainFor y = true) (hw : ws = Cond.code y cc maxL ret :: ws')
    (body : ∀ p e s m args below meth c s₁, BodyLoose p l y (headSpec ws rm) cc maxL ret e s m args below meth c s₁ → c.maxLocals = maxL → Pc args s →
      W p l e (headSpec ws rm).room s m args below meth c s.heap [] 0 0 (MQ below Qc args s mc ms free) (entryFrame m args maxL)) : Met l y ws rm Pc Qc mc ms free := by
  refine MetFree.of_bodySF (code := cc) (maxLocals := maxL) (ret := ret) hy ?_ ?_
  · intro args s m h hn
    obtain ⟨meth, c, h1, h2, h3, h4, h5, h6, -, -⟩ := Cond.code_spec hn (atoms_spec (ws := ws) h _ (by rw [hw]; exact List.mem_cons_self))
    exact ⟨meth, c, h1, h2, h3, h4, h5, h6⟩
  · intro p e s m args below meth c s₁ B hml hP _
    have hh0 : s₁.heap = s.heap := by rw [B.state]; rfl
    obtain ⟨t, a1, o, b1, b2, b3⟩ := body p e s m args below meth c s₁ B hml hP s₁ hh0 (Stand.of_body B)
    exact ⟨t, o, a1, b1, b2, ⟨b3.1, b3.2⟩⟩
section CON
variable {l : Launch} {X : XC} {mi : MI} {p : Program} {e : Env} {R : Room} {s : State} {m : MethodId} {args : Array Value} {below : List Frame} {meth : Method} {c : Code} {ce sl : Nat} {Q : State → Prop} {n : Nat} {fl : Fl} {pc pc1 : Nat} {L L1 : LL} {S S1 : List AV} {w w1 : Mem} {P : Prop}
theorem G_run (B : Bd X mi p s m args meth c) (hfl : flG n fl) : ∀ (is : List EI) {pc : Nat} {L : LL} {S : List AV} {w : Mem} {P : Prop}, blk mi pc is = some pc1 → exs fl is (L, S, w) = some (P, L1, S1, w1) → P → G l X mi p e R s m args below meth c ce sl Q n fl pc1 L1 S1 w1 → G l X mi p e R s m args below meth c ce sl Q n fl pc L S w := by
  intro is
  induction is with
  | nil =>
    intro pc L S w P hb hx hP kk
    cases hb
    cases hx
    exact kk
  | cons ei es ih =>
    intro pc L S w P hb hx hP kk
    unfold blk at hb
    split at hb
    · cases hb
    · rename_i pc2 hst
      unfold exs at hx
      split at hx
      · cases hx
      · rename_i cd σ1 hex
        split at hx
        · cases hx
        · rename_i P2 σ2 hes
          obtain ⟨L2, S2, w2⟩ := σ1
          cases hx
          cases cd with
          | none => exact g_one B hfl.1 hfl.2 hst hex trivial (ih hb hes hP kk)
          | some cp => exact g_one B hfl.1 hfl.2 hst hex hP.1 (ih hb hes hP.2 kk)
/-- a method by its body -/
theorem Mt_of {d mc ms nn : Nat} {y : MethodName} {As : List AV} {Qy : Option AV → Nat → Fl → Mem → Prop} (hX : XOK X) (hmi : MIok mi) (me : meOK y mi.2.1 mi.2.2.1 mi.2.2.2.1 nn) (hcl : y.cls = mi.1) (hok : okAs n As) (hle : (enL As).length ≤ mi.2.2.1)
    (body : ∀ p e s m args below meth c, Bd X mi p s m args meth c → meth.name = y.name → G l X mi p e (rmD d mc ms) s m args below meth c 0 0 (MQ below (QcW X Qy) args s mc ms (AA X)) n fl 0 (enN As mi.2.2.1) [] w) : Mt l X d y mi.2.1 mi.2.2.1 mi.2.2.2.1 As mc ms n fl w Qy := by
  refine Met.ofWF (cc := mi.2.1) (maxL := mi.2.2.1) (ret := mi.2.2.2.1) me.2.2.1 rfl ?_
  intro p e s m args below meth c s₁ B hml hv
  obtain ⟨rfl, hW, hal, hns⟩ := hv
  have hts := atoms_spec (ws := wsM y mi.2.1 mi.2.2.1 mi.2.2.2.1) B.pre
  have hown : s.vm.findClass mi.1 = some m.cls := by rw [← hcl]; exact findClass_of_methodNamed B.named
  have hB : Bd X mi p s m (As.map (cv X)).toArray meth c := ⟨B.exec, B.bytes, hml, hown, fun w hw => hts w (List.mem_cons_of_mem _ hw), B.returns, B.notSynchronized, hal, hX, hmi, hW.2.2.1.1, hns⟩
  rw [lg_entry_eq]
  have hl := lv_entry (As.map (cv X)) (n := mi.2.2.1) (by rw [enL_sl]; exact hle)
  refine body p e s m _ below meth c hB (name_of_methodNamed B.named B.method).1 s.heap [] _ hW va_S.rf (lv_mono hl (fun q hq => ?_)) ?_ ?_ (fun v hv => by cases hv)
  · rw [enN, lvP_app, enL_args] at hq; exact hq
  · simp only [enN, List.length_append, List.length_replicate]; omega
  · intro v hv
    rcases List.mem_append.mp hv with h | h
    · exact enL_ok As hok v h
    · have := List.eq_of_mem_replicate h; cases this
-- ends
theorem G_fin {Qy : Option AV → Nat → Fl → Mem → Prop} {v : Option AV} {H : Heap} {locs : List Loc} (hW : Wd X n fl w H) (hS : va_S (AA X) s.heap H locs) (hq : Qy v n fl w) (hv : ∀ u, v = some u → okV n u = true) : ∀ t : State, t.heap = H → s.WarmedH t.vm → QcW X Qy args s (.returned (v.map (cv X))) t := by
  intro t ht _
  exact ⟨⟨v, n, fl, w, rfl, hq, by rw [ht]; exact hW, hv⟩, hS.F ht⟩
theorem G_iret {Qy : Option AV → Nat → Fl → Mem → Prop} {v : Int32} (B : Bd X mi p s m args meth c) (hr : mi.2.2.2.1 = some .int) (hd : decode mi.2.1 pc = .ok (.ireturn, 1)) (hq : Qy (some (.inl v)) n fl w) : G l X mi p e R s m args below meth c ce sl (MQ below (QcW X Qy) args s ce sl (AA X)) n fl pc L [.inl v] w := by
  intro H locs ls hW hS hl hL oL oS
  exact W.iret B.1 B.2.1 (by rw [B.2.2.2.2.2.1]; exact hr) (G_fin (v := some (.inl v)) hW hS hq (fun u hu => by cases hu; rfl)) hS.2.2 hd B.2.2.2.2.2.2.1
theorem G_zret {Qy : Option AV → Nat → Fl → Mem → Prop} {v : Int32} {ty : FieldType} (B : Bd X mi p s m args meth c) (hr : mi.2.2.2.1 = some ty) (hn : narrow ty (.int v) = .int v) (hd : decode mi.2.1 pc = .ok (.ireturn, 1)) (hq : Qy (some (.inl v)) n fl w) : G l X mi p e R s m args below meth c ce sl (MQ below (QcW X Qy) args s ce sl (AA X)) n fl pc L [.inl v] w := by
  intro H locs ls hW hS hl hL oL oS
  exact W.zret B.1 B.2.1 (by rw [B.2.2.2.2.2.1]; exact hr) hn (G_fin (v := some (.inl v)) hW hS hq (fun u hu => by cases hu; rfl)) hS.2.2 hd B.2.2.2.2.2.2.1
theorem G_lret {Qy : Option AV → Nat → Fl → Mem → Prop} {v : Int64} (B : Bd X mi p s m args meth c) (hr : mi.2.2.2.1 = some .long) (hd : decode mi.2.1 pc = .ok (.lreturn, 1)) (hq : Qy (some (.inr (.inl v))) n fl w) : G l X mi p e R s m args below meth c ce sl (MQ below (QcW X Qy) args s ce sl (AA X)) n fl pc L [.inr (.inl v)] w := by
  intro H locs ls hW hS hl hL oL oS
  exact W.lret B.1 B.2.1 (by rw [B.2.2.2.2.2.1]; exact hr) (G_fin (v := some (.inr (.inl v))) hW hS hq (fun u hu => by cases hu; rfl)) hS.2.2 hd B.2.2.2.2.2.2.1
theorem G_vret {Qy : Option AV → Nat → Fl → Mem → Prop} (B : Bd X mi p s m args meth c) (hr : mi.2.2.2.1 = none) (hd : decode mi.2.1 pc = .ok (.return_, 1)) (hq : Qy none n fl w) : G l X mi p e R s m args below meth c ce sl (MQ below (QcW X Qy) args s ce sl (AA X)) n fl pc L [] w := by
  intro H locs ls hW hS hl hL oL oS
  exact W.vret B.1 B.2.1 (by rw [B.2.2.2.2.2.1]; exact hr) (G_fin (v := none) hW hS hq (fun u hu => by cases hu)) hS.2.2 hd B.2.2.2.2.2.2.1
theorem G_aret {Qy : Option AV → Nat → Fl → Mem → Prop} {r : Option (Nat × Nat)} {C : String} (B : Bd X mi p s m args meth c) (hr : mi.2.2.2.1 = some (.object C)) (hd : decode mi.2.1 pc = .ok (.areturn, 1)) (hq : Qy (some (.inr (.inr r))) n fl w) : G l X mi p e R s m args below meth c ce sl (MQ below (QcW X Qy) args s ce sl (AA X)) n fl pc L [.inr (.inr r)] w := by
  intro H locs ls hW hS hl hL oL oS
  have h1 := G_fin (args := args) (v := some (.inr (.inr r))) hW hS hq (fun u hu => by cases hu; exact (List.forall_mem_cons.mp oS).1)
  cases r with
  | none => exact W.aret B.1 B.2.1 (by rw [B.2.2.2.2.2.1]; exact hr) (Or.inl ⟨_, rfl⟩) (Or.inl rfl) h1 hS.2.2 hd B.2.2.2.2.2.2.1
  | some q => exact W.aret B.1 B.2.1 (by rw [B.2.2.2.2.2.1]; exact hr) (Or.inl ⟨_, rfl⟩) (Or.inr ⟨_, rfl⟩) h1 hS.2.2 hd B.2.2.2.2.2.2.1
-- calls
theorem okc_mono {n n1 k i : Nat} (h : n ≤ n1) (hc : okc n k i = true) : okc n1 k i = true := by
  simp only [okc, Bool.and_eq_true, decide_eq_true_eq] at hc ⊢
  exact ⟨by omega, hc.2⟩
theorem okV_mono {n n1 : Nat} {v : AV} (h : n ≤ n1) (hc : okV n v = true) : okV n1 v = true := by
  rcases v with x | x | _ | ⟨k, i⟩
  · rfl
  · rfl
  · rfl
  · show okR n1 (k, i) = true
    have hc : okR n (k, i) = true := hc
    unfold okR at hc ⊢
    split at hc
    · exact hc
    · exact hc
    · exact okc_mono h hc
theorem PcW_blind {As : List AV} : FrameBlind (PcW X n fl w As) := fun a U g mk q => ⟨q.1, q.2.1, q.2.2.1, fun a2 i x h hm => va_Nw.same rfl rfl (q.2.2.2.1 a2 i x h hm), fun z hz => vk_R.same rfl (q.2.2.2.2 z hz)⟩
theorem PcW_at (B : Bd X mi p s m args meth c) {As : List AV} {H : Heap} (hW : Wd X n fl w H) : ∀ U : State, U.heap = H → s.WarmedH U.vm → PcW X n fl w As (As.map (cv X)).toArray U := by
  intro U hU hWm
  exact ⟨rfl, by rw [hU]; exact hW, B.2.2.2.2.2.2.2.1.trans hWm.alike, fun a2 i x h hm => va_Nw.warmM hWm (B.2.2.2.2.2.2.2.2.2.2.2.1 a2 i x h hm), fun z hz => vk_R.warm hWm (B.2.2.2.2.2.2.2.2.2.2.2.2 z hz)⟩
theorem G_call {mc ms : Nat} {a : Array Value} {st0 : List AV} {Qy : Option AV → Nat → Fl → Mem → Prop}
    (hr : ∀ (H : Heap) (locs : List Loc) (ls : Array Slot), Wd X n fl w H → lv_has ls mi.2.2.1 (lvP X 0 L) → (∀ v ∈ st0, okV n v = true) → va_Run p l e R s m args below meth c H locs ce sl mc ms (F0 m pc ls (st0.map (cv X))) (S.map (cv X)) (QcW X Qy a) (AA X))
    (hsub : ∀ v ∈ S, v ∈ st0) (hmn : ∀ (v : Option AV) (n1 : Nat) (fl1 : Fl) (w1 : Mem), Qy v n1 fl1 w1 → n ≤ n1)
    (kk : ∀ (v : Option AV) (n1 : Nat) (fl1 : Fl) (w1 : Mem), Qy v n1 fl1 w1 → G l X mi p e R s m args below meth c (ce + mc) (sl + ms) Q n1 fl1 (pc + 3) L (v.toList ++ S) w1) : G l X mi p e R s m args below meth c ce sl Q n fl pc L st0 w := by
  intro H locs ls hW hS hl hL oL oS T hT X0
  obtain ⟨v0, st₀, t, T', L2, h0, X', hL2, e1, e2, ⟨⟨v, n1, fl1, w1, hv, hq, hW1, hov⟩, hz, hk⟩, st⟩ := hr H locs ls hW hl oS T hT X0
  cases hv
  rw [h0] at hz hk
  have hn : n ≤ n1 := hmn v n1 fl1 w1 hq
  have hS1 : va_S (AA X) s.heap T'.heap (locs ++ L2) := ⟨Nat.le_trans hS.1 (by rw [e1]; exact hz), fun q h1 h2 => by rw [e1, hk q (Nat.lt_of_lt_of_le h1 hS.1) h2]; exact hS.2.1 q h1 h2, fun q hq => by
      rcases List.mem_append.mp hq with h | h
      · exact hS.2.2 q h
      · exact hL2 q h⟩
  have h3 : (v.map (cv X)).toList ++ S.map (cv X) = (v.toList ++ S).map (cv X) := by cases v <;> simp
  obtain ⟨t2, a1, b1⟩ := kk v n1 fl1 w1 hq T'.heap (locs ++ L2) ls (by rw [e1]; exact hW1) hS1 hl hL (fun u hu => okV_mono hn (oL u hu)) (fun u hu => by
      rcases List.mem_append.mp hu with h | h
      · cases v with
        | none => cases h
        | some x => rw [List.mem_singleton.mp h]; exact hov x rfl
      · exact okV_mono hn (oS u (hsub u h))) T' rfl X'
  exact ⟨t2, st t2 (by rw [h3]; exact a1), b1⟩
def catS (S : List AV) : Nat := (S.map fun v => if cat1 v = true then 1 else 2).sum
theorem catS_ok (h : catS S ≤ 8) : ((S.map (cv X)).map fun v => v.category).sum ≤ 8 := by
  have e1 : (S.map (cv X)).map (fun v => v.category) = S.map fun v => if cat1 v = true then 1 else 2 := by
    rw [List.map_map]
    refine List.map_congr_left (fun v _ => ?_)
    rcases v with x | x | _ | q <;> rfl
  rw [e1]; exact h
theorem ws_in (B : Bd X mi p s m args meth c) {y : MethodName} {cc : ByteArray} {maxL nn : Nat} {ret : Option FieldType} (me : meOK y cc maxL ret nn) : GoodIn gtb (wsM y cc maxL ret) := by
  intro w hw
  rcases List.mem_cons.mp hw with rfl | h
  · exact gtb_good _ (gm me.1 rfl)
  · exact gtb_good _ h
theorem G_callS {d mc ms idx nn : Nat} {y : MethodName} {cc : ByteArray} {maxL : Nat} {ret : Option FieldType} {As : List AV} {Qy : Option AV → Nat → Fl → Mem → Prop} (B : Bd X mi p s m args meth c)
    (hM : Mt l X d y cc maxL ret As mc ms n fl w Qy) (me : meOK y cc maxL ret nn) (hst : Cond.static y ∈ lw_tbl) (hlk : Cond.methodLink mi.1 idx y ∈ lw_tbl) (hd : decode mi.2.1 pc = .ok (.invokestatic idx, 3)) (hn : As.length = nn)
    (hR : d + 1 ≤ R.frames ∧ 8 + (maxL + 11) + 64 * d ≤ R.locals) (hf : ce + mc ≤ R.cells ∧ sl + ms ≤ R.slots) (hcat : catS S ≤ 8) (hmn : ∀ (v : Option AV) (n1 : Nat) (fl1 : Fl) (w1 : Mem), Qy v n1 fl1 w1 → n ≤ n1)
    (kk : ∀ (v : Option AV) (n1 : Nat) (fl1 : Fl) (w1 : Mem), Qy v n1 fl1 w1 → G l X mi p e R s m args below meth c (ce + mc) (sl + ms) Q n1 fl1 (pc + 3) L (v.toList ++ S) w1) : G l X mi p e R s m args below meth c ce sl Q n fl pc L (As.reverse ++ S) w := by
  refine G_call (Qy := Qy) (a := (As.map (cv X)).toArray) (fun H locs ls hW hl oS => ?_) (fun v hv => List.mem_append_right _ hv) hmn kk
  refine va_runS (own := mi.1) (Ts := gtb) (n := nn) ⟨B.1, B.2.1, B.2.2.1, B.2.2.2.1, B.2.2.2.2.1⟩ hM ⟨callB_of nn B.2.2.2.2.1 (ws_in B me) rfl rfl rfl (B.hw me.2.1 rfl) (B.hw hlk rfl) ⟨me.2.2.2.1, me.2.2.2.2⟩ hR, B.hw hst rfl⟩ ⟨PcW_blind, PcW_at B hW⟩ rfl (by rw [List.length_map]; exact hn) hl.1 (by simp) (lv_room (catS_ok hcat)) hd hf
theorem G_callSN {d mc ms idx nn : Nat} {y : MethodName} {host : String} {cc : ByteArray} {maxL : Nat} {ret : Option FieldType} {As : List AV} {Qy : Option AV → Nat → Fl → Mem → Prop} (B : Bd X mi p s m args meth c)
    (hM : Mt l X d y cc maxL ret As mc ms n fl w Qy) (me : meOK y cc maxL ret nn) (hst : Cond.static y ∈ lw_tbl) (hlk : Cond.methodLinkNest mi.1 idx y host ∈ lw_tbl) (hd : decode mi.2.1 pc = .ok (.invokestatic idx, 3)) (hn : As.length = nn)
    (hR : d + 1 ≤ R.frames ∧ 8 + (maxL + 11) + 64 * d ≤ R.locals) (hf : ce + mc ≤ R.cells ∧ sl + ms ≤ R.slots) (hcat : catS S ≤ 8) (hmn : ∀ (v : Option AV) (n1 : Nat) (fl1 : Fl) (w1 : Mem), Qy v n1 fl1 w1 → n ≤ n1)
    (kk : ∀ (v : Option AV) (n1 : Nat) (fl1 : Fl) (w1 : Mem), Qy v n1 fl1 w1 → G l X mi p e R s m args below meth c (ce + mc) (sl + ms) Q n1 fl1 (pc + 3) L (v.toList ++ S) w1) : G l X mi p e R s m args below meth c ce sl Q n fl pc L (As.reverse ++ S) w := by
  refine G_call (Qy := Qy) (a := (As.map (cv X)).toArray) (fun H locs ls hW hl oS => ?_) (fun v hv => List.mem_append_right _ hv) hmn kk
  refine va_runSN (own := mi.1) (Ts := gtb) (n := nn) ⟨B.1, B.2.1, B.2.2.1, B.2.2.2.1, B.2.2.2.2.1⟩ hM ⟨va_cnB nn B.2.2.2.2.1 (ws_in B me) rfl rfl rfl (B.2.2.2.2.2.2.2.2.2.2.2.1 _ _ _ _ hlk) (B.hw me.2.1 rfl) ⟨me.2.2.2.1, me.2.2.2.2⟩ hR, B.hw hst rfl, trivial⟩ ⟨PcW_blind, PcW_at B hW⟩ rfl (by rw [List.length_map]; exact hn) hl.1 (by simp) (lv_room (catS_ok hcat)) hd hf
theorem recv_ok (B : Bd X mi p s m args meth c) {H : Heap} {k i : Nat} (hW : Wd X n fl w H) (hk : k < 6) (hok : okV n (.inr (.inr (some (k, i)))) = true) : ∃ cell : Cell, H[adr X k i]? = some cell ∧ cell.vm.isStatics = false ∧ s.vm.findClass (cC k).1 = some cell.cls :=
  va_recv B.hK hW.1 (cC_get k hk) ((wl_get hW.2.2.2.1 (own_ref (by omega) hok)).trans (by rw [ent_o hk]))
theorem G_callV {d mc ms idx nn k i : Nat} {y : MethodName} {cc : ByteArray} {maxL : Nat} {ret : Option FieldType} {As : List AV} {Qy : Option AV → Nat → Fl → Mem → Prop} (B : Bd X mi p s m args meth c) (hk : k < 6)
    (hM : Mt l X d y cc maxL ret (.inr (.inr (some (k, i))) :: As) mc ms n fl w Qy) (me : meOK y cc maxL ret nn) (hin : Cond.instanceMethod y ∈ lw_tbl) (hse : Cond.selects y.cls y y ∈ lw_tbl) (hcls : y.cls = (cC k).1) (hlk : Cond.methodLink mi.1 idx y ∈ lw_tbl) (hd : decode mi.2.1 pc = .ok (.invokevirtual idx, 3)) (hn : As.length = nn)
    (hR : d + 1 ≤ R.frames ∧ 8 + (maxL + 11) + 64 * d ≤ R.locals) (hf : ce + mc ≤ R.cells ∧ sl + ms ≤ R.slots) (hcat : catS S ≤ 8) (hmn : ∀ (v : Option AV) (n1 : Nat) (fl1 : Fl) (w1 : Mem), Qy v n1 fl1 w1 → n ≤ n1)
    (kk : ∀ (v : Option AV) (n1 : Nat) (fl1 : Fl) (w1 : Mem), Qy v n1 fl1 w1 → G l X mi p e R s m args below meth c (ce + mc) (sl + ms) Q n1 fl1 (pc + 3) L (v.toList ++ S) w1) : G l X mi p e R s m args below meth c ce sl Q n fl pc L (As.reverse ++ .inr (.inr (some (k, i))) :: S) w := by
  refine G_call (Qy := Qy) (a := (Value.ref (adr X k i) :: As.map (cv X)).toArray) (fun H locs ls hW hl oS => ?_) (fun v hv => List.mem_append_right _ (List.mem_cons_of_mem _ hv)) hmn kk
  have hrc := recv_ok B hW hk (oS _ (List.mem_append_right _ List.mem_cons_self))
  exact va_runV (own := mi.1) (C := y.cls) (Ts := gtb) (n := nn) ⟨B.1, B.2.1, B.2.2.1, B.2.2.2.1, B.2.2.2.2.1⟩ hM ⟨callB_of nn B.2.2.2.2.1 (ws_in B me) rfl rfl rfl (B.hw me.2.1 rfl) (B.hw hlk rfl) ⟨me.2.2.2.1, me.2.2.2.2⟩ hR, B.hw hin rfl, B.hw hse rfl⟩ ⟨PcW_blind, by rw [hcls]; exact hrc, PcW_at B hW⟩ rfl (by rw [List.length_map]; exact hn) hl.1 (by simp; rfl) (lv_room (catS_ok hcat)) hd hf
theorem G_callI {d mc ms idx nn k i : Nat} {y : MethodName} {cc : ByteArray} {maxL : Nat} {As : List AV} {Qy : Option AV → Nat → Fl → Mem → Prop} (B : Bd X mi p s m args meth c)
    (hM : Mt l X d y cc maxL none (.inr (.inr (some (k, i))) :: As) mc ms n fl w Qy) (me : meOK y cc maxL none nn) (hin : Cond.instanceMethod y ∈ lw_tbl) (hy1 : y.name = "<init>") (hlk : Cond.methodLink mi.1 idx y ∈ lw_tbl) (hd : decode mi.2.1 pc = .ok (.invokespecial idx, 3)) (hn : As.length = nn)
    (hR : d + 1 ≤ R.frames ∧ 8 + (maxL + 11) + 64 * d ≤ R.locals) (hf : ce + mc ≤ R.cells ∧ sl + ms ≤ R.slots) (hcat : catS S ≤ 8) (hmn : ∀ (v : Option AV) (n1 : Nat) (fl1 : Fl) (w1 : Mem), Qy v n1 fl1 w1 → n ≤ n1)
    (kk : ∀ (v : Option AV) (n1 : Nat) (fl1 : Fl) (w1 : Mem), Qy v n1 fl1 w1 → G l X mi p e R s m args below meth c (ce + mc) (sl + ms) Q n1 fl1 (pc + 3) L (v.toList ++ S) w1) : G l X mi p e R s m args below meth c ce sl Q n fl pc L (As.reverse ++ .inr (.inr (some (k, i))) :: S) w := by
  refine G_call (Qy := Qy) (a := (Value.ref (adr X k i) :: As.map (cv X)).toArray) (fun H locs ls hW hl oS => ?_) (fun v hv => List.mem_append_right _ (List.mem_cons_of_mem _ hv)) hmn kk
  exact va_runI (own := mi.1) (Ts := gtb) (n := nn) ⟨B.1, B.2.1, B.2.2.1, B.2.2.2.1, B.2.2.2.2.1⟩ hM ⟨callB_of nn B.2.2.2.2.1 (ws_in B me) rfl rfl rfl (B.hw me.2.1 rfl) (B.hw hlk rfl) ⟨me.2.2.2.1, me.2.2.2.2⟩ hR, hy1, B.hw hin rfl⟩ ⟨PcW_blind, PcW_at B hW⟩ rfl (by rw [List.length_map]; exact hn) hl.1 (by simp; rfl) (lv_room (catS_ok hcat)) hd hf
theorem G_callIN {d mc ms idx nn k i : Nat} {y : MethodName} {host : String} {cc : ByteArray} {maxL : Nat} {As : List AV} {Qy : Option AV → Nat → Fl → Mem → Prop} (B : Bd X mi p s m args meth c)
    (hM : Mt l X d y cc maxL none (.inr (.inr (some (k, i))) :: As) mc ms n fl w Qy) (me : meOK y cc maxL none nn) (hin : Cond.instanceMethod y ∈ lw_tbl) (hy1 : y.name = "<init>") (hlk : Cond.methodLinkNest mi.1 idx y host ∈ lw_tbl) (hd : decode mi.2.1 pc = .ok (.invokespecial idx, 3)) (hn : As.length = nn)
    (hR : d + 1 ≤ R.frames ∧ 8 + (maxL + 11) + 64 * d ≤ R.locals) (hf : ce + mc ≤ R.cells ∧ sl + ms ≤ R.slots) (hcat : catS S ≤ 8) (hmn : ∀ (v : Option AV) (n1 : Nat) (fl1 : Fl) (w1 : Mem), Qy v n1 fl1 w1 → n ≤ n1)
    (kk : ∀ (v : Option AV) (n1 : Nat) (fl1 : Fl) (w1 : Mem), Qy v n1 fl1 w1 → G l X mi p e R s m args below meth c (ce + mc) (sl + ms) Q n1 fl1 (pc + 3) L (v.toList ++ S) w1) : G l X mi p e R s m args below meth c ce sl Q n fl pc L (As.reverse ++ .inr (.inr (some (k, i))) :: S) w := by
  refine G_call (Qy := Qy) (a := (Value.ref (adr X k i) :: As.map (cv X)).toArray) (fun H locs ls hW hl oS => ?_) (fun v hv => List.mem_append_right _ (List.mem_cons_of_mem _ hv)) hmn kk
  exact va_runIN (own := mi.1) (Ts := gtb) (n := nn) ⟨B.1, B.2.1, B.2.2.1, B.2.2.2.1, B.2.2.2.2.1⟩ hM ⟨va_cnB nn B.2.2.2.2.1 (ws_in B me) rfl rfl rfl (B.2.2.2.2.2.2.2.2.2.2.2.1 _ _ _ _ hlk) (B.hw me.2.1 rfl) ⟨me.2.2.2.1, me.2.2.2.2⟩ hR, hy1, B.hw hin rfl⟩ ⟨PcW_blind, PcW_at B hW⟩ rfl (by rw [List.length_map]; exact hn) hl.1 (by simp; rfl) (lv_room (catS_ok hcat)) hd hf
end CON
end
section
/-! A METHOD AS A FUNCTION: if the expression E answers r, then from here on the method returns what E says -/
def GE {ρ : Type} (l : Launch) (X : XC) (mi : MI) (d : Nat) (em : ρ → Option AV × Mem) (n : Nat) (fl : Fl) (E : Option ρ) (pc : Nat) (L : LL) (S : List AV) (w : Mem) : Prop :=
  ∀ (r : ρ), E = some r → ∀ (p : Program) (e : Env) (s : State) (m : MethodId) (args : Array Value) (below : List Frame) (meth : Method) (c : Code), Bd X mi p s m args meth c →
    G l X mi p e (rmD d 0 0) s m args below meth c 0 0 (MQ below (QcW X (fun v n1 fl1 w1 => n1 = n ∧ fl1 = fl ∧ (v, w1) = em r)) args s 0 0 (AA X)) n fl pc L S w
def Ct {ρ : Type} (l : Launch) (X : XC) (d : Nat) (y : MethodName) (cc : ByteArray) (maxL : Nat) (ret : Option FieldType) (em : ρ → Option AV × Mem) (As : List AV) (n : Nat) (fl : Fl) (w : Mem) (E : Option ρ) : Prop :=
  XOK X → ∀ (r : ρ), E = some r → Mt l X d y cc maxL ret As 0 0 n fl w (fun v n1 fl1 w1 => n1 = n ∧ fl1 = fl ∧ (v, w1) = em r)
def emI : Int32 × Mem → Option AV × Mem := fun q => (some (.inl q.1), q.2)
def emL : Int64 × Mem → Option AV × Mem := fun q => (some (.inr (.inl q.1)), q.2)
def emA : Option (Nat × Nat) × Mem → Option AV × Mem := fun q => (some (.inr (.inr q.1)), q.2)
def emV : Mem → Option AV × Mem := fun w => (none, w)
theorem okM {n : Nat} (hn : 39 ≤ n) {q : Nat × Nat} (h : okR 39 q = true) : okR n q = true := okV_mono (v := .inr (.inr (some q))) hn h
theorem okMV {n : Nat} (hn : 39 ≤ n) {v : AV} (h : okV 39 v = true) : okV n v = true := okV_mono hn h
theorem flG_T {n : Nat} (hn : 39 ≤ n) : flG n flT := by
  refine ⟨?_, fun j hj _ => okc_mono hn ((by decide +kernel : ∀ j, j < 4 → okc 39 2 j = true) j hj)⟩
  intro k i j hok hk t ht _
  obtain ⟨h1, h2⟩ := okc_spec hok
  have h40 : ord k i < 40 := by
    rcases Nat.lt_or_ge (ord k i) 40 with h | h
    · exact h
    · have h3 : al (ord k i) = (99, 0) := by
        unfold al
        rw [List.getD_eq_getElem?_getD, List.getElem?_eq_none (by rw [show alT.length = 40 by decide]; exact h)]
        rfl
      rw [h3] at h2
      have : (99 : Nat) = k := congrArg (fun z => z.1) h2
      omega
  have key : ∀ q, q < 40 → (al q).1 < 6 → ∀ j, j < 11 → ∀ t, fdD (al q).1 j = some t → okR 39 (t.1, t.2.getD (al q).2) = true := by
    have h : ∀ q, q < 40 → (al q).1 < 6 → ∀ j, j < 11 → (match fdD (al q).1 j with | some t => okR 39 (t.1, t.2.getD (al q).2) | none => true) = true := by decide +kernel
    intro q hq h6 j hj t ht
    have h1 := h q hq h6 j hj
    rw [ht] at h1
    exact h1
  have hj : j < 11 := by
    rcases Nat.lt_or_ge j 11 with h | h
    · exact h
    · have hl : ∀ k, k < 6 → (fldT.getD k []).length ≤ 11 := by decide +kernel
      have h3 : fdD k j = none := by
        unfold fdD
        rw [List.getD_eq_getElem?_getD, List.getElem?_eq_none (by have := hl k hk; omega)]
        rfl
      rw [h3] at ht; cases ht
  have h4 := key (ord k i) h40 (by rw [h2]; exact hk) j hj t (by rw [h2]; exact ht)
  rw [h2] at h4
  exact okM hn h4
def cnd (k : ClassFile.Cond) (x y : Int32) : Prop := match k with
  | .eq => x = y
  | .ne => ¬ x = y
  | .lt => x < y
  | .ge => y ≤ x
  | .gt => y < x
  | .le => x ≤ y
section GEs
variable {l : Launch} {X : XC} {mi : MI} {d : Nat} {ρ ρ' : Type} {em : ρ → Option AV × Mem} {em' : ρ' → Option AV × Mem} {n : Nat} {fl : Fl} {E E1 E2 : Option ρ} {pc pc1 tgt : Nat} {L L1 : LL} {S S1 : List AV} {w w1 : Mem} {P : Prop} {off : Int} {k : ClassFile.Cond} {x y : Int32}
theorem GE_none : GE l X mi d em n fl none pc L S w := fun r h => by cases h
theorem GE_run (hfl : flG n fl) (is : List EI) (hb : blk mi pc is = some pc1) (hx : exs fl is (L, S, w) = some (P, L1, S1, w1)) (hP : P) (kk : GE l X mi d em n fl E pc1 L1 S1 w1) : GE l X mi d em n fl E pc L S w :=
  fun r hr p e s m args below meth c B => G_run B hfl is hb hx hP (kk r hr p e s m args below meth c B)
theorem GE_chk [Decidable P] (kk : P → GE l X mi d em n fl E pc L S w) : GE l X mi d em n fl (if P then E else none) pc L S w := by
  intro r hr
  by_cases h : P
  · rw [if_pos h] at hr; exact kk h r hr
  · rw [if_neg h] at hr; cases hr
theorem GE_eq (h : E = E1) (kk : GE l X mi d em n fl E1 pc L S w) : GE l X mi d em n fl E pc L S w := h ▸ kk
theorem G_if {p : Program} {e : Env} {R : Room} {s : State} {m : MethodId} {args : Array Value} {below : List Frame} {meth : Method} {c : Code} {ce sl : Nat} {Q : State → Prop} (B : Bd X mi p s m args meth c) (hd : decode mi.2.1 pc = .ok (.ifCond k off, 3)) (ht : (pc : Int) + off = (tgt : Int))
    (t : cnd k x 0 → G l X mi p e R s m args below meth c ce sl Q n fl tgt L S w) (f : ¬ cnd k x 0 → G l X mi p e R s m args below meth c ce sl Q n fl (pc + 3) L S w) : G l X mi p e R s m args below meth c ce sl Q n fl pc L (.inl x :: S) w := by
  intro H locs ls hW hS hl hL oL oS
  have oS2 := (List.forall_mem_cons.mp oS).2
  have kt := fun h => t h H locs ls hW hS hl hL oL oS2
  have kf := fun h => f h H locs ls hW hS hl hL oL oS2
  cases k with
  | eq => exact lv_if_eq B.1 B.2.1 hd ht kt kf
  | ne => exact lv_if_ne B.1 B.2.1 hd ht kt (fun h => kf (fun z => z h))
  | lt => exact lv_if_lt B.1 B.2.1 hd ht kt kf
  | ge => exact lv_if_ge B.1 B.2.1 hd ht kt kf
  | gt => exact lv_if_gt B.1 B.2.1 hd ht kt kf
  | le => exact lv_if_le B.1 B.2.1 hd ht kt kf
theorem G_icmp {p : Program} {e : Env} {R : Room} {s : State} {m : MethodId} {args : Array Value} {below : List Frame} {meth : Method} {c : Code} {ce sl : Nat} {Q : State → Prop} (B : Bd X mi p s m args meth c) (hd : decode mi.2.1 pc = .ok (.if_icmp k off, 3)) (ht : (pc : Int) + off = (tgt : Int))
    (t : cnd k x y → G l X mi p e R s m args below meth c ce sl Q n fl tgt L S w) (f : ¬ cnd k x y → G l X mi p e R s m args below meth c ce sl Q n fl (pc + 3) L S w) : G l X mi p e R s m args below meth c ce sl Q n fl pc L (.inl y :: .inl x :: S) w := by
  intro H locs ls hW hS hl hL oL oS
  have oS2 := (List.forall_mem_cons.mp (List.forall_mem_cons.mp oS).2).2
  have kt := fun h => t h H locs ls hW hS hl hL oL oS2
  have kf := fun h => f h H locs ls hW hS hl hL oL oS2
  cases k with
  | eq => exact lv_icmp_eq B.1 B.2.1 hd ht kt kf
  | ne => exact lv_icmp_ne B.1 B.2.1 hd ht kt (fun h => kf (fun z => z h))
  | lt => exact lv_icmp_lt B.1 B.2.1 hd ht kt kf
  | ge => exact lv_icmp_ge B.1 B.2.1 hd ht kt kf
  | gt => exact lv_icmp_gt B.1 B.2.1 hd ht kt kf
  | le => exact lv_icmp_le B.1 B.2.1 hd ht kt kf
/-- a branch on one number; P is where it goes on (GE_if: jumps, GE_ifN: does not) -/
theorem GE_if [Decidable P] (hd : decode mi.2.1 pc = .ok (.ifCond k off, 3)) (ht : (pc : Int) + off = (tgt : Int)) (hP : cnd k x 0 ↔ P) (t : P → GE l X mi d em n fl E1 tgt L S w) (f : ¬ P → GE l X mi d em n fl E2 (pc + 3) L S w) : GE l X mi d em n fl (if P then E1 else E2) pc L (.inl x :: S) w := by
  intro r hr p e s m args below meth c B
  refine G_if B hd ht (fun h => ?_) (fun h => ?_)
  · have h1 := hP.mp h; rw [if_pos h1] at hr; exact t h1 r hr p e s m args below meth c B
  · have h1 : ¬ P := fun z => h (hP.mpr z); rw [if_neg h1] at hr; exact f h1 r hr p e s m args below meth c B
theorem GE_ifN [Decidable P] (hd : decode mi.2.1 pc = .ok (.ifCond k off, 3)) (ht : (pc : Int) + off = (tgt : Int)) (hP : cnd k x 0 ↔ ¬ P) (t : ¬ P → GE l X mi d em n fl E2 tgt L S w) (f : P → GE l X mi d em n fl E1 (pc + 3) L S w) : GE l X mi d em n fl (if P then E1 else E2) pc L (.inl x :: S) w := by
  intro r hr p e s m args below meth c B
  refine G_if B hd ht (fun h => ?_) (fun h => ?_)
  · have h1 := hP.mp h; rw [if_neg h1] at hr; exact t h1 r hr p e s m args below meth c B
  · have h1 : P := Decidable.byContradiction fun z => h (hP.mpr z)
    rw [if_pos h1] at hr; exact f h1 r hr p e s m args below meth c B
theorem GE_icmp [Decidable P] (hd : decode mi.2.1 pc = .ok (.if_icmp k off, 3)) (ht : (pc : Int) + off = (tgt : Int)) (hP : cnd k x y ↔ P) (t : P → GE l X mi d em n fl E1 tgt L S w) (f : ¬ P → GE l X mi d em n fl E2 (pc + 3) L S w) : GE l X mi d em n fl (if P then E1 else E2) pc L (.inl y :: .inl x :: S) w := by
  intro r hr p e s m args below meth c B
  refine G_icmp B hd ht (fun h => ?_) (fun h => ?_)
  · have h1 := hP.mp h; rw [if_pos h1] at hr; exact t h1 r hr p e s m args below meth c B
  · have h1 : ¬ P := fun z => h (hP.mpr z); rw [if_neg h1] at hr; exact f h1 r hr p e s m args below meth c B
theorem GE_icmpN [Decidable P] (hd : decode mi.2.1 pc = .ok (.if_icmp k off, 3)) (ht : (pc : Int) + off = (tgt : Int)) (hP : cnd k x y ↔ ¬ P) (t : ¬ P → GE l X mi d em n fl E2 tgt L S w) (f : P → GE l X mi d em n fl E1 (pc + 3) L S w) : GE l X mi d em n fl (if P then E1 else E2) pc L (.inl y :: .inl x :: S) w := by
  intro r hr p e s m args below meth c B
  refine G_icmp B hd ht (fun h => ?_) (fun h => ?_)
  · have h1 := hP.mp h; rw [if_neg h1] at hr; exact t h1 r hr p e s m args below meth c B
  · have h1 : P := Decidable.byContradiction fun z => h (hP.mpr z)
    rw [if_pos h1] at hr; exact f h1 r hr p e s m args below meth c B
/-- null or not -/
theorem GE_null {q : Option (Nat × Nat)} {E2 : Nat × Nat → Option ρ} (hd : decode mi.2.1 pc = .ok (.ifnull off, 3)) (ht : (pc : Int) + off = (tgt : Int)) (t : q = none → GE l X mi d em n fl E1 tgt L S w) (f : ∀ z, q = some z → GE l X mi d em n fl (E2 z) (pc + 3) L S w) : GE l X mi d em n fl (q.elim E1 E2) pc L (.inr (.inr q) :: S) w := by
  intro r hr p e s m args below meth c B H locs ls hW hS hl hL oL oS
  have oS2 := (List.forall_mem_cons.mp oS).2
  cases q with
  | none => exact lv_ifnullN B.1 B.2.1 hd ht (t rfl r hr p e s m args below meth c B H locs ls hW hS hl hL oL oS2)
  | some z => exact lv_ifnull B.1 B.2.1 hd (f z rfl r hr p e s m args below meth c B H locs ls hW hS hl hL oL oS2)
theorem GE_nonnull {q : Option (Nat × Nat)} {E2 : Nat × Nat → Option ρ} (hd : decode mi.2.1 pc = .ok (.ifnonnull off, 3)) (ht : (pc : Int) + off = (tgt : Int)) (t : ∀ z, q = some z → GE l X mi d em n fl (E2 z) tgt L S w) (f : q = none → GE l X mi d em n fl E1 (pc + 3) L S w) : GE l X mi d em n fl (q.elim E1 E2) pc L (.inr (.inr q) :: S) w := by
  intro r hr p e s m args below meth c B H locs ls hW hS hl hL oL oS
  have oS2 := (List.forall_mem_cons.mp oS).2
  cases q with
  | none => exact lv_ifnonnullN B.1 B.2.1 hd (f rfl r hr p e s m args below meth c B H locs ls hW hS hl hL oL oS2)
  | some z => exact lv_ifnonnull B.1 B.2.1 hd ht (t z rfl r hr p e s m args below meth c B H locs ls hW hS hl hL oL oS2)
theorem GE_null1 {q : Nat × Nat} (hd : decode mi.2.1 pc = .ok (.ifnull off, 3)) (f : GE l X mi d em n fl E (pc + 3) L S w) : GE l X mi d em n fl E pc L (.inr (.inr (some q)) :: S) w := by
  intro r hr p e s m args below meth c B H locs ls hW hS hl hL oL oS
  exact lv_ifnull B.1 B.2.1 hd (f r hr p e s m args below meth c B H locs ls hW hS hl hL oL (List.forall_mem_cons.mp oS).2)
theorem GE_nonnull1 {q : Nat × Nat} (hd : decode mi.2.1 pc = .ok (.ifnonnull off, 3)) (ht : (pc : Int) + off = (tgt : Int)) (f : GE l X mi d em n fl E tgt L S w) : GE l X mi d em n fl E pc L (.inr (.inr (some q)) :: S) w := by
  intro r hr p e s m args below meth c B H locs ls hW hS hl hL oL oS
  exact lv_ifnonnull B.1 B.2.1 hd ht (f r hr p e s m args below meth c B H locs ls hW hS hl hL oL (List.forall_mem_cons.mp oS).2)
end GEs
/-- a switch: from number a on, one behind the other -/
def swE {ρ : Type} (x : Int32) : Int → List (Option ρ) → Option ρ → Option ρ
  | _, [], d => d
  | a, e :: es, d => if x = Int32.ofInt a then e else swE x (a + 1) es d
def swAll {ρ : Type} (x : Int32) (F : Option ρ → Nat → Prop) : Int → List (Option ρ) → List Nat → Prop
  | _, [], [] => True
  | a, e :: es, t :: ts => (x = Int32.ofInt a → F e t) ∧ swAll x F (a + 1) es ts
  | _, _, _ => False
def swT (pc : Nat) (offs : List Int) (ts : List Nat) : Bool := decide (offs.map (fun o => (pc : Int) + o) = ts.map (fun t : Nat => (t : Int)))
theorem ofInt_toInt {a : Int} (h1 : -2147483648 ≤ a) (h2 : a < 2147483648) : (Int32.ofInt a).toInt = a := Int32.toInt_ofInt_of_le h1 h2
section SWs
variable {l : Launch} {X : XC} {mi : MI} {d : Nat} {ρ : Type} {em : ρ → Option AV × Mem} {n : Nat} {fl : Fl} {Ed : Option ρ} {pc dt len : Nat} {L : LL} {S : List AV} {w : Mem} {x : Int32}
theorem swE_out : ∀ (es : List (Option ρ)) (a : Int), -2147483648 ≤ a → a + es.length ≤ 2147483648 → (x.toInt < a ∨ a + es.length ≤ x.toInt) → swE x a es Ed = Ed := by
  intro es
  induction es with
  | nil => intro a _ _ _; rfl
  | cons e es ih =>
    intro a h1 h2 h3
    simp only [List.length_cons, Int.natCast_add, Int.natCast_one] at h2 h3
    unfold swE
    rw [if_neg, ih (a + 1) (by omega) (by omega) (by omega)]
    intro z
    have h4 := ofInt_toInt (a := a) h1 (by omega)
    rw [← z] at h4
    omega
theorem swE_in {F : Option ρ → Nat → Prop} : ∀ (es : List (Option ρ)) (ts : List Nat) (a : Int), -2147483648 ≤ a → a + es.length ≤ 2147483648 → swAll x F a es ts → a ≤ x.toInt → x.toInt < a + es.length → ∃ t, ts[(x.toInt - a).toNat]? = some t ∧ F (swE x a es Ed) t := by
  intro es
  induction es with
  | nil => intro ts a _ _ _ h1 h2; simp at h2; omega
  | cons e es ih =>
    intro ts a h1 h2 h3 h4 h5
    simp only [List.length_cons, Int.natCast_add, Int.natCast_one] at h2 h5
    cases ts with
    | nil => exact h3.elim
    | cons t ts =>
      obtain ⟨h6, h7⟩ := h3
      unfold swE
      have h8 := ofInt_toInt (a := a) h1 (by omega)
      by_cases hx : x.toInt = a
      · have hxa : x = Int32.ofInt a := Int32.toInt_inj.mp (by rw [h8, hx])
        rw [if_pos hxa]
        refine ⟨t, ?_, h6 hxa⟩
        rw [hx, Int.sub_self]; rfl
      · have hxa : ¬ x = Int32.ofInt a := fun z => hx (by rw [z, h8])
        rw [if_neg hxa]
        obtain ⟨t2, h9, h10⟩ := ih ts (a + 1) (by omega) (by omega) h7 (by omega) (by omega)
        refine ⟨t2, ?_, h10⟩
        rw [show (x.toInt - a).toNat = (x.toInt - (a + 1)).toNat + 1 by omega]
        exact h9
theorem GE_sw {dflt lo hi : Int} {offs : Array Int} {es : List (Option ρ)} (ts : List Nat) (hd : decode mi.2.1 pc = .ok (.tableswitch dflt lo hi offs, len)) (hb : (decide (-2147483648 ≤ lo ∧ lo + es.length ≤ 2147483648 ∧ hi + 1 = lo + es.length ∧ (pc : Int) + dflt = (dt : Int)) && swT pc offs.toList ts) = true)
    (hc : swAll x (fun e t => GE l X mi d em n fl e t L S w) lo es ts) (hde : GE l X mi d em n fl Ed dt L S w) : GE l X mi d em n fl (swE x lo es Ed) pc L (.inl x :: S) w := by
  simp only [Bool.and_eq_true, decide_eq_true_eq, swT] at hb
  obtain ⟨⟨h1, h2, h3, h4⟩, h5⟩ := hb
  intro r hr p e s m args below meth c B H locs ls hW hS hl hL oL oS
  have oS2 := (List.forall_mem_cons.mp oS).2
  by_cases ho : x.toInt < lo ∨ hi < x.toInt
  · rw [swE_out es lo h1 h2 (by omega)] at hr
    exact lv_tableOut B.1 B.2.1 hd ho h4 (hde r hr p e s m args below meth c B H locs ls hW hS hl hL oL oS2)
  · obtain ⟨t, h6, h7⟩ := swE_in (Ed := Ed) es ts lo h1 h2 hc (by omega) (by omega)
    have h8 : (offs.toList.map (fun o => (pc : Int) + o))[(x.toInt - lo).toNat]? = some (t : Int) := by rw [h5, List.getElem?_map, h6]; rfl
    rw [List.getElem?_map] at h8
    cases h9 : offs.toList[(x.toInt - lo).toNat]? with
    | none => rw [h9] at h8; cases h8
    | some o =>
      rw [h9] at h8
      exact lv_tableIn B.1 B.2.1 hd (by omega) (by omega) (by rw [← Array.getElem?_toList]; exact h9) (Option.some.inj h8) (h7 r hr p e s m args below meth c B H locs ls hW hS hl hL oL oS2)
end SWs
section GEr
variable {l : Launch} {X : XC} {mi : MI} {d : Nat} {ρ ρ' : Type} {em : ρ → Option AV × Mem} {em' : ρ' → Option AV × Mem} {n : Nat} {fl : Fl} {E : Option ρ} {pc : Nat} {L : LL} {S : List AV} {w : Mem}
theorem GE_iret {v : Int32} (hr : mi.2.2.2.1 = some .int) (hd : decode mi.2.1 pc = .ok (.ireturn, 1)) : GE l X mi d emI n fl (some (v, w)) pc L [.inl v] w := by
  intro r h p e s m args below meth c B
  cases h
  exact G_iret B hr hd ⟨rfl, rfl, rfl⟩
theorem GE_zret {v : Int32} {ty : FieldType} (hr : mi.2.2.2.1 = some ty) (hn : narrow ty (.int v) = .int v) (hd : decode mi.2.1 pc = .ok (.ireturn, 1)) : GE l X mi d emI n fl (some (v, w)) pc L [.inl v] w := by
  intro r h p e s m args below meth c B
  cases h
  exact G_zret B hr hn hd ⟨rfl, rfl, rfl⟩
theorem nar_z {v : Int32} (h : v = 0 ∨ v = 1) : narrow .boolean (.int v) = .int v := by rcases h with rfl | rfl <;> decide +kernel
theorem GE_bret {v : Int32} (hr : mi.2.2.2.1 = some .boolean) (hd : decode mi.2.1 pc = .ok (.ireturn, 1)) : GE l X mi d emI n fl (if v = 0 ∨ v = 1 then some (v, w) else none) pc L [.inl v] w :=
  GE_chk (fun h => GE_zret hr (nar_z h) hd)
theorem GE_lret {v : Int64} (hr : mi.2.2.2.1 = some .long) (hd : decode mi.2.1 pc = .ok (.lreturn, 1)) : GE l X mi d emL n fl (some (v, w)) pc L [.inr (.inl v)] w := by
  intro r h p e s m args below meth c B
  cases h
  exact G_lret B hr hd ⟨rfl, rfl, rfl⟩
theorem GE_vret (hr : mi.2.2.2.1 = none) (hd : decode mi.2.1 pc = .ok (.return_, 1)) : GE l X mi d emV n fl (some w) pc L [] w := by
  intro r h p e s m args below meth c B
  cases h
  exact G_vret B hr hd ⟨rfl, rfl, rfl⟩
theorem GE_aret {q : Option (Nat × Nat)} {C : String} (hr : mi.2.2.2.1 = some (.object C)) (hd : decode mi.2.1 pc = .ok (.areturn, 1)) : GE l X mi d emA n fl (some (q, w)) pc L [.inr (.inr q)] w := by
  intro r h p e s m args below meth c B
  cases h
  exact G_aret B hr hd ⟨rfl, rfl, rfl⟩
/-- a method from its body -/
theorem Ct_of {nn : Nat} {y : MethodName} {As : List AV} (hmi : MIok mi) (me : meOK y mi.2.1 mi.2.2.1 mi.2.2.2.1 nn) (hcl : y.cls = mi.1) (hok : okAs n As) (hle : (enL As).length ≤ mi.2.2.1) (body : GE l X mi d em n fl E 0 (enN As mi.2.2.1) [] w) : Ct l X d y mi.2.1 mi.2.2.1 mi.2.2.2.1 em As n fl w E :=
  fun hX r hr => Mt_of hX hmi me hcl hok hle (fun p e s m args below meth c B _ => body r hr p e s m args below meth c B)
/-- what a call's place says of the callee: 0 virtual, 1 static, 2 static of a nest mate -/
def CV (own : String) (idx : Nat) (y : MethodName) (cc : ByteArray) (maxL : Nat) (ret : Option FieldType) (nn : Nat) : Prop := meOK y cc maxL ret nn ∧ Cond.instanceMethod y ∈ lw_tbl ∧ Cond.selects y.cls y y ∈ lw_tbl ∧ Cond.methodLink own idx y ∈ lw_tbl
def CS (own : String) (idx : Nat) (y : MethodName) (cc : ByteArray) (maxL : Nat) (ret : Option FieldType) (nn : Nat) : Prop := meOK y cc maxL ret nn ∧ Cond.static y ∈ lw_tbl ∧ Cond.methodLink own idx y ∈ lw_tbl
def CN (own host : String) (idx : Nat) (y : MethodName) (cc : ByteArray) (maxL : Nat) (ret : Option FieldType) (nn : Nat) : Prop := meOK y cc maxL ret nn ∧ Cond.static y ∈ lw_tbl ∧ Cond.methodLinkNest own idx y host ∈ lw_tbl
theorem room_d {d d' maxL : Nat} (h : d' < d) (hm : maxL ≤ 45) : d' + 1 ≤ (rmD d 0 0).frames ∧ 8 + (maxL + 11) + 64 * d' ≤ (rmD d 0 0).locals := by
  show d' + 1 ≤ d ∧ 8 + (maxL + 11) + 64 * d' ≤ 64 * d
  omega
theorem GE_callV {d' idx nn k i maxL : Nat} {y : MethodName} {cc : ByteArray} {ret : Option FieldType} {As : List AV} {f : Option ρ'} {kf : ρ' → Option ρ} (hC : Ct l X d' y cc maxL ret em' (.inr (.inr (some (k, i))) :: As) n fl w f) (hk : k < 6) (cl : CV mi.1 idx y cc maxL ret nn) (hcls : y.cls = (cC k).1) (hd : decode mi.2.1 pc = .ok (.invokevirtual idx, 3)) (hn : As.length = nn) (hdd : d' < d) (hm : maxL ≤ 45) (hcat : catS S ≤ 8)
    (kk : ∀ r, f = some r → GE l X mi d em n fl (kf r) (pc + 3) L ((em' r).1.toList ++ S) (em' r).2) : GE l X mi d em n fl (f.bind kf) pc L (As.reverse ++ .inr (.inr (some (k, i))) :: S) w := by
  intro r hr p e s m args below meth c B
  obtain ⟨r1, h1, h2⟩ := Option.bind_eq_some_iff.mp hr
  refine G_callV B hk (hC B.2.2.2.2.2.2.2.2.1 r1 h1) cl.1 cl.2.1 cl.2.2.1 hcls cl.2.2.2 hd hn (room_d hdd hm) ⟨Nat.le_refl _, Nat.le_refl _⟩ hcat (fun _ _ _ _ h => Nat.le_of_eq h.1.symm) (fun v n1 fl1 w1 hq => ?_)
  obtain ⟨rfl, rfl, h3⟩ := hq
  have h4 := kk r1 h1 r h2 p e s m args below meth c B
  rw [← h3] at h4
  exact h4
theorem GE_callS {d' idx nn maxL : Nat} {y : MethodName} {cc : ByteArray} {ret : Option FieldType} {As : List AV} {f : Option ρ'} {kf : ρ' → Option ρ} (hC : Ct l X d' y cc maxL ret em' As n fl w f) (cl : CS mi.1 idx y cc maxL ret nn) (hd : decode mi.2.1 pc = .ok (.invokestatic idx, 3)) (hn : As.length = nn) (hdd : d' < d) (hm : maxL ≤ 45) (hcat : catS S ≤ 8)
    (kk : ∀ r, f = some r → GE l X mi d em n fl (kf r) (pc + 3) L ((em' r).1.toList ++ S) (em' r).2) : GE l X mi d em n fl (f.bind kf) pc L (As.reverse ++ S) w := by
  intro r hr p e s m args below meth c B
  obtain ⟨r1, h1, h2⟩ := Option.bind_eq_some_iff.mp hr
  refine G_callS B (hC B.2.2.2.2.2.2.2.2.1 r1 h1) cl.1 cl.2.1 cl.2.2 hd hn (room_d hdd hm) ⟨Nat.le_refl _, Nat.le_refl _⟩ hcat (fun _ _ _ _ h => Nat.le_of_eq h.1.symm) (fun v n1 fl1 w1 hq => ?_)
  obtain ⟨rfl, rfl, h3⟩ := hq
  have h4 := kk r1 h1 r h2 p e s m args below meth c B
  rw [← h3] at h4
  exact h4
theorem GE_callN {d' idx nn maxL : Nat} {y : MethodName} {host : String} {cc : ByteArray} {ret : Option FieldType} {As : List AV} {f : Option ρ'} {kf : ρ' → Option ρ} (hC : Ct l X d' y cc maxL ret em' As n fl w f) (cl : CN mi.1 host idx y cc maxL ret nn) (hd : decode mi.2.1 pc = .ok (.invokestatic idx, 3)) (hn : As.length = nn) (hdd : d' < d) (hm : maxL ≤ 45) (hcat : catS S ≤ 8)
    (kk : ∀ r, f = some r → GE l X mi d em n fl (kf r) (pc + 3) L ((em' r).1.toList ++ S) (em' r).2) : GE l X mi d em n fl (f.bind kf) pc L (As.reverse ++ S) w := by
  intro r hr p e s m args below meth c B
  obtain ⟨r1, h1, h2⟩ := Option.bind_eq_some_iff.mp hr
  refine G_callSN B (hC B.2.2.2.2.2.2.2.2.1 r1 h1) cl.1 cl.2.1 cl.2.2 hd hn (room_d hdd hm) ⟨Nat.le_refl _, Nat.le_refl _⟩ hcat (fun _ _ _ _ h => Nat.le_of_eq h.1.symm) (fun v n1 fl1 w1 hq => ?_)
  obtain ⟨rfl, rfl, h3⟩ := hq
  have h4 := kk r1 h1 r h2 p e s m args below meth c B
  rw [← h3] at h4
  exact h4
/-- a contract at an answer that is known -/
theorem Ct.eq {d' maxL : Nat} {y : MethodName} {cc : ByteArray} {ret : Option FieldType} {As : List AV} {f f2 : Option ρ} (hC : Ct l X d' y cc maxL ret em As n fl w f) (h : f2 = f) : Ct l X d' y cc maxL ret em As n fl w f2 := h ▸ hC
end GEr
end
section
/-! what the printed methods use -/
def FU : Nat := 1000000
def dropL : List Bool → LL → LL
  | true :: m, v :: t => v :: dropL m t
  | false :: m, _ :: t => none :: dropL m t
  | _, _ => []
theorem dropL_get : ∀ (m : List Bool) (L : LL) (j : Nat) (v : AV), (dropL m L)[j]? = some (some v) → L[j]? = some (some v) := by
  intro m
  induction m with
  | nil => intro L j v h; simp [dropL] at h
  | cons b m ih =>
    intro L j v h
    cases L with
    | nil => cases b <;> simp [dropL] at h
    | cons a t =>
      cases b <;> cases j with
      | zero => simp [dropL] at h ⊢ <;> exact h
      | succ j => simp only [dropL, List.getElem?_cons_succ] at h ⊢; exact ih t j v h
theorem dropL_len : ∀ (m : List Bool) (L : LL), m.length = L.length → (dropL m L).length = L.length := by
  intro m
  induction m with
  | nil => intro L h; cases L with
    | nil => rfl
    | cons a t => cases h
  | cons b m ih =>
    intro L h
    cases L with
    | nil => cases h
    | cons a t =>
      have h2 : m.length = t.length := by simpa using h
      cases b <;> simp [dropL, ih t h2]
section H7
variable {l : Launch} {X : XC} {mi : MI} {d : Nat} {ρ ρ' : Type} {em : ρ → Option AV × Mem} {em' : ρ' → Option AV × Mem} {n : Nat} {fl : Fl} {E : Option ρ} {pc tgt : Nat} {L : LL} {S : List AV} {w : Mem} {off : Int}
theorem GE_weak (m : List Bool) (h : GE l X mi d em n fl E pc (dropL m L) S w) (hm : m.length = L.length := by rfl) : GE l X mi d em n fl E pc L S w := by
  intro r hr p e s me args below meth c B H locs ls hW hS hl hL oL oS
  refine h r hr p e s me args below meth c B H locs ls hW hS (lv_mono hl (fun q hq => ?_)) ((dropL_len m L hm).trans hL) (fun v hv => ?_) oS
  · obtain ⟨j, v, h1, h2⟩ := (mem_lvP _ 0).mp hq
    exact (mem_lvP _ 0).mpr ⟨j, v, dropL_get m L j v h1, h2⟩
  · obtain ⟨j, hj⟩ := List.getElem?_of_mem hv
    exact oL v (List.mem_of_getElem? (dropL_get m L j v hj))
theorem GE_null0 (hd : decode mi.2.1 pc = .ok (.ifnull off, 3)) (ht : (pc : Int) + off = (tgt : Int)) (f : GE l X mi d em n fl E tgt L S w) : GE l X mi d em n fl E pc L (.inr (.inr none) :: S) w := by
  intro r hr p e s m args below meth c B H locs ls hW hS hl hL oL oS
  exact lv_ifnullN B.1 B.2.1 hd ht (f r hr p e s m args below meth c B H locs ls hW hS hl hL oL (List.forall_mem_cons.mp oS).2)
theorem GE_nonnull0 (hd : decode mi.2.1 pc = .ok (.ifnonnull off, 3)) (f : GE l X mi d em n fl E (pc + 3) L S w) : GE l X mi d em n fl E pc L (.inr (.inr none) :: S) w := by
  intro r hr p e s m args below meth c B H locs ls hW hS hl hL oL oS
  exact lv_ifnonnullN B.1 B.2.1 hd (f r hr p e s m args below meth c B H locs ls hW hS hl hL oL (List.forall_mem_cons.mp oS).2)
theorem GE_callVp {d' idx nn k i maxL : Nat} {y : MethodName} {cc : ByteArray} {ret : Option FieldType} {As : List AV} {r1 : ρ'} (hC : Ct l X d' y cc maxL ret em' (.inr (.inr (some (k, i))) :: As) n fl w (some r1)) (hk : k < 6) (cl : CV mi.1 idx y cc maxL ret nn) (hcls : y.cls = (cC k).1) (hd : decode mi.2.1 pc = .ok (.invokevirtual idx, 3)) (hn : As.length = nn) (hdd : d' < d) (hm : maxL ≤ 45) (hcat : catS S ≤ 8)
    (kk : GE l X mi d em n fl E (pc + 3) L ((em' r1).1.toList ++ S) (em' r1).2) : GE l X mi d em n fl E pc L (As.reverse ++ .inr (.inr (some (k, i))) :: S) w :=
  GE_callV (kf := fun _ => E) (f := some r1) hC hk cl hcls hd hn hdd hm hcat (fun r h => by cases h; exact kk)
theorem GE_callSp {d' idx nn maxL : Nat} {y : MethodName} {cc : ByteArray} {ret : Option FieldType} {As : List AV} {r1 : ρ'} (hC : Ct l X d' y cc maxL ret em' As n fl w (some r1)) (cl : CS mi.1 idx y cc maxL ret nn) (hd : decode mi.2.1 pc = .ok (.invokestatic idx, 3)) (hn : As.length = nn) (hdd : d' < d) (hm : maxL ≤ 45) (hcat : catS S ≤ 8)
    (kk : GE l X mi d em n fl E (pc + 3) L ((em' r1).1.toList ++ S) (em' r1).2) : GE l X mi d em n fl E pc L (As.reverse ++ S) w :=
  GE_callS (kf := fun _ => E) (f := some r1) hC cl hd hn hdd hm hcat (fun r h => by cases h; exact kk)
theorem GE_callNp {d' idx nn maxL : Nat} {y : MethodName} {host : String} {cc : ByteArray} {ret : Option FieldType} {As : List AV} {r1 : ρ'} (hC : Ct l X d' y cc maxL ret em' As n fl w (some r1)) (cl : CN mi.1 host idx y cc maxL ret nn) (hd : decode mi.2.1 pc = .ok (.invokestatic idx, 3)) (hn : As.length = nn) (hdd : d' < d) (hm : maxL ≤ 45) (hcat : catS S ≤ 8)
    (kk : GE l X mi d em n fl E (pc + 3) L ((em' r1).1.toList ++ S) (em' r1).2) : GE l X mi d em n fl E pc L (As.reverse ++ S) w :=
  GE_callN (kf := fun _ => E) (f := some r1) hC cl hd hn hdd hm hcat (fun r h => by cases h; exact kk)
end H7
theorem okAs_nil {n : Nat} : okAs n [] := fun _ h => by cases h
theorem okAs_cons {n : Nat} {a : AV} {t : List AV} (h : okV n a = true) (ht : okAs n t) : okAs n (a :: t) := List.forall_mem_cons.mpr ⟨h, ht⟩
theorem ok_coast_0 {n : Nat} (hn : 39 ≤ n) {i : Nat} (hi : i < 3) : okR n (0, i) = true := okM hn ((by decide +kernel : ∀ i, i < 3 → okR 39 (0, i) = true) i hi)
theorem ok_coast_12 {n : Nat} (hn : 39 ≤ n) {i : Nat} (hi : i < 3) : okR n (12, i) = true := okM hn ((by decide +kernel : ∀ i, i < 3 → okR 39 (12, i) = true) i hi)
theorem ok_coast_13 {n : Nat} (hn : 39 ≤ n) {i : Nat} (hi : i < 3) : okR n (13, i) = true := okM hn ((by decide +kernel : ∀ i, i < 3 → okR 39 (13, i) = true) i hi)
theorem ok_coast_14 {n : Nat} (hn : 39 ≤ n) {i : Nat} (hi : i < 3) : okR n (14, i) = true := okM hn ((by decide +kernel : ∀ i, i < 3 → okR 39 (14, i) = true) i hi)
theorem ok_coast_15 {n : Nat} (hn : 39 ≤ n) {i : Nat} (hi : i < 3) : okR n (15, i) = true := okM hn ((by decide +kernel : ∀ i, i < 3 → okR 39 (15, i) = true) i hi)
theorem ok_coast_16 {n : Nat} (hn : 39 ≤ n) {i : Nat} (hi : i < 3) : okR n (16, i) = true := okM hn ((by decide +kernel : ∀ i, i < 3 → okR 39 (16, i) = true) i hi)
theorem ok_coast_17 {n : Nat} (hn : 39 ≤ n) {i : Nat} (hi : i < 3) : okR n (17, i) = true := okM hn ((by decide +kernel : ∀ i, i < 3 → okR 39 (17, i) = true) i hi)
theorem ok_sheet_2 {n : Nat} (hn : 39 ≤ n) {i : Nat} (hi : i < 4) : okR n (2, i) = true := okM hn ((by decide +kernel : ∀ i, i < 4 → okR 39 (2, i) = true) i hi)
theorem ok_sheet_19 {n : Nat} (hn : 39 ≤ n) {i : Nat} (hi : i < 4) : okR n (19, i) = true := okM hn ((by decide +kernel : ∀ i, i < 4 → okR 39 (19, i) = true) i hi)
theorem cnd_eq (x y : Int32) : cnd .eq x y ↔ x = y := Iff.rfl
theorem cnd_ne (x y : Int32) : cnd .ne x y ↔ ¬ x = y := Iff.rfl
theorem cnd_lt (x y : Int32) : cnd .lt x y ↔ x < y := Iff.rfl
theorem cnd_le (x y : Int32) : cnd .le x y ↔ x ≤ y := Iff.rfl
theorem cnd_ge (x y : Int32) : cnd .ge x y ↔ ¬ x < y := Int32.not_lt.symm
theorem cnd_gt (x y : Int32) : cnd .gt x y ↔ ¬ x ≤ y := Int32.not_le.symm
theorem mik_X0 (cc : ByteArray) (nL : Nat) (ret : Option FieldType) : MIok (RX0, cc, nL, ret, ftp_X0.map (fun q => q.1), ctp_X0.map (fun q => q.1), clp_X0.map (fun q => q.1)) := ⟨ft_X0_ok, ct_X0_ok, cl_X0_ok⟩
theorem mik_X1 (cc : ByteArray) (nL : Nat) (ret : Option FieldType) : MIok (RX1, cc, nL, ret, ftp_X1.map (fun q => q.1), ctp_X1.map (fun q => q.1), clp_X1.map (fun q => q.1)) := ⟨ft_X1_ok, ct_X1_ok, cl_X1_ok⟩
theorem mik_X2 (cc : ByteArray) (nL : Nat) (ret : Option FieldType) : MIok (RX2, cc, nL, ret, ftp_X2.map (fun q => q.1), ctp_X2.map (fun q => q.1), clp_X2.map (fun q => q.1)) := ⟨ft_X2_ok, ct_X2_ok, cl_X2_ok⟩
theorem mik_X3 (cc : ByteArray) (nL : Nat) (ret : Option FieldType) : MIok (RX3, cc, nL, ret, ftp_X3.map (fun q => q.1), ctp_X3.map (fun q => q.1), clp_X3.map (fun q => q.1)) := ⟨ft_X3_ok, ct_X3_ok, cl_X3_ok⟩
theorem mik_X4 (cc : ByteArray) (nL : Nat) (ret : Option FieldType) : MIok (RX4, cc, nL, ret, ftp_X4.map (fun q => q.1), ctp_X4.map (fun q => q.1), clp_X4.map (fun q => q.1)) := ⟨ft_X4_ok, ct_X4_ok, cl_X4_ok⟩
theorem mik_L (cc : ByteArray) (nL : Nat) (ret : Option FieldType) : MIok (RL, cc, nL, ret, ftp_L.map (fun q => q.1), ctp_L.map (fun q => q.1), clp_L.map (fun q => q.1)) := ⟨ft_L_ok, ct_L_ok, cl_L_ok⟩
theorem mik_J13 (cc : ByteArray) (nL : Nat) (ret : Option FieldType) : MIok (RJ13, cc, nL, ret, ftp_J13.map (fun q => q.1), ctp_J13.map (fun q => q.1), clp_J13.map (fun q => q.1)) := ⟨ft_J13_ok, ct_J13_ok, cl_J13_ok⟩
/-- the law's script, as the function that its 'at' is -/
def SAT (X : XC) (q : Int32 → Int32) : Prop := ∃ (L : Nat) (xs : Nat → Int32), L ≤ 260 ∧ va_X X.2.2.2.2 L xs X.2.2.1 X.2.2.1.heap ∧ X.2.2.2.2 < xb X ∧ ¬ AA X X.2.2.2.2 ∧ ∀ k : Nat, k < 2 ^ 31 → q (nI k) = if k < L then xs k else 0
theorem mik_J6 (cc : ByteArray) (nL : Nat) (ret : Option FieldType) : MIok (RJ6, cc, nL, ret, ftp_J6.map (fun q => q.1), ctp_J6.map (fun q => q.1), clp_J6.map (fun q => q.1)) := ⟨ft_J6_ok, ct_J6_ok, cl_J6_ok⟩
def rowF (s : Int32) : Option Nat := if 0 ≤ s then (if s < 4 then some (tn s) else none) else none
theorem rowF_lt {s : Int32} {z : Nat} (h : rowF s = some z) : z < 4 := by
  unfold rowF at h
  split at h
  · split at h
    · rename_i h1 h2
      cases h
      have h3 := Int32.lt_iff_toInt_lt.mp h2
      have h4 : (4 : Int32).toInt = 4 := rfl
      show s.toInt.toNat < 4
      omega
    · cases h
  · cases h
def lkE {ρ : Type} (x : Int32) : List (Int × Option ρ) → Option ρ → Option ρ
  | [], d => d
  | (a, e) :: r, d => if x = Int32.ofInt a then e else lkE x r d
def lkAll {ρ : Type} (x : Int32) (F : Option ρ → Nat → Prop) : List (Int × Option ρ) → List Nat → Prop
  | [], [] => True
  | (a, e) :: r, t :: ts => (x = Int32.ofInt a → F e t) ∧ lkAll x F r ts
  | _, _ => False
def lkT (pc : Nat) : List (Int × Int) → List Int → List Nat → Bool
  | [], [], [] => true
  | (a, o) :: ps, b :: bs, t :: ts => (decide (a = b) && decide ((pc : Int) + o = (t : Int))) && ((decide (-2147483648 ≤ a) && decide (a < 2147483648)) && lkT pc ps bs ts)
  | _, _, _ => false
section LKs
variable {l : Launch} {X : XC} {mi : MI} {d : Nat} {ρ : Type} {em : ρ → Option AV × Mem} {n : Nat} {fl : Fl} {Ed : Option ρ} {pc dt len : Nat} {L : LL} {S : List AV} {w : Mem} {x : Int32}
theorem lkE_at {F : Option ρ → Nat → Prop} {dflt : Int} (h0 : (pc : Int) + dflt = (dt : Int)) (hd : F Ed dt) : ∀ (ps : List (Int × Int)) (es : List (Int × Option ρ)) (ts : List Nat), lkT pc ps (es.map fun q => q.1) ts = true → lkAll x F es ts → ∃ t : Nat, (pc : Int) + Op.lookupswitch.offset ps dflt x.toInt = (t : Int) ∧ F (lkE x es Ed) t := by
  intro ps
  induction ps with
  | nil =>
    intro es ts h1 h2
    cases es with
    | cons e es => cases ts <;> simp [lkT] at h1
    | nil =>
      cases ts with
      | cons t ts => simp [lkT] at h1
      | nil => exact ⟨dt, by rw [Op.lookupswitch.offset_nil]; exact h0, hd⟩
  | cons q ps ih =>
    intro es ts h1 h2
    obtain ⟨a, o⟩ := q
    cases es with
    | nil => cases ts <;> simp [lkT] at h1
    | cons e es =>
      obtain ⟨b, e⟩ := e
      cases ts with
      | nil => simp [lkT] at h1
      | cons t ts =>
        simp only [lkT, List.map_cons, Bool.and_eq_true, decide_eq_true_eq] at h1
        obtain ⟨⟨rfl, h3⟩, ⟨h4, h5⟩, h6⟩ := h1
        obtain ⟨h7, h8⟩ := h2
        have h9 := ofInt_toInt (a := a) h4 h5
        unfold lkE
        by_cases hx : x = Int32.ofInt a
        · rw [if_pos hx]
          refine ⟨t, ?_, h7 hx⟩
          rw [Op.lookupswitch.offset_cons, if_pos (by rw [hx, h9])]
          exact h3
        · rw [if_neg hx, lv_osw hx h9]
          exact ih es ts h6 h8
theorem GE_lk {dflt : Int} {ps : Array (Int × Int)} {es : List (Int × Option ρ)} (ts : List Nat) (hd : decode mi.2.1 pc = .ok (.lookupswitch dflt ps, len)) (hp : (ps.toList.zip (ps.toList.drop 1)).all (fun (a, next) => a.1 < next.1) = true) (h0 : (pc : Int) + dflt = (dt : Int)) (hb : lkT pc ps.toList (es.map fun q => q.1) ts = true)
    (hc : lkAll x (fun e t => GE l X mi d em n fl e t L S w) es ts) (hde : GE l X mi d em n fl Ed dt L S w) : GE l X mi d em n fl (lkE x es Ed) pc L (.inl x :: S) w := by
  obtain ⟨t, h1, h2⟩ := lkE_at h0 hde ps.toList es ts hb hc
  intro r hr p e s m args below meth c B H locs ls hW hS hl hL oL oS
  exact lv_lookup B.1 B.2.1 hd hp rfl h1 (h2 r hr p e s m args below meth c B H locs ls hW hS hl hL oL (List.forall_mem_cons.mp oS).2)
end LKs
theorem mik_J9 (cc : ByteArray) (nL : Nat) (ret : Option FieldType) : MIok (RJ9, cc, nL, ret, [], [], []) := ⟨fun _ h => (List.not_mem_nil h).elim, fun _ h => (List.not_mem_nil h).elim, fun _ h => (List.not_mem_nil h).elim⟩
theorem GE_swm {l : Launch} {X : XC} {mi : MI} {d : Nat} {ρ : Type} {em : ρ → Option AV × Mem} {n : Nat} {fl : Fl} {Ed : Option ρ} {pc dt len mm : Nat} {L : LL} {S : List AV} {w : Mem} {x : Int32} {dflt lo hi : Int} {offs : Array Int} {es : List (Option ρ)} (ts : List Nat) (hd : decode mi.2.1 pc = .ok (.tableswitch dflt lo hi offs, len)) (hm : es.length = mm) (hb : (decide (-2147483648 ≤ lo ∧ lo + mm ≤ 2147483648 ∧ hi + 1 = lo + mm ∧ (pc : Int) + dflt = (dt : Int)) && swT pc offs.toList ts) = true)
    (hc : swAll x (fun e t => GE l X mi d em n fl e t L S w) lo es ts) (hde : GE l X mi d em n fl Ed dt L S w) : GE l X mi d em n fl (swE x lo es Ed) pc L (.inl x :: S) w := by
  subst hm
  exact GE_sw ts hd hb hc hde
/-! calls by what they answer -/
section CALLK
variable {l : Launch} {X : XC} {mi : MI} {d : Nat} {ρ : Type} {em : ρ → Option AV × Mem} {n : Nat} {fl : Fl} {E : Option ρ} {pc : Nat} {L : LL} {S : List AV} {w : Mem}
theorem GE_callVI {d' idx nn maxL : Nat} {k i : Nat} {y : MethodName} {cc : ByteArray} {ret : Option FieldType} {As : List AV} {f : Option (Int32 × Mem)} {kf : Int32 × Mem → Option ρ} (hC : Ct l X d' y cc maxL ret emI (.inr (.inr (some (k, i))) :: As) n fl w f) (hk : k < 6) (cl : CV mi.1 idx y cc maxL ret nn) (hcls : y.cls = (cC k).1) (hd : decode mi.2.1 pc = .ok (.invokevirtual idx, 3)) (hn : As.length = nn) (hdd : d' < d) (hm : maxL ≤ 45) (hcat : catS S ≤ 8) (kk : ∀ r, f = some r → GE l X mi d em n fl (kf r) (pc + 3) L (.inl r.1 :: S) r.2) : GE l X mi d em n fl (f.bind kf) pc L (As.reverse ++ .inr (.inr (some (k, i))) :: S) w := GE_callV hC hk cl hcls hd hn hdd hm hcat kk
theorem GE_callVIp {d' idx nn maxL : Nat} {k i : Nat} {y : MethodName} {cc : ByteArray} {ret : Option FieldType} {As : List AV} {v : Int32} {w2 : Mem} (hC : Ct l X d' y cc maxL ret emI (.inr (.inr (some (k, i))) :: As) n fl w (some (v, w2))) (hk : k < 6) (cl : CV mi.1 idx y cc maxL ret nn) (hcls : y.cls = (cC k).1) (hd : decode mi.2.1 pc = .ok (.invokevirtual idx, 3)) (hn : As.length = nn) (hdd : d' < d) (hm : maxL ≤ 45) (hcat : catS S ≤ 8) (kk : GE l X mi d em n fl E (pc + 3) L (.inl v :: S) w2) : GE l X mi d em n fl E pc L (As.reverse ++ .inr (.inr (some (k, i))) :: S) w := GE_callVp hC hk cl hcls hd hn hdd hm hcat kk
theorem GE_callVL {d' idx nn maxL : Nat} {k i : Nat} {y : MethodName} {cc : ByteArray} {ret : Option FieldType} {As : List AV} {f : Option (Int64 × Mem)} {kf : Int64 × Mem → Option ρ} (hC : Ct l X d' y cc maxL ret emL (.inr (.inr (some (k, i))) :: As) n fl w f) (hk : k < 6) (cl : CV mi.1 idx y cc maxL ret nn) (hcls : y.cls = (cC k).1) (hd : decode mi.2.1 pc = .ok (.invokevirtual idx, 3)) (hn : As.length = nn) (hdd : d' < d) (hm : maxL ≤ 45) (hcat : catS S ≤ 8) (kk : ∀ r, f = some r → GE l X mi d em n fl (kf r) (pc + 3) L (.inr (.inl r.1) :: S) r.2) : GE l X mi d em n fl (f.bind kf) pc L (As.reverse ++ .inr (.inr (some (k, i))) :: S) w := GE_callV hC hk cl hcls hd hn hdd hm hcat kk
theorem GE_callVLp {d' idx nn maxL : Nat} {k i : Nat} {y : MethodName} {cc : ByteArray} {ret : Option FieldType} {As : List AV} {v : Int64} {w2 : Mem} (hC : Ct l X d' y cc maxL ret emL (.inr (.inr (some (k, i))) :: As) n fl w (some (v, w2))) (hk : k < 6) (cl : CV mi.1 idx y cc maxL ret nn) (hcls : y.cls = (cC k).1) (hd : decode mi.2.1 pc = .ok (.invokevirtual idx, 3)) (hn : As.length = nn) (hdd : d' < d) (hm : maxL ≤ 45) (hcat : catS S ≤ 8) (kk : GE l X mi d em n fl E (pc + 3) L (.inr (.inl v) :: S) w2) : GE l X mi d em n fl E pc L (As.reverse ++ .inr (.inr (some (k, i))) :: S) w := GE_callVp hC hk cl hcls hd hn hdd hm hcat kk
theorem GE_callVA {d' idx nn maxL : Nat} {k i : Nat} {y : MethodName} {cc : ByteArray} {ret : Option FieldType} {As : List AV} {f : Option (Option (Nat × Nat) × Mem)} {kf : Option (Nat × Nat) × Mem → Option ρ} (hC : Ct l X d' y cc maxL ret emA (.inr (.inr (some (k, i))) :: As) n fl w f) (hk : k < 6) (cl : CV mi.1 idx y cc maxL ret nn) (hcls : y.cls = (cC k).1) (hd : decode mi.2.1 pc = .ok (.invokevirtual idx, 3)) (hn : As.length = nn) (hdd : d' < d) (hm : maxL ≤ 45) (hcat : catS S ≤ 8) (kk : ∀ r, f = some r → GE l X mi d em n fl (kf r) (pc + 3) L (.inr (.inr r.1) :: S) r.2) : GE l X mi d em n fl (f.bind kf) pc L (As.reverse ++ .inr (.inr (some (k, i))) :: S) w := GE_callV hC hk cl hcls hd hn hdd hm hcat kk
theorem GE_callVAp {d' idx nn maxL : Nat} {k i : Nat} {y : MethodName} {cc : ByteArray} {ret : Option FieldType} {As : List AV} {v : Option (Nat × Nat)} {w2 : Mem} (hC : Ct l X d' y cc maxL ret emA (.inr (.inr (some (k, i))) :: As) n fl w (some (v, w2))) (hk : k < 6) (cl : CV mi.1 idx y cc maxL ret nn) (hcls : y.cls = (cC k).1) (hd : decode mi.2.1 pc = .ok (.invokevirtual idx, 3)) (hn : As.length = nn) (hdd : d' < d) (hm : maxL ≤ 45) (hcat : catS S ≤ 8) (kk : GE l X mi d em n fl E (pc + 3) L (.inr (.inr v) :: S) w2) : GE l X mi d em n fl E pc L (As.reverse ++ .inr (.inr (some (k, i))) :: S) w := GE_callVp hC hk cl hcls hd hn hdd hm hcat kk
theorem GE_callVV {d' idx nn maxL : Nat} {k i : Nat} {y : MethodName} {cc : ByteArray} {ret : Option FieldType} {As : List AV} {f : Option (Mem)} {kf : Mem → Option ρ} (hC : Ct l X d' y cc maxL ret emV (.inr (.inr (some (k, i))) :: As) n fl w f) (hk : k < 6) (cl : CV mi.1 idx y cc maxL ret nn) (hcls : y.cls = (cC k).1) (hd : decode mi.2.1 pc = .ok (.invokevirtual idx, 3)) (hn : As.length = nn) (hdd : d' < d) (hm : maxL ≤ 45) (hcat : catS S ≤ 8) (kk : ∀ r, f = some r → GE l X mi d em n fl (kf r) (pc + 3) L S r) : GE l X mi d em n fl (f.bind kf) pc L (As.reverse ++ .inr (.inr (some (k, i))) :: S) w := GE_callV hC hk cl hcls hd hn hdd hm hcat kk
theorem GE_callVVp {d' idx nn maxL : Nat} {k i : Nat} {y : MethodName} {cc : ByteArray} {ret : Option FieldType} {As : List AV} {w2 : Mem} (hC : Ct l X d' y cc maxL ret emV (.inr (.inr (some (k, i))) :: As) n fl w (some w2)) (hk : k < 6) (cl : CV mi.1 idx y cc maxL ret nn) (hcls : y.cls = (cC k).1) (hd : decode mi.2.1 pc = .ok (.invokevirtual idx, 3)) (hn : As.length = nn) (hdd : d' < d) (hm : maxL ≤ 45) (hcat : catS S ≤ 8) (kk : GE l X mi d em n fl E (pc + 3) L S w2) : GE l X mi d em n fl E pc L (As.reverse ++ .inr (.inr (some (k, i))) :: S) w := GE_callVp hC hk cl hcls hd hn hdd hm hcat kk
theorem GE_callSI {d' idx nn maxL : Nat} {y : MethodName} {cc : ByteArray} {ret : Option FieldType} {As : List AV} {f : Option (Int32 × Mem)} {kf : Int32 × Mem → Option ρ} (hC : Ct l X d' y cc maxL ret emI As n fl w f) (cl : CS mi.1 idx y cc maxL ret nn) (hd : decode mi.2.1 pc = .ok (.invokestatic idx, 3)) (hn : As.length = nn) (hdd : d' < d) (hm : maxL ≤ 45) (hcat : catS S ≤ 8) (kk : ∀ r, f = some r → GE l X mi d em n fl (kf r) (pc + 3) L (.inl r.1 :: S) r.2) : GE l X mi d em n fl (f.bind kf) pc L (As.reverse ++ S) w := GE_callS hC cl hd hn hdd hm hcat kk
theorem GE_callSIp {d' idx nn maxL : Nat} {y : MethodName} {cc : ByteArray} {ret : Option FieldType} {As : List AV} {v : Int32} {w2 : Mem} (hC : Ct l X d' y cc maxL ret emI As n fl w (some (v, w2))) (cl : CS mi.1 idx y cc maxL ret nn) (hd : decode mi.2.1 pc = .ok (.invokestatic idx, 3)) (hn : As.length = nn) (hdd : d' < d) (hm : maxL ≤ 45) (hcat : catS S ≤ 8) (kk : GE l X mi d em n fl E (pc + 3) L (.inl v :: S) w2) : GE l X mi d em n fl E pc L (As.reverse ++ S) w := GE_callSp hC cl hd hn hdd hm hcat kk
theorem GE_callSL {d' idx nn maxL : Nat} {y : MethodName} {cc : ByteArray} {ret : Option FieldType} {As : List AV} {f : Option (Int64 × Mem)} {kf : Int64 × Mem → Option ρ} (hC : Ct l X d' y cc maxL ret emL As n fl w f) (cl : CS mi.1 idx y cc maxL ret nn) (hd : decode mi.2.1 pc = .ok (.invokestatic idx, 3)) (hn : As.length = nn) (hdd : d' < d) (hm : maxL ≤ 45) (hcat : catS S ≤ 8) (kk : ∀ r, f = some r → GE l X mi d em n fl (kf r) (pc + 3) L (.inr (.inl r.1) :: S) r.2) : GE l X mi d em n fl (f.bind kf) pc L (As.reverse ++ S) w := GE_callS hC cl hd hn hdd hm hcat kk
theorem GE_callSLp {d' idx nn maxL : Nat} {y : MethodName} {cc : ByteArray} {ret : Option FieldType} {As : List AV} {v : Int64} {w2 : Mem} (hC : Ct l X d' y cc maxL ret emL As n fl w (some (v, w2))) (cl : CS mi.1 idx y cc maxL ret nn) (hd : decode mi.2.1 pc = .ok (.invokestatic idx, 3)) (hn : As.length = nn) (hdd : d' < d) (hm : maxL ≤ 45) (hcat : catS S ≤ 8) (kk : GE l X mi d em n fl E (pc + 3) L (.inr (.inl v) :: S) w2) : GE l X mi d em n fl E pc L (As.reverse ++ S) w := GE_callSp hC cl hd hn hdd hm hcat kk
theorem GE_callSA {d' idx nn maxL : Nat} {y : MethodName} {cc : ByteArray} {ret : Option FieldType} {As : List AV} {f : Option (Option (Nat × Nat) × Mem)} {kf : Option (Nat × Nat) × Mem → Option ρ} (hC : Ct l X d' y cc maxL ret emA As n fl w f) (cl : CS mi.1 idx y cc maxL ret nn) (hd : decode mi.2.1 pc = .ok (.invokestatic idx, 3)) (hn : As.length = nn) (hdd : d' < d) (hm : maxL ≤ 45) (hcat : catS S ≤ 8) (kk : ∀ r, f = some r → GE l X mi d em n fl (kf r) (pc + 3) L (.inr (.inr r.1) :: S) r.2) : GE l X mi d em n fl (f.bind kf) pc L (As.reverse ++ S) w := GE_callS hC cl hd hn hdd hm hcat kk
theorem GE_callSAp {d' idx nn maxL : Nat} {y : MethodName} {cc : ByteArray} {ret : Option FieldType} {As : List AV} {v : Option (Nat × Nat)} {w2 : Mem} (hC : Ct l X d' y cc maxL ret emA As n fl w (some (v, w2))) (cl : CS mi.1 idx y cc maxL ret nn) (hd : decode mi.2.1 pc = .ok (.invokestatic idx, 3)) (hn : As.length = nn) (hdd : d' < d) (hm : maxL ≤ 45) (hcat : catS S ≤ 8) (kk : GE l X mi d em n fl E (pc + 3) L (.inr (.inr v) :: S) w2) : GE l X mi d em n fl E pc L (As.reverse ++ S) w := GE_callSp hC cl hd hn hdd hm hcat kk
theorem GE_callSV {d' idx nn maxL : Nat} {y : MethodName} {cc : ByteArray} {ret : Option FieldType} {As : List AV} {f : Option (Mem)} {kf : Mem → Option ρ} (hC : Ct l X d' y cc maxL ret emV As n fl w f) (cl : CS mi.1 idx y cc maxL ret nn) (hd : decode mi.2.1 pc = .ok (.invokestatic idx, 3)) (hn : As.length = nn) (hdd : d' < d) (hm : maxL ≤ 45) (hcat : catS S ≤ 8) (kk : ∀ r, f = some r → GE l X mi d em n fl (kf r) (pc + 3) L S r) : GE l X mi d em n fl (f.bind kf) pc L (As.reverse ++ S) w := GE_callS hC cl hd hn hdd hm hcat kk
theorem GE_callSVp {d' idx nn maxL : Nat} {y : MethodName} {cc : ByteArray} {ret : Option FieldType} {As : List AV} {w2 : Mem} (hC : Ct l X d' y cc maxL ret emV As n fl w (some w2)) (cl : CS mi.1 idx y cc maxL ret nn) (hd : decode mi.2.1 pc = .ok (.invokestatic idx, 3)) (hn : As.length = nn) (hdd : d' < d) (hm : maxL ≤ 45) (hcat : catS S ≤ 8) (kk : GE l X mi d em n fl E (pc + 3) L S w2) : GE l X mi d em n fl E pc L (As.reverse ++ S) w := GE_callSp hC cl hd hn hdd hm hcat kk
theorem GE_callNI {d' idx nn maxL : Nat} {y : MethodName} {host : String} {cc : ByteArray} {ret : Option FieldType} {As : List AV} {f : Option (Int32 × Mem)} {kf : Int32 × Mem → Option ρ} (hC : Ct l X d' y cc maxL ret emI As n fl w f) (cl : CN mi.1 host idx y cc maxL ret nn) (hd : decode mi.2.1 pc = .ok (.invokestatic idx, 3)) (hn : As.length = nn) (hdd : d' < d) (hm : maxL ≤ 45) (hcat : catS S ≤ 8) (kk : ∀ r, f = some r → GE l X mi d em n fl (kf r) (pc + 3) L (.inl r.1 :: S) r.2) : GE l X mi d em n fl (f.bind kf) pc L (As.reverse ++ S) w := GE_callN hC cl hd hn hdd hm hcat kk
theorem GE_callNIp {d' idx nn maxL : Nat} {y : MethodName} {host : String} {cc : ByteArray} {ret : Option FieldType} {As : List AV} {v : Int32} {w2 : Mem} (hC : Ct l X d' y cc maxL ret emI As n fl w (some (v, w2))) (cl : CN mi.1 host idx y cc maxL ret nn) (hd : decode mi.2.1 pc = .ok (.invokestatic idx, 3)) (hn : As.length = nn) (hdd : d' < d) (hm : maxL ≤ 45) (hcat : catS S ≤ 8) (kk : GE l X mi d em n fl E (pc + 3) L (.inl v :: S) w2) : GE l X mi d em n fl E pc L (As.reverse ++ S) w := GE_callNp hC cl hd hn hdd hm hcat kk
theorem GE_callNL {d' idx nn maxL : Nat} {y : MethodName} {host : String} {cc : ByteArray} {ret : Option FieldType} {As : List AV} {f : Option (Int64 × Mem)} {kf : Int64 × Mem → Option ρ} (hC : Ct l X d' y cc maxL ret emL As n fl w f) (cl : CN mi.1 host idx y cc maxL ret nn) (hd : decode mi.2.1 pc = .ok (.invokestatic idx, 3)) (hn : As.length = nn) (hdd : d' < d) (hm : maxL ≤ 45) (hcat : catS S ≤ 8) (kk : ∀ r, f = some r → GE l X mi d em n fl (kf r) (pc + 3) L (.inr (.inl r.1) :: S) r.2) : GE l X mi d em n fl (f.bind kf) pc L (As.reverse ++ S) w := GE_callN hC cl hd hn hdd hm hcat kk
theorem GE_callNLp {d' idx nn maxL : Nat} {y : MethodName} {host : String} {cc : ByteArray} {ret : Option FieldType} {As : List AV} {v : Int64} {w2 : Mem} (hC : Ct l X d' y cc maxL ret emL As n fl w (some (v, w2))) (cl : CN mi.1 host idx y cc maxL ret nn) (hd : decode mi.2.1 pc = .ok (.invokestatic idx, 3)) (hn : As.length = nn) (hdd : d' < d) (hm : maxL ≤ 45) (hcat : catS S ≤ 8) (kk : GE l X mi d em n fl E (pc + 3) L (.inr (.inl v) :: S) w2) : GE l X mi d em n fl E pc L (As.reverse ++ S) w := GE_callNp hC cl hd hn hdd hm hcat kk
theorem GE_callNA {d' idx nn maxL : Nat} {y : MethodName} {host : String} {cc : ByteArray} {ret : Option FieldType} {As : List AV} {f : Option (Option (Nat × Nat) × Mem)} {kf : Option (Nat × Nat) × Mem → Option ρ} (hC : Ct l X d' y cc maxL ret emA As n fl w f) (cl : CN mi.1 host idx y cc maxL ret nn) (hd : decode mi.2.1 pc = .ok (.invokestatic idx, 3)) (hn : As.length = nn) (hdd : d' < d) (hm : maxL ≤ 45) (hcat : catS S ≤ 8) (kk : ∀ r, f = some r → GE l X mi d em n fl (kf r) (pc + 3) L (.inr (.inr r.1) :: S) r.2) : GE l X mi d em n fl (f.bind kf) pc L (As.reverse ++ S) w := GE_callN hC cl hd hn hdd hm hcat kk
theorem GE_callNAp {d' idx nn maxL : Nat} {y : MethodName} {host : String} {cc : ByteArray} {ret : Option FieldType} {As : List AV} {v : Option (Nat × Nat)} {w2 : Mem} (hC : Ct l X d' y cc maxL ret emA As n fl w (some (v, w2))) (cl : CN mi.1 host idx y cc maxL ret nn) (hd : decode mi.2.1 pc = .ok (.invokestatic idx, 3)) (hn : As.length = nn) (hdd : d' < d) (hm : maxL ≤ 45) (hcat : catS S ≤ 8) (kk : GE l X mi d em n fl E (pc + 3) L (.inr (.inr v) :: S) w2) : GE l X mi d em n fl E pc L (As.reverse ++ S) w := GE_callNp hC cl hd hn hdd hm hcat kk
theorem GE_callNV {d' idx nn maxL : Nat} {y : MethodName} {host : String} {cc : ByteArray} {ret : Option FieldType} {As : List AV} {f : Option (Mem)} {kf : Mem → Option ρ} (hC : Ct l X d' y cc maxL ret emV As n fl w f) (cl : CN mi.1 host idx y cc maxL ret nn) (hd : decode mi.2.1 pc = .ok (.invokestatic idx, 3)) (hn : As.length = nn) (hdd : d' < d) (hm : maxL ≤ 45) (hcat : catS S ≤ 8) (kk : ∀ r, f = some r → GE l X mi d em n fl (kf r) (pc + 3) L S r) : GE l X mi d em n fl (f.bind kf) pc L (As.reverse ++ S) w := GE_callN hC cl hd hn hdd hm hcat kk
theorem GE_callNVp {d' idx nn maxL : Nat} {y : MethodName} {host : String} {cc : ByteArray} {ret : Option FieldType} {As : List AV} {w2 : Mem} (hC : Ct l X d' y cc maxL ret emV As n fl w (some w2)) (cl : CN mi.1 host idx y cc maxL ret nn) (hd : decode mi.2.1 pc = .ok (.invokestatic idx, 3)) (hn : As.length = nn) (hdd : d' < d) (hm : maxL ≤ 45) (hcat : catS S ≤ 8) (kk : GE l X mi d em n fl E (pc + 3) L S w2) : GE l X mi d em n fl E pc L (As.reverse ++ S) w := GE_callNp hC cl hd hn hdd hm hcat kk
end CALLK
end
section
/-! small methods, by program out of the listing -/
abbrev mm_X4_isThing : MI := (RX4, cX4_isThing, 1, (some .boolean), ftp_X4.map (fun q => q.1), ctp_X4.map (fun q => q.1), clp_X4.map (fun q => q.1))
noncomputable def f_X4_isThing (a1 : Int32) (w : Mem) : Option (Int32 × Mem) := if a1 < 0 then (some (0, w)) else (if a1 < 16 then (some (1, w)) else (some (0, w)))
set_option maxRecDepth 100000 in
theorem t_X4_isThing (l : Launch) (X : XC) {N9 : Nat} (hN : 39 ≤ N9)  (a1 : Int32) (w : Mem) : Ct l X 0 yX4_isThing cX4_isThing 1 (some .boolean) emI [.inl a1] N9 flT w (f_X4_isThing a1 w) := by
  refine Ct_of (mi := mm_X4_isThing) (mik_X4 _ _ _) me_X4_isThing rfl (okAs_cons rfl okAs_nil) (Nat.le_of_ble_eq_true rfl) ?_
  unfold f_X4_isThing
  refine GE_run (flG_T hN) (pc1 := 1) (L1 := [some (.inl a1)]) (S1 := [.inl a1]) (w1 := w) (P := True) [(.iload_n 0, 0, 0, 0, 0)] (by decide +kernel) rfl trivial ?_
  refine GE_if (k := .lt) (off := 13) (tgt := 14) (by decide +kernel) (by decide) (cnd_lt _ _) (fun c1 => ?_) (fun c1 => ?_)
  · refine GE_run (flG_T hN) (pc1 := 15) (L1 := [some (.inl a1)]) (S1 := [.inl 0]) (w1 := w) (P := True) [(.iconst 0, 0, 0, 0, 0)] (by decide +kernel) rfl trivial ?_
    exact GE_zret (ty := .boolean) rfl (by decide +kernel) (by decide +kernel)
  · refine GE_run (flG_T hN) (pc1 := 7) (L1 := [some (.inl a1)]) (S1 := [.inl 16, .inl a1]) (w1 := w) (P := True) [(.iload_n 0, 0, 0, 0, 0), (.bipush 16, 0, 0, 16, 0)] (by decide +kernel) rfl trivial ?_
    refine GE_icmpN (k := .ge) (off := 7) (tgt := 14) (by decide +kernel) (by decide) (cnd_ge _ _) (fun c2 => ?_) (fun c2 => ?_)
    · refine GE_run (flG_T hN) (pc1 := 15) (L1 := [some (.inl a1)]) (S1 := [.inl 0]) (w1 := w) (P := True) [(.iconst 0, 0, 0, 0, 0)] (by decide +kernel) rfl trivial ?_
      exact GE_zret (ty := .boolean) rfl (by decide +kernel) (by decide +kernel)
    · refine GE_run (flG_T hN) (pc1 := 15) (L1 := [some (.inl a1)]) (S1 := [.inl 1]) (w1 := w) (P := True) [(.iconst 1, 0, 0, 1, 0), (.goto 4, 0, 0, 0, 0)] (by decide +kernel) rfl trivial ?_
      exact GE_zret (ty := .boolean) rfl (by decide +kernel) (by decide +kernel)
abbrev mm_X4_isSet : MI := (RX4, cX4_isSet, 1, (some .boolean), ftp_X4.map (fun q => q.1), ctp_X4.map (fun q => q.1), clp_X4.map (fun q => q.1))
noncomputable def f_X4_isSet (a1 : Int32) (w : Mem) : Option (Int32 × Mem) := if a1 < 0 then (some (0, w)) else (if a1 ≤ 65535 then (some (1, w)) else (some (0, w)))
set_option maxRecDepth 100000 in
theorem t_X4_isSet (l : Launch) (X : XC) {N9 : Nat} (hN : 39 ≤ N9)  (a1 : Int32) (w : Mem) : Ct l X 0 yX4_isSet cX4_isSet 1 (some .boolean) emI [.inl a1] N9 flT w (f_X4_isSet a1 w) := by
  refine Ct_of (mi := mm_X4_isSet) (mik_X4 _ _ _) me_X4_isSet rfl (okAs_cons rfl okAs_nil) (Nat.le_of_ble_eq_true rfl) ?_
  unfold f_X4_isSet
  refine GE_run (flG_T hN) (pc1 := 1) (L1 := [some (.inl a1)]) (S1 := [.inl a1]) (w1 := w) (P := True) [(.iload_n 0, 0, 0, 0, 0)] (by decide +kernel) rfl trivial ?_
  refine GE_if (k := .lt) (off := 13) (tgt := 14) (by decide +kernel) (by decide) (cnd_lt _ _) (fun c1 => ?_) (fun c1 => ?_)
  · refine GE_run (flG_T hN) (pc1 := 15) (L1 := [some (.inl a1)]) (S1 := [.inl 0]) (w1 := w) (P := True) [(.iconst 0, 0, 0, 0, 0)] (by decide +kernel) rfl trivial ?_
    exact GE_zret (ty := .boolean) rfl (by decide +kernel) (by decide +kernel)
  · refine GE_run (flG_T hN) (pc1 := 7) (L1 := [some (.inl a1)]) (S1 := [.inl 65535, .inl a1]) (w1 := w) (P := True) [(.iload_n 0, 0, 0, 0, 0), (.ldc 156, 0, 0, 65535, 0)] (by decide +kernel) rfl trivial ?_
    refine GE_icmpN (k := .gt) (off := 7) (tgt := 14) (by decide +kernel) (by decide) (cnd_gt _ _) (fun c2 => ?_) (fun c2 => ?_)
    · refine GE_run (flG_T hN) (pc1 := 15) (L1 := [some (.inl a1)]) (S1 := [.inl 0]) (w1 := w) (P := True) [(.iconst 0, 0, 0, 0, 0)] (by decide +kernel) rfl trivial ?_
      exact GE_zret (ty := .boolean) rfl (by decide +kernel) (by decide +kernel)
    · refine GE_run (flG_T hN) (pc1 := 15) (L1 := [some (.inl a1)]) (S1 := [.inl 1]) (w1 := w) (P := True) [(.iconst 1, 0, 0, 1, 0), (.goto 4, 0, 0, 0, 0)] (by decide +kernel) rfl trivial ?_
      exact GE_zret (ty := .boolean) rfl (by decide +kernel) (by decide +kernel)
abbrev mm_X4_isByte : MI := (RX4, cX4_isByte, 1, (some .boolean), ftp_X4.map (fun q => q.1), ctp_X4.map (fun q => q.1), clp_X4.map (fun q => q.1))
noncomputable def f_X4_isByte (a1 : Int32) (w : Mem) : Option (Int32 × Mem) := if a1 < 0 then (some (0, w)) else (if a1 ≤ 255 then (some (1, w)) else (some (0, w)))
set_option maxRecDepth 100000 in
theorem t_X4_isByte (l : Launch) (X : XC) {N9 : Nat} (hN : 39 ≤ N9)  (a1 : Int32) (w : Mem) : Ct l X 0 yX4_isByte cX4_isByte 1 (some .boolean) emI [.inl a1] N9 flT w (f_X4_isByte a1 w) := by
  refine Ct_of (mi := mm_X4_isByte) (mik_X4 _ _ _) me_X4_isByte rfl (okAs_cons rfl okAs_nil) (Nat.le_of_ble_eq_true rfl) ?_
  unfold f_X4_isByte
  refine GE_run (flG_T hN) (pc1 := 1) (L1 := [some (.inl a1)]) (S1 := [.inl a1]) (w1 := w) (P := True) [(.iload_n 0, 0, 0, 0, 0)] (by decide +kernel) rfl trivial ?_
  refine GE_if (k := .lt) (off := 14) (tgt := 15) (by decide +kernel) (by decide) (cnd_lt _ _) (fun c1 => ?_) (fun c1 => ?_)
  · refine GE_run (flG_T hN) (pc1 := 16) (L1 := [some (.inl a1)]) (S1 := [.inl 0]) (w1 := w) (P := True) [(.iconst 0, 0, 0, 0, 0)] (by decide +kernel) rfl trivial ?_
    exact GE_zret (ty := .boolean) rfl (by decide +kernel) (by decide +kernel)
  · refine GE_run (flG_T hN) (pc1 := 8) (L1 := [some (.inl a1)]) (S1 := [.inl 255, .inl a1]) (w1 := w) (P := True) [(.iload_n 0, 0, 0, 0, 0), (.sipush 255, 0, 0, 255, 0)] (by decide +kernel) rfl trivial ?_
    refine GE_icmpN (k := .gt) (off := 7) (tgt := 15) (by decide +kernel) (by decide) (cnd_gt _ _) (fun c2 => ?_) (fun c2 => ?_)
    · refine GE_run (flG_T hN) (pc1 := 16) (L1 := [some (.inl a1)]) (S1 := [.inl 0]) (w1 := w) (P := True) [(.iconst 0, 0, 0, 0, 0)] (by decide +kernel) rfl trivial ?_
      exact GE_zret (ty := .boolean) rfl (by decide +kernel) (by decide +kernel)
    · refine GE_run (flG_T hN) (pc1 := 16) (L1 := [some (.inl a1)]) (S1 := [.inl 1]) (w1 := w) (P := True) [(.iconst 1, 0, 0, 1, 0), (.goto 4, 0, 0, 0, 0)] (by decide +kernel) rfl trivial ?_
      exact GE_zret (ty := .boolean) rfl (by decide +kernel) (by decide +kernel)
abbrev mm_X4_holds : MI := (RX4, cX4_holds, 2, (some .boolean), ftp_X4.map (fun q => q.1), ctp_X4.map (fun q => q.1), clp_X4.map (fun q => q.1))
noncomputable def f_X4_holds (a1 : Int32) (a2 : Int32) (w : Mem) : Option (Int32 × Mem) := if a2 < 0 then (some (0, w)) else (if a2 < 16 then (if ((shrI a1 a2) &&& 1) = 1 then (some (1, w)) else (some (0, w))) else (some (0, w)))
set_option maxRecDepth 100000 in
theorem t_X4_holds (l : Launch) (X : XC) {N9 : Nat} (hN : 39 ≤ N9)  (a1 : Int32) (a2 : Int32) (w : Mem) : Ct l X 0 yX4_holds cX4_holds 2 (some .boolean) emI [.inl a1, .inl a2] N9 flT w (f_X4_holds a1 a2 w) := by
  refine Ct_of (mi := mm_X4_holds) (mik_X4 _ _ _) me_X4_holds rfl (okAs_cons rfl (okAs_cons rfl okAs_nil)) (Nat.le_of_ble_eq_true rfl) ?_
  unfold f_X4_holds
  refine GE_run (flG_T hN) (pc1 := 1) (L1 := [some (.inl a1), some (.inl a2)]) (S1 := [.inl a2]) (w1 := w) (P := True) [(.iload_n 1, 0, 0, 0, 0)] (by decide +kernel) rfl trivial ?_
  refine GE_if (k := .lt) (off := 22) (tgt := 23) (by decide +kernel) (by decide) (cnd_lt _ _) (fun c1 => ?_) (fun c1 => ?_)
  · refine GE_run (flG_T hN) (pc1 := 24) (L1 := [some (.inl a1), some (.inl a2)]) (S1 := [.inl 0]) (w1 := w) (P := True) [(.iconst 0, 0, 0, 0, 0)] (by decide +kernel) rfl trivial ?_
    exact GE_zret (ty := .boolean) rfl (by decide +kernel) (by decide +kernel)
  · refine GE_run (flG_T hN) (pc1 := 7) (L1 := [some (.inl a1), some (.inl a2)]) (S1 := [.inl 16, .inl a2]) (w1 := w) (P := True) [(.iload_n 1, 0, 0, 0, 0), (.bipush 16, 0, 0, 16, 0)] (by decide +kernel) rfl trivial ?_
    refine GE_icmpN (k := .ge) (off := 16) (tgt := 23) (by decide +kernel) (by decide) (cnd_ge _ _) (fun c2 => ?_) (fun c2 => ?_)
    · refine GE_run (flG_T hN) (pc1 := 24) (L1 := [some (.inl a1), some (.inl a2)]) (S1 := [.inl 0]) (w1 := w) (P := True) [(.iconst 0, 0, 0, 0, 0)] (by decide +kernel) rfl trivial ?_
      exact GE_zret (ty := .boolean) rfl (by decide +kernel) (by decide +kernel)
    · refine GE_run (flG_T hN) (pc1 := 16) (L1 := [some (.inl a1), some (.inl a2)]) (S1 := [.inl 1, .inl ((shrI a1 a2) &&& 1)]) (w1 := w) (P := True) [(.iload_n 0, 0, 0, 0, 0), (.iload_n 1, 0, 0, 0, 0), (.ishr, 0, 0, 0, 0), (.iconst 1, 0, 0, 1, 0), (.iand, 0, 0, 0, 0), (.iconst 1, 0, 0, 1, 0)] (by decide +kernel) rfl trivial ?_
      refine GE_icmpN (k := .ne) (off := 7) (tgt := 23) (by decide +kernel) (by decide) (cnd_ne _ _) (fun c3 => ?_) (fun c3 => ?_)
      · refine GE_run (flG_T hN) (pc1 := 24) (L1 := [some (.inl a1), some (.inl a2)]) (S1 := [.inl 0]) (w1 := w) (P := True) [(.iconst 0, 0, 0, 0, 0)] (by decide +kernel) rfl trivial ?_
        exact GE_zret (ty := .boolean) rfl (by decide +kernel) (by decide +kernel)
      · refine GE_run (flG_T hN) (pc1 := 24) (L1 := [some (.inl a1), some (.inl a2)]) (S1 := [.inl 1]) (w1 := w) (P := True) [(.iconst 1, 0, 0, 1, 0), (.goto 4, 0, 0, 0, 0)] (by decide +kernel) rfl trivial ?_
        exact GE_zret (ty := .boolean) rfl (by decide +kernel) (by decide +kernel)
abbrev mm_X4_bounded : MI := (RX4, cX4_bounded, 3, (some .int), ftp_X4.map (fun q => q.1), ctp_X4.map (fun q => q.1), clp_X4.map (fun q => q.1))
noncomputable def f_X4_bounded (a1 : Int32) (a2 : Int32) (a3 : Int32) (w : Mem) : Option (Int32 × Mem) := if a1 < a2 then (some (a2, w)) else (if a1 ≤ a3 then (some (a1, w)) else (some (a3, w)))
set_option maxRecDepth 100000 in
theorem t_X4_bounded (l : Launch) (X : XC) {N9 : Nat} (hN : 39 ≤ N9)  (a1 : Int32) (a2 : Int32) (a3 : Int32) (w : Mem) : Ct l X 0 yX4_bounded cX4_bounded 3 (some .int) emI [.inl a1, .inl a2, .inl a3] N9 flT w (f_X4_bounded a1 a2 a3 w) := by
  refine Ct_of (mi := mm_X4_bounded) (mik_X4 _ _ _) me_X4_bounded rfl (okAs_cons rfl (okAs_cons rfl (okAs_cons rfl okAs_nil))) (Nat.le_of_ble_eq_true rfl) ?_
  unfold f_X4_bounded
  refine GE_run (flG_T hN) (pc1 := 2) (L1 := [some (.inl a1), some (.inl a2), some (.inl a3)]) (S1 := [.inl a2, .inl a1]) (w1 := w) (P := True) [(.iload_n 0, 0, 0, 0, 0), (.iload_n 1, 0, 0, 0, 0)] (by decide +kernel) rfl trivial ?_
  refine GE_icmpN (k := .ge) (off := 7) (tgt := 9) (by decide +kernel) (by decide) (cnd_ge _ _) (fun c1 => ?_) (fun c1 => ?_)
  · refine GE_run (flG_T hN) (pc1 := 11) (L1 := [some (.inl a1), some (.inl a2), some (.inl a3)]) (S1 := [.inl a3, .inl a1]) (w1 := w) (P := True) [(.iload_n 0, 0, 0, 0, 0), (.iload_n 2, 0, 0, 0, 0)] (by decide +kernel) rfl trivial ?_
    refine GE_icmp (k := .le) (off := 7) (tgt := 18) (by decide +kernel) (by decide) (cnd_le _ _) (fun c2 => ?_) (fun c2 => ?_)
    · refine GE_run (flG_T hN) (pc1 := 19) (L1 := [some (.inl a1), some (.inl a2), some (.inl a3)]) (S1 := [.inl a1]) (w1 := w) (P := True) [(.iload_n 0, 0, 0, 0, 0)] (by decide +kernel) rfl trivial ?_
      exact GE_iret rfl (by decide +kernel)
    · refine GE_run (flG_T hN) (pc1 := 19) (L1 := [some (.inl a1), some (.inl a2), some (.inl a3)]) (S1 := [.inl a3]) (w1 := w) (P := True) [(.iload_n 2, 0, 0, 0, 0), (.goto 4, 0, 0, 0, 0)] (by decide +kernel) rfl trivial ?_
      exact GE_iret rfl (by decide +kernel)
  · refine GE_run (flG_T hN) (pc1 := 19) (L1 := [some (.inl a1), some (.inl a2), some (.inl a3)]) (S1 := [.inl a2]) (w1 := w) (P := True) [(.iload_n 1, 0, 0, 0, 0), (.goto 13, 0, 0, 0, 0)] (by decide +kernel) rfl trivial ?_
    exact GE_iret rfl (by decide +kernel)
end
section
/-! String.length and charAt on the pool's texts -/
theorem fl_J0_38 : Cond.fieldLink RJ0 38 "java/lang/String" "COMPACT_STRINGS" "Z" ∈ lw_tbl := List.mem_of_getElem? (i := 497) (by decide +kernel)
theorem fl_J0_15 : Cond.fieldLink RJ0 15 "java/lang/String" "coder" "B" ∈ lw_tbl := List.mem_of_getElem? (i := 613) (by decide +kernel)
theorem fl_J0_9 : Cond.fieldLink RJ0 9 "java/lang/String" "value" "[B" ∈ lw_tbl := List.mem_of_getElem? (i := 612) (by decide +kernel)
theorem fl_J0_1053 : Cond.fieldLink RJ0 1053 "jdk/internal/util/Preconditions" "SIOOBE_FORMATTER" "Ljava/util/function/BiFunction;" ∈ lw_tbl := List.mem_of_getElem? (i := 475) (by decide +kernel)
theorem mikE (own : String) (cc : ByteArray) (nL : Nat) (ret : Option FieldType) : MIok (own, cc, nL, ret, [], [], []) := ⟨fun _ h => (List.not_mem_nil h).elim, fun _ h => (List.not_mem_nil h).elim, fun _ h => (List.not_mem_nil h).elim⟩
section STRK
variable {l : Launch} {X : XC} {mi : MI} {d : Nat} {ρ : Type} {em : ρ → Option AV × Mem} {n : Nat} {fl : Fl} {E : Option ρ} {pc : Nat} {L : LL} {S : List AV} {w : Mem}
theorem old_at {p : Program} {s : State} {m : MethodId} {args : Array Value} {meth : Method} {c : Code} {H : Heap} {locs : List Loc} (B : Bd X mi p s m args meth c) (hW : Wd X n fl w H) (hS : va_S (AA X) s.heap H locs) : ∀ a : Nat, a < X.2.2.1.heap.size → ¬ (AA X) a → s.heap[a]? = X.2.2.1.heap[a]? := by
  intro a ha hna
  have hxb := B.2.2.2.2.2.2.2.2.2.2.1
  have h1 : a < xb X := ha
  rw [← hS.2.1 a (by omega) hna]
  exact hW.2.2.2.2 a hna
/-- a text: where it lies, where its bytes lie, how many, which -/
def strG (X : XC) (i v len : Nat) (by0 : Nat → Int32) : Prop := i < 50 ∧ v < 50 ∧ len < 1000 ∧ va_O "java/lang/String" (X.2.2.2.1 i) (AA X) X.2.2.1 X.2.2.1.heap ∧ va_OF "java/lang/String" "coder" "B" (.int 0) (X.2.2.2.1 i) (AA X) X.2.2.1 X.2.2.1.heap ∧ va_OF "java/lang/String" "value" "[B" (.ref (X.2.2.2.1 v)) (X.2.2.2.1 i) (AA X) X.2.2.1 X.2.2.1.heap ∧ va_T .byte (X.2.2.2.1 v) len (fun j => .int (by0 j)) (AA X) X.2.2.1 X.2.2.1.heap
theorem str_at {i v len : Nat} {by0 : Nat → Int32} {p : Program} {s : State} {m : MethodId} {args : Array Value} {meth : Method} {c : Code} {H : Heap} {locs : List Loc} (hG : strG X i v len by0) (B : Bd X mi p s m args meth c) (hW : Wd X n fl w H) (hS : va_S (AA X) s.heap H locs) : va_O "java/lang/String" (X.2.2.2.1 i) (AA X) s s.heap ∧ va_OF "java/lang/String" "coder" "B" (.int 0) (X.2.2.2.1 i) (AA X) s s.heap ∧ va_OF "java/lang/String" "value" "[B" (.ref (X.2.2.2.1 v)) (X.2.2.2.1 i) (AA X) s s.heap ∧ va_T .byte (X.2.2.2.1 v) len (fun j => .int (by0 j)) (AA X) s s.heap := by
  obtain ⟨-, -, -, h1, h2, h3, h4⟩ := hG
  have ha := B.2.2.2.2.2.2.2.1
  have hk := old_at B hW hS
  exact ⟨(h1.moved ha).kept hk, (h2.moved ha).kept hk, (h3.moved ha).kept hk, (h4.moved ha).kept hk⟩
theorem strG_pool (hX : XOK X) {i : Nat} (hi : i < 12) : strG X i (19 + i) (lenS.getD i 0) (fun j => (bytS.getD i []).getD j 0) := by
  obtain ⟨h1, h2, h3, h4⟩ := hX.2.1.1 i (by omega)
  exact ⟨by omega, by omega, (by decide +kernel : ∀ i, i < 19 → lenS.getD i 0 < 1000) i (by omega), h1, h2, h3, h4⟩
theorem GE_compact {idx : Nat} (hf : Cond.fieldLink mi.1 idx "java/lang/String" "COMPACT_STRINGS" "Z" ∈ lw_tbl) (hd : decode mi.2.1 pc = .ok (.getstatic idx, 3)) (kk : GE l X mi d em n fl E (pc + 3) L (.inl 1 :: S) w) : GE l X mi d em n fl E pc L S w := by
  intro r hr p e s m args below meth c B H locs ls hW hS hl hL oL oS
  exact va_gets B.1 B.2.1 ((B.2.2.2.2.2.2.2.2.1.2.2.1.moved B.2.2.2.2.2.2.2.1).kept (old_at B hW hS)) hS B.2.2.2.1 (B.hw hf rfl) (fun _ h => h) hd (kk r hr p e s m args below meth c B H locs ls hW hS hl hL oL (List.forall_mem_cons.mpr ⟨rfl, oS⟩))
theorem GE_fmt {idx : Nat} (hf : Cond.fieldLink mi.1 idx "jdk/internal/util/Preconditions" "SIOOBE_FORMATTER" "Ljava/util/function/BiFunction;" ∈ lw_tbl) (hd : decode mi.2.1 pc = .ok (.getstatic idx, 3)) (kk : ∀ q : Option (Nat × Nat), okV n (.inr (.inr q)) = true → GE l X mi d em n fl E (pc + 3) L (.inr (.inr q) :: S) w) : GE l X mi d em n fl E pc L S w := by
  intro r hr p e s m args below meth c B H locs ls hW hS hl hL oL oS
  rcases B.2.2.2.2.2.2.2.2.1.2.2.2 with h | h
  · exact va_gets B.1 B.2.1 ((h.moved B.2.2.2.2.2.2.2.1).kept (old_at B hW hS)) hS B.2.2.2.1 (B.hw hf rfl) (fun _ h => h) hd (kk none rfl r hr p e s m args below meth c B H locs ls hW hS hl hL oL (List.forall_mem_cons.mpr ⟨rfl, oS⟩))
  · exact va_gets B.1 B.2.1 ((h.moved B.2.2.2.2.2.2.2.1).kept (old_at B hW hS)) hS B.2.2.2.1 (B.hw hf rfl) (fun _ h => h) hd (kk (some (40, 38)) rfl r hr p e s m args below meth c B H locs ls hW hS hl hL oL (List.forall_mem_cons.mpr ⟨rfl, oS⟩))
theorem ok40 {n j : Nat} (h : j < 50) : okV n (.inr (.inr (some (40, j)))) = true := by
  show decide (j < 50) = true; exact decide_eq_true h
theorem GE_strval {idx i : Nat} {v0 len : Nat} {by0 : Nat → Int32} (hG : strG X i v0 len by0) (hf : Cond.fieldLink mi.1 idx "java/lang/String" "value" "[B" ∈ lw_tbl) (hd : decode mi.2.1 pc = .ok (.getfield idx, 3)) (kk : GE l X mi d em n fl E (pc + 3) L (.inr (.inr (some (40, v0))) :: S) w) : GE l X mi d em n fl E pc L (.inr (.inr (some (40, i))) :: S) w := by
  intro r hr p e s m args below meth c B H locs ls hW hS hl hL oL oS
  exact vk_getf B.1 B.2.1 (str_at hG B hW hS).2.2.1 hS B.2.2.2.1 (B.hw hf rfl) (fun _ h => h) hd (kk r hr p e s m args below meth c B H locs ls hW hS hl hL oL (List.forall_mem_cons.mpr ⟨ok40 hG.2.1, (List.forall_mem_cons.mp oS).2⟩))
theorem GE_strcoder {idx i : Nat} {v0 len : Nat} {by0 : Nat → Int32} (hG : strG X i v0 len by0) (hf : Cond.fieldLink mi.1 idx "java/lang/String" "coder" "B" ∈ lw_tbl) (hd : decode mi.2.1 pc = .ok (.getfield idx, 3)) (kk : GE l X mi d em n fl E (pc + 3) L (.inl 0 :: S) w) : GE l X mi d em n fl E pc L (.inr (.inr (some (40, i))) :: S) w := by
  intro r hr p e s m args below meth c B H locs ls hW hS hl hL oL oS
  exact vk_getf B.1 B.2.1 (str_at hG B hW hS).2.1 hS B.2.2.2.1 (B.hw hf rfl) (fun _ h => h) hd (kk r hr p e s m args below meth c B H locs ls hW hS hl hL oL (List.forall_mem_cons.mpr ⟨rfl, (List.forall_mem_cons.mp oS).2⟩))
theorem GE_strlen {i : Nat} {v0 len : Nat} {by0 : Nat → Int32} (hG : strG X i v0 len by0) (hd : decode mi.2.1 pc = .ok (.arraylength, 1)) (kk : GE l X mi d em n fl E (pc + 1) L (.inl (nI (len)) :: S) w) : GE l X mi d em n fl E pc L (.inr (.inr (some (40, v0))) :: S) w := by
  intro r hr p e s m args below meth c B H locs ls hW hS hl hL oL oS
  exact va_tlen B.1 B.2.1 (str_at hG B hW hS).2.2.2 hS rfl hd (kk r hr p e s m args below meth c B H locs ls hW hS hl hL oL (List.forall_mem_cons.mpr ⟨rfl, (List.forall_mem_cons.mp oS).2⟩))
theorem GE_strbyte {i : Nat} {x : Int32} {v0 len : Nat} {by0 : Nat → Int32} (hG : strG X i v0 len by0) (hx : inB x (len)) (hd : decode mi.2.1 pc = .ok (.baload, 1)) (kk : GE l X mi d em n fl E (pc + 1) L (.inl (by0 (tn x)) :: S) w) : GE l X mi d em n fl E pc L (.inl x :: .inr (.inr (some (40, v0))) :: S) w := by
  intro r hr p e s m args below meth c B H locs ls hW hS hl hL oL oS
  exact va_tb B.1 B.2.1 (str_at hG B hW hS).2.2.2 hS hx rfl hd (kk r hr p e s m args below meth c B H locs ls hW hS hl hL oL (List.forall_mem_cons.mpr ⟨rfl, (List.forall_mem_cons.mp (List.forall_mem_cons.mp oS).2).2⟩))
theorem GE_ldcS {idx : Nat} (tx : String) (i : Nat) (hm : (mi.1, idx, tx, i) ∈ strA) (hi : i < 19) (hd : decode mi.2.1 pc = .ok (.ldc idx, 2)) (kk : GE l X mi d em n fl E (pc + 2) L (.inr (.inr (some (40, i))) :: S) w) : GE l X mi d em n fl E pc L S w := by
  intro r hr p e s m args below meth c B H locs ls hW hS hl hL oL oS
  have h1 := B.2.2.2.2.2.2.2.2.2.2.2.2 _ hm
  exact va_ldcS B.1 B.2.1 B.2.2.2.1 h1 hd (kk r hr p e s m args below meth c B H locs ls hW hS hl hL oL (List.forall_mem_cons.mpr ⟨ok40 (by omega), oS⟩))
theorem GE_callVs {ρ' : Type} {em' : ρ' → Option AV × Mem} {d' idx nn i maxL : Nat} {y : MethodName} {cc : ByteArray} {ret : Option FieldType} {As : List AV} {f : Option ρ'} {kf : ρ' → Option ρ} {v0 len : Nat} {by0 : Nat → Int32} (hG : strG X i v0 len by0) (hC : Ct l X d' y cc maxL ret em' (.inr (.inr (some (40, i))) :: As) n fl w f) (cl : CV mi.1 idx y cc maxL ret nn) (hcls : y.cls = "java/lang/String") (hd : decode mi.2.1 pc = .ok (.invokevirtual idx, 3)) (hn : As.length = nn) (hdd : d' < d) (hm : maxL ≤ 45) (hcat : catS S ≤ 8)
    (kk : ∀ r, f = some r → GE l X mi d em n fl (kf r) (pc + 3) L ((em' r).1.toList ++ S) (em' r).2) : GE l X mi d em n fl (f.bind kf) pc L (As.reverse ++ .inr (.inr (some (40, i))) :: S) w := by
  intro r hr p e s m args below meth c B
  obtain ⟨r1, h1, h2⟩ := Option.bind_eq_some_iff.mp hr
  have hM := hC B.2.2.2.2.2.2.2.2.1 r1 h1
  have hR := room_d hdd hm
  intro H locs ls hW hS hl hL oL oS
  have hrc : ∃ cell : Cell, H[X.2.2.2.1 i]? = some cell ∧ cell.vm.isStatics = false ∧ s.vm.findClass "java/lang/String" = some cell.cls := by
    obtain ⟨cell, g1, g2, g3, -⟩ := (str_at hG B hW hS).1.kept hS.2.1
    exact ⟨cell, g1, g2, g3⟩
  refine G_call (Qy := fun v n1 fl1 w1 => n1 = n ∧ fl1 = fl ∧ (v, w1) = em' r1) (a := (Value.ref (adr X 40 i) :: As.map (cv X)).toArray) (mc := 0) (ms := 0) (S := S) (fun H2 locs2 ls2 hW2 hl2 oS2 => ?_) (fun v hv => List.mem_append_right _ (List.mem_cons_of_mem _ hv)) (fun _ _ _ _ h => Nat.le_of_eq h.1.symm) (fun v n1 fl1 w1 hq => ?_) H locs ls hW hS hl hL oL oS
  · have hrc2 : ∃ cell : Cell, H2[X.2.2.2.1 i]? = some cell ∧ cell.vm.isStatics = false ∧ s.vm.findClass "java/lang/String" = some cell.cls := by
      obtain ⟨cell, g1, g2, g3⟩ := hrc
      refine ⟨cell, ?_, g2, g3⟩
      have hA : ¬ (AA X) (X.2.2.2.1 i) := by
        obtain ⟨cell0, -, -, -, hA⟩ := hG.2.2.2.1
        exact hA
      rw [hW2.2.2.2.2 _ hA, ← hW.2.2.2.2 _ hA]
      exact g1
    exact va_runV (own := mi.1) (C := y.cls) (Ts := gtb) (n := nn) ⟨B.1, B.2.1, B.2.2.1, B.2.2.2.1, B.2.2.2.2.1⟩ hM ⟨callB_of nn B.2.2.2.2.1 (ws_in B cl.1) rfl rfl rfl (B.hw cl.1.2.1 rfl) (B.hw cl.2.2.2 rfl) ⟨cl.1.2.2.2.1, cl.1.2.2.2.2⟩ hR, B.hw cl.2.1 rfl, B.hw cl.2.2.1 rfl⟩ ⟨PcW_blind, by rw [hcls]; exact hrc2, PcW_at B hW2⟩ rfl (by rw [List.length_map]; exact hn) hl2.1 (by simp; rfl) (lv_room (catS_ok hcat)) hd ⟨Nat.le_refl _, Nat.le_refl _⟩
  · obtain ⟨rfl, rfl, h3⟩ := hq
    have h4 := kk r1 h1 r h2 p e s m args below meth c B
    rw [← h3] at h4
    exact h4
theorem GE_callVsI {d' idx nn i maxL : Nat} {y : MethodName} {cc : ByteArray} {ret : Option FieldType} {As : List AV} {f : Option (Int32 × Mem)} {kf : Int32 × Mem → Option ρ} {v0 len : Nat} {by0 : Nat → Int32} (hG : strG X i v0 len by0) (hC : Ct l X d' y cc maxL ret emI (.inr (.inr (some (40, i))) :: As) n fl w f) (cl : CV mi.1 idx y cc maxL ret nn) (hcls : y.cls = "java/lang/String") (hd : decode mi.2.1 pc = .ok (.invokevirtual idx, 3)) (hn : As.length = nn) (hdd : d' < d) (hm : maxL ≤ 45) (hcat : catS S ≤ 8)
    (kk : ∀ r, f = some r → GE l X mi d em n fl (kf r) (pc + 3) L (.inl r.1 :: S) r.2) : GE l X mi d em n fl (f.bind kf) pc L (As.reverse ++ .inr (.inr (some (40, i))) :: S) w := GE_callVs hG hC cl hcls hd hn hdd hm hcat kk
theorem GE_callVsIp {d' idx nn i maxL : Nat} {y : MethodName} {cc : ByteArray} {ret : Option FieldType} {As : List AV} {v : Int32} {w2 : Mem} {v0 len : Nat} {by0 : Nat → Int32} (hG : strG X i v0 len by0) (hC : Ct l X d' y cc maxL ret emI (.inr (.inr (some (40, i))) :: As) n fl w (some (v, w2))) (cl : CV mi.1 idx y cc maxL ret nn) (hcls : y.cls = "java/lang/String") (hd : decode mi.2.1 pc = .ok (.invokevirtual idx, 3)) (hn : As.length = nn) (hdd : d' < d) (hm : maxL ≤ 45) (hcat : catS S ≤ 8)
    (kk : GE l X mi d em n fl E (pc + 3) L (.inl v :: S) w2) : GE l X mi d em n fl E pc L (As.reverse ++ .inr (.inr (some (40, i))) :: S) w := GE_callVs (kf := fun _ => E) (f := some (v, w2)) hG hC cl hcls hd hn hdd hm hcat (fun r h => by cases h; exact kk)
end STRK
abbrev mm_J0_coder : MI := (RJ0, cJ0_coder_7d493, 1, (some .byte), [], [], [])
theorem pg_J0_coder (l : Launch) (X : XC) {N9 : Nat} (hN : 39 ≤ N9) {i : Nat} {v0 len : Nat} {by0 : Nat → Int32} (hG : strG X i v0 len by0) (w : Mem) : Ct l X 0 yJ0_coder_7d493 cJ0_coder_7d493 1 (some .byte) emI [.inr (.inr (some (40, i)))] N9 flT w (some (0, w)) := by
  refine Ct_of (mi := mm_J0_coder) (mikE _ _ _ _) me_J0_coder_7d493 rfl (okAs_cons (ok40 hG.1) okAs_nil) (Nat.le_of_ble_eq_true rfl) ?_
  refine GE_compact (idx := 38) fl_J0_38 (by decide +kernel) ?_
  refine GE_eq (E1 := if (1 : Int32) = 0 then none else some (0, w)) (by first | exact (if_neg (by decide)).symm | exact (if_pos (by decide)).symm) ?_
  refine GE_if (k := .eq) (off := 10) (tgt := 13) (by decide +kernel) (by decide) (cnd_eq _ _) (fun c => GE_none) (fun c => ?_)
  refine GE_run (flG_T hN) (pc1 := 7) (L1 := [some (.inr (.inr (some (40, i))))]) (S1 := [.inr (.inr (some (40, i)))]) (w1 := w) (P := True) [(.aload_n 0, 0, 0, 0, 0)] (by decide +kernel) rfl trivial ?_
  refine GE_strcoder (idx := 15) hG fl_J0_15 (by decide +kernel) ?_
  refine GE_run (flG_T hN) (pc1 := 14) (L1 := [some (.inr (.inr (some (40, i))))]) (S1 := [.inl 0]) (w1 := w) (P := True) [(.goto 4, 0, 0, 0, 0)] (by decide +kernel) rfl trivial ?_
  exact GE_zret (ty := .byte) rfl (by decide +kernel) (by decide +kernel)
abbrev mm_J0_isLatin1 : MI := (RJ0, cJ0_isLatin1_aae02, 1, (some .boolean), [], [], [])
theorem pg_J0_isLatin1 (l : Launch) (X : XC) {N9 : Nat} (hN : 39 ≤ N9) {i : Nat} {v0 len : Nat} {by0 : Nat → Int32} (hG : strG X i v0 len by0) (w : Mem) : Ct l X 0 yJ0_isLatin1_aae02 cJ0_isLatin1_aae02 1 (some .boolean) emI [.inr (.inr (some (40, i)))] N9 flT w (some (1, w)) := by
  refine Ct_of (mi := mm_J0_isLatin1) (mikE _ _ _ _) me_J0_isLatin1_aae02 rfl (okAs_cons (ok40 hG.1) okAs_nil) (Nat.le_of_ble_eq_true rfl) ?_
  refine GE_compact (idx := 38) fl_J0_38 (by decide +kernel) ?_
  refine GE_eq (E1 := if (1 : Int32) = 0 then none else some (1, w)) (by first | exact (if_neg (by decide)).symm | exact (if_pos (by decide)).symm) ?_
  refine GE_if (k := .eq) (off := 14) (tgt := 17) (by decide +kernel) (by decide) (cnd_eq _ _) (fun c => GE_none) (fun c => ?_)
  refine GE_run (flG_T hN) (pc1 := 7) (L1 := [some (.inr (.inr (some (40, i))))]) (S1 := [.inr (.inr (some (40, i)))]) (w1 := w) (P := True) [(.aload_n 0, 0, 0, 0, 0)] (by decide +kernel) rfl trivial ?_
  refine GE_strcoder (idx := 15) hG fl_J0_15 (by decide +kernel) ?_
  refine GE_eq (E1 := if (0 : Int32) = 0 then some (1, w) else none) (by first | exact (if_neg (by decide)).symm | exact (if_pos (by decide)).symm) ?_
  refine GE_ifN (k := .ne) (off := 7) (tgt := 17) (by decide +kernel) (by decide) (cnd_ne _ _) (fun c => GE_none) (fun c => ?_)
  refine GE_run (flG_T hN) (pc1 := 18) (L1 := [some (.inr (.inr (some (40, i))))]) (S1 := [.inl 1]) (w1 := w) (P := True) [(.iconst 1, 0, 0, 1, 0), (.goto 4, 0, 0, 0, 0)] (by decide +kernel) rfl trivial ?_
  exact GE_zret (ty := .boolean) rfl (by decide +kernel) (by decide +kernel)
abbrev mm_J0_length : MI := (RJ0, cJ0_length_8abf5, 1, (some .int), [], [], [])
theorem lenS_sm : ∀ i, i < 12 → lenS.getD i 0 < 8 := by decide +kernel
theorem pg_J0_length (l : Launch) (X : XC) {N9 : Nat} (hN : 39 ≤ N9) {i : Nat} {v0 len : Nat} {by0 : Nat → Int32} (hG : strG X i v0 len by0) (w : Mem) : Ct l X 1 yJ0_length_8abf5 cJ0_length_8abf5 1 (some .int) emI [.inr (.inr (some (40, i)))] N9 flT w (some (nI (len), w)) := by
  have e1 : some (nI (len), w) = some (shrI (nI (len)) 0, w) := by
    have h := sc_shr0 (n := len) (by have := hG.2.2.1; omega)
    unfold shrI; rw [h]
  rw [e1]
  refine Ct_of (mi := mm_J0_length) (mikE _ _ _ _) me_J0_length_8abf5 rfl (okAs_cons (ok40 hG.1) okAs_nil) (Nat.le_of_ble_eq_true rfl) ?_
  refine GE_run (flG_T hN) (pc1 := 1) (L1 := [some (.inr (.inr (some (40, i))))]) (S1 := [.inr (.inr (some (40, i)))]) (w1 := w) (P := True) [(.aload_n 0, 0, 0, 0, 0)] (by decide +kernel) rfl trivial ?_
  refine GE_strval (idx := 9) hG fl_J0_9 (by decide +kernel) ?_
  refine GE_strlen hG (by decide +kernel) ?_
  refine GE_run (flG_T hN) (pc1 := 6) (L1 := [some (.inr (.inr (some (40, i))))]) (S1 := [.inr (.inr (some (40, i))), .inl (nI (len))]) (w1 := w) (P := True) [(.aload_n 0, 0, 0, 0, 0)] (by decide +kernel) rfl trivial ?_
  refine GE_callVsIp (As := []) (S := [.inl (nI (len))]) hG (pg_J0_coder l X hN hG w) ⟨me_J0_coder_7d493, mi_J0_coder_7d493, mv_J0_coder_7d493, lk_J0_335⟩ rfl (by decide +kernel) rfl (by decide) (by decide) (Nat.le_of_ble_eq_true rfl) ?_
  refine GE_run (flG_T hN) (pc1 := 10) (L1 := [some (.inr (.inr (some (40, i))))]) (S1 := [.inl (shrI (nI (len)) 0)]) (w1 := w) (P := True) [(.ishr, 0, 0, 0, 0)] (by decide +kernel) rfl trivial ?_
  exact GE_iret rfl (by decide +kernel)
abbrev mm_J3_checkIndex : MI := (RJ3, cJ3_checkIndex_8e157, 3, (some .int), [], [], [])
theorem p_J3_checkIndex (l : Launch) (X : XC) {N9 : Nat} (hN : 39 ≤ N9) (a1 a2 : Int32) (q : Option (Nat × Nat)) (hq : okV N9 (.inr (.inr q)) = true) (h0 : ¬ a1 < 0) (h1 : a1 < a2) (w : Mem) : Ct l X 0 yJ3_checkIndex_8e157 cJ3_checkIndex_8e157 3 (some .int) emI [.inl a1, .inl a2, .inr (.inr q)] N9 flT w (some (a1, w)) := by
  have e1 : some (a1, w) = if a1 < 0 then none else if a1 < a2 then some (a1, w) else none := by rw [if_neg h0, if_pos h1]
  rw [e1]
  refine Ct_of (mi := mm_J3_checkIndex) (mikE _ _ _ _) me_J3_checkIndex_8e157 rfl (okAs_cons rfl (okAs_cons rfl (okAs_cons hq okAs_nil))) (Nat.le_of_ble_eq_true rfl) ?_
  refine GE_run (flG_T hN) (pc1 := 1) (L1 := [some (.inl a1), some (.inl a2), some (.inr (.inr q))]) (S1 := [.inl a1]) (w1 := w) (P := True) [(.iload_n 0, 0, 0, 0, 0)] (by decide +kernel) rfl trivial ?_
  refine GE_if (k := .lt) (off := 8) (tgt := 9) (by decide +kernel) (by decide) (cnd_lt _ _) (fun c => GE_none) (fun c => ?_)
  refine GE_run (flG_T hN) (pc1 := 6) (L1 := [some (.inl a1), some (.inl a2), some (.inr (.inr q))]) (S1 := [.inl a2, .inl a1]) (w1 := w) (P := True) [(.iload_n 0, 0, 0, 0, 0), (.iload_n 1, 0, 0, 0, 0)] (by decide +kernel) rfl trivial ?_
  refine GE_icmp (k := .lt) (off := 10) (tgt := 16) (by decide +kernel) (by decide) (cnd_lt _ _) (fun c => ?_) (fun c => GE_none)
  refine GE_run (flG_T hN) (pc1 := 17) (L1 := [some (.inl a1), some (.inl a2), some (.inr (.inr q))]) (S1 := [.inl a1]) (w1 := w) (P := True) [(.iload_n 0, 0, 0, 0, 0)] (by decide +kernel) rfl trivial ?_
  exact GE_iret rfl (by decide +kernel)
abbrev mm_J0_checkIndex : MI := (RJ0, cJ0_checkIndex_df160, 2, none, [], [], [])
theorem p_J0_checkIndex (l : Launch) (X : XC) {N9 : Nat} (hN : 39 ≤ N9) (a1 a2 : Int32) (h0 : ¬ a1 < 0) (h1 : a1 < a2) (w : Mem) : Ct l X 1 yJ0_checkIndex_df160 cJ0_checkIndex_df160 2 none emV [.inl a1, .inl a2] N9 flT w (some w) := by
  refine Ct_of (mi := mm_J0_checkIndex) (mikE _ _ _ _) me_J0_checkIndex_df160 rfl (okAs_cons rfl (okAs_cons rfl okAs_nil)) (Nat.le_of_ble_eq_true rfl) ?_
  refine GE_run (flG_T hN) (pc1 := 2) (L1 := [some (.inl a1), some (.inl a2)]) (S1 := [.inl a2, .inl a1]) (w1 := w) (P := True) [(.iload_n 0, 0, 0, 0, 0), (.iload_n 1, 0, 0, 0, 0)] (by decide +kernel) rfl trivial ?_
  refine GE_fmt (idx := 1053) fl_J0_1053 (by decide +kernel) (fun q hq => ?_)
  refine GE_callSIp (As := [.inl a1, .inl a2, .inr (.inr q)]) (S := []) (p_J3_checkIndex l X hN a1 a2 q hq h0 h1 w) ⟨me_J3_checkIndex_8e157, ms_J3_checkIndex_8e157, lk_J0_1059⟩ (by decide +kernel) rfl (by decide) (by decide) (Nat.le_of_ble_eq_true rfl) ?_
  refine GE_run (flG_T hN) (pc1 := 9) (L1 := [some (.inl a1), some (.inl a2)]) (S1 := []) (w1 := w) (P := True) [(.pop, 0, 0, 0, 0)] (by decide +kernel) rfl trivial ?_
  exact GE_vret rfl (by decide +kernel)
def chB (by0 : Nat → Int32) (k : Int32) : Int32 := ((by0 (tn k) &&& 255).toUInt32 % 65536).toInt32
def chS (i : Nat) (k : Int32) : Int32 := ((((bytS.getD i []).getD (tn k) 0) &&& 255).toUInt32 % 65536).toInt32
theorem inB_lt {x : Int32} {n : Nat} (hn : n < 2000) (h : inB x n) : ¬ x < 0 ∧ x < nI n := by
  have h1 : ¬ x < 0 := fun z => h (Or.inl z)
  have h2 : ¬ n ≤ x.toNatClampNeg := fun z => h (Or.inr z)
  refine ⟨h1, Int32.lt_iff_toInt_lt.mpr ?_⟩
  rw [nI_toInt (by omega)]
  have h3 : ¬ n ≤ x.toInt.toNat := h2
  have h4 : ¬ x.toInt < 0 := fun z => h1 (Int32.lt_iff_toInt_lt.mpr z)
  omega
abbrev mm_J1_charAt : MI := (RJ1, cJ1_charAt_3b067, 2, (some .char), [], [], [])
theorem pg_J1_charAt (l : Launch) (X : XC) {N9 : Nat} (hN : 39 ≤ N9) {i : Nat} {v0 len : Nat} {by0 : Nat → Int32} (hG : strG X i v0 len by0) (a1 : Int32) (hx : inB a1 (len)) (w : Mem) : Ct l X 2 yJ1_charAt_3b067 cJ1_charAt_3b067 2 (some .char) emI [.inr (.inr (some (40, v0))), .inl a1] N9 flT w (some (chB by0 a1, w)) := by
  obtain ⟨h0, h1⟩ := inB_lt (by have := hG.2.2.1; omega) hx
  refine Ct_of (mi := mm_J1_charAt) (mikE _ _ _ _) me_J1_charAt_3b067 rfl (okAs_cons (ok40 hG.2.1) (okAs_cons rfl okAs_nil)) (Nat.le_of_ble_eq_true rfl) ?_
  refine GE_run (flG_T hN) (pc1 := 2) (L1 := [some (.inr (.inr (some (40, v0)))), some (.inl a1)]) (S1 := [.inr (.inr (some (40, v0))), .inl a1]) (w1 := w) (P := True) [(.iload_n 1, 0, 0, 0, 0), (.aload_n 0, 0, 0, 0, 0)] (by decide +kernel) rfl trivial ?_
  refine GE_strlen hG (by decide +kernel) ?_
  refine GE_callSVp (As := [.inl a1, .inl (nI (len))]) (S := []) (p_J0_checkIndex l X hN a1 (nI (len)) h0 h1 w) ⟨me_J0_checkIndex_df160, ms_J0_checkIndex_df160, lk_J1_9⟩ (by decide +kernel) rfl (by decide) (by decide) (Nat.le_of_ble_eq_true rfl) ?_
  refine GE_run (flG_T hN) (pc1 := 8) (L1 := [some (.inr (.inr (some (40, v0)))), some (.inl a1)]) (S1 := [.inl a1, .inr (.inr (some (40, v0)))]) (w1 := w) (P := True) [(.aload_n 0, 0, 0, 0, 0), (.iload_n 1, 0, 0, 0, 0)] (by decide +kernel) rfl trivial ?_
  refine GE_strbyte hG hx (by decide +kernel) ?_
  refine GE_run (flG_T hN) (pc1 := 14) (L1 := [some (.inr (.inr (some (40, v0)))), some (.inl a1)]) (S1 := [.inl (chB by0 a1)]) (w1 := w) (P := True) [(.sipush 255, 0, 0, 255, 0), (.iand, 0, 0, 0, 0), (.i2c, 0, 0, 0, 0)] (by decide +kernel) rfl trivial ?_
  exact GE_zret (ty := .char) rfl (by unfold chB; rw [sc_c2]; exact sc_nar _) (by decide +kernel)
abbrev mm_J0_charAt : MI := (RJ0, cJ0_charAt_5068e, 2, (some .char), [], [], [])
theorem pg_J0_charAt (l : Launch) (X : XC) {N9 : Nat} (hN : 39 ≤ N9) {i : Nat} {v0 len : Nat} {by0 : Nat → Int32} (hG : strG X i v0 len by0) (a1 : Int32) (hx : inB a1 (len)) (w : Mem) : Ct l X 3 yJ0_charAt_5068e cJ0_charAt_5068e 2 (some .char) emI [.inr (.inr (some (40, i))), .inl a1] N9 flT w (some (chB by0 a1, w)) := by
  refine Ct_of (mi := mm_J0_charAt) (mikE _ _ _ _) me_J0_charAt_5068e rfl (okAs_cons (ok40 hG.1) (okAs_cons rfl okAs_nil)) (Nat.le_of_ble_eq_true rfl) ?_
  refine GE_run (flG_T hN) (pc1 := 1) (L1 := [some (.inr (.inr (some (40, i)))), some (.inl a1)]) (S1 := [.inr (.inr (some (40, i)))]) (w1 := w) (P := True) [(.aload_n 0, 0, 0, 0, 0)] (by decide +kernel) rfl trivial ?_
  refine GE_callVsIp (As := []) (S := []) hG (pg_J0_isLatin1 l X hN hG w) ⟨me_J0_isLatin1_aae02, mi_J0_isLatin1_aae02, mv_J0_isLatin1_aae02, lk_J0_492⟩ rfl (by decide +kernel) rfl (by decide) (by decide) (Nat.le_of_ble_eq_true rfl) ?_
  refine GE_eq (E1 := if (1 : Int32) = 0 then none else some (chB by0 a1, w)) (if_neg (by decide)).symm ?_
  refine GE_if (k := .eq) (off := 12) (tgt := 16) (by decide +kernel) (by decide) (cnd_eq _ _) (fun c => GE_none) (fun c => ?_)
  refine GE_run (flG_T hN) (pc1 := 8) (L1 := [some (.inr (.inr (some (40, i)))), some (.inl a1)]) (S1 := [.inr (.inr (some (40, i)))]) (w1 := w) (P := True) [(.aload_n 0, 0, 0, 0, 0)] (by decide +kernel) rfl trivial ?_
  refine GE_strval (idx := 9) hG fl_J0_9 (by decide +kernel) ?_
  refine GE_run (flG_T hN) (pc1 := 12) (L1 := [some (.inr (.inr (some (40, i)))), some (.inl a1)]) (S1 := [.inl a1, .inr (.inr (some (40, v0)))]) (w1 := w) (P := True) [(.iload_n 1, 0, 0, 0, 0)] (by decide +kernel) rfl trivial ?_
  refine GE_callSIp (As := [.inr (.inr (some (40, v0))), .inl a1]) (S := []) (pg_J1_charAt l X hN hG a1 hx w) ⟨me_J1_charAt_3b067, ms_J1_charAt_3b067, lk_J0_495⟩ (by decide +kernel) rfl (by decide) (by decide) (Nat.le_of_ble_eq_true rfl) ?_
  exact GE_zret (ty := .char) rfl (by unfold chB; rw [sc_c2]; exact sc_nar _) (by decide +kernel)
theorem p_J0_length (l : Launch) (X : XC) {N9 : Nat} (hN : 39 ≤ N9) (i : Nat) (hi : i < 12) (w : Mem) : Ct l X 1 yJ0_length_8abf5 cJ0_length_8abf5 1 (some .int) emI [.inr (.inr (some (40, i)))] N9 flT w (some (nI (lenS.getD i 0), w)) := fun hX => pg_J0_length l X hN (strG_pool hX hi) w hX
theorem p_J0_charAt (l : Launch) (X : XC) {N9 : Nat} (hN : 39 ≤ N9) (i : Nat) (hi : i < 12) (a1 : Int32) (hx : inB a1 (lenS.getD i 0)) (w : Mem) : Ct l X 3 yJ0_charAt_5068e cJ0_charAt_5068e 2 (some .char) emI [.inr (.inr (some (40, i))), .inl a1] N9 flT w (some (chS i a1, w)) := fun hX => pg_J0_charAt l X hN (strG_pool hX hi) a1 hx w hX
theorem GE_lenP {l : Launch} {X : XC} {mi : MI} {d : Nat} {ρ : Type} {em : ρ → Option AV × Mem} {N9 : Nat} {E : Option ρ} {pc idx i : Nat} {L : LL} {S : List AV} {w : Mem} (hN : 39 ≤ N9) (hi : i < 12) (cl : CV mi.1 idx yJ0_length_8abf5 cJ0_length_8abf5 1 (some .int) 0) (hd : decode mi.2.1 pc = .ok (.invokevirtual idx, 3)) (hdd : 1 < d) (hcat : catS S ≤ 8) (kk : GE l X mi d em N9 flT E (pc + 3) L (.inl (nI (lenS.getD i 0)) :: S) w) : GE l X mi d em N9 flT E pc L (.inr (.inr (some (40, i))) :: S) w :=
  fun r hr p e s m args below meth c B => GE_callVsIp (As := []) (strG_pool B.2.2.2.2.2.2.2.2.1 hi) (p_J0_length l X hN i hi w) cl rfl hd rfl hdd (by decide) hcat kk r hr p e s m args below meth c B
theorem GE_chrP {l : Launch} {X : XC} {mi : MI} {d : Nat} {ρ : Type} {em : ρ → Option AV × Mem} {N9 : Nat} {E : Option ρ} {pc idx i : Nat} {L : LL} {S : List AV} {w : Mem} {a1 : Int32} (hN : 39 ≤ N9) (hi : i < 12) (hx : inB a1 (lenS.getD i 0)) (cl : CV mi.1 idx yJ0_charAt_5068e cJ0_charAt_5068e 2 (some .char) 1) (hd : decode mi.2.1 pc = .ok (.invokevirtual idx, 3)) (hdd : 3 < d) (hcat : catS S ≤ 8) (kk : GE l X mi d em N9 flT E (pc + 3) L (.inl (chS i a1) :: S) w) : GE l X mi d em N9 flT E pc L (.inl a1 :: .inr (.inr (some (40, i))) :: S) w :=
  fun r hr p e s m args below meth c B => GE_callVsIp (As := [.inl a1]) (strG_pool B.2.2.2.2.2.2.2.2.1 hi) (p_J0_charAt l X hN i hi a1 hx w) cl rfl hd rfl hdd (by decide) hcat kk r hr p e s m args below meth c B
end
section
/-! small methods in closed form -/
def b2i (p : Prop) [Decidable p] : Int32 := if p then 1 else 0
theorem b2i_t {p : Prop} [Decidable p] (h : p) : b2i p = 1 := if_pos h
theorem b2i_f {p : Prop} [Decidable p] (h : ¬ p) : b2i p = 0 := if_neg h
theorem b2i_0 {p : Prop} [Decidable p] : b2i p = 0 ↔ ¬ p := by
  by_cases h : p
  · rw [b2i_t h]; exact ⟨fun z => absurd z (by decide), fun z => absurd h z⟩
  · rw [b2i_f h]; exact ⟨fun _ => h, fun _ => rfl⟩
theorem b2i_01 {p : Prop} [Decidable p] : b2i p = 0 ∨ b2i p = 1 := by
  by_cases h : p
  · exact Or.inr (b2i_t h)
  · exact Or.inl (b2i_f h)
def atV0 (w : Mem) (k i : Nat) (x : Int32) : Int32 := if x < 0 then 0 else if x < Int32.ofNat (lenK k) then w k i (tn x) else 0
def setV0 (w : Mem) (k i : Nat) (x v : Int32) : Mem := if x < 0 then w else if x < Int32.ofNat (lenK k) then up w k i (tn x) v else w
theorem lenK_sm : ∀ k, k < 37 → lenK k < 2000 := by decide +kernel
theorem inB_of {x : Int32} {k : Nat} (hA : isA k = true) (h0 : ¬ x < 0) (h1 : x < Int32.ofNat (lenK k)) : inB x (lenK k) := by
  have h2 := lenK_sm k (isA_spec hA).2.1
  have h3 : (Int32.ofNat (lenK k)).toInt = (lenK k : Int) := nI_toInt (by omega)
  have h4 := Int32.lt_iff_toInt_lt.mp h1
  rw [h3] at h4
  rintro (h | h)
  · exact h0 h
  · have h5 : lenK k ≤ x.toInt.toNat := h
    have h6 : ¬ x.toInt < 0 := fun z => h0 (Int32.lt_iff_toInt_lt.mpr z)
    omega
abbrev mi_X4_at : MI := (RX4, cX4_at, 2, (some .int), ftp_X4.map (fun q => q.1), ctp_X4.map (fun q => q.1), clp_X4.map (fun q => q.1))
abbrev mi_X4_set : MI := (RX4, cX4_set, 3, none, ftp_X4.map (fun q => q.1), ctp_X4.map (fun q => q.1), clp_X4.map (fun q => q.1))
abbrev mi_X4_swap : MI := (RX4, cX4_swap, 4, (some .int), ftp_X4.map (fun q => q.1), ctp_X4.map (fun q => q.1), clp_X4.map (fun q => q.1))
theorem g_X4_at (l : Launch) (X : XC) {n : Nat} {fl : Fl} (hG : flG n fl) (k i : Nat) (a1 : Int32) (hA : isA k = true) (ho : okR n (k, i) = true) (w : Mem) : Ct l X 0 yX4_at cX4_at 2 (some .int) emI [.inr (.inr (some (k, i))), .inl a1] n fl w (some (atV0 w k i a1, w)) := by
  have hl : 6 ≤ k ∧ k < 37 ∧ ¬ k = 20 := ⟨(isA_spec hA).1, (isA_spec hA).2.1, isA_20 hA⟩
  have e1 : some (atV0 w k i a1, w) = if a1 < 0 then some ((0 : Int32), w) else if a1 < Int32.ofNat (lenK k) then (if inB a1 (lenK k) then some (w k i (tn a1), w) else none) else some (0, w) := by
    unfold atV0
    by_cases h1 : a1 < 0
    · rw [if_pos h1, if_pos h1]
    · rw [if_neg h1, if_neg h1]
      by_cases h2 : a1 < Int32.ofNat (lenK k)
      · rw [if_pos h2, if_pos h2, if_pos (inB_of hA h1 h2)]
      · rw [if_neg h2, if_neg h2]
  rw [e1]
  refine Ct_of (mi := mi_X4_at) (mik_X4 _ _ _) me_X4_at rfl (okAs_cons ho (okAs_cons rfl okAs_nil)) (Nat.le_of_ble_eq_true rfl) ?_
  refine GE_run hG (pc1 := 1) (L1 := [some (.inr (.inr (some (k, i)))), some (.inl a1)]) (S1 := [.inr (.inr (some (k, i)))]) (w1 := w) (P := True) [(.aload_n 0, 0, 0, 0, 0)] (by decide +kernel) rfl trivial ?_
  refine GE_null1 (off := 13) (by decide +kernel) ?_
  refine GE_run hG (pc1 := 5) (L1 := [some (.inr (.inr (some (k, i)))), some (.inl a1)]) (S1 := [.inl a1]) (w1 := w) (P := True) [(.iload_n 1, 0, 0, 0, 0)] (by decide +kernel) rfl trivial ?_
  refine GE_if (k := .lt) (off := 9) (tgt := 14) (by decide +kernel) (by decide) (cnd_lt _ _) (fun c => ?_) (fun c => ?_)
  · refine GE_run hG (pc1 := 15) (L1 := [some (.inr (.inr (some (k, i)))), some (.inl a1)]) (S1 := [.inl 0]) (w1 := w) (P := True) [(.iconst 0, 0, 0, 0, 0)] (by decide +kernel) rfl trivial ?_
    exact GE_iret rfl (by decide +kernel)
  · refine GE_run hG (pc1 := 11) (L1 := [some (.inr (.inr (some (k, i)))), some (.inl a1)]) (S1 := [.inl (Int32.ofNat (lenK k)), .inl a1]) (w1 := w) (P := True) [(.iload_n 1, 0, 0, 0, 0), (.aload_n 0, 0, 0, 0, 0), (.arraylength, 0, 0, 0, 0)] (by decide +kernel) (by simp [exs, ex1, xLdI, xLdA, xAlen, hl, addC]) trivial ?_
    refine GE_icmp (k := .lt) (off := 5) (tgt := 16) (by decide +kernel) (by decide) (cnd_lt _ _) (fun c => ?_) (fun c => ?_)
    · refine GE_chk (fun h => ?_)
      refine GE_run hG (pc1 := 19) (L1 := [some (.inr (.inr (some (k, i)))), some (.inl a1)]) (S1 := [.inl (w k i (tn a1))]) (w1 := w) (P := inB a1 (lenK k) ∧ True) [(.aload_n 0, 0, 0, 0, 0), (.iload_n 1, 0, 0, 0, 0), (.iaload, 0, 0, 0, 0)] (by decide +kernel) (by simp [exs, ex1, xLdI, xLdA, xIald, hA, addC]) ⟨h, trivial⟩ ?_
      exact GE_iret rfl (by decide +kernel)
    · refine GE_run hG (pc1 := 15) (L1 := [some (.inr (.inr (some (k, i)))), some (.inl a1)]) (S1 := [.inl 0]) (w1 := w) (P := True) [(.iconst 0, 0, 0, 0, 0)] (by decide +kernel) rfl trivial ?_
      exact GE_iret rfl (by decide +kernel)
theorem g_X4_set (l : Launch) (X : XC) {n : Nat} {fl : Fl} (hG : flG n fl) (k i : Nat) (a1 a2 : Int32) (hA : isA k = true) (ho : okR n (k, i) = true) (w : Mem) : Ct l X 0 yX4_set cX4_set 3 none emV [.inr (.inr (some (k, i))), .inl a1, .inl a2] n fl w (some (setV0 w k i a1 a2)) := by
  have hl : 6 ≤ k ∧ k < 37 ∧ ¬ k = 20 := ⟨(isA_spec hA).1, (isA_spec hA).2.1, isA_20 hA⟩
  have e1 : some (setV0 w k i a1 a2) = if a1 < 0 then some w else if a1 < Int32.ofNat (lenK k) then (if inB a1 (lenK k) then some (up w k i (tn a1) a2) else none) else some w := by
    unfold setV0
    by_cases h1 : a1 < 0
    · rw [if_pos h1, if_pos h1]
    · rw [if_neg h1, if_neg h1]
      by_cases h2 : a1 < Int32.ofNat (lenK k)
      · rw [if_pos h2, if_pos h2, if_pos (inB_of hA h1 h2)]
      · rw [if_neg h2, if_neg h2]
  rw [e1]
  refine Ct_of (mi := mi_X4_set) (mik_X4 _ _ _) me_X4_set rfl (okAs_cons ho (okAs_cons rfl (okAs_cons rfl okAs_nil))) (Nat.le_of_ble_eq_true rfl) ?_
  refine GE_run hG (pc1 := 1) (L1 := [some (.inr (.inr (some (k, i)))), some (.inl a1), some (.inl a2)]) (S1 := [.inr (.inr (some (k, i)))]) (w1 := w) (P := True) [(.aload_n 0, 0, 0, 0, 0)] (by decide +kernel) rfl trivial ?_
  refine GE_null1 (off := 17) (by decide +kernel) ?_
  refine GE_run hG (pc1 := 5) (L1 := [some (.inr (.inr (some (k, i)))), some (.inl a1), some (.inl a2)]) (S1 := [.inl a1]) (w1 := w) (P := True) [(.iload_n 1, 0, 0, 0, 0)] (by decide +kernel) rfl trivial ?_
  refine GE_if (k := .lt) (off := 13) (tgt := 18) (by decide +kernel) (by decide) (cnd_lt _ _) (fun c => ?_) (fun c => ?_)
  · exact GE_vret rfl (by decide +kernel)
  · refine GE_run hG (pc1 := 11) (L1 := [some (.inr (.inr (some (k, i)))), some (.inl a1), some (.inl a2)]) (S1 := [.inl (Int32.ofNat (lenK k)), .inl a1]) (w1 := w) (P := True) [(.iload_n 1, 0, 0, 0, 0), (.aload_n 0, 0, 0, 0, 0), (.arraylength, 0, 0, 0, 0)] (by decide +kernel) (by simp [exs, ex1, xLdI, xLdA, xAlen, hl, addC]) trivial ?_
    refine GE_icmpN (k := .ge) (off := 7) (tgt := 18) (by decide +kernel) (by decide) (cnd_ge _ _) (fun c => ?_) (fun c => ?_)
    · exact GE_vret rfl (by decide +kernel)
    · refine GE_chk (fun h => ?_)
      refine GE_run hG (pc1 := 18) (L1 := [some (.inr (.inr (some (k, i)))), some (.inl a1), some (.inl a2)]) (S1 := []) (w1 := up w k i (tn a1) a2) (P := inB a1 (lenK k) ∧ True) [(.aload_n 0, 0, 0, 0, 0), (.iload_n 1, 0, 0, 0, 0), (.iload_n 2, 0, 0, 0, 0), (.iastore, 0, 0, 0, 0)] (by decide +kernel) (by simp [exs, ex1, xLdI, xLdA, xIast, hA, addC]) ⟨h, trivial⟩ ?_
      exact GE_vret rfl (by decide +kernel)
/-! sealed: nobody looks into them but by these equations -/
theorem atV_ex : ∃ f : Mem → Nat → Nat → Int32 → Int32, f = atV0 := ⟨_, rfl⟩
noncomputable def atV : Mem → Nat → Nat → Int32 → Int32 := atV_ex.choose
theorem atV_eq : atV = atV0 := atV_ex.choose_spec
theorem setV_ex : ∃ f : Mem → Nat → Nat → Int32 → Int32 → Mem, f = setV0 := ⟨_, rfl⟩
noncomputable def setV : Mem → Nat → Nat → Int32 → Int32 → Mem := setV_ex.choose
theorem setV_eq : setV = setV0 := setV_ex.choose_spec
theorem p_X4_at (l : Launch) (X : XC) {N9 : Nat} (hN : 39 ≤ N9) (k i : Nat) (a1 : Int32) (hA : isA k = true) (ho : okR N9 (k, i) = true) (w : Mem) : Ct l X 0 yX4_at cX4_at 2 (some .int) emI [.inr (.inr (some (k, i))), .inl a1] N9 flT w (some (atV w k i a1, w)) := by
  rw [atV_eq]; exact g_X4_at l X (flG_T hN) k i a1 hA ho w
theorem p_X4_set (l : Launch) (X : XC) {N9 : Nat} (hN : 39 ≤ N9) (k i : Nat) (a1 a2 : Int32) (hA : isA k = true) (ho : okR N9 (k, i) = true) (w : Mem) : Ct l X 0 yX4_set cX4_set 3 none emV [.inr (.inr (some (k, i))), .inl a1, .inl a2] N9 flT w (some (setV w k i a1 a2)) := by
  rw [setV_eq]; exact g_X4_set l X (flG_T hN) k i a1 a2 hA ho w
end
section
/-! closed forms -/
def rng (x a b : Int32) : Int32 := b2i (a ≤ x ∧ x ≤ b)
def bit (x t : Int32) : Int32 := shrI x t &&& 1
def holdsF (x t : Int32) : Int32 := b2i (0 ≤ t ∧ t ≤ 15 ∧ bit x t = 1)
def wiF (x a b : Int32) : Int32 := if x < a then a else if b < x then b else x
theorem p_X4_swap (l : Launch) (X : XC) {N9 : Nat} (hN : 39 ≤ N9) (k i : Nat) (a1 a2 : Int32) (hA : isA k = true) (ho : okR N9 (k, i) = true) (w : Mem) : Ct l X 1 yX4_swap cX4_swap 4 (some .int) emI [.inr (.inr (some (k, i))), .inl a1, .inl a2] N9 flT w (some (atV w k i a1, setV w k i a1 a2)) := by
  refine Ct_of (mi := mi_X4_swap) (mik_X4 _ _ _) me_X4_swap rfl (okAs_cons ho (okAs_cons rfl (okAs_cons rfl okAs_nil))) (Nat.le_of_ble_eq_true rfl) ?_
  refine GE_run (flG_T hN) (pc1 := 2) (L1 := [some (.inr (.inr (some (k, i)))), some (.inl a1), some (.inl a2), none]) (S1 := [.inl a1, .inr (.inr (some (k, i)))]) (w1 := w) (P := True) [(.aload_n 0, 0, 0, 0, 0), (.iload_n 1, 0, 0, 0, 0)] (by decide +kernel) rfl trivial ?_
  refine GE_callSp (As := [.inr (.inr (some (k, i))), .inl a1]) (S := []) (p_X4_at l X hN k i a1 hA ho w) ⟨me_X4_at, ms_X4_at, lk_X4_120⟩ (by decide +kernel) rfl (by decide) (by decide) (by decide) ?_
  refine GE_run (flG_T hN) (pc1 := 9) (L1 := [some (.inr (.inr (some (k, i)))), some (.inl a1), some (.inl a2), some (.inl (atV w k i a1))]) (S1 := [.inl a2, .inl a1, .inr (.inr (some (k, i)))]) (w1 := w) (P := True) [(.istore_n 3, 0, 0, 0, 0), (.aload_n 0, 0, 0, 0, 0), (.iload_n 1, 0, 0, 0, 0), (.iload_n 2, 0, 0, 0, 0)] (by decide +kernel) rfl trivial ?_
  refine GE_callSp (As := [.inr (.inr (some (k, i))), .inl a1, .inl a2]) (S := []) (p_X4_set l X hN k i a1 a2 hA ho w) ⟨me_X4_set, ms_X4_set, lk_X4_204⟩ (by decide +kernel) rfl (by decide) (by decide) (by decide) ?_
  refine GE_run (flG_T hN) (pc1 := 13) (L1 := [some (.inr (.inr (some (k, i)))), some (.inl a1), some (.inl a2), some (.inl (atV w k i a1))]) (S1 := [.inl (atV w k i a1)]) (w1 := setV w k i a1 a2) (P := True) [(.iload_n 3, 0, 0, 0, 0)] (by decide +kernel) rfl trivial ?_
  exact GE_iret rfl (by decide +kernel)
theorem rng_1 {x a b : Int32} {w : Mem} : (if x < a then some ((0 : Int32), w) else (if x ≤ b then some (1, w) else some (0, w))) = some (rng x a b, w) := by
  unfold rng
  by_cases h1 : x < a
  · rw [if_pos h1, b2i_f (fun z => Int32.not_le.mpr h1 z.1)]
  · rw [if_neg h1]
    by_cases h2 : x ≤ b
    · rw [if_pos h2, b2i_t ⟨Int32.not_lt.mp h1, h2⟩]
    · rw [if_neg h2, b2i_f (fun z => h2 z.2)]
theorem lt16 (x : Int32) : x < 16 ↔ x ≤ 15 := by
  rw [Int32.lt_iff_toInt_lt, Int32.le_iff_toInt_le]
  have h1 : (16 : Int32).toInt = 16 := rfl
  have h2 : (15 : Int32).toInt = 15 := rfl
  omega
theorem p_X4_isThing (l : Launch) (X : XC) {N9 : Nat} (hN : 39 ≤ N9) (a1 : Int32) (w : Mem) : Ct l X 0 yX4_isThing cX4_isThing 1 (some .boolean) emI [.inl a1] N9 flT w (some (rng a1 0 15, w)) :=
  (t_X4_isThing l X hN a1 w).eq (by unfold f_X4_isThing; simp only [lt16]; exact rng_1.symm)
theorem p_X4_isSet (l : Launch) (X : XC) {N9 : Nat} (hN : 39 ≤ N9) (a1 : Int32) (w : Mem) : Ct l X 0 yX4_isSet cX4_isSet 1 (some .boolean) emI [.inl a1] N9 flT w (some (rng a1 0 65535, w)) :=
  (t_X4_isSet l X hN a1 w).eq (by unfold f_X4_isSet; exact rng_1.symm)
theorem p_X4_isByte (l : Launch) (X : XC) {N9 : Nat} (hN : 39 ≤ N9) (a1 : Int32) (w : Mem) : Ct l X 0 yX4_isByte cX4_isByte 1 (some .boolean) emI [.inl a1] N9 flT w (some (rng a1 0 255, w)) :=
  (t_X4_isByte l X hN a1 w).eq (by unfold f_X4_isByte; exact rng_1.symm)
theorem p_X4_holds (l : Launch) (X : XC) {N9 : Nat} (hN : 39 ≤ N9) (a1 a2 : Int32) (w : Mem) : Ct l X 0 yX4_holds cX4_holds 2 (some .boolean) emI [.inl a1, .inl a2] N9 flT w (some (holdsF a1 a2, w)) :=
  (t_X4_holds l X hN a1 a2 w).eq (by
    unfold f_X4_holds holdsF bit
    simp only [lt16]
    by_cases h1 : a2 < 0
    · rw [if_pos h1, b2i_f (fun z => Int32.not_le.mpr h1 z.1)]
    · rw [if_neg h1]
      by_cases h2 : a2 ≤ 15
      · rw [if_pos h2]
        by_cases h3 : shrI a1 a2 &&& 1 = 1
        · rw [if_pos h3, b2i_t ⟨Int32.not_lt.mp h1, h2, h3⟩]
        · rw [if_neg h3, b2i_f (fun z => h3 z.2.2)]
      · rw [if_neg h2, b2i_f (fun z => h2 z.2.1)])
theorem wi_1 {x a b : Int32} {w : Mem} : (if x < a then some (a, w) else (if x ≤ b then some (x, w) else some (b, w))) = some (wiF x a b, w) := by
  unfold wiF
  by_cases h1 : x < a
  · rw [if_pos h1, if_pos h1]
  · rw [if_neg h1, if_neg h1]
    by_cases h2 : x ≤ b
    · rw [if_pos h2, if_neg (Int32.not_lt.mpr h2)]
    · rw [if_neg h2, if_pos (Int32.not_le.mp h2)]
theorem p_X4_bounded (l : Launch) (X : XC) {N9 : Nat} (hN : 39 ≤ N9) (a1 a2 a3 : Int32) (w : Mem) : Ct l X 0 yX4_bounded cX4_bounded 3 (some .int) emI [.inl a1, .inl a2, .inl a3] N9 flT w (some (wiF a1 a2 a3, w)) :=
  (t_X4_bounded l X hN a1 a2 a3 w).eq (by unfold f_X4_bounded; exact wi_1.symm)
/-- how many of the first k bits -/
def bsum (x : Int32) : Nat → Int32
  | 0 => 0
  | k + 1 => bsum x k + bit x (nI k)
def bitsF (x : Int32) : Int32 := bsum x 16
theorem nI_lt16 {k : Nat} (h : k < 16) : nI k < 16 := nI_lt (a := k) (b := 16) h (by decide)
theorem nI_nlt16 : ¬ nI 16 < 16 := by decide
/-- the nth of the bits from place t on, c of them being counted -/
def nthG (x n : Int32) : Nat → Int32 → Int32 → Int32
  | 0, _, _ => -1
  | k + 1, t, c => if bit x t = 1 then (if c = n then t else nthG x n k (t + 1) (c + 1)) else nthG x n k (t + 1) c
def nthF (x n : Int32) : Int32 := nthG x n 16 0 0
end
section
/-! small methods that call smaller ones -/
abbrev mm_X4_numbered : MI := (RX4, cX4_numbered, 4, (some .int), ftp_X4.map (fun q => q.1), ctp_X4.map (fun q => q.1), clp_X4.map (fun q => q.1))
noncomputable def h_X4_numbered_4 (x0 : Int32) (k33 : Mem → Option (Int32 × Mem)) : Nat → Int32 → Int32 → Mem → Option (Int32 × Mem)
  | 0, _, _, _ => none
  | n + 1, x2, x3, w => if x3 < 16 then (if (holdsF x0 x3) = 0 then ((h_X4_numbered_4 x0 k33 n) x2 (x3 + 1) w) else (if x2 = 0 then (some (x3, w)) else ((h_X4_numbered_4 x0 k33 n) (x2 + (-1)) (x3 + 1) w))) else (k33 w)
set_option maxRecDepth 100000 in
theorem h_X4_numbered_4_ok (l : Launch) (X : XC) {N9 : Nat} (hN : 39 ≤ N9) (x0 : Int32) (k33 : Mem → Option (Int32 × Mem))  (hk33 : ∀  (w : Mem), GE l X mm_X4_numbered 1 emI N9 flT (k33 w) 33 [none, none, none, none] [] w) : ∀ (n : Nat) (x2 : Int32) (x3 : Int32) (w : Mem), GE l X mm_X4_numbered 1 emI N9 flT ((h_X4_numbered_4 x0 k33 n) x2 x3 w) 4 [some (.inl x0), none, some (.inl x2), some (.inl x3)] [] w := by
  intro n
  induction n with
  | zero => intro x2 x3 w; exact GE_none
  | succ n ih =>
    intro x2 x3 w
    unfold h_X4_numbered_4
    refine GE_run (flG_T hN) (pc1 := 7) (L1 := [some (.inl x0), none, some (.inl x2), some (.inl x3)]) (S1 := [.inl 16, .inl x3]) (w1 := w) (P := True) [(.iload_n 3, 0, 0, 0, 0), (.bipush 16, 0, 0, 16, 0)] (by decide +kernel) rfl trivial ?_
    refine GE_icmpN (k := .ge) (off := 26) (tgt := 33) (by decide +kernel) (by decide) (cnd_ge _ _) (fun c1 => ?_) (fun c1 => ?_)
    · exact GE_weak [false, false, false, false] (hk33 w)
    · refine GE_run (flG_T hN) (pc1 := 12) (L1 := [some (.inl x0), none, some (.inl x2), some (.inl x3)]) (S1 := [.inl x3, .inl x0]) (w1 := w) (P := True) [(.iload_n 0, 0, 0, 0, 0), (.iload_n 3, 0, 0, 0, 0)] (by decide +kernel) rfl trivial ?_
      refine GE_callSIp (As := [.inl x0, .inl x3]) (S := []) (p_X4_holds l X hN x0 x3 w) ⟨me_X4_holds, ms_X4_holds, lk_X4_157⟩ (by decide +kernel) rfl (by decide) (by decide) (Nat.le_of_ble_eq_true rfl) ?_
      refine GE_if (k := .eq) (off := 12) (tgt := 27) (by decide +kernel) (by decide) (cnd_eq _ _) (fun c2 => ?_) (fun c2 => ?_)
      · refine GE_run (flG_T hN) (pc1 := 4) (L1 := [some (.inl x0), none, some (.inl x2), some (.inl (x3 + 1))]) (S1 := []) (w1 := w) (P := True) [(.iinc 3 1, 0, 0, 1, 0), (.goto (-26), 0, 0, 0, 0)] (by decide +kernel) rfl trivial ?_
        exact GE_weak [true, false, true, true] (ih x2 (x3 + 1) w)
      · refine GE_run (flG_T hN) (pc1 := 19) (L1 := [some (.inl x0), none, some (.inl x2), some (.inl x3)]) (S1 := [.inl x2]) (w1 := w) (P := True) [(.iload_n 2, 0, 0, 0, 0)] (by decide +kernel) rfl trivial ?_
        refine GE_ifN (k := .ne) (off := 5) (tgt := 24) (by decide +kernel) (by decide) (cnd_ne _ _) (fun c3 => ?_) (fun c3 => ?_)
        · refine GE_run (flG_T hN) (pc1 := 4) (L1 := [some (.inl x0), none, some (.inl (x2 + (-1))), some (.inl (x3 + 1))]) (S1 := []) (w1 := w) (P := True) [(.iinc 2 (-1), 0, 0, -1, 0), (.iinc 3 1, 0, 0, 1, 0), (.goto (-26), 0, 0, 0, 0)] (by decide +kernel) rfl trivial ?_
          exact GE_weak [true, false, true, true] (ih (x2 + (-1)) (x3 + 1) w)
        · refine GE_run (flG_T hN) (pc1 := 23) (L1 := [some (.inl x0), none, some (.inl x2), some (.inl x3)]) (S1 := [.inl x3]) (w1 := w) (P := True) [(.iload_n 3, 0, 0, 0, 0)] (by decide +kernel) rfl trivial ?_
          exact GE_iret rfl (by decide +kernel)
noncomputable def f_X4_numbered (a1 : Int32) (a2 : Int32) (w : Mem) : Option (Int32 × Mem) := h_X4_numbered_4 a1 (fun w4 => some ((-1), w4)) FU a2 0 w
set_option maxRecDepth 100000 in
theorem t_X4_numbered (l : Launch) (X : XC) {N9 : Nat} (hN : 39 ≤ N9)  (a1 : Int32) (a2 : Int32) (w : Mem) : Ct l X 1 yX4_numbered cX4_numbered 4 (some .int) emI [.inl a1, .inl a2] N9 flT w (f_X4_numbered a1 a2 w) := by
  refine Ct_of (mi := mm_X4_numbered) (mik_X4 _ _ _) me_X4_numbered rfl (okAs_cons rfl (okAs_cons rfl okAs_nil)) (Nat.le_of_ble_eq_true rfl) ?_
  unfold f_X4_numbered
  refine GE_run (flG_T hN) (pc1 := 4) (L1 := [some (.inl a1), some (.inl a2), some (.inl a2), some (.inl 0)]) (S1 := []) (w1 := w) (P := True) [(.iload_n 1, 0, 0, 0, 0), (.istore_n 2, 0, 0, 0, 0), (.iconst 0, 0, 0, 0, 0), (.istore_n 3, 0, 0, 0, 0)] (by decide +kernel) rfl trivial ?_
  refine GE_weak [true, false, true, true] (h_X4_numbered_4_ok l X hN a1 _ ?_ FU a2 0 w)
  · intro w4
    refine GE_run (flG_T hN) (pc1 := 34) (L1 := [none, none, none, none]) (S1 := [.inl (-1)]) (w1 := w4) (P := True) [(.iconst (-1), 0, 0, -1, 0)] (by decide +kernel) rfl trivial ?_
    exact GE_iret rfl (by decide +kernel)
abbrev mm_X4_leastOf : MI := (RX4, cX4_leastOf, 5, (some .int), ftp_X4.map (fun q => q.1), ctp_X4.map (fun q => q.1), clp_X4.map (fun q => q.1))
noncomputable def h_X4_leastOf_7 (x0 : Int32) (k43 : Int32 → Mem → Option (Int32 × Mem)) : Nat → Int32 → Int32 → Int32 → Mem → Option (Int32 × Mem)
  | 0, _, _, _, _ => none
  | n + 1, x2, x3, x4, w => if x4 < 16 then (if x3 ≤ 0 then (k43 x2 w) else (if (holdsF x0 x4) = 0 then ((h_X4_leastOf_7 x0 k43 n) x2 x3 (x4 + 1) w) else ((h_X4_leastOf_7 x0 k43 n) (x2 ||| (shlI 1 x4)) (x3 + (-1)) (x4 + 1) w))) else (k43 x2 w)
set_option maxRecDepth 100000 in
theorem h_X4_leastOf_7_ok (l : Launch) (X : XC) {N9 : Nat} (hN : 39 ≤ N9) (x0 : Int32) (k43 : Int32 → Mem → Option (Int32 × Mem))  (hk43 : ∀ (x2 : Int32) (w : Mem), GE l X mm_X4_leastOf 1 emI N9 flT (k43 x2 w) 43 [none, none, some (.inl x2), none, none] [] w) : ∀ (n : Nat) (x2 : Int32) (x3 : Int32) (x4 : Int32) (w : Mem), GE l X mm_X4_leastOf 1 emI N9 flT ((h_X4_leastOf_7 x0 k43 n) x2 x3 x4 w) 7 [some (.inl x0), none, some (.inl x2), some (.inl x3), some (.inl x4)] [] w := by
  intro n
  induction n with
  | zero => intro x2 x3 x4 w; exact GE_none
  | succ n ih =>
    intro x2 x3 x4 w
    unfold h_X4_leastOf_7
    refine GE_run (flG_T hN) (pc1 := 11) (L1 := [some (.inl x0), none, some (.inl x2), some (.inl x3), some (.inl x4)]) (S1 := [.inl 16, .inl x4]) (w1 := w) (P := True) [(.iload 4, 0, 0, 0, 0), (.bipush 16, 0, 0, 16, 0)] (by decide +kernel) rfl trivial ?_
    refine GE_icmpN (k := .ge) (off := 32) (tgt := 43) (by decide +kernel) (by decide) (cnd_ge _ _) (fun c1 => ?_) (fun c1 => ?_)
    · exact GE_weak [false, false, true, false, false] (hk43 x2 w)
    · refine GE_run (flG_T hN) (pc1 := 15) (L1 := [some (.inl x0), none, some (.inl x2), some (.inl x3), some (.inl x4)]) (S1 := [.inl x3]) (w1 := w) (P := True) [(.iload_n 3, 0, 0, 0, 0)] (by decide +kernel) rfl trivial ?_
      refine GE_if (k := .le) (off := 28) (tgt := 43) (by decide +kernel) (by decide) (cnd_le _ _) (fun c2 => ?_) (fun c2 => ?_)
      · exact GE_weak [false, false, true, false, false] (hk43 x2 w)
      · refine GE_run (flG_T hN) (pc1 := 21) (L1 := [some (.inl x0), none, some (.inl x2), some (.inl x3), some (.inl x4)]) (S1 := [.inl x4, .inl x0]) (w1 := w) (P := True) [(.iload_n 0, 0, 0, 0, 0), (.iload 4, 0, 0, 0, 0)] (by decide +kernel) rfl trivial ?_
        refine GE_callSIp (As := [.inl x0, .inl x4]) (S := []) (p_X4_holds l X hN x0 x4 w) ⟨me_X4_holds, ms_X4_holds, lk_X4_157⟩ (by decide +kernel) rfl (by decide) (by decide) (Nat.le_of_ble_eq_true rfl) ?_
        refine GE_if (k := .eq) (off := 13) (tgt := 37) (by decide +kernel) (by decide) (cnd_eq _ _) (fun c3 => ?_) (fun c3 => ?_)
        · refine GE_run (flG_T hN) (pc1 := 7) (L1 := [some (.inl x0), none, some (.inl x2), some (.inl x3), some (.inl (x4 + 1))]) (S1 := []) (w1 := w) (P := True) [(.iinc 4 1, 0, 0, 1, 0), (.goto (-33), 0, 0, 0, 0)] (by decide +kernel) rfl trivial ?_
          exact GE_weak [true, false, true, true, true] (ih x2 x3 (x4 + 1) w)
        · refine GE_run (flG_T hN) (pc1 := 7) (L1 := [some (.inl x0), none, some (.inl (x2 ||| (shlI 1 x4))), some (.inl (x3 + (-1))), some (.inl (x4 + 1))]) (S1 := []) (w1 := w) (P := True) [(.iload_n 2, 0, 0, 0, 0), (.iconst 1, 0, 0, 1, 0), (.iload 4, 0, 0, 0, 0), (.ishl, 0, 0, 0, 0), (.ior, 0, 0, 0, 0), (.istore_n 2, 0, 0, 0, 0), (.iinc 3 (-1), 0, 0, -1, 0), (.iinc 4 1, 0, 0, 1, 0), (.goto (-33), 0, 0, 0, 0)] (by decide +kernel) rfl trivial ?_
          exact GE_weak [true, false, true, true, true] (ih (x2 ||| (shlI 1 x4)) (x3 + (-1)) (x4 + 1) w)
noncomputable def f_X4_leastOf (a1 : Int32) (a2 : Int32) (w : Mem) : Option (Int32 × Mem) := h_X4_leastOf_7 a1 (fun x2_4 w5 => some (x2_4, w5)) FU 0 a2 0 w
set_option maxRecDepth 100000 in
theorem t_X4_leastOf (l : Launch) (X : XC) {N9 : Nat} (hN : 39 ≤ N9)  (a1 : Int32) (a2 : Int32) (w : Mem) : Ct l X 1 yX4_leastOf cX4_leastOf 5 (some .int) emI [.inl a1, .inl a2] N9 flT w (f_X4_leastOf a1 a2 w) := by
  refine Ct_of (mi := mm_X4_leastOf) (mik_X4 _ _ _) me_X4_leastOf rfl (okAs_cons rfl (okAs_cons rfl okAs_nil)) (Nat.le_of_ble_eq_true rfl) ?_
  unfold f_X4_leastOf
  refine GE_run (flG_T hN) (pc1 := 7) (L1 := [some (.inl a1), some (.inl a2), some (.inl 0), some (.inl a2), some (.inl 0)]) (S1 := []) (w1 := w) (P := True) [(.iconst 0, 0, 0, 0, 0), (.istore_n 2, 0, 0, 0, 0), (.iload_n 1, 0, 0, 0, 0), (.istore_n 3, 0, 0, 0, 0), (.iconst 0, 0, 0, 0, 0), (.istore 4, 0, 0, 0, 0)] (by decide +kernel) rfl trivial ?_
  refine GE_weak [true, false, true, true, true] (h_X4_leastOf_7_ok l X hN a1 _ ?_ FU 0 a2 0 w)
  · intro x2_4 w5
    refine GE_run (flG_T hN) (pc1 := 44) (L1 := [none, none, some (.inl x2_4), none, none]) (S1 := [.inl x2_4]) (w1 := w5) (P := True) [(.iload_n 2, 0, 0, 0, 0)] (by decide +kernel) rfl trivial ?_
    exact GE_iret rfl (by decide +kernel)
abbrev mm_X4_rowAt : MI := (RX4, cX4_rowAt, 2, (some (.object "NameThrownBack$Sheet")), ftp_X4.map (fun q => q.1), ctp_X4.map (fun q => q.1), clp_X4.map (fun q => q.1))
noncomputable def f_X4_rowAt (a1 : Int32) (w : Mem) : Option (Option (Nat × Nat) × Mem) := if a1 < 0 then (some (none, w)) else (if a1 < 4 then (if inB a1 4 then (some (some (2, (tn a1)), w)) else none) else (some (none, w)))
set_option maxRecDepth 100000 in
theorem t_X4_rowAt (l : Launch) (X : XC) {N9 : Nat} (hN : 39 ≤ N9)  (a1 : Int32) (w : Mem) : Ct l X 0 yX4_rowAt cX4_rowAt 2 (some (.object "NameThrownBack$Sheet")) emA [.inr (.inr (some (4, 0))), .inl a1] N9 flT w (f_X4_rowAt a1 w) := by
  refine Ct_of (mi := mm_X4_rowAt) (mik_X4 _ _ _) me_X4_rowAt rfl (okAs_cons (okMV hN (by decide)) (okAs_cons rfl okAs_nil)) (Nat.le_of_ble_eq_true rfl) ?_
  unfold f_X4_rowAt
  refine GE_run (flG_T hN) (pc1 := 1) (L1 := [some (.inr (.inr (some (4, 0)))), some (.inl a1)]) (S1 := [.inl a1]) (w1 := w) (P := True) [(.iload_n 1, 0, 0, 0, 0)] (by decide +kernel) rfl trivial ?_
  refine GE_if (k := .lt) (off := 12) (tgt := 13) (by decide +kernel) (by decide) (cnd_lt _ _) (fun c1 => ?_) (fun c1 => ?_)
  · refine GE_run (flG_T hN) (pc1 := 14) (L1 := [some (.inr (.inr (some (4, 0)))), some (.inl a1)]) (S1 := [.inr (.inr none)]) (w1 := w) (P := True) [(.aconst_null, 0, 0, 0, 0)] (by decide +kernel) rfl trivial ?_
    exact GE_aret rfl (by decide +kernel)
  · refine GE_run (flG_T hN) (pc1 := 10) (L1 := [some (.inr (.inr (some (4, 0)))), some (.inl a1)]) (S1 := [.inl 4, .inl a1]) (w1 := w) (P := True) [(.iload_n 1, 0, 0, 0, 0), (.aload_n 0, 0, 0, 0, 0), (.getfield 40, 4, 6, 0, 0), (.arraylength, 0, 0, 0, 0)] (by decide +kernel) rfl trivial ?_
    refine GE_icmp (k := .lt) (off := 5) (tgt := 15) (by decide +kernel) (by decide) (cnd_lt _ _) (fun c2 => ?_) (fun c2 => ?_)
    · refine GE_chk (fun h3 => ?_)
      refine GE_run (flG_T hN) (pc1 := 21) (L1 := [some (.inr (.inr (some (4, 0)))), some (.inl a1)]) (S1 := [.inr (.inr (some (2, (tn a1))))]) (w1 := w) (P := (inB a1 4) ∧ True) [(.aload_n 0, 0, 0, 0, 0), (.getfield 40, 4, 6, 0, 0), (.iload_n 1, 0, 0, 0, 0), (.aaload, 0, 0, 0, 0)] (by decide +kernel) rfl ⟨h3, trivial⟩ ?_
      exact GE_aret rfl (by decide +kernel)
    · refine GE_run (flG_T hN) (pc1 := 14) (L1 := [some (.inr (.inr (some (4, 0)))), some (.inl a1)]) (S1 := [.inr (.inr none)]) (w1 := w) (P := True) [(.aconst_null, 0, 0, 0, 0)] (by decide +kernel) rfl trivial ?_
      exact GE_aret rfl (by decide +kernel)
abbrev mm_X0_has : MI := (RX0, cX0_has, 2, (some .boolean), ftp_X0.map (fun q => q.1), ctp_X0.map (fun q => q.1), clp_X0.map (fun q => q.1))
noncomputable def f_X0_has (i : Nat) (a1 : Int32) (w : Mem) : Option (Int32 × Mem) := if a1 < 0 then (some (0, w)) else (if a1 < (w 0 i 2) then (some (1, w)) else (some (0, w)))
set_option maxRecDepth 100000 in
theorem t_X0_has (l : Launch) (X : XC) {N9 : Nat} (hN : 39 ≤ N9)  (i : Nat) (a1 : Int32) (hi : i < 3) (w : Mem) : Ct l X 0 yX0_has cX0_has 2 (some .boolean) emI [.inr (.inr (some (0, i))), .inl a1] N9 flT w (f_X0_has i a1 w) := by
  refine Ct_of (mi := mm_X0_has) (mik_X0 _ _ _) me_X0_has rfl (okAs_cons (ok_coast_0 hN hi) (okAs_cons rfl okAs_nil)) (Nat.le_of_ble_eq_true rfl) ?_
  unfold f_X0_has
  refine GE_run (flG_T hN) (pc1 := 1) (L1 := [some (.inr (.inr (some (0, i)))), some (.inl a1)]) (S1 := [.inl a1]) (w1 := w) (P := True) [(.iload_n 1, 0, 0, 0, 0)] (by decide +kernel) rfl trivial ?_
  refine GE_if (k := .lt) (off := 15) (tgt := 16) (by decide +kernel) (by decide) (cnd_lt _ _) (fun c1 => ?_) (fun c1 => ?_)
  · refine GE_run (flG_T hN) (pc1 := 17) (L1 := [some (.inr (.inr (some (0, i)))), some (.inl a1)]) (S1 := [.inl 0]) (w1 := w) (P := True) [(.iconst 0, 0, 0, 0, 0)] (by decide +kernel) rfl trivial ?_
    exact GE_zret (ty := .boolean) rfl (by decide +kernel) (by decide +kernel)
  · refine GE_run (flG_T hN) (pc1 := 9) (L1 := [some (.inr (.inr (some (0, i)))), some (.inl a1)]) (S1 := [.inl (w 0 i 2), .inl a1]) (w1 := w) (P := True) [(.iload_n 1, 0, 0, 0, 0), (.aload_n 0, 0, 0, 0, 0), (.getfield 34, 0, 2, 0, 0)] (by decide +kernel) rfl trivial ?_
    refine GE_icmpN (k := .ge) (off := 7) (tgt := 16) (by decide +kernel) (by decide) (cnd_ge _ _) (fun c2 => ?_) (fun c2 => ?_)
    · refine GE_run (flG_T hN) (pc1 := 17) (L1 := [some (.inr (.inr (some (0, i)))), some (.inl a1)]) (S1 := [.inl 0]) (w1 := w) (P := True) [(.iconst 0, 0, 0, 0, 0)] (by decide +kernel) rfl trivial ?_
      exact GE_zret (ty := .boolean) rfl (by decide +kernel) (by decide +kernel)
    · refine GE_run (flG_T hN) (pc1 := 17) (L1 := [some (.inr (.inr (some (0, i)))), some (.inl a1)]) (S1 := [.inl 1]) (w1 := w) (P := True) [(.iconst 1, 0, 0, 1, 0), (.goto 4, 0, 0, 0, 0)] (by decide +kernel) rfl trivial ?_
      exact GE_zret (ty := .boolean) rfl (by decide +kernel) (by decide +kernel)
abbrev mm_J6_bitCount : MI := (RJ6, cJ6_bitCount_0f7a4, 1, (some .int), ftp_J6.map (fun q => q.1), ctp_J6.map (fun q => q.1), clp_J6.map (fun q => q.1))
noncomputable def f_J6_bitCount (a1 : Int32) (w : Mem) : Option (Int32 × Mem) := some ((((((((a1 - ((ushrI a1 1) &&& 1431655765)) &&& 858993459) + ((ushrI (a1 - ((ushrI a1 1) &&& 1431655765)) 2) &&& 858993459)) + (ushrI (((a1 - ((ushrI a1 1) &&& 1431655765)) &&& 858993459) + ((ushrI (a1 - ((ushrI a1 1) &&& 1431655765)) 2) &&& 858993459)) 4)) &&& 252645135) + (ushrI (((((a1 - ((ushrI a1 1) &&& 1431655765)) &&& 858993459) + ((ushrI (a1 - ((ushrI a1 1) &&& 1431655765)) 2) &&& 858993459)) + (ushrI (((a1 - ((ushrI a1 1) &&& 1431655765)) &&& 858993459) + ((ushrI (a1 - ((ushrI a1 1) &&& 1431655765)) 2) &&& 858993459)) 4)) &&& 252645135) 8)) + (ushrI ((((((a1 - ((ushrI a1 1) &&& 1431655765)) &&& 858993459) + ((ushrI (a1 - ((ushrI a1 1) &&& 1431655765)) 2) &&& 858993459)) + (ushrI (((a1 - ((ushrI a1 1) &&& 1431655765)) &&& 858993459) + ((ushrI (a1 - ((ushrI a1 1) &&& 1431655765)) 2) &&& 858993459)) 4)) &&& 252645135) + (ushrI (((((a1 - ((ushrI a1 1) &&& 1431655765)) &&& 858993459) + ((ushrI (a1 - ((ushrI a1 1) &&& 1431655765)) 2) &&& 858993459)) + (ushrI (((a1 - ((ushrI a1 1) &&& 1431655765)) &&& 858993459) + ((ushrI (a1 - ((ushrI a1 1) &&& 1431655765)) 2) &&& 858993459)) 4)) &&& 252645135) 8)) 16)) &&& 63, w)
set_option maxRecDepth 100000 in
theorem t_J6_bitCount (l : Launch) (X : XC) {N9 : Nat} (hN : 39 ≤ N9)  (a1 : Int32) (w : Mem) : Ct l X 0 yJ6_bitCount_0f7a4 cJ6_bitCount_0f7a4 1 (some .int) emI [.inl a1] N9 flT w (f_J6_bitCount a1 w) := by
  refine Ct_of (mi := mm_J6_bitCount) (mik_J6 _ _ _) me_J6_bitCount_0f7a4 rfl (okAs_cons rfl okAs_nil) (Nat.le_of_ble_eq_true rfl) ?_
  unfold f_J6_bitCount
  refine GE_run (flG_T hN) (pc1 := 52) (L1 := [some (.inl (((((((a1 - ((ushrI a1 1) &&& 1431655765)) &&& 858993459) + ((ushrI (a1 - ((ushrI a1 1) &&& 1431655765)) 2) &&& 858993459)) + (ushrI (((a1 - ((ushrI a1 1) &&& 1431655765)) &&& 858993459) + ((ushrI (a1 - ((ushrI a1 1) &&& 1431655765)) 2) &&& 858993459)) 4)) &&& 252645135) + (ushrI (((((a1 - ((ushrI a1 1) &&& 1431655765)) &&& 858993459) + ((ushrI (a1 - ((ushrI a1 1) &&& 1431655765)) 2) &&& 858993459)) + (ushrI (((a1 - ((ushrI a1 1) &&& 1431655765)) &&& 858993459) + ((ushrI (a1 - ((ushrI a1 1) &&& 1431655765)) 2) &&& 858993459)) 4)) &&& 252645135) 8)) + (ushrI ((((((a1 - ((ushrI a1 1) &&& 1431655765)) &&& 858993459) + ((ushrI (a1 - ((ushrI a1 1) &&& 1431655765)) 2) &&& 858993459)) + (ushrI (((a1 - ((ushrI a1 1) &&& 1431655765)) &&& 858993459) + ((ushrI (a1 - ((ushrI a1 1) &&& 1431655765)) 2) &&& 858993459)) 4)) &&& 252645135) + (ushrI (((((a1 - ((ushrI a1 1) &&& 1431655765)) &&& 858993459) + ((ushrI (a1 - ((ushrI a1 1) &&& 1431655765)) 2) &&& 858993459)) + (ushrI (((a1 - ((ushrI a1 1) &&& 1431655765)) &&& 858993459) + ((ushrI (a1 - ((ushrI a1 1) &&& 1431655765)) 2) &&& 858993459)) 4)) &&& 252645135) 8)) 16)))]) (S1 := [.inl ((((((((a1 - ((ushrI a1 1) &&& 1431655765)) &&& 858993459) + ((ushrI (a1 - ((ushrI a1 1) &&& 1431655765)) 2) &&& 858993459)) + (ushrI (((a1 - ((ushrI a1 1) &&& 1431655765)) &&& 858993459) + ((ushrI (a1 - ((ushrI a1 1) &&& 1431655765)) 2) &&& 858993459)) 4)) &&& 252645135) + (ushrI (((((a1 - ((ushrI a1 1) &&& 1431655765)) &&& 858993459) + ((ushrI (a1 - ((ushrI a1 1) &&& 1431655765)) 2) &&& 858993459)) + (ushrI (((a1 - ((ushrI a1 1) &&& 1431655765)) &&& 858993459) + ((ushrI (a1 - ((ushrI a1 1) &&& 1431655765)) 2) &&& 858993459)) 4)) &&& 252645135) 8)) + (ushrI ((((((a1 - ((ushrI a1 1) &&& 1431655765)) &&& 858993459) + ((ushrI (a1 - ((ushrI a1 1) &&& 1431655765)) 2) &&& 858993459)) + (ushrI (((a1 - ((ushrI a1 1) &&& 1431655765)) &&& 858993459) + ((ushrI (a1 - ((ushrI a1 1) &&& 1431655765)) 2) &&& 858993459)) 4)) &&& 252645135) + (ushrI (((((a1 - ((ushrI a1 1) &&& 1431655765)) &&& 858993459) + ((ushrI (a1 - ((ushrI a1 1) &&& 1431655765)) 2) &&& 858993459)) + (ushrI (((a1 - ((ushrI a1 1) &&& 1431655765)) &&& 858993459) + ((ushrI (a1 - ((ushrI a1 1) &&& 1431655765)) 2) &&& 858993459)) 4)) &&& 252645135) 8)) 16)) &&& 63)]) (w1 := w) (P := True) [(.iload_n 0, 0, 0, 0, 0), (.iload_n 0, 0, 0, 0, 0), (.iconst 1, 0, 0, 1, 0), (.iushr, 0, 0, 0, 0), (.ldc_w 265, 0, 0, 1431655765, 0), (.iand, 0, 0, 0, 0), (.isub, 0, 0, 0, 0), (.istore_n 0, 0, 0, 0, 0), (.iload_n 0, 0, 0, 0, 0), (.ldc_w 266, 0, 0, 858993459, 0), (.iand, 0, 0, 0, 0), (.iload_n 0, 0, 0, 0, 0), (.iconst 2, 0, 0, 2, 0), (.iushr, 0, 0, 0, 0), (.ldc_w 266, 0, 0, 858993459, 0), (.iand, 0, 0, 0, 0), (.iadd, 0, 0, 0, 0), (.istore_n 0, 0, 0, 0, 0), (.iload_n 0, 0, 0, 0, 0), (.iload_n 0, 0, 0, 0, 0), (.iconst 4, 0, 0, 4, 0), (.iushr, 0, 0, 0, 0), (.iadd, 0, 0, 0, 0), (.ldc_w 267, 0, 0, 252645135, 0), (.iand, 0, 0, 0, 0), (.istore_n 0, 0, 0, 0, 0), (.iload_n 0, 0, 0, 0, 0), (.iload_n 0, 0, 0, 0, 0), (.bipush 8, 0, 0, 8, 0), (.iushr, 0, 0, 0, 0), (.iadd, 0, 0, 0, 0), (.istore_n 0, 0, 0, 0, 0), (.iload_n 0, 0, 0, 0, 0), (.iload_n 0, 0, 0, 0, 0), (.bipush 16, 0, 0, 16, 0), (.iushr, 0, 0, 0, 0), (.iadd, 0, 0, 0, 0), (.istore_n 0, 0, 0, 0, 0), (.iload_n 0, 0, 0, 0, 0), (.bipush 63, 0, 0, 63, 0), (.iand, 0, 0, 0, 0)] (by decide +kernel) rfl trivial ?_
  exact GE_iret rfl (by decide +kernel)
abbrev mm_J9_floorMod : MI := (RJ9, cJ9_floorMod_7cf53, 3, (some .int), [], [], [])
noncomputable def f_J9_floorMod (a1 : Int32) (a2 : Int32) (w : Mem) : Option (Int32 × Mem) := if ¬ (a2 : Int32) = 0 then (if (a1 ^^^ a2) < 0 then (if (rmI a1 a2) = 0 then (some (rmI a1 a2, w)) else (some ((rmI a1 a2) + a2, w))) else (some (rmI a1 a2, w))) else none
set_option maxRecDepth 100000 in
theorem t_J9_floorMod (l : Launch) (X : XC) {N9 : Nat} (hN : 39 ≤ N9)  (a1 : Int32) (a2 : Int32) (w : Mem) : Ct l X 0 yJ9_floorMod_7cf53 cJ9_floorMod_7cf53 3 (some .int) emI [.inl a1, .inl a2] N9 flT w (f_J9_floorMod a1 a2 w) := by
  refine Ct_of (mi := mm_J9_floorMod) (mik_J9 _ _ _) me_J9_floorMod_7cf53 rfl (okAs_cons rfl (okAs_cons rfl okAs_nil)) (Nat.le_of_ble_eq_true rfl) ?_
  unfold f_J9_floorMod
  refine GE_chk (fun h1 => ?_)
  refine GE_run (flG_T hN) (pc1 := 7) (L1 := [some (.inl a1), some (.inl a2), some (.inl (rmI a1 a2))]) (S1 := [.inl (a1 ^^^ a2)]) (w1 := w) (P := (¬ (a2 : Int32) = 0) ∧ True) [(.iload_n 0, 0, 0, 0, 0), (.iload_n 1, 0, 0, 0, 0), (.irem, 0, 0, 0, 0), (.istore_n 2, 0, 0, 0, 0), (.iload_n 0, 0, 0, 0, 0), (.iload_n 1, 0, 0, 0, 0), (.ixor, 0, 0, 0, 0)] (by decide +kernel) rfl ⟨h1, trivial⟩ ?_
  refine GE_ifN (k := .ge) (off := 11) (tgt := 18) (by decide +kernel) (by decide) (cnd_ge _ _) (fun c2 => ?_) (fun c2 => ?_)
  · refine GE_run (flG_T hN) (pc1 := 19) (L1 := [some (.inl a1), some (.inl a2), some (.inl (rmI a1 a2))]) (S1 := [.inl (rmI a1 a2)]) (w1 := w) (P := True) [(.iload_n 2, 0, 0, 0, 0)] (by decide +kernel) rfl trivial ?_
    exact GE_iret rfl (by decide +kernel)
  · refine GE_run (flG_T hN) (pc1 := 11) (L1 := [some (.inl a1), some (.inl a2), some (.inl (rmI a1 a2))]) (S1 := [.inl (rmI a1 a2)]) (w1 := w) (P := True) [(.iload_n 2, 0, 0, 0, 0)] (by decide +kernel) rfl trivial ?_
    refine GE_if (k := .eq) (off := 7) (tgt := 18) (by decide +kernel) (by decide) (cnd_eq _ _) (fun c3 => ?_) (fun c3 => ?_)
    · refine GE_run (flG_T hN) (pc1 := 19) (L1 := [some (.inl a1), some (.inl a2), some (.inl (rmI a1 a2))]) (S1 := [.inl (rmI a1 a2)]) (w1 := w) (P := True) [(.iload_n 2, 0, 0, 0, 0)] (by decide +kernel) rfl trivial ?_
      exact GE_iret rfl (by decide +kernel)
    · refine GE_run (flG_T hN) (pc1 := 17) (L1 := [some (.inl a1), some (.inl a2), some (.inl (rmI a1 a2))]) (S1 := [.inl ((rmI a1 a2) + a2)]) (w1 := w) (P := True) [(.iload_n 2, 0, 0, 0, 0), (.iload_n 1, 0, 0, 0, 0), (.iadd, 0, 0, 0, 0)] (by decide +kernel) rfl trivial ?_
      exact GE_iret rfl (by decide +kernel)
abbrev mm_J9_max : MI := (RJ9, cJ9_max_7cf53, 2, (some .int), [], [], [])
noncomputable def f_J9_max (a1 : Int32) (a2 : Int32) (w : Mem) : Option (Int32 × Mem) := if a1 < a2 then (some (a2, w)) else (some (a1, w))
set_option maxRecDepth 100000 in
theorem t_J9_max (l : Launch) (X : XC) {N9 : Nat} (hN : 39 ≤ N9)  (a1 : Int32) (a2 : Int32) (w : Mem) : Ct l X 0 yJ9_max_7cf53 cJ9_max_7cf53 2 (some .int) emI [.inl a1, .inl a2] N9 flT w (f_J9_max a1 a2 w) := by
  refine Ct_of (mi := mm_J9_max) (mik_J9 _ _ _) me_J9_max_7cf53 rfl (okAs_cons rfl (okAs_cons rfl okAs_nil)) (Nat.le_of_ble_eq_true rfl) ?_
  unfold f_J9_max
  refine GE_run (flG_T hN) (pc1 := 2) (L1 := [some (.inl a1), some (.inl a2)]) (S1 := [.inl a2, .inl a1]) (w1 := w) (P := True) [(.iload_n 0, 0, 0, 0, 0), (.iload_n 1, 0, 0, 0, 0)] (by decide +kernel) rfl trivial ?_
  refine GE_icmp (k := .lt) (off := 7) (tgt := 9) (by decide +kernel) (by decide) (cnd_lt _ _) (fun c1 => ?_) (fun c1 => ?_)
  · refine GE_run (flG_T hN) (pc1 := 10) (L1 := [some (.inl a1), some (.inl a2)]) (S1 := [.inl a2]) (w1 := w) (P := True) [(.iload_n 1, 0, 0, 0, 0)] (by decide +kernel) rfl trivial ?_
    exact GE_iret rfl (by decide +kernel)
  · refine GE_run (flG_T hN) (pc1 := 10) (L1 := [some (.inl a1), some (.inl a2)]) (S1 := [.inl a1]) (w1 := w) (P := True) [(.iload_n 0, 0, 0, 0, 0), (.goto 4, 0, 0, 0, 0)] (by decide +kernel) rfl trivial ?_
    exact GE_iret rfl (by decide +kernel)
end
section
/-! closed forms of the smaller callers -/
def bcF (a1 : Int32) : Int32 := (((((((a1 - ((ushrI a1 1) &&& 1431655765)) &&& 858993459) + ((ushrI (a1 - ((ushrI a1 1) &&& 1431655765)) 2) &&& 858993459)) + (ushrI (((a1 - ((ushrI a1 1) &&& 1431655765)) &&& 858993459) + ((ushrI (a1 - ((ushrI a1 1) &&& 1431655765)) 2) &&& 858993459)) 4)) &&& 252645135) + (ushrI (((((a1 - ((ushrI a1 1) &&& 1431655765)) &&& 858993459) + ((ushrI (a1 - ((ushrI a1 1) &&& 1431655765)) 2) &&& 858993459)) + (ushrI (((a1 - ((ushrI a1 1) &&& 1431655765)) &&& 858993459) + ((ushrI (a1 - ((ushrI a1 1) &&& 1431655765)) 2) &&& 858993459)) 4)) &&& 252645135) 8)) + (ushrI ((((((a1 - ((ushrI a1 1) &&& 1431655765)) &&& 858993459) + ((ushrI (a1 - ((ushrI a1 1) &&& 1431655765)) 2) &&& 858993459)) + (ushrI (((a1 - ((ushrI a1 1) &&& 1431655765)) &&& 858993459) + ((ushrI (a1 - ((ushrI a1 1) &&& 1431655765)) 2) &&& 858993459)) 4)) &&& 252645135) + (ushrI (((((a1 - ((ushrI a1 1) &&& 1431655765)) &&& 858993459) + ((ushrI (a1 - ((ushrI a1 1) &&& 1431655765)) 2) &&& 858993459)) + (ushrI (((a1 - ((ushrI a1 1) &&& 1431655765)) &&& 858993459) + ((ushrI (a1 - ((ushrI a1 1) &&& 1431655765)) 2) &&& 858993459)) 4)) &&& 252645135) 8)) 16)) &&& 63
def mxF (x y : Int32) : Int32 := if x < y then y else x
theorem p_J6_bitCount (l : Launch) (X : XC) {N9 : Nat} (hN : 39 ≤ N9) (a1 : Int32) (w : Mem) : Ct l X 0 yJ6_bitCount_0f7a4 cJ6_bitCount_0f7a4 1 (some .int) emI [.inl a1] N9 flT w (some (bcF a1, w)) :=
  (t_J6_bitCount l X hN a1 w).eq rfl
theorem p_J9_max (l : Launch) (X : XC) {N9 : Nat} (hN : 39 ≤ N9) (a1 a2 : Int32) (w : Mem) : Ct l X 0 yJ9_max_7cf53 cJ9_max_7cf53 2 (some .int) emI [.inl a1, .inl a2] N9 flT w (some (mxF a1 a2, w)) :=
  (t_J9_max l X hN a1 a2 w).eq (by unfold f_J9_max mxF; split <;> rfl)
theorem holdsF_k {x : Int32} {k : Nat} (h : k < 16) : holdsF x (nI k) = 0 ↔ ¬ bit x (nI k) = 1 := by
  unfold holdsF
  rw [b2i_0]
  constructor
  · intro h1 h2
    exact h1 ⟨nI_pos' (by omega), nI_le (b := 15) (by omega) (by decide), h2⟩
  · intro h1 h2
    exact h1 h2.2.2
theorem numbered_loop (x0 n0 : Int32) (w : Mem) : ∀ (j k n : Nat) (left c : Int32), k + j = 16 → j < n → left = n0 - c → h_X4_numbered_4 x0 (fun w => some ((-1), w)) n left (nI k) w = some (nthG x0 n0 j (nI k) c, w) := by
  intro j
  induction j with
  | zero =>
    intro k n left c hk hn _
    obtain ⟨n, rfl⟩ : ∃ m, n = m + 1 := ⟨n - 1, by omega⟩
    have : k = 16 := by omega
    subst this
    unfold h_X4_numbered_4
    rw [if_neg nI_nlt16]
    rfl
  | succ j ih =>
    intro k n left c hk hn hl
    obtain ⟨n, rfl⟩ : ∃ m, n = m + 1 := ⟨n - 1, by omega⟩
    unfold h_X4_numbered_4 nthG
    rw [if_pos (nI_lt16 (by omega)), nI_1]
    by_cases hb : bit x0 (nI k) = 1
    · rw [if_neg (fun z => (holdsF_k (by omega)).mp z hb), if_pos hb]
      by_cases hc : left = 0
      · rw [if_pos hc, if_pos (by rw [hc] at hl; have h9 := Int32.sub_eq_iff_eq_add.mp hl.symm; rw [Int32.zero_add] at h9; exact h9.symm)]
      · rw [if_neg hc, if_neg (fun z => hc (by rw [hl, z]; exact Int32.sub_self _))]
        have e1 : left + (-1) = n0 - (c + 1) := by rw [hl, Int32.sub_eq_add_neg n0 (c + 1), Int32.neg_add, Int32.sub_eq_add_neg (-c) 1, ← Int32.add_assoc, ← Int32.sub_eq_add_neg n0 c]
        rw [e1]
        exact ih (k + 1) n _ _ (by omega) (by omega) rfl
    · rw [if_pos ((holdsF_k (by omega)).mpr hb), if_neg hb]
      exact ih (k + 1) n _ _ (by omega) (by omega) hl
theorem p_X4_numbered (l : Launch) (X : XC) {N9 : Nat} (hN : 39 ≤ N9) (a1 a2 : Int32) (w : Mem) : Ct l X 1 yX4_numbered cX4_numbered 4 (some .int) emI [.inl a1, .inl a2] N9 flT w (some (nthF a1 a2, w)) :=
  (t_X4_numbered l X hN a1 a2 w).eq (by unfold f_X4_numbered; exact (numbered_loop a1 a2 w 16 0 FU a2 0 rfl (by decide) (Int32.sub_zero _).symm).symm)
/-- the least so many of a set -/
def lsG (x : Int32) : Nat → Int32 → Int32 → Int32 → Int32
  | 0, _, _, f => f
  | k + 1, t, left, f => if 0 < left then (if bit x t = 1 then lsG x k (t + 1) (left + (-1)) (f ||| shlI 1 t) else lsG x k (t + 1) left f) else f
def leastF (x m : Int32) : Int32 := lsG x 16 0 m 0
theorem leastOf_loop (x0 : Int32) (w : Mem) : ∀ (j k n : Nat) (left f : Int32), k + j = 16 → j < n → h_X4_leastOf_7 x0 (fun x2 w => some (x2, w)) n f left (nI k) w = some (lsG x0 j (nI k) left f, w) := by
  intro j
  induction j with
  | zero =>
    intro k n left f hk hn
    obtain ⟨n, rfl⟩ : ∃ m, n = m + 1 := ⟨n - 1, by omega⟩
    have : k = 16 := by omega
    subst this
    unfold h_X4_leastOf_7
    rw [if_neg nI_nlt16]
    rfl
  | succ j ih =>
    intro k n left f hk hn
    obtain ⟨n, rfl⟩ : ∃ m, n = m + 1 := ⟨n - 1, by omega⟩
    unfold h_X4_leastOf_7 lsG
    rw [if_pos (nI_lt16 (by omega)), nI_1]
    by_cases hl : 0 < left
    · have h2 : ¬ left ≤ 0 := Int32.not_le.mpr hl
      simp only [if_neg h2, if_pos hl]
      by_cases hb : bit x0 (nI k) = 1
      · rw [if_neg (fun z => (holdsF_k (by omega)).mp z hb), if_pos hb]
        exact ih (k + 1) n _ _ (by omega) (by omega)
      · rw [if_pos ((holdsF_k (by omega)).mpr hb), if_neg hb]
        exact ih (k + 1) n _ _ (by omega) (by omega)
    · have h2 : left ≤ 0 := Int32.not_lt.mp hl
      simp only [if_pos h2, if_neg hl]
theorem p_X4_leastOf (l : Launch) (X : XC) {N9 : Nat} (hN : 39 ≤ N9) (a1 a2 : Int32) (w : Mem) : Ct l X 1 yX4_leastOf cX4_leastOf 5 (some .int) emI [.inl a1, .inl a2] N9 flT w (some (leastF a1 a2, w)) :=
  (t_X4_leastOf l X hN a1 a2 w).eq (by unfold f_X4_leastOf; exact (leastOf_loop a1 w 16 0 FU a2 0 rfl (by decide)).symm)
theorem p_X4_rowAt (l : Launch) (X : XC) {N9 : Nat} (hN : 39 ≤ N9) (a1 : Int32) (w : Mem) : Ct l X 0 yX4_rowAt cX4_rowAt 2 (some (.object "NameThrownBack$Sheet")) emA [.inr (.inr (some (4, 0))), .inl a1] N9 flT w (some ((rowF a1).map fun z => (2, z), w)) :=
  (t_X4_rowAt l X hN a1 w).eq (by
    unfold f_X4_rowAt rowF
    by_cases h1 : a1 < 0
    · rw [if_pos h1, if_neg (fun z => Int32.not_le.mpr h1 z)]; rfl
    · rw [if_neg h1, if_pos (Int32.not_lt.mp h1)]
      by_cases h2 : a1 < 4
      · rw [if_pos h2, if_pos h2, if_pos]
        · rfl
        · rintro (z | z)
          · exact h1 z
          · have h3 := Int32.lt_iff_toInt_lt.mp h2
            have h4 : (4 : Int32).toInt = 4 := rfl
            have h5 : 4 ≤ a1.toInt.toNat := z
            omega
      · rw [if_neg h2, if_neg h2]; rfl)
theorem rng_01 {x a b : Int32} {w : Mem} : some (rng x a b, w) = if rng x a b = 0 ∨ rng x a b = 1 then some (rng x a b, w) else none := (if_pos b2i_01).symm
def hasF (x m : Int32) : Int32 := b2i (0 ≤ x ∧ x < m)
theorem p_X0_has (l : Launch) (X : XC) {N9 : Nat} (hN : 39 ≤ N9) (i : Nat) (a1 : Int32) (hi : i < 3) (w : Mem) : Ct l X 0 yX0_has cX0_has 2 (some .boolean) emI [.inr (.inr (some (0, i))), .inl a1] N9 flT w (some (hasF a1 (w 0 i 2), w)) :=
  (t_X0_has l X hN i a1 hi w).eq (by
    unfold f_X0_has hasF
    by_cases h1 : a1 < 0
    · rw [if_pos h1, b2i_f (fun z => Int32.not_le.mpr h1 z.1)]
    · rw [if_neg h1]
      by_cases h2 : a1 < w 0 i 2
      · rw [if_pos h2, b2i_t ⟨Int32.not_lt.mp h1, h2⟩]
      · rw [if_neg h2, b2i_f (fun z => h2 z.2)])
end
section
/-! Texts, Sheet, Coast -/
abbrev mm_X3_ofTwo : MI := (RX3, cX3_ofTwo, 3, (some .int), ftp_X3.map (fun q => q.1), ctp_X3.map (fun q => q.1), clp_X3.map (fun q => q.1))
noncomputable def f_X3_ofTwo (a1 : Int32) (a2 : Int32) (a3 : Int32) (w : Mem) : Option (Int32 × Mem) := swE a1 (-13) [some (a2 - a3, w), some (a2 + a3, w), if a2 = a3 then (some (1, w)) else (some (0, w)), if a2 < a3 then (some (1, w)) else (some (0, w)), some (a2 * a3, w), if a2 = 0 then (some (0, w)) else (if a3 = 0 then (some (0, w)) else (some (1, w))), if a2 = 0 then (if a3 = 0 then (some (0, w)) else (some (1, w))) else (some (1, w))] (some (a2 * a3, w))
set_option maxRecDepth 100000 in
theorem t_X3_ofTwo (l : Launch) (X : XC) {N9 : Nat} (hN : 39 ≤ N9)  (a1 : Int32) (a2 : Int32) (a3 : Int32) (w : Mem) : Ct l X 0 yX3_ofTwo cX3_ofTwo 3 (some .int) emI [.inl a1, .inl a2, .inl a3] N9 flT w (f_X3_ofTwo a1 a2 a3 w) := by
  refine Ct_of (mi := mm_X3_ofTwo) (mik_X3 _ _ _) me_X3_ofTwo rfl (okAs_cons rfl (okAs_cons rfl (okAs_cons rfl okAs_nil))) (Nat.le_of_ble_eq_true rfl) ?_
  unfold f_X3_ofTwo
  refine GE_run (flG_T hN) (pc1 := 1) (L1 := [some (.inl a1), some (.inl a2), some (.inl a3)]) (S1 := [.inl a1]) (w1 := w) (P := True) [(.iload_n 0, 0, 0, 0, 0)] (by decide +kernel) rfl trivial ?_
  refine GE_swm (dflt := 101) (lo := -13) (hi := -7) (offs := #[97, 93, 82, 71, 101, 57, 43]) (len := 43) (dt := 102) (mm := 7) [98, 94, 83, 72, 102, 58, 44] (by decide +kernel) rfl (by decide +kernel) (And.intro (fun _ => ?_) (And.intro (fun _ => ?_) (And.intro (fun _ => ?_) (And.intro (fun _ => ?_) (And.intro (fun _ => ?_) (And.intro (fun _ => ?_) (And.intro (fun _ => ?_) (trivial)))))))) ?_
  · refine GE_run (flG_T hN) (pc1 := 101) (L1 := [some (.inl a1), some (.inl a2), some (.inl a3)]) (S1 := [.inl (a2 - a3)]) (w1 := w) (P := True) [(.iload_n 1, 0, 0, 0, 0), (.iload_n 2, 0, 0, 0, 0), (.isub, 0, 0, 0, 0)] (by decide +kernel) rfl trivial ?_
    exact GE_iret rfl (by decide +kernel)
  · refine GE_run (flG_T hN) (pc1 := 97) (L1 := [some (.inl a1), some (.inl a2), some (.inl a3)]) (S1 := [.inl (a2 + a3)]) (w1 := w) (P := True) [(.iload_n 1, 0, 0, 0, 0), (.iload_n 2, 0, 0, 0, 0), (.iadd, 0, 0, 0, 0)] (by decide +kernel) rfl trivial ?_
    exact GE_iret rfl (by decide +kernel)
  · refine GE_run (flG_T hN) (pc1 := 85) (L1 := [some (.inl a1), some (.inl a2), some (.inl a3)]) (S1 := [.inl a3, .inl a2]) (w1 := w) (P := True) [(.iload_n 1, 0, 0, 0, 0), (.iload_n 2, 0, 0, 0, 0)] (by decide +kernel) rfl trivial ?_
    refine GE_icmpN (k := .ne) (off := 7) (tgt := 92) (by decide +kernel) (by decide) (cnd_ne _ _) (fun c1 => ?_) (fun c1 => ?_)
    · refine GE_run (flG_T hN) (pc1 := 93) (L1 := [some (.inl a1), some (.inl a2), some (.inl a3)]) (S1 := [.inl 0]) (w1 := w) (P := True) [(.iconst 0, 0, 0, 0, 0)] (by decide +kernel) rfl trivial ?_
      exact GE_iret rfl (by decide +kernel)
    · refine GE_run (flG_T hN) (pc1 := 93) (L1 := [some (.inl a1), some (.inl a2), some (.inl a3)]) (S1 := [.inl 1]) (w1 := w) (P := True) [(.iconst 1, 0, 0, 1, 0), (.goto 4, 0, 0, 0, 0)] (by decide +kernel) rfl trivial ?_
      exact GE_iret rfl (by decide +kernel)
  · refine GE_run (flG_T hN) (pc1 := 74) (L1 := [some (.inl a1), some (.inl a2), some (.inl a3)]) (S1 := [.inl a3, .inl a2]) (w1 := w) (P := True) [(.iload_n 1, 0, 0, 0, 0), (.iload_n 2, 0, 0, 0, 0)] (by decide +kernel) rfl trivial ?_
    refine GE_icmpN (k := .ge) (off := 7) (tgt := 81) (by decide +kernel) (by decide) (cnd_ge _ _) (fun c2 => ?_) (fun c2 => ?_)
    · refine GE_run (flG_T hN) (pc1 := 82) (L1 := [some (.inl a1), some (.inl a2), some (.inl a3)]) (S1 := [.inl 0]) (w1 := w) (P := True) [(.iconst 0, 0, 0, 0, 0)] (by decide +kernel) rfl trivial ?_
      exact GE_iret rfl (by decide +kernel)
    · refine GE_run (flG_T hN) (pc1 := 82) (L1 := [some (.inl a1), some (.inl a2), some (.inl a3)]) (S1 := [.inl 1]) (w1 := w) (P := True) [(.iconst 1, 0, 0, 1, 0), (.goto 4, 0, 0, 0, 0)] (by decide +kernel) rfl trivial ?_
      exact GE_iret rfl (by decide +kernel)
  · refine GE_run (flG_T hN) (pc1 := 105) (L1 := [some (.inl a1), some (.inl a2), some (.inl a3)]) (S1 := [.inl (a2 * a3)]) (w1 := w) (P := True) [(.iload_n 1, 0, 0, 0, 0), (.iload_n 2, 0, 0, 0, 0), (.imul, 0, 0, 0, 0)] (by decide +kernel) rfl trivial ?_
    exact GE_iret rfl (by decide +kernel)
  · refine GE_run (flG_T hN) (pc1 := 59) (L1 := [some (.inl a1), some (.inl a2), some (.inl a3)]) (S1 := [.inl a2]) (w1 := w) (P := True) [(.iload_n 1, 0, 0, 0, 0)] (by decide +kernel) rfl trivial ?_
    refine GE_if (k := .eq) (off := 11) (tgt := 70) (by decide +kernel) (by decide) (cnd_eq _ _) (fun c3 => ?_) (fun c3 => ?_)
    · refine GE_run (flG_T hN) (pc1 := 71) (L1 := [some (.inl a1), some (.inl a2), some (.inl a3)]) (S1 := [.inl 0]) (w1 := w) (P := True) [(.iconst 0, 0, 0, 0, 0)] (by decide +kernel) rfl trivial ?_
      exact GE_iret rfl (by decide +kernel)
    · refine GE_run (flG_T hN) (pc1 := 63) (L1 := [some (.inl a1), some (.inl a2), some (.inl a3)]) (S1 := [.inl a3]) (w1 := w) (P := True) [(.iload_n 2, 0, 0, 0, 0)] (by decide +kernel) rfl trivial ?_
      refine GE_if (k := .eq) (off := 7) (tgt := 70) (by decide +kernel) (by decide) (cnd_eq _ _) (fun c4 => ?_) (fun c4 => ?_)
      · refine GE_run (flG_T hN) (pc1 := 71) (L1 := [some (.inl a1), some (.inl a2), some (.inl a3)]) (S1 := [.inl 0]) (w1 := w) (P := True) [(.iconst 0, 0, 0, 0, 0)] (by decide +kernel) rfl trivial ?_
        exact GE_iret rfl (by decide +kernel)
      · refine GE_run (flG_T hN) (pc1 := 71) (L1 := [some (.inl a1), some (.inl a2), some (.inl a3)]) (S1 := [.inl 1]) (w1 := w) (P := True) [(.iconst 1, 0, 0, 1, 0), (.goto 4, 0, 0, 0, 0)] (by decide +kernel) rfl trivial ?_
        exact GE_iret rfl (by decide +kernel)
  · refine GE_run (flG_T hN) (pc1 := 45) (L1 := [some (.inl a1), some (.inl a2), some (.inl a3)]) (S1 := [.inl a2]) (w1 := w) (P := True) [(.iload_n 1, 0, 0, 0, 0)] (by decide +kernel) rfl trivial ?_
    refine GE_ifN (k := .ne) (off := 7) (tgt := 52) (by decide +kernel) (by decide) (cnd_ne _ _) (fun c5 => ?_) (fun c5 => ?_)
    · refine GE_run (flG_T hN) (pc1 := 57) (L1 := [some (.inl a1), some (.inl a2), some (.inl a3)]) (S1 := [.inl 1]) (w1 := w) (P := True) [(.iconst 1, 0, 0, 1, 0), (.goto 4, 0, 0, 0, 0)] (by decide +kernel) rfl trivial ?_
      exact GE_iret rfl (by decide +kernel)
    · refine GE_run (flG_T hN) (pc1 := 49) (L1 := [some (.inl a1), some (.inl a2), some (.inl a3)]) (S1 := [.inl a3]) (w1 := w) (P := True) [(.iload_n 2, 0, 0, 0, 0)] (by decide +kernel) rfl trivial ?_
      refine GE_if (k := .eq) (off := 7) (tgt := 56) (by decide +kernel) (by decide) (cnd_eq _ _) (fun c6 => ?_) (fun c6 => ?_)
      · refine GE_run (flG_T hN) (pc1 := 57) (L1 := [some (.inl a1), some (.inl a2), some (.inl a3)]) (S1 := [.inl 0]) (w1 := w) (P := True) [(.iconst 0, 0, 0, 0, 0)] (by decide +kernel) rfl trivial ?_
        exact GE_iret rfl (by decide +kernel)
      · refine GE_run (flG_T hN) (pc1 := 57) (L1 := [some (.inl a1), some (.inl a2), some (.inl a3)]) (S1 := [.inl 1]) (w1 := w) (P := True) [(.iconst 1, 0, 0, 1, 0), (.goto 4, 0, 0, 0, 0)] (by decide +kernel) rfl trivial ?_
        exact GE_iret rfl (by decide +kernel)
  · refine GE_run (flG_T hN) (pc1 := 105) (L1 := [some (.inl a1), some (.inl a2), some (.inl a3)]) (S1 := [.inl (a2 * a3)]) (w1 := w) (P := True) [(.iload_n 1, 0, 0, 0, 0), (.iload_n 2, 0, 0, 0, 0), (.imul, 0, 0, 0, 0)] (by decide +kernel) rfl trivial ?_
    exact GE_iret rfl (by decide +kernel)
abbrev mm_X3_value : MI := (RX3, cX3_value, 9, (some .int), ftp_X3.map (fun q => q.1), ctp_X3.map (fun q => q.1), clp_X3.map (fun q => q.1))
noncomputable def h_X3_value_49 (i3 : Nat) (x5 : Int32) (k215 : Mem → Option (Int32 × Mem)) : Nat → Int32 → Int32 → Mem → Option (Int32 × Mem)
  | 0, _, _, _ => none
  | n + 1, x6, x7, w => if x7 < x5 then (if (atV w 6 0 x7) < (-6) then (if (atV w 6 0 x7) = (-9) then (if (atV w 8 0 x6) = 0 then ((h_X3_value_49 i3 x5 k215 n) x6 (x7 + 1) (setV w 8 0 x6 1)) else ((h_X3_value_49 i3 x5 k215 n) x6 (x7 + 1) (setV w 8 0 x6 0))) else (if (atV w 6 0 x7) = (-15) then ((h_X3_value_49 i3 x5 k215 n) x6 (x7 + 1) (setV w 8 0 x6 (-(atV w 8 0 x6)))) else (Option.bind (f_X3_ofTwo (atV w 6 0 x7) (atV w 8 0 (x6 + (-1))) (atV w 8 0 ((x6 + (-1)) + 1)) w) (fun r7 => (h_X3_value_49 i3 x5 k215 n) (x6 + (-1)) (x7 + 1) (setV r7.2 8 0 (x6 + (-1)) r7.1))))) else (if (atV w 6 0 x7) < 0 then ((h_X3_value_49 i3 x5 k215 n) (x6 + 1) (x7 + 1) (setV w 8 0 (x6 + 1) (atV w 12 i3 ((-1) - (atV w 6 0 x7))))) else ((h_X3_value_49 i3 x5 k215 n) (x6 + 1) (x7 + 1) (setV w 8 0 (x6 + 1) (atV w 6 0 x7))))) else (k215 w)
set_option maxRecDepth 100000 in
theorem h_X3_value_49_ok (l : Launch) (X : XC) {N9 : Nat} (hN : 39 ≤ N9) (i3 : Nat) (x5 : Int32) (k215 : Mem → Option (Int32 × Mem)) (hi3 : i3 < 3) (hk215 : ∀  (w : Mem), GE l X mm_X3_value 1 emI N9 flT (k215 w) 215 [some (.inr (.inr (some (3, 0)))), none, none, none, none, none, none, none, none] [] w) : ∀ (n : Nat) (x6 : Int32) (x7 : Int32) (w : Mem), GE l X mm_X3_value 1 emI N9 flT ((h_X3_value_49 i3 x5 k215 n) x6 x7 w) 49 [some (.inr (.inr (some (3, 0)))), none, none, some (.inr (.inr (some (12, i3)))), none, some (.inl x5), some (.inl x6), some (.inl x7), none] [] w := by
  intro n
  induction n with
  | zero => intro x6 x7 w; exact GE_none
  | succ n ih =>
    intro x6 x7 w
    unfold h_X3_value_49
    refine GE_run (flG_T hN) (pc1 := 53) (L1 := [some (.inr (.inr (some (3, 0)))), none, none, some (.inr (.inr (some (12, i3)))), none, some (.inl x5), some (.inl x6), some (.inl x7), none]) (S1 := [.inl x5, .inl x7]) (w1 := w) (P := True) [(.iload 7, 0, 0, 0, 0), (.iload 5, 0, 0, 0, 0)] (by decide +kernel) rfl trivial ?_
    refine GE_icmpN (k := .ge) (off := 162) (tgt := 215) (by decide +kernel) (by decide) (cnd_ge _ _) (fun c2 => ?_) (fun c2 => ?_)
    · exact GE_weak [true, false, false, false, false, false, false, false, false] (hk215 w)
    · refine GE_run (flG_T hN) (pc1 := 62) (L1 := [some (.inr (.inr (some (3, 0)))), none, none, some (.inr (.inr (some (12, i3)))), none, some (.inl x5), some (.inl x6), some (.inl x7), none]) (S1 := [.inl x7, .inr (.inr (some (6, 0)))]) (w1 := w) (P := True) [(.aload_n 0, 0, 0, 0, 0), (.getfield 9, 3, 1, 0, 0), (.iload 7, 0, 0, 0, 0)] (by decide +kernel) rfl trivial ?_
      refine GE_callNIp (As := [.inr (.inr (some (6, 0))), .inl x7]) (S := []) (p_X4_at l X hN 6 0 x7 (by decide) (okM hN (by decide)) w) ⟨me_X4_at, ms_X4_at, ln_X3_29⟩ (by decide +kernel) rfl (by decide) (by decide) (Nat.le_of_ble_eq_true rfl) ?_
      refine GE_run (flG_T hN) (pc1 := 71) (L1 := [some (.inr (.inr (some (3, 0)))), none, none, some (.inr (.inr (some (12, i3)))), none, some (.inl x5), some (.inl x6), some (.inl x7), some (.inl (atV w 6 0 x7))]) (S1 := [.inl (-6), .inl (atV w 6 0 x7)]) (w1 := w) (P := True) [(.istore 8, 0, 0, 0, 0), (.iload 8, 0, 0, 0, 0), (.bipush (-6), 0, 0, -6, 0)] (by decide +kernel) rfl trivial ?_
      refine GE_icmp (k := .lt) (off := 36) (tgt := 107) (by decide +kernel) (by decide) (cnd_lt _ _) (fun c3 => ?_) (fun c3 => ?_)
      · refine GE_run (flG_T hN) (pc1 := 111) (L1 := [some (.inr (.inr (some (3, 0)))), none, none, some (.inr (.inr (some (12, i3)))), none, some (.inl x5), some (.inl x6), some (.inl x7), some (.inl (atV w 6 0 x7))]) (S1 := [.inl (-9), .inl (atV w 6 0 x7)]) (w1 := w) (P := True) [(.iload 8, 0, 0, 0, 0), (.bipush (-9), 0, 0, -9, 0)] (by decide +kernel) rfl trivial ?_
        refine GE_icmpN (k := .ne) (off := 32) (tgt := 143) (by decide +kernel) (by decide) (cnd_ne _ _) (fun c4 => ?_) (fun c4 => ?_)
        · refine GE_run (flG_T hN) (pc1 := 147) (L1 := [some (.inr (.inr (some (3, 0)))), none, none, some (.inr (.inr (some (12, i3)))), none, some (.inl x5), some (.inl x6), some (.inl x7), some (.inl (atV w 6 0 x7))]) (S1 := [.inl (-15), .inl (atV w 6 0 x7)]) (w1 := w) (P := True) [(.iload 8, 0, 0, 0, 0), (.bipush (-15), 0, 0, -15, 0)] (by decide +kernel) rfl trivial ?_
          refine GE_icmpN (k := .ne) (off := 25) (tgt := 172) (by decide +kernel) (by decide) (cnd_ne _ _) (fun c6 => ?_) (fun c6 => ?_)
          · refine GE_run (flG_T hN) (pc1 := 189) (L1 := [some (.inr (.inr (some (3, 0)))), none, none, some (.inr (.inr (some (12, i3)))), none, some (.inl x5), some (.inl (x6 + (-1))), some (.inl x7), some (.inl (atV w 6 0 x7))]) (S1 := [.inl (x6 + (-1)), .inr (.inr (some (8, 0))), .inl (atV w 6 0 x7), .inl (x6 + (-1)), .inr (.inr (some (8, 0)))]) (w1 := w) (P := True) [(.iinc 6 (-1), 0, 0, -1, 0), (.aload_n 0, 0, 0, 0, 0), (.getfield 18, 3, 3, 0, 0), (.iload 6, 0, 0, 0, 0), (.iload 8, 0, 0, 0, 0), (.aload_n 0, 0, 0, 0, 0), (.getfield 18, 3, 3, 0, 0), (.iload 6, 0, 0, 0, 0)] (by decide +kernel) rfl trivial ?_
            refine GE_callNIp (As := [.inr (.inr (some (8, 0))), .inl (x6 + (-1))]) (S := [.inl (atV w 6 0 x7), .inl (x6 + (-1)), .inr (.inr (some (8, 0)))]) (p_X4_at l X hN 8 0 (x6 + (-1)) (by decide) (okM hN (by decide)) w) ⟨me_X4_at, ms_X4_at, ln_X3_29⟩ (by decide +kernel) rfl (by decide) (by decide) (Nat.le_of_ble_eq_true rfl) ?_
            refine GE_run (flG_T hN) (pc1 := 200) (L1 := [some (.inr (.inr (some (3, 0)))), none, none, some (.inr (.inr (some (12, i3)))), none, some (.inl x5), some (.inl (x6 + (-1))), some (.inl x7), some (.inl (atV w 6 0 x7))]) (S1 := [.inl ((x6 + (-1)) + 1), .inr (.inr (some (8, 0))), .inl (atV w 8 0 (x6 + (-1))), .inl (atV w 6 0 x7), .inl (x6 + (-1)), .inr (.inr (some (8, 0)))]) (w1 := w) (P := True) [(.aload_n 0, 0, 0, 0, 0), (.getfield 18, 3, 3, 0, 0), (.iload 6, 0, 0, 0, 0), (.iconst 1, 0, 0, 1, 0), (.iadd, 0, 0, 0, 0)] (by decide +kernel) rfl trivial ?_
            refine GE_callNIp (As := [.inr (.inr (some (8, 0))), .inl ((x6 + (-1)) + 1)]) (S := [.inl (atV w 8 0 (x6 + (-1))), .inl (atV w 6 0 x7), .inl (x6 + (-1)), .inr (.inr (some (8, 0)))]) (p_X4_at l X hN 8 0 ((x6 + (-1)) + 1) (by decide) (okM hN (by decide)) w) ⟨me_X4_at, ms_X4_at, ln_X3_29⟩ (by decide +kernel) rfl (by decide) (by decide) (Nat.le_of_ble_eq_true rfl) ?_
            refine GE_callSI (As := [.inl (atV w 6 0 x7), .inl (atV w 8 0 (x6 + (-1))), .inl (atV w 8 0 ((x6 + (-1)) + 1))]) (S := [.inl (x6 + (-1)), .inr (.inr (some (8, 0)))]) (t_X3_ofTwo l X hN (atV w 6 0 x7) (atV w 8 0 (x6 + (-1))) (atV w 8 0 ((x6 + (-1)) + 1)) w) ⟨me_X3_ofTwo, ms_X3_ofTwo, lk_X3_33⟩ (by decide +kernel) rfl (by decide) (by decide) (Nat.le_of_ble_eq_true rfl) (fun r7 _ => ?_)
            refine GE_callNVp (As := [.inr (.inr (some (8, 0))), .inl (x6 + (-1)), .inl r7.1]) (S := []) (p_X4_set l X hN 8 0 (x6 + (-1)) r7.1 (by decide) (okM hN (by decide)) r7.2) ⟨me_X4_set, ms_X4_set, ln_X3_21⟩ (by decide +kernel) rfl (by decide) (by decide) (Nat.le_of_ble_eq_true rfl) ?_
            refine GE_run (flG_T hN) (pc1 := 49) (L1 := [some (.inr (.inr (some (3, 0)))), none, none, some (.inr (.inr (some (12, i3)))), none, some (.inl x5), some (.inl (x6 + (-1))), some (.inl (x7 + 1)), some (.inl (atV w 6 0 x7))]) (S1 := []) (w1 := setV r7.2 8 0 (x6 + (-1)) r7.1) (P := True) [(.iinc 7 1, 0, 0, 1, 0), (.goto (-163), 0, 0, 0, 0)] (by decide +kernel) rfl trivial ?_
            exact GE_weak [true, false, false, true, false, true, true, true, false] (ih (x6 + (-1)) (x7 + 1) (setV r7.2 8 0 (x6 + (-1)) r7.1))
          · refine GE_run (flG_T hN) (pc1 := 162) (L1 := [some (.inr (.inr (some (3, 0)))), none, none, some (.inr (.inr (some (12, i3)))), none, some (.inl x5), some (.inl x6), some (.inl x7), some (.inl (atV w 6 0 x7))]) (S1 := [.inl x6, .inr (.inr (some (8, 0))), .inl x6, .inr (.inr (some (8, 0)))]) (w1 := w) (P := True) [(.aload_n 0, 0, 0, 0, 0), (.getfield 18, 3, 3, 0, 0), (.iload 6, 0, 0, 0, 0), (.aload_n 0, 0, 0, 0, 0), (.getfield 18, 3, 3, 0, 0), (.iload 6, 0, 0, 0, 0)] (by decide +kernel) rfl trivial ?_
            refine GE_callNIp (As := [.inr (.inr (some (8, 0))), .inl x6]) (S := [.inl x6, .inr (.inr (some (8, 0)))]) (p_X4_at l X hN 8 0 x6 (by decide) (okM hN (by decide)) w) ⟨me_X4_at, ms_X4_at, ln_X3_29⟩ (by decide +kernel) rfl (by decide) (by decide) (Nat.le_of_ble_eq_true rfl) ?_
            refine GE_run (flG_T hN) (pc1 := 166) (L1 := [some (.inr (.inr (some (3, 0)))), none, none, some (.inr (.inr (some (12, i3)))), none, some (.inl x5), some (.inl x6), some (.inl x7), some (.inl (atV w 6 0 x7))]) (S1 := [.inl (-(atV w 8 0 x6)), .inl x6, .inr (.inr (some (8, 0)))]) (w1 := w) (P := True) [(.ineg, 0, 0, 0, 0)] (by decide +kernel) rfl trivial ?_
            refine GE_callNVp (As := [.inr (.inr (some (8, 0))), .inl x6, .inl (-(atV w 8 0 x6))]) (S := []) (p_X4_set l X hN 8 0 x6 (-(atV w 8 0 x6)) (by decide) (okM hN (by decide)) w) ⟨me_X4_set, ms_X4_set, ln_X3_21⟩ (by decide +kernel) rfl (by decide) (by decide) (Nat.le_of_ble_eq_true rfl) ?_
            refine GE_run (flG_T hN) (pc1 := 49) (L1 := [some (.inr (.inr (some (3, 0)))), none, none, some (.inr (.inr (some (12, i3)))), none, some (.inl x5), some (.inl x6), some (.inl (x7 + 1)), some (.inl (atV w 6 0 x7))]) (S1 := []) (w1 := setV w 8 0 x6 (-(atV w 8 0 x6))) (P := True) [(.goto 40, 0, 0, 0, 0), (.iinc 7 1, 0, 0, 1, 0), (.goto (-163), 0, 0, 0, 0)] (by decide +kernel) rfl trivial ?_
            exact GE_weak [true, false, false, true, false, true, true, true, false] (ih x6 (x7 + 1) (setV w 8 0 x6 (-(atV w 8 0 x6))))
        · refine GE_run (flG_T hN) (pc1 := 126) (L1 := [some (.inr (.inr (some (3, 0)))), none, none, some (.inr (.inr (some (12, i3)))), none, some (.inl x5), some (.inl x6), some (.inl x7), some (.inl (atV w 6 0 x7))]) (S1 := [.inl x6, .inr (.inr (some (8, 0))), .inl x6, .inr (.inr (some (8, 0)))]) (w1 := w) (P := True) [(.aload_n 0, 0, 0, 0, 0), (.getfield 18, 3, 3, 0, 0), (.iload 6, 0, 0, 0, 0), (.aload_n 0, 0, 0, 0, 0), (.getfield 18, 3, 3, 0, 0), (.iload 6, 0, 0, 0, 0)] (by decide +kernel) rfl trivial ?_
          refine GE_callNIp (As := [.inr (.inr (some (8, 0))), .inl x6]) (S := [.inl x6, .inr (.inr (some (8, 0)))]) (p_X4_at l X hN 8 0 x6 (by decide) (okM hN (by decide)) w) ⟨me_X4_at, ms_X4_at, ln_X3_29⟩ (by decide +kernel) rfl (by decide) (by decide) (Nat.le_of_ble_eq_true rfl) ?_
          refine GE_ifN (k := .ne) (off := 7) (tgt := 136) (by decide +kernel) (by decide) (cnd_ne _ _) (fun c5 => ?_) (fun c5 => ?_)
          · refine GE_run (flG_T hN) (pc1 := 137) (L1 := [some (.inr (.inr (some (3, 0)))), none, none, some (.inr (.inr (some (12, i3)))), none, some (.inl x5), some (.inl x6), some (.inl x7), some (.inl (atV w 6 0 x7))]) (S1 := [.inl 0, .inl x6, .inr (.inr (some (8, 0)))]) (w1 := w) (P := True) [(.iconst 0, 0, 0, 0, 0)] (by decide +kernel) rfl trivial ?_
            refine GE_callNVp (As := [.inr (.inr (some (8, 0))), .inl x6, .inl 0]) (S := []) (p_X4_set l X hN 8 0 x6 0 (by decide) (okM hN (by decide)) w) ⟨me_X4_set, ms_X4_set, ln_X3_21⟩ (by decide +kernel) rfl (by decide) (by decide) (Nat.le_of_ble_eq_true rfl) ?_
            refine GE_run (flG_T hN) (pc1 := 49) (L1 := [some (.inr (.inr (some (3, 0)))), none, none, some (.inr (.inr (some (12, i3)))), none, some (.inl x5), some (.inl x6), some (.inl (x7 + 1)), some (.inl (atV w 6 0 x7))]) (S1 := []) (w1 := setV w 8 0 x6 0) (P := True) [(.goto 69, 0, 0, 0, 0), (.iinc 7 1, 0, 0, 1, 0), (.goto (-163), 0, 0, 0, 0)] (by decide +kernel) rfl trivial ?_
            exact GE_weak [true, false, false, true, false, true, true, true, false] (ih x6 (x7 + 1) (setV w 8 0 x6 0))
          · refine GE_run (flG_T hN) (pc1 := 137) (L1 := [some (.inr (.inr (some (3, 0)))), none, none, some (.inr (.inr (some (12, i3)))), none, some (.inl x5), some (.inl x6), some (.inl x7), some (.inl (atV w 6 0 x7))]) (S1 := [.inl 1, .inl x6, .inr (.inr (some (8, 0)))]) (w1 := w) (P := True) [(.iconst 1, 0, 0, 1, 0), (.goto 4, 0, 0, 0, 0)] (by decide +kernel) rfl trivial ?_
            refine GE_callNVp (As := [.inr (.inr (some (8, 0))), .inl x6, .inl 1]) (S := []) (p_X4_set l X hN 8 0 x6 1 (by decide) (okM hN (by decide)) w) ⟨me_X4_set, ms_X4_set, ln_X3_21⟩ (by decide +kernel) rfl (by decide) (by decide) (Nat.le_of_ble_eq_true rfl) ?_
            refine GE_run (flG_T hN) (pc1 := 49) (L1 := [some (.inr (.inr (some (3, 0)))), none, none, some (.inr (.inr (some (12, i3)))), none, some (.inl x5), some (.inl x6), some (.inl (x7 + 1)), some (.inl (atV w 6 0 x7))]) (S1 := []) (w1 := setV w 8 0 x6 1) (P := True) [(.goto 69, 0, 0, 0, 0), (.iinc 7 1, 0, 0, 1, 0), (.goto (-163), 0, 0, 0, 0)] (by decide +kernel) rfl trivial ?_
            exact GE_weak [true, false, false, true, false, true, true, true, false] (ih x6 (x7 + 1) (setV w 8 0 x6 1))
      · refine GE_run (flG_T hN) (pc1 := 85) (L1 := [some (.inr (.inr (some (3, 0)))), none, none, some (.inr (.inr (some (12, i3)))), none, some (.inl x5), some (.inl (x6 + 1)), some (.inl x7), some (.inl (atV w 6 0 x7))]) (S1 := [.inl (atV w 6 0 x7), .inl (x6 + 1), .inr (.inr (some (8, 0)))]) (w1 := w) (P := True) [(.iinc 6 1, 0, 0, 1, 0), (.aload_n 0, 0, 0, 0, 0), (.getfield 18, 3, 3, 0, 0), (.iload 6, 0, 0, 0, 0), (.iload 8, 0, 0, 0, 0)] (by decide +kernel) rfl trivial ?_
        refine GE_if (k := .lt) (off := 8) (tgt := 93) (by decide +kernel) (by decide) (cnd_lt _ _) (fun c8 => ?_) (fun c8 => ?_)
        · refine GE_run (flG_T hN) (pc1 := 98) (L1 := [some (.inr (.inr (some (3, 0)))), none, none, some (.inr (.inr (some (12, i3)))), none, some (.inl x5), some (.inl (x6 + 1)), some (.inl x7), some (.inl (atV w 6 0 x7))]) (S1 := [.inl ((-1) - (atV w 6 0 x7)), .inr (.inr (some (12, i3))), .inl (x6 + 1), .inr (.inr (some (8, 0)))]) (w1 := w) (P := True) [(.aload_n 3, 0, 0, 0, 0), (.iconst (-1), 0, 0, -1, 0), (.iload 8, 0, 0, 0, 0), (.isub, 0, 0, 0, 0)] (by decide +kernel) rfl trivial ?_
          refine GE_callNIp (As := [.inr (.inr (some (12, i3))), .inl ((-1) - (atV w 6 0 x7))]) (S := [.inl (x6 + 1), .inr (.inr (some (8, 0)))]) (p_X4_at l X hN 12 i3 ((-1) - (atV w 6 0 x7)) (by decide) (ok_coast_12 hN hi3) w) ⟨me_X4_at, ms_X4_at, ln_X3_29⟩ (by decide +kernel) rfl (by decide) (by decide) (Nat.le_of_ble_eq_true rfl) ?_
          refine GE_callNVp (As := [.inr (.inr (some (8, 0))), .inl (x6 + 1), .inl (atV w 12 i3 ((-1) - (atV w 6 0 x7)))]) (S := []) (p_X4_set l X hN 8 0 (x6 + 1) (atV w 12 i3 ((-1) - (atV w 6 0 x7))) (by decide) (okM hN (by decide)) w) ⟨me_X4_set, ms_X4_set, ln_X3_21⟩ (by decide +kernel) rfl (by decide) (by decide) (Nat.le_of_ble_eq_true rfl) ?_
          refine GE_run (flG_T hN) (pc1 := 49) (L1 := [some (.inr (.inr (some (3, 0)))), none, none, some (.inr (.inr (some (12, i3)))), none, some (.inl x5), some (.inl (x6 + 1)), some (.inl (x7 + 1)), some (.inl (atV w 6 0 x7))]) (S1 := []) (w1 := setV w 8 0 (x6 + 1) (atV w 12 i3 ((-1) - (atV w 6 0 x7)))) (P := True) [(.goto 105, 0, 0, 0, 0), (.iinc 7 1, 0, 0, 1, 0), (.goto (-163), 0, 0, 0, 0)] (by decide +kernel) rfl trivial ?_
          exact GE_weak [true, false, false, true, false, true, true, true, false] (ih (x6 + 1) (x7 + 1) (setV w 8 0 (x6 + 1) (atV w 12 i3 ((-1) - (atV w 6 0 x7)))))
        · refine GE_run (flG_T hN) (pc1 := 101) (L1 := [some (.inr (.inr (some (3, 0)))), none, none, some (.inr (.inr (some (12, i3)))), none, some (.inl x5), some (.inl (x6 + 1)), some (.inl x7), some (.inl (atV w 6 0 x7))]) (S1 := [.inl (atV w 6 0 x7), .inl (x6 + 1), .inr (.inr (some (8, 0)))]) (w1 := w) (P := True) [(.iload 8, 0, 0, 0, 0), (.goto 11, 0, 0, 0, 0)] (by decide +kernel) rfl trivial ?_
          refine GE_callNVp (As := [.inr (.inr (some (8, 0))), .inl (x6 + 1), .inl (atV w 6 0 x7)]) (S := []) (p_X4_set l X hN 8 0 (x6 + 1) (atV w 6 0 x7) (by decide) (okM hN (by decide)) w) ⟨me_X4_set, ms_X4_set, ln_X3_21⟩ (by decide +kernel) rfl (by decide) (by decide) (Nat.le_of_ble_eq_true rfl) ?_
          refine GE_run (flG_T hN) (pc1 := 49) (L1 := [some (.inr (.inr (some (3, 0)))), none, none, some (.inr (.inr (some (12, i3)))), none, some (.inl x5), some (.inl (x6 + 1)), some (.inl (x7 + 1)), some (.inl (atV w 6 0 x7))]) (S1 := []) (w1 := setV w 8 0 (x6 + 1) (atV w 6 0 x7)) (P := True) [(.goto 105, 0, 0, 0, 0), (.iinc 7 1, 0, 0, 1, 0), (.goto (-163), 0, 0, 0, 0)] (by decide +kernel) rfl trivial ?_
          exact GE_weak [true, false, false, true, false, true, true, true, false] (ih (x6 + 1) (x7 + 1) (setV w 8 0 (x6 + 1) (atV w 6 0 x7)))
noncomputable def j_X3_value_26 (i3 : Nat)  (x1 : Int32) (x2 : Int32) (s0 : Int32) (w : Mem) : Option (Int32 × Mem) := h_X3_value_49 i3 (atV w 7 0 ((x1 * 3) + x2)) (fun w9 => some (atV w9 8 0 0, w9)) FU (-1) s0 w
set_option maxRecDepth 100000 in
theorem j_X3_value_26_ok (l : Launch) (X : XC) {N9 : Nat} (hN : 39 ≤ N9) (i3 : Nat)  (x1 : Int32) (x2 : Int32) (s0 : Int32) (hi3 : i3 < 3)  (w : Mem) : GE l X mm_X3_value 1 emI N9 flT (j_X3_value_26 i3 x1 x2 s0 w) 26 [some (.inr (.inr (some (3, 0)))), some (.inl x1), some (.inl x2), some (.inr (.inr (some (12, i3)))), none, none, none, none, none] [.inl s0] w := by
  unfold j_X3_value_26
  refine GE_run (flG_T hN) (pc1 := 37) (L1 := [some (.inr (.inr (some (3, 0)))), some (.inl x1), some (.inl x2), some (.inr (.inr (some (12, i3)))), some (.inl s0), none, none, none, none]) (S1 := [.inl ((x1 * 3) + x2), .inr (.inr (some (7, 0)))]) (w1 := w) (P := True) [(.istore 4, 0, 0, 0, 0), (.aload_n 0, 0, 0, 0, 0), (.getfield 15, 3, 2, 0, 0), (.iload_n 1, 0, 0, 0, 0), (.iconst 3, 0, 0, 3, 0), (.imul, 0, 0, 0, 0), (.iload_n 2, 0, 0, 0, 0), (.iadd, 0, 0, 0, 0)] (by decide +kernel) rfl trivial ?_
  refine GE_callNIp (As := [.inr (.inr (some (7, 0))), .inl ((x1 * 3) + x2)]) (S := []) (p_X4_at l X hN 7 0 ((x1 * 3) + x2) (by decide) (okM hN (by decide)) w) ⟨me_X4_at, ms_X4_at, ln_X3_29⟩ (by decide +kernel) rfl (by decide) (by decide) (Nat.le_of_ble_eq_true rfl) ?_
  refine GE_run (flG_T hN) (pc1 := 49) (L1 := [some (.inr (.inr (some (3, 0)))), some (.inl x1), some (.inl x2), some (.inr (.inr (some (12, i3)))), some (.inl s0), some (.inl (atV w 7 0 ((x1 * 3) + x2))), some (.inl (-1)), some (.inl s0), none]) (S1 := []) (w1 := w) (P := True) [(.istore 5, 0, 0, 0, 0), (.iconst (-1), 0, 0, -1, 0), (.istore 6, 0, 0, 0, 0), (.iload 4, 0, 0, 0, 0), (.istore 7, 0, 0, 0, 0)] (by decide +kernel) rfl trivial ?_
  refine GE_weak [true, false, false, true, false, true, true, true, false] (h_X3_value_49_ok l X hN i3 (atV w 7 0 ((x1 * 3) + x2)) _ hi3 ?_ FU (-1) s0 w)
  · intro w9
    refine GE_run (flG_T hN) (pc1 := 220) (L1 := [some (.inr (.inr (some (3, 0)))), none, none, none, none, none, none, none, none]) (S1 := [.inl 0, .inr (.inr (some (8, 0)))]) (w1 := w9) (P := True) [(.aload_n 0, 0, 0, 0, 0), (.getfield 18, 3, 3, 0, 0), (.iconst 0, 0, 0, 0, 0)] (by decide +kernel) rfl trivial ?_
    refine GE_callNIp (As := [.inr (.inr (some (8, 0))), .inl 0]) (S := []) (p_X4_at l X hN 8 0 0 (by decide) (okM hN (by decide)) w9) ⟨me_X4_at, ms_X4_at, ln_X3_29⟩ (by decide +kernel) rfl (by decide) (by decide) (Nat.le_of_ble_eq_true rfl) ?_
    exact GE_iret rfl (by decide +kernel)
noncomputable def f_X3_value (a1 : Int32) (a2 : Int32) (i3 : Nat) (w : Mem) : Option (Int32 × Mem) := if a2 = 0 then (j_X3_value_26 i3 a1 a2 (a1 * 160) w) else (j_X3_value_26 i3 a1 a2 (atV w 7 0 (((a1 * 3) + a2) - 1)) w)
set_option maxRecDepth 100000 in
theorem t_X3_value (l : Launch) (X : XC) {N9 : Nat} (hN : 39 ≤ N9)  (a1 : Int32) (a2 : Int32) (i3 : Nat) (hi3 : i3 < 3) (w : Mem) : Ct l X 1 yX3_value cX3_value 9 (some .int) emI [.inr (.inr (some (3, 0))), .inl a1, .inl a2, .inr (.inr (some (12, i3)))] N9 flT w (f_X3_value a1 a2 i3 w) := by
  refine Ct_of (mi := mm_X3_value) (mik_X3 _ _ _) me_X3_value rfl (okAs_cons (okMV hN (by decide)) (okAs_cons rfl (okAs_cons rfl (okAs_cons (ok_coast_12 hN hi3) okAs_nil)))) (Nat.le_of_ble_eq_true rfl) ?_
  unfold f_X3_value
  refine GE_run (flG_T hN) (pc1 := 1) (L1 := [some (.inr (.inr (some (3, 0)))), some (.inl a1), some (.inl a2), some (.inr (.inr (some (12, i3)))), none, none, none, none, none]) (S1 := [.inl a2]) (w1 := w) (P := True) [(.iload_n 2, 0, 0, 0, 0)] (by decide +kernel) rfl trivial ?_
  refine GE_ifN (k := .ne) (off := 11) (tgt := 12) (by decide +kernel) (by decide) (cnd_ne _ _) (fun c1 => ?_) (fun c1 => ?_)
  · refine GE_run (flG_T hN) (pc1 := 23) (L1 := [some (.inr (.inr (some (3, 0)))), some (.inl a1), some (.inl a2), some (.inr (.inr (some (12, i3)))), none, none, none, none, none]) (S1 := [.inl (((a1 * 3) + a2) - 1), .inr (.inr (some (7, 0)))]) (w1 := w) (P := True) [(.aload_n 0, 0, 0, 0, 0), (.getfield 15, 3, 2, 0, 0), (.iload_n 1, 0, 0, 0, 0), (.iconst 3, 0, 0, 3, 0), (.imul, 0, 0, 0, 0), (.iload_n 2, 0, 0, 0, 0), (.iadd, 0, 0, 0, 0), (.iconst 1, 0, 0, 1, 0), (.isub, 0, 0, 0, 0)] (by decide +kernel) rfl trivial ?_
    refine GE_callNIp (As := [.inr (.inr (some (7, 0))), .inl (((a1 * 3) + a2) - 1)]) (S := []) (p_X4_at l X hN 7 0 (((a1 * 3) + a2) - 1) (by decide) (okM hN (by decide)) w) ⟨me_X4_at, ms_X4_at, ln_X3_29⟩ (by decide +kernel) rfl (by decide) (by decide) (Nat.le_of_ble_eq_true rfl) ?_
    exact GE_weak [true, true, true, true, false, false, false, false, false] (j_X3_value_26_ok l X hN i3 a1 a2 (atV w 7 0 (((a1 * 3) + a2) - 1)) hi3 w)
  · refine GE_run (flG_T hN) (pc1 := 26) (L1 := [some (.inr (.inr (some (3, 0)))), some (.inl a1), some (.inl a2), some (.inr (.inr (some (12, i3)))), none, none, none, none, none]) (S1 := [.inl (a1 * 160)]) (w1 := w) (P := True) [(.iload_n 1, 0, 0, 0, 0), (.sipush 160, 0, 0, 160, 0), (.imul, 0, 0, 0, 0), (.goto 17, 0, 0, 0, 0)] (by decide +kernel) rfl trivial ?_
    exact GE_weak [true, true, true, true, false, false, false, false, false] (j_X3_value_26_ok l X hN i3 a1 a2 (a1 * 160) hi3 w)
abbrev mm_X3_add : MI := (RX3, cX3_add, 5, (some .int), ftp_X3.map (fun q => q.1), ctp_X3.map (fun q => q.1), clp_X3.map (fun q => q.1))
noncomputable def h_X3_add_8 (x3 : Int32) (k43 : Mem → Option (Int32 × Mem)) : Nat → Int32 → Mem → Option (Int32 × Mem)
  | 0, _, _ => none
  | n + 1, x4, w => if x4 < 160 then ((h_X3_add_8 x3 k43 n) (x4 + 1) (setV w 6 0 ((x3 * 160) + x4) (atV w 10 0 x4))) else (k43 w)
set_option maxRecDepth 100000 in
theorem h_X3_add_8_ok (l : Launch) (X : XC) {N9 : Nat} (hN : 39 ≤ N9) (x3 : Int32) (k43 : Mem → Option (Int32 × Mem))  (hk43 : ∀  (w : Mem), GE l X mm_X3_add 1 emI N9 flT (k43 w) 43 [some (.inr (.inr (some (3, 0)))), none, some (.inr (.inr (some (11, 0)))), some (.inl x3), none] [] w) : ∀ (n : Nat) (x4 : Int32) (w : Mem), GE l X mm_X3_add 1 emI N9 flT ((h_X3_add_8 x3 k43 n) x4 w) 8 [some (.inr (.inr (some (3, 0)))), some (.inr (.inr (some (10, 0)))), some (.inr (.inr (some (11, 0)))), some (.inl x3), some (.inl x4)] [] w := by
  intro n
  induction n with
  | zero => intro x4 w; exact GE_none
  | succ n ih =>
    intro x4 w
    unfold h_X3_add_8
    refine GE_run (flG_T hN) (pc1 := 13) (L1 := [some (.inr (.inr (some (3, 0)))), some (.inr (.inr (some (10, 0)))), some (.inr (.inr (some (11, 0)))), some (.inl x3), some (.inl x4)]) (S1 := [.inl 160, .inl x4]) (w1 := w) (P := True) [(.iload 4, 0, 0, 0, 0), (.sipush 160, 0, 0, 160, 0)] (by decide +kernel) rfl trivial ?_
    refine GE_icmpN (k := .ge) (off := 30) (tgt := 43) (by decide +kernel) (by decide) (cnd_ge _ _) (fun c1 => ?_) (fun c1 => ?_)
    · exact GE_weak [true, false, true, true, false] (hk43 w)
    · refine GE_run (flG_T hN) (pc1 := 31) (L1 := [some (.inr (.inr (some (3, 0)))), some (.inr (.inr (some (10, 0)))), some (.inr (.inr (some (11, 0)))), some (.inl x3), some (.inl x4)]) (S1 := [.inl x4, .inr (.inr (some (10, 0))), .inl ((x3 * 160) + x4), .inr (.inr (some (6, 0)))]) (w1 := w) (P := True) [(.aload_n 0, 0, 0, 0, 0), (.getfield 9, 3, 1, 0, 0), (.iload_n 3, 0, 0, 0, 0), (.sipush 160, 0, 0, 160, 0), (.imul, 0, 0, 0, 0), (.iload 4, 0, 0, 0, 0), (.iadd, 0, 0, 0, 0), (.aload_n 1, 0, 0, 0, 0), (.iload 4, 0, 0, 0, 0)] (by decide +kernel) rfl trivial ?_
      refine GE_callNIp (As := [.inr (.inr (some (10, 0))), .inl x4]) (S := [.inl ((x3 * 160) + x4), .inr (.inr (some (6, 0)))]) (p_X4_at l X hN 10 0 x4 (by decide) (okM hN (by decide)) w) ⟨me_X4_at, ms_X4_at, ln_X3_29⟩ (by decide +kernel) rfl (by decide) (by decide) (Nat.le_of_ble_eq_true rfl) ?_
      refine GE_callNVp (As := [.inr (.inr (some (6, 0))), .inl ((x3 * 160) + x4), .inl (atV w 10 0 x4)]) (S := []) (p_X4_set l X hN 6 0 ((x3 * 160) + x4) (atV w 10 0 x4) (by decide) (okM hN (by decide)) w) ⟨me_X4_set, ms_X4_set, ln_X3_21⟩ (by decide +kernel) rfl (by decide) (by decide) (Nat.le_of_ble_eq_true rfl) ?_
      refine GE_run (flG_T hN) (pc1 := 8) (L1 := [some (.inr (.inr (some (3, 0)))), some (.inr (.inr (some (10, 0)))), some (.inr (.inr (some (11, 0)))), some (.inl x3), some (.inl (x4 + 1))]) (S1 := []) (w1 := setV w 6 0 ((x3 * 160) + x4) (atV w 10 0 x4)) (P := True) [(.iinc 4 1, 0, 0, 1, 0), (.goto (-32), 0, 0, 0, 0)] (by decide +kernel) rfl trivial ?_
      exact GE_weak [true, true, true, true, true] (ih (x4 + 1) (setV w 6 0 ((x3 * 160) + x4) (atV w 10 0 x4)))
noncomputable def h_X3_add_46 (x3 : Int32) (k83 : Mem → Option (Int32 × Mem)) : Nat → Int32 → Mem → Option (Int32 × Mem)
  | 0, _, _ => none
  | n + 1, x4, w => if x4 < 3 then ((h_X3_add_46 x3 k83 n) (x4 + 1) (setV w 7 0 ((x3 * 3) + x4) ((x3 * 160) + (atV w 11 0 x4)))) else (k83 w)
set_option maxRecDepth 100000 in
theorem h_X3_add_46_ok (l : Launch) (X : XC) {N9 : Nat} (hN : 39 ≤ N9) (x3 : Int32) (k83 : Mem → Option (Int32 × Mem))  (hk83 : ∀  (w : Mem), GE l X mm_X3_add 1 emI N9 flT (k83 w) 83 [some (.inr (.inr (some (3, 0)))), none, none, some (.inl x3), none] [] w) : ∀ (n : Nat) (x4 : Int32) (w : Mem), GE l X mm_X3_add 1 emI N9 flT ((h_X3_add_46 x3 k83 n) x4 w) 46 [some (.inr (.inr (some (3, 0)))), none, some (.inr (.inr (some (11, 0)))), some (.inl x3), some (.inl x4)] [] w := by
  intro n
  induction n with
  | zero => intro x4 w; exact GE_none
  | succ n ih =>
    intro x4 w
    unfold h_X3_add_46
    refine GE_run (flG_T hN) (pc1 := 49) (L1 := [some (.inr (.inr (some (3, 0)))), none, some (.inr (.inr (some (11, 0)))), some (.inl x3), some (.inl x4)]) (S1 := [.inl 3, .inl x4]) (w1 := w) (P := True) [(.iload 4, 0, 0, 0, 0), (.iconst 3, 0, 0, 3, 0)] (by decide +kernel) rfl trivial ?_
    refine GE_icmpN (k := .ge) (off := 34) (tgt := 83) (by decide +kernel) (by decide) (cnd_ge _ _) (fun c3 => ?_) (fun c3 => ?_)
    · exact GE_weak [true, false, false, true, false] (hk83 w)
    · refine GE_run (flG_T hN) (pc1 := 70) (L1 := [some (.inr (.inr (some (3, 0)))), none, some (.inr (.inr (some (11, 0)))), some (.inl x3), some (.inl x4)]) (S1 := [.inl x4, .inr (.inr (some (11, 0))), .inl (x3 * 160), .inl ((x3 * 3) + x4), .inr (.inr (some (7, 0)))]) (w1 := w) (P := True) [(.aload_n 0, 0, 0, 0, 0), (.getfield 15, 3, 2, 0, 0), (.iload_n 3, 0, 0, 0, 0), (.iconst 3, 0, 0, 3, 0), (.imul, 0, 0, 0, 0), (.iload 4, 0, 0, 0, 0), (.iadd, 0, 0, 0, 0), (.iload_n 3, 0, 0, 0, 0), (.sipush 160, 0, 0, 160, 0), (.imul, 0, 0, 0, 0), (.aload_n 2, 0, 0, 0, 0), (.iload 4, 0, 0, 0, 0)] (by decide +kernel) rfl trivial ?_
      refine GE_callNIp (As := [.inr (.inr (some (11, 0))), .inl x4]) (S := [.inl (x3 * 160), .inl ((x3 * 3) + x4), .inr (.inr (some (7, 0)))]) (p_X4_at l X hN 11 0 x4 (by decide) (okM hN (by decide)) w) ⟨me_X4_at, ms_X4_at, ln_X3_29⟩ (by decide +kernel) rfl (by decide) (by decide) (Nat.le_of_ble_eq_true rfl) ?_
      refine GE_run (flG_T hN) (pc1 := 74) (L1 := [some (.inr (.inr (some (3, 0)))), none, some (.inr (.inr (some (11, 0)))), some (.inl x3), some (.inl x4)]) (S1 := [.inl ((x3 * 160) + (atV w 11 0 x4)), .inl ((x3 * 3) + x4), .inr (.inr (some (7, 0)))]) (w1 := w) (P := True) [(.iadd, 0, 0, 0, 0)] (by decide +kernel) rfl trivial ?_
      refine GE_callNVp (As := [.inr (.inr (some (7, 0))), .inl ((x3 * 3) + x4), .inl ((x3 * 160) + (atV w 11 0 x4))]) (S := []) (p_X4_set l X hN 7 0 ((x3 * 3) + x4) ((x3 * 160) + (atV w 11 0 x4)) (by decide) (okM hN (by decide)) w) ⟨me_X4_set, ms_X4_set, ln_X3_21⟩ (by decide +kernel) rfl (by decide) (by decide) (Nat.le_of_ble_eq_true rfl) ?_
      refine GE_run (flG_T hN) (pc1 := 46) (L1 := [some (.inr (.inr (some (3, 0)))), none, some (.inr (.inr (some (11, 0)))), some (.inl x3), some (.inl (x4 + 1))]) (S1 := []) (w1 := setV w 7 0 ((x3 * 3) + x4) ((x3 * 160) + (atV w 11 0 x4))) (P := True) [(.iinc 4 1, 0, 0, 1, 0), (.goto (-34), 0, 0, 0, 0)] (by decide +kernel) rfl trivial ?_
      exact GE_weak [true, false, true, true, true] (ih (x4 + 1) (setV w 7 0 ((x3 * 3) + x4) ((x3 * 160) + (atV w 11 0 x4))))
noncomputable def f_X3_add  (w : Mem) : Option (Int32 × Mem) := h_X3_add_8 (w 3 0 0) (fun w2 => h_X3_add_46 (w 3 0 0) (fun w4 => some (w 3 0 0, up w4 3 0 0 ((w4 3 0 0) + 1))) FU 0 w2) FU 0 w
set_option maxRecDepth 100000 in
theorem t_X3_add (l : Launch) (X : XC) {N9 : Nat} (hN : 39 ≤ N9)   (w : Mem) : Ct l X 1 yX3_add cX3_add 5 (some .int) emI [.inr (.inr (some (3, 0))), .inr (.inr (some (10, 0))), .inr (.inr (some (11, 0)))] N9 flT w (f_X3_add  w) := by
  refine Ct_of (mi := mm_X3_add) (mik_X3 _ _ _) me_X3_add rfl (okAs_cons (okMV hN (by decide)) (okAs_cons (okMV hN (by decide)) (okAs_cons (okMV hN (by decide)) okAs_nil))) (Nat.le_of_ble_eq_true rfl) ?_
  unfold f_X3_add
  refine GE_run (flG_T hN) (pc1 := 8) (L1 := [some (.inr (.inr (some (3, 0)))), some (.inr (.inr (some (10, 0)))), some (.inr (.inr (some (11, 0)))), some (.inl (w 3 0 0)), some (.inl 0)]) (S1 := []) (w1 := w) (P := True) [(.aload_n 0, 0, 0, 0, 0), (.getfield 25, 3, 0, 0, 0), (.istore_n 3, 0, 0, 0, 0), (.iconst 0, 0, 0, 0, 0), (.istore 4, 0, 0, 0, 0)] (by decide +kernel) rfl trivial ?_
  refine GE_weak [true, true, true, true, true] (h_X3_add_8_ok l X hN (w 3 0 0) _ ?_ FU 0 w)
  · intro w2
    refine GE_run (flG_T hN) (pc1 := 46) (L1 := [some (.inr (.inr (some (3, 0)))), none, some (.inr (.inr (some (11, 0)))), some (.inl (w 3 0 0)), some (.inl 0)]) (S1 := []) (w1 := w2) (P := True) [(.iconst 0, 0, 0, 0, 0), (.istore 4, 0, 0, 0, 0)] (by decide +kernel) rfl trivial ?_
    refine GE_weak [true, false, true, true, true] (h_X3_add_46_ok l X hN (w 3 0 0) _ ?_ FU 0 w2)
    · intro w4
      refine GE_run (flG_T hN) (pc1 := 94) (L1 := [some (.inr (.inr (some (3, 0)))), none, none, some (.inl (w 3 0 0)), none]) (S1 := [.inl (w 3 0 0)]) (w1 := up w4 3 0 0 ((w4 3 0 0) + 1)) (P := True) [(.aload_n 0, 0, 0, 0, 0), (.dup, 0, 0, 0, 0), (.getfield 25, 3, 0, 0, 0), (.iconst 1, 0, 0, 1, 0), (.iadd, 0, 0, 0, 0), (.putfield 25, 3, 0, 0, 0), (.iload_n 3, 0, 0, 0, 0)] (by decide +kernel) rfl trivial ?_
      exact GE_iret rfl (by decide +kernel)
abbrev mm_X2_becomes : MI := (RX2, cX2_becomes, 4, none, ftp_X2.map (fun q => q.1), ctp_X2.map (fun q => q.1), clp_X2.map (fun q => q.1))
noncomputable def h_X2_becomes_12 (i : Nat) (k33 : Mem → Option (Mem)) : Nat → Int32 → Mem → Option (Mem)
  | 0, _, _ => none
  | n + 1, x3, w => if x3 < 40 then ((h_X2_becomes_12 i k33 n) (x3 + 1) (setV w 19 i x3 0)) else (k33 w)
set_option maxRecDepth 100000 in
theorem h_X2_becomes_12_ok (l : Launch) (X : XC) {N9 : Nat} (hN : 39 ≤ N9) (i : Nat) (k33 : Mem → Option (Mem)) (hi : i < 4) (hk33 : ∀  (w : Mem), GE l X mm_X2_becomes 1 emV N9 flT (k33 w) 33 [none, none, none, none] [] w) : ∀ (n : Nat) (x3 : Int32) (w : Mem), GE l X mm_X2_becomes 1 emV N9 flT ((h_X2_becomes_12 i k33 n) x3 w) 12 [some (.inr (.inr (some (2, i)))), none, none, some (.inl x3)] [] w := by
  intro n
  induction n with
  | zero => intro x3 w; exact GE_none
  | succ n ih =>
    intro x3 w
    unfold h_X2_becomes_12
    refine GE_run (flG_T hN) (pc1 := 15) (L1 := [some (.inr (.inr (some (2, i)))), none, none, some (.inl x3)]) (S1 := [.inl 40, .inl x3]) (w1 := w) (P := True) [(.iload_n 3, 0, 0, 0, 0), (.bipush 40, 0, 0, 40, 0)] (by decide +kernel) rfl trivial ?_
    refine GE_icmpN (k := .ge) (off := 18) (tgt := 33) (by decide +kernel) (by decide) (cnd_ge _ _) (fun c1 => ?_) (fun c1 => ?_)
    · exact GE_weak [false, false, false, false] (hk33 w)
    · refine GE_run (flG_T hN) (pc1 := 24) (L1 := [some (.inr (.inr (some (2, i)))), none, none, some (.inl x3)]) (S1 := [.inl 0, .inl x3, .inr (.inr (some (19, i)))]) (w1 := w) (P := True) [(.aload_n 0, 0, 0, 0, 0), (.getfield 15, 2, 2, 0, 0), (.iload_n 3, 0, 0, 0, 0), (.iconst 0, 0, 0, 0, 0)] (by decide +kernel) rfl trivial ?_
      refine GE_callNVp (As := [.inr (.inr (some (19, i))), .inl x3, .inl 0]) (S := []) (p_X4_set l X hN 19 i x3 0 (by decide) (ok_sheet_19 hN hi) w) ⟨me_X4_set, ms_X4_set, ln_X2_22⟩ (by decide +kernel) rfl (by decide) (by decide) (Nat.le_of_ble_eq_true rfl) ?_
      refine GE_run (flG_T hN) (pc1 := 12) (L1 := [some (.inr (.inr (some (2, i)))), none, none, some (.inl (x3 + 1))]) (S1 := []) (w1 := setV w 19 i x3 0) (P := True) [(.iinc 3 1, 0, 0, 1, 0), (.goto (-18), 0, 0, 0, 0)] (by decide +kernel) rfl trivial ?_
      exact GE_weak [true, false, false, true] (ih (x3 + 1) (setV w 19 i x3 0))
noncomputable def f_X2_becomes (i : Nat) (a1 : Int32) (a2 : Int32) (w : Mem) : Option (Mem) := h_X2_becomes_12 i (fun w2 => some w2) FU 0 (up (up w 2 i 0 a1) 2 i 1 a2)
set_option maxRecDepth 100000 in
theorem t_X2_becomes (l : Launch) (X : XC) {N9 : Nat} (hN : 39 ≤ N9)  (i : Nat) (a1 : Int32) (a2 : Int32) (hi : i < 4) (w : Mem) : Ct l X 1 yX2_becomes cX2_becomes 4 none emV [.inr (.inr (some (2, i))), .inl a1, .inl a2] N9 flT w (f_X2_becomes i a1 a2 w) := by
  refine Ct_of (mi := mm_X2_becomes) (mik_X2 _ _ _) me_X2_becomes rfl (okAs_cons (ok_sheet_2 hN hi) (okAs_cons rfl (okAs_cons rfl okAs_nil))) (Nat.le_of_ble_eq_true rfl) ?_
  unfold f_X2_becomes
  refine GE_run (flG_T hN) (pc1 := 12) (L1 := [some (.inr (.inr (some (2, i)))), some (.inl a1), some (.inl a2), some (.inl 0)]) (S1 := []) (w1 := up (up w 2 i 0 a1) 2 i 1 a2) (P := True) [(.aload_n 0, 0, 0, 0, 0), (.iload_n 1, 0, 0, 0, 0), (.putfield 9, 2, 0, 0, 0), (.aload_n 0, 0, 0, 0, 0), (.iload_n 2, 0, 0, 0, 0), (.putfield 19, 2, 1, 0, 0), (.iconst 0, 0, 0, 0, 0), (.istore_n 3, 0, 0, 0, 0)] (by decide +kernel) rfl trivial ?_
  refine GE_weak [true, false, false, true] (h_X2_becomes_12_ok l X hN i _ hi ?_ FU 0 (up (up w 2 i 0 a1) 2 i 1 a2))
  · intro w2
    exact GE_vret rfl (by decide +kernel)
abbrev mm_X2_write : MI := (RX2, cX2_write, 3, none, ftp_X2.map (fun q => q.1), ctp_X2.map (fun q => q.1), clp_X2.map (fun q => q.1))
noncomputable def f_X2_write (i : Nat) (a1 : Int32) (a2 : Int32) (w : Mem) : Option (Mem) := if (w 2 i 0) = 0 then (some (setV w 19 i a1 (Int8.toInt32 (Int32.toInt8 a2)))) else (if (w 2 i 0) = 1 then (some (setV w 19 i a1 (Int16.toInt32 (Int32.toInt16 a2)))) else (some (setV w 19 i a1 a2)))
set_option maxRecDepth 100000 in
theorem t_X2_write (l : Launch) (X : XC) {N9 : Nat} (hN : 39 ≤ N9)  (i : Nat) (a1 : Int32) (a2 : Int32) (hi : i < 4) (w : Mem) : Ct l X 1 yX2_write cX2_write 3 none emV [.inr (.inr (some (2, i))), .inl a1, .inl a2] N9 flT w (f_X2_write i a1 a2 w) := by
  refine Ct_of (mi := mm_X2_write) (mik_X2 _ _ _) me_X2_write rfl (okAs_cons (ok_sheet_2 hN hi) (okAs_cons rfl (okAs_cons rfl okAs_nil))) (Nat.le_of_ble_eq_true rfl) ?_
  unfold f_X2_write
  refine GE_run (flG_T hN) (pc1 := 9) (L1 := [some (.inr (.inr (some (2, i)))), some (.inl a1), some (.inl a2)]) (S1 := [.inl (w 2 i 0), .inl a1, .inr (.inr (some (19, i)))]) (w1 := w) (P := True) [(.aload_n 0, 0, 0, 0, 0), (.getfield 15, 2, 2, 0, 0), (.iload_n 1, 0, 0, 0, 0), (.aload_n 0, 0, 0, 0, 0), (.getfield 9, 2, 0, 0, 0)] (by decide +kernel) rfl trivial ?_
  refine GE_ifN (k := .ne) (off := 8) (tgt := 17) (by decide +kernel) (by decide) (cnd_ne _ _) (fun c1 => ?_) (fun c1 => ?_)
  · refine GE_run (flG_T hN) (pc1 := 22) (L1 := [some (.inr (.inr (some (2, i)))), some (.inl a1), some (.inl a2)]) (S1 := [.inl 1, .inl (w 2 i 0), .inl a1, .inr (.inr (some (19, i)))]) (w1 := w) (P := True) [(.aload_n 0, 0, 0, 0, 0), (.getfield 9, 2, 0, 0, 0), (.iconst 1, 0, 0, 1, 0)] (by decide +kernel) rfl trivial ?_
    refine GE_icmpN (k := .ne) (off := 8) (tgt := 30) (by decide +kernel) (by decide) (cnd_ne _ _) (fun c2 => ?_) (fun c2 => ?_)
    · refine GE_run (flG_T hN) (pc1 := 31) (L1 := [some (.inr (.inr (some (2, i)))), some (.inl a1), some (.inl a2)]) (S1 := [.inl a2, .inl a1, .inr (.inr (some (19, i)))]) (w1 := w) (P := True) [(.iload_n 2, 0, 0, 0, 0)] (by decide +kernel) rfl trivial ?_
      refine GE_callNVp (As := [.inr (.inr (some (19, i))), .inl a1, .inl a2]) (S := []) (p_X4_set l X hN 19 i a1 a2 (by decide) (ok_sheet_19 hN hi) w) ⟨me_X4_set, ms_X4_set, ln_X2_22⟩ (by decide +kernel) rfl (by decide) (by decide) (Nat.le_of_ble_eq_true rfl) ?_
      exact GE_vret rfl (by decide +kernel)
    · refine GE_run (flG_T hN) (pc1 := 31) (L1 := [some (.inr (.inr (some (2, i)))), some (.inl a1), some (.inl a2)]) (S1 := [.inl (Int16.toInt32 (Int32.toInt16 a2)), .inl a1, .inr (.inr (some (19, i)))]) (w1 := w) (P := True) [(.iload_n 2, 0, 0, 0, 0), (.i2s, 0, 0, 0, 0), (.goto 4, 0, 0, 0, 0)] (by decide +kernel) rfl trivial ?_
      refine GE_callNVp (As := [.inr (.inr (some (19, i))), .inl a1, .inl (Int16.toInt32 (Int32.toInt16 a2))]) (S := []) (p_X4_set l X hN 19 i a1 (Int16.toInt32 (Int32.toInt16 a2)) (by decide) (ok_sheet_19 hN hi) w) ⟨me_X4_set, ms_X4_set, ln_X2_22⟩ (by decide +kernel) rfl (by decide) (by decide) (Nat.le_of_ble_eq_true rfl) ?_
      exact GE_vret rfl (by decide +kernel)
  · refine GE_run (flG_T hN) (pc1 := 31) (L1 := [some (.inr (.inr (some (2, i)))), some (.inl a1), some (.inl a2)]) (S1 := [.inl (Int8.toInt32 (Int32.toInt8 a2)), .inl a1, .inr (.inr (some (19, i)))]) (w1 := w) (P := True) [(.iload_n 2, 0, 0, 0, 0), (.i2b, 0, 0, 0, 0), (.goto 17, 0, 0, 0, 0)] (by decide +kernel) rfl trivial ?_
    refine GE_callNVp (As := [.inr (.inr (some (19, i))), .inl a1, .inl (Int8.toInt32 (Int32.toInt8 a2))]) (S := []) (p_X4_set l X hN 19 i a1 (Int8.toInt32 (Int32.toInt8 a2)) (by decide) (ok_sheet_19 hN hi) w) ⟨me_X4_set, ms_X4_set, ln_X2_22⟩ (by decide +kernel) rfl (by decide) (by decide) (Nat.le_of_ble_eq_true rfl) ?_
    exact GE_vret rfl (by decide +kernel)
abbrev mm_X0_become : MI := (RX0, cX0_become, 3, none, ftp_X0.map (fun q => q.1), ctp_X0.map (fun q => q.1), clp_X0.map (fun q => q.1))
noncomputable def h_X0_become_39 (i : Nat) (i1 : Nat) (k131 : Mem → Option (Mem)) : Nat → Int32 → Mem → Option (Mem)
  | 0, _, _ => none
  | n + 1, x2, w => if x2 < 6 then ((h_X0_become_39 i i1 k131 n) (x2 + 1) (setV (setV (setV (setV (setV w 13 i x2 (atV w 13 i1 x2)) 14 i x2 (atV (setV w 13 i x2 (atV w 13 i1 x2)) 14 i1 x2)) 15 i x2 (atV (setV (setV w 13 i x2 (atV w 13 i1 x2)) 14 i x2 (atV (setV w 13 i x2 (atV w 13 i1 x2)) 14 i1 x2)) 15 i1 x2)) 16 i x2 (atV (setV (setV (setV w 13 i x2 (atV w 13 i1 x2)) 14 i x2 (atV (setV w 13 i x2 (atV w 13 i1 x2)) 14 i1 x2)) 15 i x2 (atV (setV (setV w 13 i x2 (atV w 13 i1 x2)) 14 i x2 (atV (setV w 13 i x2 (atV w 13 i1 x2)) 14 i1 x2)) 15 i1 x2)) 16 i1 x2)) 17 i x2 (atV (setV (setV (setV (setV w 13 i x2 (atV w 13 i1 x2)) 14 i x2 (atV (setV w 13 i x2 (atV w 13 i1 x2)) 14 i1 x2)) 15 i x2 (atV (setV (setV w 13 i x2 (atV w 13 i1 x2)) 14 i x2 (atV (setV w 13 i x2 (atV w 13 i1 x2)) 14 i1 x2)) 15 i1 x2)) 16 i x2 (atV (setV (setV (setV w 13 i x2 (atV w 13 i1 x2)) 14 i x2 (atV (setV w 13 i x2 (atV w 13 i1 x2)) 14 i1 x2)) 15 i x2 (atV (setV (setV w 13 i x2 (atV w 13 i1 x2)) 14 i x2 (atV (setV w 13 i x2 (atV w 13 i1 x2)) 14 i1 x2)) 15 i1 x2)) 16 i1 x2)) 17 i1 x2))) else (k131 w)
set_option maxRecDepth 100000 in
theorem h_X0_become_39_ok (l : Launch) (X : XC) {N9 : Nat} (hN : 39 ≤ N9) (i : Nat) (i1 : Nat) (k131 : Mem → Option (Mem)) (hi : i < 3) (hi1 : i1 < 3) (hk131 : ∀  (w : Mem), GE l X mm_X0_become 1 emV N9 flT (k131 w) 131 [none, none, none] [] w) : ∀ (n : Nat) (x2 : Int32) (w : Mem), GE l X mm_X0_become 1 emV N9 flT ((h_X0_become_39 i i1 k131 n) x2 w) 39 [some (.inr (.inr (some (0, i)))), some (.inr (.inr (some (0, i1)))), some (.inl x2)] [] w := by
  intro n
  induction n with
  | zero => intro x2 w; exact GE_none
  | succ n ih =>
    intro x2 w
    unfold h_X0_become_39
    refine GE_run (flG_T hN) (pc1 := 42) (L1 := [some (.inr (.inr (some (0, i)))), some (.inr (.inr (some (0, i1)))), some (.inl x2)]) (S1 := [.inl 6, .inl x2]) (w1 := w) (P := True) [(.iload_n 2, 0, 0, 0, 0), (.bipush 6, 0, 0, 6, 0)] (by decide +kernel) rfl trivial ?_
    refine GE_icmpN (k := .ge) (off := 89) (tgt := 131) (by decide +kernel) (by decide) (cnd_ge _ _) (fun c1 => ?_) (fun c1 => ?_)
    · exact GE_weak [false, false, false] (hk131 w)
    · refine GE_run (flG_T hN) (pc1 := 55) (L1 := [some (.inr (.inr (some (0, i)))), some (.inr (.inr (some (0, i1)))), some (.inl x2)]) (S1 := [.inl x2, .inr (.inr (some (13, i1))), .inl x2, .inr (.inr (some (13, i)))]) (w1 := w) (P := True) [(.aload_n 0, 0, 0, 0, 0), (.getfield 15, 0, 6, 0, 0), (.iload_n 2, 0, 0, 0, 0), (.aload_n 1, 0, 0, 0, 0), (.getfield 15, 0, 6, 0, 0), (.iload_n 2, 0, 0, 0, 0)] (by decide +kernel) rfl trivial ?_
      refine GE_callNIp (As := [.inr (.inr (some (13, i1))), .inl x2]) (S := [.inl x2, .inr (.inr (some (13, i)))]) (p_X4_at l X hN 13 i1 x2 (by decide) (ok_coast_13 hN hi1) w) ⟨me_X4_at, ms_X4_at, ln_X0_47⟩ (by decide +kernel) rfl (by decide) (by decide) (Nat.le_of_ble_eq_true rfl) ?_
      refine GE_callNVp (As := [.inr (.inr (some (13, i))), .inl x2, .inl (atV w 13 i1 x2)]) (S := []) (p_X4_set l X hN 13 i x2 (atV w 13 i1 x2) (by decide) (ok_coast_13 hN hi) w) ⟨me_X4_set, ms_X4_set, ln_X0_51⟩ (by decide +kernel) rfl (by decide) (by decide) (Nat.le_of_ble_eq_true rfl) ?_
      refine GE_run (flG_T hN) (pc1 := 71) (L1 := [some (.inr (.inr (some (0, i)))), some (.inr (.inr (some (0, i1)))), some (.inl x2)]) (S1 := [.inl x2, .inr (.inr (some (14, i1))), .inl x2, .inr (.inr (some (14, i)))]) (w1 := setV w 13 i x2 (atV w 13 i1 x2)) (P := True) [(.aload_n 0, 0, 0, 0, 0), (.getfield 18, 0, 7, 0, 0), (.iload_n 2, 0, 0, 0, 0), (.aload_n 1, 0, 0, 0, 0), (.getfield 18, 0, 7, 0, 0), (.iload_n 2, 0, 0, 0, 0)] (by decide +kernel) rfl trivial ?_
      refine GE_callNIp (As := [.inr (.inr (some (14, i1))), .inl x2]) (S := [.inl x2, .inr (.inr (some (14, i)))]) (p_X4_at l X hN 14 i1 x2 (by decide) (ok_coast_14 hN hi1) (setV w 13 i x2 (atV w 13 i1 x2))) ⟨me_X4_at, ms_X4_at, ln_X0_47⟩ (by decide +kernel) rfl (by decide) (by decide) (Nat.le_of_ble_eq_true rfl) ?_
      refine GE_callNVp (As := [.inr (.inr (some (14, i))), .inl x2, .inl (atV (setV w 13 i x2 (atV w 13 i1 x2)) 14 i1 x2)]) (S := []) (p_X4_set l X hN 14 i x2 (atV (setV w 13 i x2 (atV w 13 i1 x2)) 14 i1 x2) (by decide) (ok_coast_14 hN hi) (setV w 13 i x2 (atV w 13 i1 x2))) ⟨me_X4_set, ms_X4_set, ln_X0_51⟩ (by decide +kernel) rfl (by decide) (by decide) (Nat.le_of_ble_eq_true rfl) ?_
      refine GE_run (flG_T hN) (pc1 := 87) (L1 := [some (.inr (.inr (some (0, i)))), some (.inr (.inr (some (0, i1)))), some (.inl x2)]) (S1 := [.inl x2, .inr (.inr (some (15, i1))), .inl x2, .inr (.inr (some (15, i)))]) (w1 := setV (setV w 13 i x2 (atV w 13 i1 x2)) 14 i x2 (atV (setV w 13 i x2 (atV w 13 i1 x2)) 14 i1 x2)) (P := True) [(.aload_n 0, 0, 0, 0, 0), (.getfield 21, 0, 8, 0, 0), (.iload_n 2, 0, 0, 0, 0), (.aload_n 1, 0, 0, 0, 0), (.getfield 21, 0, 8, 0, 0), (.iload_n 2, 0, 0, 0, 0)] (by decide +kernel) rfl trivial ?_
      refine GE_callNIp (As := [.inr (.inr (some (15, i1))), .inl x2]) (S := [.inl x2, .inr (.inr (some (15, i)))]) (p_X4_at l X hN 15 i1 x2 (by decide) (ok_coast_15 hN hi1) (setV (setV w 13 i x2 (atV w 13 i1 x2)) 14 i x2 (atV (setV w 13 i x2 (atV w 13 i1 x2)) 14 i1 x2))) ⟨me_X4_at, ms_X4_at, ln_X0_47⟩ (by decide +kernel) rfl (by decide) (by decide) (Nat.le_of_ble_eq_true rfl) ?_
      refine GE_callNVp (As := [.inr (.inr (some (15, i))), .inl x2, .inl (atV (setV (setV w 13 i x2 (atV w 13 i1 x2)) 14 i x2 (atV (setV w 13 i x2 (atV w 13 i1 x2)) 14 i1 x2)) 15 i1 x2)]) (S := []) (p_X4_set l X hN 15 i x2 (atV (setV (setV w 13 i x2 (atV w 13 i1 x2)) 14 i x2 (atV (setV w 13 i x2 (atV w 13 i1 x2)) 14 i1 x2)) 15 i1 x2) (by decide) (ok_coast_15 hN hi) (setV (setV w 13 i x2 (atV w 13 i1 x2)) 14 i x2 (atV (setV w 13 i x2 (atV w 13 i1 x2)) 14 i1 x2))) ⟨me_X4_set, ms_X4_set, ln_X0_51⟩ (by decide +kernel) rfl (by decide) (by decide) (Nat.le_of_ble_eq_true rfl) ?_
      refine GE_run (flG_T hN) (pc1 := 103) (L1 := [some (.inr (.inr (some (0, i)))), some (.inr (.inr (some (0, i1)))), some (.inl x2)]) (S1 := [.inl x2, .inr (.inr (some (16, i1))), .inl x2, .inr (.inr (some (16, i)))]) (w1 := setV (setV (setV w 13 i x2 (atV w 13 i1 x2)) 14 i x2 (atV (setV w 13 i x2 (atV w 13 i1 x2)) 14 i1 x2)) 15 i x2 (atV (setV (setV w 13 i x2 (atV w 13 i1 x2)) 14 i x2 (atV (setV w 13 i x2 (atV w 13 i1 x2)) 14 i1 x2)) 15 i1 x2)) (P := True) [(.aload_n 0, 0, 0, 0, 0), (.getfield 24, 0, 9, 0, 0), (.iload_n 2, 0, 0, 0, 0), (.aload_n 1, 0, 0, 0, 0), (.getfield 24, 0, 9, 0, 0), (.iload_n 2, 0, 0, 0, 0)] (by decide +kernel) rfl trivial ?_
      refine GE_callNIp (As := [.inr (.inr (some (16, i1))), .inl x2]) (S := [.inl x2, .inr (.inr (some (16, i)))]) (p_X4_at l X hN 16 i1 x2 (by decide) (ok_coast_16 hN hi1) (setV (setV (setV w 13 i x2 (atV w 13 i1 x2)) 14 i x2 (atV (setV w 13 i x2 (atV w 13 i1 x2)) 14 i1 x2)) 15 i x2 (atV (setV (setV w 13 i x2 (atV w 13 i1 x2)) 14 i x2 (atV (setV w 13 i x2 (atV w 13 i1 x2)) 14 i1 x2)) 15 i1 x2))) ⟨me_X4_at, ms_X4_at, ln_X0_47⟩ (by decide +kernel) rfl (by decide) (by decide) (Nat.le_of_ble_eq_true rfl) ?_
      refine GE_callNVp (As := [.inr (.inr (some (16, i))), .inl x2, .inl (atV (setV (setV (setV w 13 i x2 (atV w 13 i1 x2)) 14 i x2 (atV (setV w 13 i x2 (atV w 13 i1 x2)) 14 i1 x2)) 15 i x2 (atV (setV (setV w 13 i x2 (atV w 13 i1 x2)) 14 i x2 (atV (setV w 13 i x2 (atV w 13 i1 x2)) 14 i1 x2)) 15 i1 x2)) 16 i1 x2)]) (S := []) (p_X4_set l X hN 16 i x2 (atV (setV (setV (setV w 13 i x2 (atV w 13 i1 x2)) 14 i x2 (atV (setV w 13 i x2 (atV w 13 i1 x2)) 14 i1 x2)) 15 i x2 (atV (setV (setV w 13 i x2 (atV w 13 i1 x2)) 14 i x2 (atV (setV w 13 i x2 (atV w 13 i1 x2)) 14 i1 x2)) 15 i1 x2)) 16 i1 x2) (by decide) (ok_coast_16 hN hi) (setV (setV (setV w 13 i x2 (atV w 13 i1 x2)) 14 i x2 (atV (setV w 13 i x2 (atV w 13 i1 x2)) 14 i1 x2)) 15 i x2 (atV (setV (setV w 13 i x2 (atV w 13 i1 x2)) 14 i x2 (atV (setV w 13 i x2 (atV w 13 i1 x2)) 14 i1 x2)) 15 i1 x2))) ⟨me_X4_set, ms_X4_set, ln_X0_51⟩ (by decide +kernel) rfl (by decide) (by decide) (Nat.le_of_ble_eq_true rfl) ?_
      refine GE_run (flG_T hN) (pc1 := 119) (L1 := [some (.inr (.inr (some (0, i)))), some (.inr (.inr (some (0, i1)))), some (.inl x2)]) (S1 := [.inl x2, .inr (.inr (some (17, i1))), .inl x2, .inr (.inr (some (17, i)))]) (w1 := setV (setV (setV (setV w 13 i x2 (atV w 13 i1 x2)) 14 i x2 (atV (setV w 13 i x2 (atV w 13 i1 x2)) 14 i1 x2)) 15 i x2 (atV (setV (setV w 13 i x2 (atV w 13 i1 x2)) 14 i x2 (atV (setV w 13 i x2 (atV w 13 i1 x2)) 14 i1 x2)) 15 i1 x2)) 16 i x2 (atV (setV (setV (setV w 13 i x2 (atV w 13 i1 x2)) 14 i x2 (atV (setV w 13 i x2 (atV w 13 i1 x2)) 14 i1 x2)) 15 i x2 (atV (setV (setV w 13 i x2 (atV w 13 i1 x2)) 14 i x2 (atV (setV w 13 i x2 (atV w 13 i1 x2)) 14 i1 x2)) 15 i1 x2)) 16 i1 x2)) (P := True) [(.aload_n 0, 0, 0, 0, 0), (.getfield 27, 0, 10, 0, 0), (.iload_n 2, 0, 0, 0, 0), (.aload_n 1, 0, 0, 0, 0), (.getfield 27, 0, 10, 0, 0), (.iload_n 2, 0, 0, 0, 0)] (by decide +kernel) rfl trivial ?_
      refine GE_callNIp (As := [.inr (.inr (some (17, i1))), .inl x2]) (S := [.inl x2, .inr (.inr (some (17, i)))]) (p_X4_at l X hN 17 i1 x2 (by decide) (ok_coast_17 hN hi1) (setV (setV (setV (setV w 13 i x2 (atV w 13 i1 x2)) 14 i x2 (atV (setV w 13 i x2 (atV w 13 i1 x2)) 14 i1 x2)) 15 i x2 (atV (setV (setV w 13 i x2 (atV w 13 i1 x2)) 14 i x2 (atV (setV w 13 i x2 (atV w 13 i1 x2)) 14 i1 x2)) 15 i1 x2)) 16 i x2 (atV (setV (setV (setV w 13 i x2 (atV w 13 i1 x2)) 14 i x2 (atV (setV w 13 i x2 (atV w 13 i1 x2)) 14 i1 x2)) 15 i x2 (atV (setV (setV w 13 i x2 (atV w 13 i1 x2)) 14 i x2 (atV (setV w 13 i x2 (atV w 13 i1 x2)) 14 i1 x2)) 15 i1 x2)) 16 i1 x2))) ⟨me_X4_at, ms_X4_at, ln_X0_47⟩ (by decide +kernel) rfl (by decide) (by decide) (Nat.le_of_ble_eq_true rfl) ?_
      refine GE_callNVp (As := [.inr (.inr (some (17, i))), .inl x2, .inl (atV (setV (setV (setV (setV w 13 i x2 (atV w 13 i1 x2)) 14 i x2 (atV (setV w 13 i x2 (atV w 13 i1 x2)) 14 i1 x2)) 15 i x2 (atV (setV (setV w 13 i x2 (atV w 13 i1 x2)) 14 i x2 (atV (setV w 13 i x2 (atV w 13 i1 x2)) 14 i1 x2)) 15 i1 x2)) 16 i x2 (atV (setV (setV (setV w 13 i x2 (atV w 13 i1 x2)) 14 i x2 (atV (setV w 13 i x2 (atV w 13 i1 x2)) 14 i1 x2)) 15 i x2 (atV (setV (setV w 13 i x2 (atV w 13 i1 x2)) 14 i x2 (atV (setV w 13 i x2 (atV w 13 i1 x2)) 14 i1 x2)) 15 i1 x2)) 16 i1 x2)) 17 i1 x2)]) (S := []) (p_X4_set l X hN 17 i x2 (atV (setV (setV (setV (setV w 13 i x2 (atV w 13 i1 x2)) 14 i x2 (atV (setV w 13 i x2 (atV w 13 i1 x2)) 14 i1 x2)) 15 i x2 (atV (setV (setV w 13 i x2 (atV w 13 i1 x2)) 14 i x2 (atV (setV w 13 i x2 (atV w 13 i1 x2)) 14 i1 x2)) 15 i1 x2)) 16 i x2 (atV (setV (setV (setV w 13 i x2 (atV w 13 i1 x2)) 14 i x2 (atV (setV w 13 i x2 (atV w 13 i1 x2)) 14 i1 x2)) 15 i x2 (atV (setV (setV w 13 i x2 (atV w 13 i1 x2)) 14 i x2 (atV (setV w 13 i x2 (atV w 13 i1 x2)) 14 i1 x2)) 15 i1 x2)) 16 i1 x2)) 17 i1 x2) (by decide) (ok_coast_17 hN hi) (setV (setV (setV (setV w 13 i x2 (atV w 13 i1 x2)) 14 i x2 (atV (setV w 13 i x2 (atV w 13 i1 x2)) 14 i1 x2)) 15 i x2 (atV (setV (setV w 13 i x2 (atV w 13 i1 x2)) 14 i x2 (atV (setV w 13 i x2 (atV w 13 i1 x2)) 14 i1 x2)) 15 i1 x2)) 16 i x2 (atV (setV (setV (setV w 13 i x2 (atV w 13 i1 x2)) 14 i x2 (atV (setV w 13 i x2 (atV w 13 i1 x2)) 14 i1 x2)) 15 i x2 (atV (setV (setV w 13 i x2 (atV w 13 i1 x2)) 14 i x2 (atV (setV w 13 i x2 (atV w 13 i1 x2)) 14 i1 x2)) 15 i1 x2)) 16 i1 x2))) ⟨me_X4_set, ms_X4_set, ln_X0_51⟩ (by decide +kernel) rfl (by decide) (by decide) (Nat.le_of_ble_eq_true rfl) ?_
      refine GE_run (flG_T hN) (pc1 := 39) (L1 := [some (.inr (.inr (some (0, i)))), some (.inr (.inr (some (0, i1)))), some (.inl (x2 + 1))]) (S1 := []) (w1 := setV (setV (setV (setV (setV w 13 i x2 (atV w 13 i1 x2)) 14 i x2 (atV (setV w 13 i x2 (atV w 13 i1 x2)) 14 i1 x2)) 15 i x2 (atV (setV (setV w 13 i x2 (atV w 13 i1 x2)) 14 i x2 (atV (setV w 13 i x2 (atV w 13 i1 x2)) 14 i1 x2)) 15 i1 x2)) 16 i x2 (atV (setV (setV (setV w 13 i x2 (atV w 13 i1 x2)) 14 i x2 (atV (setV w 13 i x2 (atV w 13 i1 x2)) 14 i1 x2)) 15 i x2 (atV (setV (setV w 13 i x2 (atV w 13 i1 x2)) 14 i x2 (atV (setV w 13 i x2 (atV w 13 i1 x2)) 14 i1 x2)) 15 i1 x2)) 16 i1 x2)) 17 i x2 (atV (setV (setV (setV (setV w 13 i x2 (atV w 13 i1 x2)) 14 i x2 (atV (setV w 13 i x2 (atV w 13 i1 x2)) 14 i1 x2)) 15 i x2 (atV (setV (setV w 13 i x2 (atV w 13 i1 x2)) 14 i x2 (atV (setV w 13 i x2 (atV w 13 i1 x2)) 14 i1 x2)) 15 i1 x2)) 16 i x2 (atV (setV (setV (setV w 13 i x2 (atV w 13 i1 x2)) 14 i x2 (atV (setV w 13 i x2 (atV w 13 i1 x2)) 14 i1 x2)) 15 i x2 (atV (setV (setV w 13 i x2 (atV w 13 i1 x2)) 14 i x2 (atV (setV w 13 i x2 (atV w 13 i1 x2)) 14 i1 x2)) 15 i1 x2)) 16 i1 x2)) 17 i1 x2)) (P := True) [(.iinc 2 1, 0, 0, 1, 0), (.goto (-89), 0, 0, 0, 0)] (by decide +kernel) rfl trivial ?_
      exact GE_weak [true, true, true] (ih (x2 + 1) (setV (setV (setV (setV (setV w 13 i x2 (atV w 13 i1 x2)) 14 i x2 (atV (setV w 13 i x2 (atV w 13 i1 x2)) 14 i1 x2)) 15 i x2 (atV (setV (setV w 13 i x2 (atV w 13 i1 x2)) 14 i x2 (atV (setV w 13 i x2 (atV w 13 i1 x2)) 14 i1 x2)) 15 i1 x2)) 16 i x2 (atV (setV (setV (setV w 13 i x2 (atV w 13 i1 x2)) 14 i x2 (atV (setV w 13 i x2 (atV w 13 i1 x2)) 14 i1 x2)) 15 i x2 (atV (setV (setV w 13 i x2 (atV w 13 i1 x2)) 14 i x2 (atV (setV w 13 i x2 (atV w 13 i1 x2)) 14 i1 x2)) 15 i1 x2)) 16 i1 x2)) 17 i x2 (atV (setV (setV (setV (setV w 13 i x2 (atV w 13 i1 x2)) 14 i x2 (atV (setV w 13 i x2 (atV w 13 i1 x2)) 14 i1 x2)) 15 i x2 (atV (setV (setV w 13 i x2 (atV w 13 i1 x2)) 14 i x2 (atV (setV w 13 i x2 (atV w 13 i1 x2)) 14 i1 x2)) 15 i1 x2)) 16 i x2 (atV (setV (setV (setV w 13 i x2 (atV w 13 i1 x2)) 14 i x2 (atV (setV w 13 i x2 (atV w 13 i1 x2)) 14 i1 x2)) 15 i x2 (atV (setV (setV w 13 i x2 (atV w 13 i1 x2)) 14 i x2 (atV (setV w 13 i x2 (atV w 13 i1 x2)) 14 i1 x2)) 15 i1 x2)) 16 i1 x2)) 17 i1 x2)))
noncomputable def f_X0_become (i : Nat) (i1 : Nat) (w : Mem) : Option (Mem) := h_X0_become_39 i i1 (fun w2 => some w2) FU 0 (up (up (up (up w 0 i 2 (w 0 i1 2)) 0 i 3 ((up w 0 i 2 (w 0 i1 2)) 0 i1 3)) 0 i 4 ((up (up w 0 i 2 (w 0 i1 2)) 0 i 3 ((up w 0 i 2 (w 0 i1 2)) 0 i1 3)) 0 i1 4)) 0 i 5 ((up (up (up w 0 i 2 (w 0 i1 2)) 0 i 3 ((up w 0 i 2 (w 0 i1 2)) 0 i1 3)) 0 i 4 ((up (up w 0 i 2 (w 0 i1 2)) 0 i 3 ((up w 0 i 2 (w 0 i1 2)) 0 i1 3)) 0 i1 4)) 0 i1 5))
set_option maxRecDepth 100000 in
theorem t_X0_become (l : Launch) (X : XC) {N9 : Nat} (hN : 39 ≤ N9)  (i : Nat) (i1 : Nat) (hi : i < 3) (hi1 : i1 < 3) (w : Mem) : Ct l X 1 yX0_become cX0_become 3 none emV [.inr (.inr (some (0, i))), .inr (.inr (some (0, i1)))] N9 flT w (f_X0_become i i1 w) := by
  refine Ct_of (mi := mm_X0_become) (mik_X0 _ _ _) me_X0_become rfl (okAs_cons (ok_coast_0 hN hi) (okAs_cons (ok_coast_0 hN hi1) okAs_nil)) (Nat.le_of_ble_eq_true rfl) ?_
  unfold f_X0_become
  refine GE_run (flG_T hN) (pc1 := 1) (L1 := [some (.inr (.inr (some (0, i)))), some (.inr (.inr (some (0, i1)))), none]) (S1 := [.inr (.inr (some (0, i1)))]) (w1 := w) (P := True) [(.aload_n 1, 0, 0, 0, 0)] (by decide +kernel) rfl trivial ?_
  refine GE_nonnull1 (off := 4) (tgt := 5) (by decide +kernel) (by decide) ?_
  refine GE_run (flG_T hN) (pc1 := 39) (L1 := [some (.inr (.inr (some (0, i)))), some (.inr (.inr (some (0, i1)))), some (.inl 0)]) (S1 := []) (w1 := up (up (up (up w 0 i 2 (w 0 i1 2)) 0 i 3 ((up w 0 i 2 (w 0 i1 2)) 0 i1 3)) 0 i 4 ((up (up w 0 i 2 (w 0 i1 2)) 0 i 3 ((up w 0 i 2 (w 0 i1 2)) 0 i1 3)) 0 i1 4)) 0 i 5 ((up (up (up w 0 i 2 (w 0 i1 2)) 0 i 3 ((up w 0 i 2 (w 0 i1 2)) 0 i1 3)) 0 i 4 ((up (up w 0 i 2 (w 0 i1 2)) 0 i 3 ((up w 0 i 2 (w 0 i1 2)) 0 i1 3)) 0 i1 4)) 0 i1 5)) (P := True) [(.aload_n 0, 0, 0, 0, 0), (.aload_n 1, 0, 0, 0, 0), (.getfield 34, 0, 2, 0, 0), (.putfield 34, 0, 2, 0, 0), (.aload_n 0, 0, 0, 0, 0), (.aload_n 1, 0, 0, 0, 0), (.getfield 38, 0, 3, 0, 0), (.putfield 38, 0, 3, 0, 0), (.aload_n 0, 0, 0, 0, 0), (.aload_n 1, 0, 0, 0, 0), (.getfield 41, 0, 4, 0, 0), (.putfield 41, 0, 4, 0, 0), (.aload_n 0, 0, 0, 0, 0), (.aload_n 1, 0, 0, 0, 0), (.getfield 44, 0, 5, 0, 0), (.putfield 44, 0, 5, 0, 0), (.iconst 0, 0, 0, 0, 0), (.istore_n 2, 0, 0, 0, 0)] (by decide +kernel) rfl trivial ?_
  refine GE_weak [true, true, true] (h_X0_become_39_ok l X hN i i1 _ hi hi1 ?_ FU 0 (up (up (up (up w 0 i 2 (w 0 i1 2)) 0 i 3 ((up w 0 i 2 (w 0 i1 2)) 0 i1 3)) 0 i 4 ((up (up w 0 i 2 (w 0 i1 2)) 0 i 3 ((up w 0 i 2 (w 0 i1 2)) 0 i1 3)) 0 i1 4)) 0 i 5 ((up (up (up w 0 i 2 (w 0 i1 2)) 0 i 3 ((up w 0 i 2 (w 0 i1 2)) 0 i1 3)) 0 i 4 ((up (up w 0 i 2 (w 0 i1 2)) 0 i 3 ((up w 0 i 2 (w 0 i1 2)) 0 i1 3)) 0 i1 4)) 0 i1 5)))
  · intro w2
    exact GE_vret rfl (by decide +kernel)
abbrev mm_X0_comes : MI := (RX0, cX0_comes, 5, (some .int), ftp_X0.map (fun q => q.1), ctp_X0.map (fun q => q.1), clp_X0.map (fun q => q.1))
noncomputable def f_X0_comes (i : Nat) (a1 : Int32) (a2 : Int32) (a3 : Int32) (w : Mem) : Option (Int32 × Mem) := some (w 0 i 2, up (setV (setV (setV (setV (setV w 13 i (w 0 i 2) a1) 14 i (w 0 i 2) a2) 15 i (w 0 i 2) a3) 16 i (w 0 i 2) 0) 17 i (w 0 i 2) 50) 0 i 2 (((setV (setV (setV (setV (setV w 13 i (w 0 i 2) a1) 14 i (w 0 i 2) a2) 15 i (w 0 i 2) a3) 16 i (w 0 i 2) 0) 17 i (w 0 i 2) 50) 0 i 2) + 1))
set_option maxRecDepth 100000 in
theorem t_X0_comes (l : Launch) (X : XC) {N9 : Nat} (hN : 39 ≤ N9)  (i : Nat) (a1 : Int32) (a2 : Int32) (a3 : Int32) (hi : i < 3) (w : Mem) : Ct l X 1 yX0_comes cX0_comes 5 (some .int) emI [.inr (.inr (some (0, i))), .inl a1, .inl a2, .inl a3] N9 flT w (f_X0_comes i a1 a2 a3 w) := by
  refine Ct_of (mi := mm_X0_comes) (mik_X0 _ _ _) me_X0_comes rfl (okAs_cons (ok_coast_0 hN hi) (okAs_cons rfl (okAs_cons rfl (okAs_cons rfl okAs_nil)))) (Nat.le_of_ble_eq_true rfl) ?_
  unfold f_X0_comes
  refine GE_run (flG_T hN) (pc1 := 13) (L1 := [some (.inr (.inr (some (0, i)))), some (.inl a1), some (.inl a2), some (.inl a3), some (.inl (w 0 i 2))]) (S1 := [.inl a1, .inl (w 0 i 2), .inr (.inr (some (13, i)))]) (w1 := w) (P := True) [(.aload_n 0, 0, 0, 0, 0), (.getfield 34, 0, 2, 0, 0), (.istore 4, 0, 0, 0, 0), (.aload_n 0, 0, 0, 0, 0), (.getfield 15, 0, 6, 0, 0), (.iload 4, 0, 0, 0, 0), (.iload_n 1, 0, 0, 0, 0)] (by decide +kernel) rfl trivial ?_
  refine GE_callNVp (As := [.inr (.inr (some (13, i))), .inl (w 0 i 2), .inl a1]) (S := []) (p_X4_set l X hN 13 i (w 0 i 2) a1 (by decide) (ok_coast_13 hN hi) w) ⟨me_X4_set, ms_X4_set, ln_X0_51⟩ (by decide +kernel) rfl (by decide) (by decide) (Nat.le_of_ble_eq_true rfl) ?_
  refine GE_run (flG_T hN) (pc1 := 23) (L1 := [some (.inr (.inr (some (0, i)))), some (.inl a1), some (.inl a2), some (.inl a3), some (.inl (w 0 i 2))]) (S1 := [.inl a2, .inl (w 0 i 2), .inr (.inr (some (14, i)))]) (w1 := setV w 13 i (w 0 i 2) a1) (P := True) [(.aload_n 0, 0, 0, 0, 0), (.getfield 18, 0, 7, 0, 0), (.iload 4, 0, 0, 0, 0), (.iload_n 2, 0, 0, 0, 0)] (by decide +kernel) rfl trivial ?_
  refine GE_callNVp (As := [.inr (.inr (some (14, i))), .inl (w 0 i 2), .inl a2]) (S := []) (p_X4_set l X hN 14 i (w 0 i 2) a2 (by decide) (ok_coast_14 hN hi) (setV w 13 i (w 0 i 2) a1)) ⟨me_X4_set, ms_X4_set, ln_X0_51⟩ (by decide +kernel) rfl (by decide) (by decide) (Nat.le_of_ble_eq_true rfl) ?_
  refine GE_run (flG_T hN) (pc1 := 33) (L1 := [some (.inr (.inr (some (0, i)))), some (.inl a1), some (.inl a2), some (.inl a3), some (.inl (w 0 i 2))]) (S1 := [.inl a3, .inl (w 0 i 2), .inr (.inr (some (15, i)))]) (w1 := setV (setV w 13 i (w 0 i 2) a1) 14 i (w 0 i 2) a2) (P := True) [(.aload_n 0, 0, 0, 0, 0), (.getfield 21, 0, 8, 0, 0), (.iload 4, 0, 0, 0, 0), (.iload_n 3, 0, 0, 0, 0)] (by decide +kernel) rfl trivial ?_
  refine GE_callNVp (As := [.inr (.inr (some (15, i))), .inl (w 0 i 2), .inl a3]) (S := []) (p_X4_set l X hN 15 i (w 0 i 2) a3 (by decide) (ok_coast_15 hN hi) (setV (setV w 13 i (w 0 i 2) a1) 14 i (w 0 i 2) a2)) ⟨me_X4_set, ms_X4_set, ln_X0_51⟩ (by decide +kernel) rfl (by decide) (by decide) (Nat.le_of_ble_eq_true rfl) ?_
  refine GE_run (flG_T hN) (pc1 := 43) (L1 := [some (.inr (.inr (some (0, i)))), some (.inl a1), some (.inl a2), some (.inl a3), some (.inl (w 0 i 2))]) (S1 := [.inl 0, .inl (w 0 i 2), .inr (.inr (some (16, i)))]) (w1 := setV (setV (setV w 13 i (w 0 i 2) a1) 14 i (w 0 i 2) a2) 15 i (w 0 i 2) a3) (P := True) [(.aload_n 0, 0, 0, 0, 0), (.getfield 24, 0, 9, 0, 0), (.iload 4, 0, 0, 0, 0), (.iconst 0, 0, 0, 0, 0)] (by decide +kernel) rfl trivial ?_
  refine GE_callNVp (As := [.inr (.inr (some (16, i))), .inl (w 0 i 2), .inl 0]) (S := []) (p_X4_set l X hN 16 i (w 0 i 2) 0 (by decide) (ok_coast_16 hN hi) (setV (setV (setV w 13 i (w 0 i 2) a1) 14 i (w 0 i 2) a2) 15 i (w 0 i 2) a3)) ⟨me_X4_set, ms_X4_set, ln_X0_51⟩ (by decide +kernel) rfl (by decide) (by decide) (Nat.le_of_ble_eq_true rfl) ?_
  refine GE_run (flG_T hN) (pc1 := 54) (L1 := [some (.inr (.inr (some (0, i)))), some (.inl a1), some (.inl a2), some (.inl a3), some (.inl (w 0 i 2))]) (S1 := [.inl 50, .inl (w 0 i 2), .inr (.inr (some (17, i)))]) (w1 := setV (setV (setV (setV w 13 i (w 0 i 2) a1) 14 i (w 0 i 2) a2) 15 i (w 0 i 2) a3) 16 i (w 0 i 2) 0) (P := True) [(.aload_n 0, 0, 0, 0, 0), (.getfield 27, 0, 10, 0, 0), (.iload 4, 0, 0, 0, 0), (.bipush 50, 0, 0, 50, 0)] (by decide +kernel) rfl trivial ?_
  refine GE_callNVp (As := [.inr (.inr (some (17, i))), .inl (w 0 i 2), .inl 50]) (S := []) (p_X4_set l X hN 17 i (w 0 i 2) 50 (by decide) (ok_coast_17 hN hi) (setV (setV (setV (setV w 13 i (w 0 i 2) a1) 14 i (w 0 i 2) a2) 15 i (w 0 i 2) a3) 16 i (w 0 i 2) 0)) ⟨me_X4_set, ms_X4_set, ln_X0_51⟩ (by decide +kernel) rfl (by decide) (by decide) (Nat.le_of_ble_eq_true rfl) ?_
  refine GE_run (flG_T hN) (pc1 := 69) (L1 := [some (.inr (.inr (some (0, i)))), some (.inl a1), some (.inl a2), some (.inl a3), some (.inl (w 0 i 2))]) (S1 := [.inl (w 0 i 2)]) (w1 := up (setV (setV (setV (setV (setV w 13 i (w 0 i 2) a1) 14 i (w 0 i 2) a2) 15 i (w 0 i 2) a3) 16 i (w 0 i 2) 0) 17 i (w 0 i 2) 50) 0 i 2 (((setV (setV (setV (setV (setV w 13 i (w 0 i 2) a1) 14 i (w 0 i 2) a2) 15 i (w 0 i 2) a3) 16 i (w 0 i 2) 0) 17 i (w 0 i 2) 50) 0 i 2) + 1)) (P := True) [(.aload_n 0, 0, 0, 0, 0), (.dup, 0, 0, 0, 0), (.getfield 34, 0, 2, 0, 0), (.iconst 1, 0, 0, 1, 0), (.iadd, 0, 0, 0, 0), (.putfield 34, 0, 2, 0, 0), (.iload 4, 0, 0, 0, 0)] (by decide +kernel) rfl trivial ?_
  exact GE_iret rfl (by decide +kernel)
abbrev mm_X0_nameless : MI := (RX0, cX0_nameless, 2, (some .int), ftp_X0.map (fun q => q.1), ctp_X0.map (fun q => q.1), clp_X0.map (fun q => q.1))
noncomputable def f_X0_nameless (i : Nat) (a1 : Int32) (w : Mem) : Option (Int32 × Mem) := some ((atV w 16 i a1) &&& ((atV w 15 i a1) ^^^ (-1)), w)
set_option maxRecDepth 100000 in
theorem t_X0_nameless (l : Launch) (X : XC) {N9 : Nat} (hN : 39 ≤ N9)  (i : Nat) (a1 : Int32) (hi : i < 3) (w : Mem) : Ct l X 1 yX0_nameless cX0_nameless 2 (some .int) emI [.inr (.inr (some (0, i))), .inl a1] N9 flT w (f_X0_nameless i a1 w) := by
  refine Ct_of (mi := mm_X0_nameless) (mik_X0 _ _ _) me_X0_nameless rfl (okAs_cons (ok_coast_0 hN hi) (okAs_cons rfl okAs_nil)) (Nat.le_of_ble_eq_true rfl) ?_
  unfold f_X0_nameless
  refine GE_run (flG_T hN) (pc1 := 5) (L1 := [some (.inr (.inr (some (0, i)))), some (.inl a1)]) (S1 := [.inl a1, .inr (.inr (some (16, i)))]) (w1 := w) (P := True) [(.aload_n 0, 0, 0, 0, 0), (.getfield 24, 0, 9, 0, 0), (.iload_n 1, 0, 0, 0, 0)] (by decide +kernel) rfl trivial ?_
  refine GE_callNIp (As := [.inr (.inr (some (16, i))), .inl a1]) (S := []) (p_X4_at l X hN 16 i a1 (by decide) (ok_coast_16 hN hi) w) ⟨me_X4_at, ms_X4_at, ln_X0_47⟩ (by decide +kernel) rfl (by decide) (by decide) (Nat.le_of_ble_eq_true rfl) ?_
  refine GE_run (flG_T hN) (pc1 := 13) (L1 := [some (.inr (.inr (some (0, i)))), some (.inl a1)]) (S1 := [.inl a1, .inr (.inr (some (15, i))), .inl (atV w 16 i a1)]) (w1 := w) (P := True) [(.aload_n 0, 0, 0, 0, 0), (.getfield 21, 0, 8, 0, 0), (.iload_n 1, 0, 0, 0, 0)] (by decide +kernel) rfl trivial ?_
  refine GE_callNIp (As := [.inr (.inr (some (15, i))), .inl a1]) (S := [.inl (atV w 16 i a1)]) (p_X4_at l X hN 15 i a1 (by decide) (ok_coast_15 hN hi) w) ⟨me_X4_at, ms_X4_at, ln_X0_47⟩ (by decide +kernel) rfl (by decide) (by decide) (Nat.le_of_ble_eq_true rfl) ?_
  refine GE_run (flG_T hN) (pc1 := 19) (L1 := [some (.inr (.inr (some (0, i)))), some (.inl a1)]) (S1 := [.inl ((atV w 16 i a1) &&& ((atV w 15 i a1) ^^^ (-1)))]) (w1 := w) (P := True) [(.iconst (-1), 0, 0, -1, 0), (.ixor, 0, 0, 0, 0), (.iand, 0, 0, 0, 0)] (by decide +kernel) rfl trivial ?_
  exact GE_iret rfl (by decide +kernel)
abbrev mm_X0_knownToAny : MI := (RX0, cX0_knownToAny, 3, (some .int), ftp_X0.map (fun q => q.1), ctp_X0.map (fun q => q.1), clp_X0.map (fun q => q.1))
noncomputable def h_X0_knownToAny_4 (i : Nat) (k29 : Int32 → Mem → Option (Int32 × Mem)) : Nat → Int32 → Int32 → Mem → Option (Int32 × Mem)
  | 0, _, _, _ => none
  | n + 1, x1, x2, w => if x2 < (w 0 i 2) then ((h_X0_knownToAny_4 i k29 n) (x1 ||| (atV w 15 i x2)) (x2 + 1) w) else (k29 x1 w)
set_option maxRecDepth 100000 in
theorem h_X0_knownToAny_4_ok (l : Launch) (X : XC) {N9 : Nat} (hN : 39 ≤ N9) (i : Nat) (k29 : Int32 → Mem → Option (Int32 × Mem)) (hi : i < 3) (hk29 : ∀ (x1 : Int32) (w : Mem), GE l X mm_X0_knownToAny 1 emI N9 flT (k29 x1 w) 29 [none, some (.inl x1), none] [] w) : ∀ (n : Nat) (x1 : Int32) (x2 : Int32) (w : Mem), GE l X mm_X0_knownToAny 1 emI N9 flT ((h_X0_knownToAny_4 i k29 n) x1 x2 w) 4 [some (.inr (.inr (some (0, i)))), some (.inl x1), some (.inl x2)] [] w := by
  intro n
  induction n with
  | zero => intro x1 x2 w; exact GE_none
  | succ n ih =>
    intro x1 x2 w
    unfold h_X0_knownToAny_4
    refine GE_run (flG_T hN) (pc1 := 9) (L1 := [some (.inr (.inr (some (0, i)))), some (.inl x1), some (.inl x2)]) (S1 := [.inl (w 0 i 2), .inl x2]) (w1 := w) (P := True) [(.iload_n 2, 0, 0, 0, 0), (.aload_n 0, 0, 0, 0, 0), (.getfield 34, 0, 2, 0, 0)] (by decide +kernel) rfl trivial ?_
    refine GE_icmpN (k := .ge) (off := 20) (tgt := 29) (by decide +kernel) (by decide) (cnd_ge _ _) (fun c1 => ?_) (fun c1 => ?_)
    · exact GE_weak [false, true, false] (hk29 x1 w)
    · refine GE_run (flG_T hN) (pc1 := 18) (L1 := [some (.inr (.inr (some (0, i)))), some (.inl x1), some (.inl x2)]) (S1 := [.inl x2, .inr (.inr (some (15, i))), .inl x1]) (w1 := w) (P := True) [(.iload_n 1, 0, 0, 0, 0), (.aload_n 0, 0, 0, 0, 0), (.getfield 21, 0, 8, 0, 0), (.iload_n 2, 0, 0, 0, 0)] (by decide +kernel) rfl trivial ?_
      refine GE_callNIp (As := [.inr (.inr (some (15, i))), .inl x2]) (S := [.inl x1]) (p_X4_at l X hN 15 i x2 (by decide) (ok_coast_15 hN hi) w) ⟨me_X4_at, ms_X4_at, ln_X0_47⟩ (by decide +kernel) rfl (by decide) (by decide) (Nat.le_of_ble_eq_true rfl) ?_
      refine GE_run (flG_T hN) (pc1 := 4) (L1 := [some (.inr (.inr (some (0, i)))), some (.inl (x1 ||| (atV w 15 i x2))), some (.inl (x2 + 1))]) (S1 := []) (w1 := w) (P := True) [(.ior, 0, 0, 0, 0), (.istore_n 1, 0, 0, 0, 0), (.iinc 2 1, 0, 0, 1, 0), (.goto (-22), 0, 0, 0, 0)] (by decide +kernel) rfl trivial ?_
      exact GE_weak [true, true, true] (ih (x1 ||| (atV w 15 i x2)) (x2 + 1) w)
noncomputable def f_X0_knownToAny (i : Nat) (w : Mem) : Option (Int32 × Mem) := h_X0_knownToAny_4 i (fun x1_2 w3 => some (x1_2, w3)) FU 0 0 w
set_option maxRecDepth 100000 in
theorem t_X0_knownToAny (l : Launch) (X : XC) {N9 : Nat} (hN : 39 ≤ N9)  (i : Nat) (hi : i < 3) (w : Mem) : Ct l X 1 yX0_knownToAny cX0_knownToAny 3 (some .int) emI [.inr (.inr (some (0, i)))] N9 flT w (f_X0_knownToAny i w) := by
  refine Ct_of (mi := mm_X0_knownToAny) (mik_X0 _ _ _) me_X0_knownToAny rfl (okAs_cons (ok_coast_0 hN hi) okAs_nil) (Nat.le_of_ble_eq_true rfl) ?_
  unfold f_X0_knownToAny
  refine GE_run (flG_T hN) (pc1 := 4) (L1 := [some (.inr (.inr (some (0, i)))), some (.inl 0), some (.inl 0)]) (S1 := []) (w1 := w) (P := True) [(.iconst 0, 0, 0, 0, 0), (.istore_n 1, 0, 0, 0, 0), (.iconst 0, 0, 0, 0, 0), (.istore_n 2, 0, 0, 0, 0)] (by decide +kernel) rfl trivial ?_
  refine GE_weak [true, true, true] (h_X0_knownToAny_4_ok l X hN i _ hi ?_ FU 0 0 w)
  · intro x1_2 w3
    refine GE_run (flG_T hN) (pc1 := 30) (L1 := [none, some (.inl x1_2), none]) (S1 := [.inl x1_2]) (w1 := w3) (P := True) [(.iload_n 1, 0, 0, 0, 0)] (by decide +kernel) rfl trivial ?_
    exact GE_iret rfl (by decide +kernel)
abbrev mm_X0_says : MI := (RX0, cX0_says, 5, (some .int), ftp_X0.map (fun q => q.1), ctp_X0.map (fun q => q.1), clp_X0.map (fun q => q.1))
noncomputable def j_X0_says_24 (i : Nat)  (x1 : Int32) (x2 : Int32) (s0 : Int32) (s1 : Int32) (w : Mem) : Option (Int32 × Mem) := Option.bind (f_X3_value ((setV (setV (setV (setV (setV (setV w 12 i s1 s0) 12 i 1 (bcF (atV (setV w 12 i s1 s0) 15 i x2))) 12 i 2 (bcF (atV (setV (setV w 12 i s1 s0) 12 i 1 (bcF (atV (setV w 12 i s1 s0) 15 i x2))) 16 i x2))) 12 i 3 ((setV (setV (setV w 12 i s1 s0) 12 i 1 (bcF (atV (setV w 12 i s1 s0) 15 i x2))) 12 i 2 (bcF (atV (setV (setV w 12 i s1 s0) 12 i 1 (bcF (atV (setV w 12 i s1 s0) 15 i x2))) 16 i x2))) 0 i 4)) 12 i 4 (atV (setV (setV (setV (setV w 12 i s1 s0) 12 i 1 (bcF (atV (setV w 12 i s1 s0) 15 i x2))) 12 i 2 (bcF (atV (setV (setV w 12 i s1 s0) 12 i 1 (bcF (atV (setV w 12 i s1 s0) 15 i x2))) 16 i x2))) 12 i 3 ((setV (setV (setV w 12 i s1 s0) 12 i 1 (bcF (atV (setV w 12 i s1 s0) 15 i x2))) 12 i 2 (bcF (atV (setV (setV w 12 i s1 s0) 12 i 1 (bcF (atV (setV w 12 i s1 s0) 15 i x2))) 16 i x2))) 0 i 4)) 17 i x2)) 12 i 5 (atV (setV (setV (setV (setV (setV w 12 i s1 s0) 12 i 1 (bcF (atV (setV w 12 i s1 s0) 15 i x2))) 12 i 2 (bcF (atV (setV (setV w 12 i s1 s0) 12 i 1 (bcF (atV (setV w 12 i s1 s0) 15 i x2))) 16 i x2))) 12 i 3 ((setV (setV (setV w 12 i s1 s0) 12 i 1 (bcF (atV (setV w 12 i s1 s0) 15 i x2))) 12 i 2 (bcF (atV (setV (setV w 12 i s1 s0) 12 i 1 (bcF (atV (setV w 12 i s1 s0) 15 i x2))) 16 i x2))) 0 i 4)) 12 i 4 (atV (setV (setV (setV (setV w 12 i s1 s0) 12 i 1 (bcF (atV (setV w 12 i s1 s0) 15 i x2))) 12 i 2 (bcF (atV (setV (setV w 12 i s1 s0) 12 i 1 (bcF (atV (setV w 12 i s1 s0) 15 i x2))) 16 i x2))) 12 i 3 ((setV (setV (setV w 12 i s1 s0) 12 i 1 (bcF (atV (setV w 12 i s1 s0) 15 i x2))) 12 i 2 (bcF (atV (setV (setV w 12 i s1 s0) 12 i 1 (bcF (atV (setV w 12 i s1 s0) 15 i x2))) 16 i x2))) 0 i 4)) 17 i x2)) 14 i x2)) 0 i 5) x1 i (setV (setV (setV (setV (setV (setV w 12 i s1 s0) 12 i 1 (bcF (atV (setV w 12 i s1 s0) 15 i x2))) 12 i 2 (bcF (atV (setV (setV w 12 i s1 s0) 12 i 1 (bcF (atV (setV w 12 i s1 s0) 15 i x2))) 16 i x2))) 12 i 3 ((setV (setV (setV w 12 i s1 s0) 12 i 1 (bcF (atV (setV w 12 i s1 s0) 15 i x2))) 12 i 2 (bcF (atV (setV (setV w 12 i s1 s0) 12 i 1 (bcF (atV (setV w 12 i s1 s0) 15 i x2))) 16 i x2))) 0 i 4)) 12 i 4 (atV (setV (setV (setV (setV w 12 i s1 s0) 12 i 1 (bcF (atV (setV w 12 i s1 s0) 15 i x2))) 12 i 2 (bcF (atV (setV (setV w 12 i s1 s0) 12 i 1 (bcF (atV (setV w 12 i s1 s0) 15 i x2))) 16 i x2))) 12 i 3 ((setV (setV (setV w 12 i s1 s0) 12 i 1 (bcF (atV (setV w 12 i s1 s0) 15 i x2))) 12 i 2 (bcF (atV (setV (setV w 12 i s1 s0) 12 i 1 (bcF (atV (setV w 12 i s1 s0) 15 i x2))) 16 i x2))) 0 i 4)) 17 i x2)) 12 i 5 (atV (setV (setV (setV (setV (setV w 12 i s1 s0) 12 i 1 (bcF (atV (setV w 12 i s1 s0) 15 i x2))) 12 i 2 (bcF (atV (setV (setV w 12 i s1 s0) 12 i 1 (bcF (atV (setV w 12 i s1 s0) 15 i x2))) 16 i x2))) 12 i 3 ((setV (setV (setV w 12 i s1 s0) 12 i 1 (bcF (atV (setV w 12 i s1 s0) 15 i x2))) 12 i 2 (bcF (atV (setV (setV w 12 i s1 s0) 12 i 1 (bcF (atV (setV w 12 i s1 s0) 15 i x2))) 16 i x2))) 0 i 4)) 12 i 4 (atV (setV (setV (setV (setV w 12 i s1 s0) 12 i 1 (bcF (atV (setV w 12 i s1 s0) 15 i x2))) 12 i 2 (bcF (atV (setV (setV w 12 i s1 s0) 12 i 1 (bcF (atV (setV w 12 i s1 s0) 15 i x2))) 16 i x2))) 12 i 3 ((setV (setV (setV w 12 i s1 s0) 12 i 1 (bcF (atV (setV w 12 i s1 s0) 15 i x2))) 12 i 2 (bcF (atV (setV (setV w 12 i s1 s0) 12 i 1 (bcF (atV (setV w 12 i s1 s0) 15 i x2))) 16 i x2))) 0 i 4)) 17 i x2)) 14 i x2))) (fun r2 => if x1 = 2 then (some (wiF r2.1 0 16, r2.2)) else (some (wiF r2.1 (-99) 99, r2.2)))
set_option maxRecDepth 100000 in
theorem j_X0_says_24_ok (l : Launch) (X : XC) {N9 : Nat} (hN : 39 ≤ N9) (i : Nat)  (x1 : Int32) (x2 : Int32) (s0 : Int32) (s1 : Int32) (hi : i < 3)  (w : Mem) : GE l X mm_X0_says 2 emI N9 flT (j_X0_says_24 i x1 x2 s0 s1 w) 24 [some (.inr (.inr (some (0, i)))), some (.inl x1), some (.inl x2), none, none] [.inl s0, .inl s1, .inr (.inr (some (12, i)))] w := by
  unfold j_X0_says_24
  refine GE_callNVp (As := [.inr (.inr (some (12, i))), .inl s1, .inl s0]) (S := []) (p_X4_set l X hN 12 i s1 s0 (by decide) (ok_coast_12 hN hi) w) ⟨me_X4_set, ms_X4_set, ln_X0_51⟩ (by decide +kernel) rfl (by decide) (by decide) (Nat.le_of_ble_eq_true rfl) ?_
  refine GE_run (flG_T hN) (pc1 := 37) (L1 := [some (.inr (.inr (some (0, i)))), some (.inl x1), some (.inl x2), none, none]) (S1 := [.inl x2, .inr (.inr (some (15, i))), .inl 1, .inr (.inr (some (12, i)))]) (w1 := setV w 12 i s1 s0) (P := True) [(.aload_n 0, 0, 0, 0, 0), (.getfield 9, 0, 1, 0, 0), (.iconst 1, 0, 0, 1, 0), (.aload_n 0, 0, 0, 0, 0), (.getfield 21, 0, 8, 0, 0), (.iload_n 2, 0, 0, 0, 0)] (by decide +kernel) rfl trivial ?_
  refine GE_callNIp (As := [.inr (.inr (some (15, i))), .inl x2]) (S := [.inl 1, .inr (.inr (some (12, i)))]) (p_X4_at l X hN 15 i x2 (by decide) (ok_coast_15 hN hi) (setV w 12 i s1 s0)) ⟨me_X4_at, ms_X4_at, ln_X0_47⟩ (by decide +kernel) rfl (by decide) (by decide) (Nat.le_of_ble_eq_true rfl) ?_
  refine GE_callSIp (As := [.inl (atV (setV w 12 i s1 s0) 15 i x2)]) (S := [.inl 1, .inr (.inr (some (12, i)))]) (p_J6_bitCount l X hN (atV (setV w 12 i s1 s0) 15 i x2) (setV w 12 i s1 s0)) ⟨me_J6_bitCount_0f7a4, ms_J6_bitCount_0f7a4, lk_X0_55⟩ (by decide +kernel) rfl (by decide) (by decide) (Nat.le_of_ble_eq_true rfl) ?_
  refine GE_callNVp (As := [.inr (.inr (some (12, i))), .inl 1, .inl (bcF (atV (setV w 12 i s1 s0) 15 i x2))]) (S := []) (p_X4_set l X hN 12 i 1 (bcF (atV (setV w 12 i s1 s0) 15 i x2)) (by decide) (ok_coast_12 hN hi) (setV w 12 i s1 s0)) ⟨me_X4_set, ms_X4_set, ln_X0_51⟩ (by decide +kernel) rfl (by decide) (by decide) (Nat.le_of_ble_eq_true rfl) ?_
  refine GE_run (flG_T hN) (pc1 := 56) (L1 := [some (.inr (.inr (some (0, i)))), some (.inl x1), some (.inl x2), none, none]) (S1 := [.inl x2, .inr (.inr (some (16, i))), .inl 2, .inr (.inr (some (12, i)))]) (w1 := setV (setV w 12 i s1 s0) 12 i 1 (bcF (atV (setV w 12 i s1 s0) 15 i x2))) (P := True) [(.aload_n 0, 0, 0, 0, 0), (.getfield 9, 0, 1, 0, 0), (.iconst 2, 0, 0, 2, 0), (.aload_n 0, 0, 0, 0, 0), (.getfield 24, 0, 9, 0, 0), (.iload_n 2, 0, 0, 0, 0)] (by decide +kernel) rfl trivial ?_
  refine GE_callNIp (As := [.inr (.inr (some (16, i))), .inl x2]) (S := [.inl 2, .inr (.inr (some (12, i)))]) (p_X4_at l X hN 16 i x2 (by decide) (ok_coast_16 hN hi) (setV (setV w 12 i s1 s0) 12 i 1 (bcF (atV (setV w 12 i s1 s0) 15 i x2)))) ⟨me_X4_at, ms_X4_at, ln_X0_47⟩ (by decide +kernel) rfl (by decide) (by decide) (Nat.le_of_ble_eq_true rfl) ?_
  refine GE_callSIp (As := [.inl (atV (setV (setV w 12 i s1 s0) 12 i 1 (bcF (atV (setV w 12 i s1 s0) 15 i x2))) 16 i x2)]) (S := [.inl 2, .inr (.inr (some (12, i)))]) (p_J6_bitCount l X hN (atV (setV (setV w 12 i s1 s0) 12 i 1 (bcF (atV (setV w 12 i s1 s0) 15 i x2))) 16 i x2) (setV (setV w 12 i s1 s0) 12 i 1 (bcF (atV (setV w 12 i s1 s0) 15 i x2)))) ⟨me_J6_bitCount_0f7a4, ms_J6_bitCount_0f7a4, lk_X0_55⟩ (by decide +kernel) rfl (by decide) (by decide) (Nat.le_of_ble_eq_true rfl) ?_
  refine GE_callNVp (As := [.inr (.inr (some (12, i))), .inl 2, .inl (bcF (atV (setV (setV w 12 i s1 s0) 12 i 1 (bcF (atV (setV w 12 i s1 s0) 15 i x2))) 16 i x2))]) (S := []) (p_X4_set l X hN 12 i 2 (bcF (atV (setV (setV w 12 i s1 s0) 12 i 1 (bcF (atV (setV w 12 i s1 s0) 15 i x2))) 16 i x2)) (by decide) (ok_coast_12 hN hi) (setV (setV w 12 i s1 s0) 12 i 1 (bcF (atV (setV w 12 i s1 s0) 15 i x2)))) ⟨me_X4_set, ms_X4_set, ln_X0_51⟩ (by decide +kernel) rfl (by decide) (by decide) (Nat.le_of_ble_eq_true rfl) ?_
  refine GE_run (flG_T hN) (pc1 := 74) (L1 := [some (.inr (.inr (some (0, i)))), some (.inl x1), some (.inl x2), none, none]) (S1 := [.inl ((setV (setV (setV w 12 i s1 s0) 12 i 1 (bcF (atV (setV w 12 i s1 s0) 15 i x2))) 12 i 2 (bcF (atV (setV (setV w 12 i s1 s0) 12 i 1 (bcF (atV (setV w 12 i s1 s0) 15 i x2))) 16 i x2))) 0 i 4), .inl 3, .inr (.inr (some (12, i)))]) (w1 := setV (setV (setV w 12 i s1 s0) 12 i 1 (bcF (atV (setV w 12 i s1 s0) 15 i x2))) 12 i 2 (bcF (atV (setV (setV w 12 i s1 s0) 12 i 1 (bcF (atV (setV w 12 i s1 s0) 15 i x2))) 16 i x2))) (P := True) [(.aload_n 0, 0, 0, 0, 0), (.getfield 9, 0, 1, 0, 0), (.iconst 3, 0, 0, 3, 0), (.aload_n 0, 0, 0, 0, 0), (.getfield 41, 0, 4, 0, 0)] (by decide +kernel) rfl trivial ?_
  refine GE_callNVp (As := [.inr (.inr (some (12, i))), .inl 3, .inl ((setV (setV (setV w 12 i s1 s0) 12 i 1 (bcF (atV (setV w 12 i s1 s0) 15 i x2))) 12 i 2 (bcF (atV (setV (setV w 12 i s1 s0) 12 i 1 (bcF (atV (setV w 12 i s1 s0) 15 i x2))) 16 i x2))) 0 i 4)]) (S := []) (p_X4_set l X hN 12 i 3 ((setV (setV (setV w 12 i s1 s0) 12 i 1 (bcF (atV (setV w 12 i s1 s0) 15 i x2))) 12 i 2 (bcF (atV (setV (setV w 12 i s1 s0) 12 i 1 (bcF (atV (setV w 12 i s1 s0) 15 i x2))) 16 i x2))) 0 i 4) (by decide) (ok_coast_12 hN hi) (setV (setV (setV w 12 i s1 s0) 12 i 1 (bcF (atV (setV w 12 i s1 s0) 15 i x2))) 12 i 2 (bcF (atV (setV (setV w 12 i s1 s0) 12 i 1 (bcF (atV (setV w 12 i s1 s0) 15 i x2))) 16 i x2)))) ⟨me_X4_set, ms_X4_set, ln_X0_51⟩ (by decide +kernel) rfl (by decide) (by decide) (Nat.le_of_ble_eq_true rfl) ?_
  refine GE_run (flG_T hN) (pc1 := 87) (L1 := [some (.inr (.inr (some (0, i)))), some (.inl x1), some (.inl x2), none, none]) (S1 := [.inl x2, .inr (.inr (some (17, i))), .inl 4, .inr (.inr (some (12, i)))]) (w1 := setV (setV (setV (setV w 12 i s1 s0) 12 i 1 (bcF (atV (setV w 12 i s1 s0) 15 i x2))) 12 i 2 (bcF (atV (setV (setV w 12 i s1 s0) 12 i 1 (bcF (atV (setV w 12 i s1 s0) 15 i x2))) 16 i x2))) 12 i 3 ((setV (setV (setV w 12 i s1 s0) 12 i 1 (bcF (atV (setV w 12 i s1 s0) 15 i x2))) 12 i 2 (bcF (atV (setV (setV w 12 i s1 s0) 12 i 1 (bcF (atV (setV w 12 i s1 s0) 15 i x2))) 16 i x2))) 0 i 4)) (P := True) [(.aload_n 0, 0, 0, 0, 0), (.getfield 9, 0, 1, 0, 0), (.iconst 4, 0, 0, 4, 0), (.aload_n 0, 0, 0, 0, 0), (.getfield 27, 0, 10, 0, 0), (.iload_n 2, 0, 0, 0, 0)] (by decide +kernel) rfl trivial ?_
  refine GE_callNIp (As := [.inr (.inr (some (17, i))), .inl x2]) (S := [.inl 4, .inr (.inr (some (12, i)))]) (p_X4_at l X hN 17 i x2 (by decide) (ok_coast_17 hN hi) (setV (setV (setV (setV w 12 i s1 s0) 12 i 1 (bcF (atV (setV w 12 i s1 s0) 15 i x2))) 12 i 2 (bcF (atV (setV (setV w 12 i s1 s0) 12 i 1 (bcF (atV (setV w 12 i s1 s0) 15 i x2))) 16 i x2))) 12 i 3 ((setV (setV (setV w 12 i s1 s0) 12 i 1 (bcF (atV (setV w 12 i s1 s0) 15 i x2))) 12 i 2 (bcF (atV (setV (setV w 12 i s1 s0) 12 i 1 (bcF (atV (setV w 12 i s1 s0) 15 i x2))) 16 i x2))) 0 i 4))) ⟨me_X4_at, ms_X4_at, ln_X0_47⟩ (by decide +kernel) rfl (by decide) (by decide) (Nat.le_of_ble_eq_true rfl) ?_
  refine GE_callNVp (As := [.inr (.inr (some (12, i))), .inl 4, .inl (atV (setV (setV (setV (setV w 12 i s1 s0) 12 i 1 (bcF (atV (setV w 12 i s1 s0) 15 i x2))) 12 i 2 (bcF (atV (setV (setV w 12 i s1 s0) 12 i 1 (bcF (atV (setV w 12 i s1 s0) 15 i x2))) 16 i x2))) 12 i 3 ((setV (setV (setV w 12 i s1 s0) 12 i 1 (bcF (atV (setV w 12 i s1 s0) 15 i x2))) 12 i 2 (bcF (atV (setV (setV w 12 i s1 s0) 12 i 1 (bcF (atV (setV w 12 i s1 s0) 15 i x2))) 16 i x2))) 0 i 4)) 17 i x2)]) (S := []) (p_X4_set l X hN 12 i 4 (atV (setV (setV (setV (setV w 12 i s1 s0) 12 i 1 (bcF (atV (setV w 12 i s1 s0) 15 i x2))) 12 i 2 (bcF (atV (setV (setV w 12 i s1 s0) 12 i 1 (bcF (atV (setV w 12 i s1 s0) 15 i x2))) 16 i x2))) 12 i 3 ((setV (setV (setV w 12 i s1 s0) 12 i 1 (bcF (atV (setV w 12 i s1 s0) 15 i x2))) 12 i 2 (bcF (atV (setV (setV w 12 i s1 s0) 12 i 1 (bcF (atV (setV w 12 i s1 s0) 15 i x2))) 16 i x2))) 0 i 4)) 17 i x2) (by decide) (ok_coast_12 hN hi) (setV (setV (setV (setV w 12 i s1 s0) 12 i 1 (bcF (atV (setV w 12 i s1 s0) 15 i x2))) 12 i 2 (bcF (atV (setV (setV w 12 i s1 s0) 12 i 1 (bcF (atV (setV w 12 i s1 s0) 15 i x2))) 16 i x2))) 12 i 3 ((setV (setV (setV w 12 i s1 s0) 12 i 1 (bcF (atV (setV w 12 i s1 s0) 15 i x2))) 12 i 2 (bcF (atV (setV (setV w 12 i s1 s0) 12 i 1 (bcF (atV (setV w 12 i s1 s0) 15 i x2))) 16 i x2))) 0 i 4))) ⟨me_X4_set, ms_X4_set, ln_X0_51⟩ (by decide +kernel) rfl (by decide) (by decide) (Nat.le_of_ble_eq_true rfl) ?_
  refine GE_run (flG_T hN) (pc1 := 103) (L1 := [some (.inr (.inr (some (0, i)))), some (.inl x1), some (.inl x2), none, none]) (S1 := [.inl x2, .inr (.inr (some (14, i))), .inl 5, .inr (.inr (some (12, i)))]) (w1 := setV (setV (setV (setV (setV w 12 i s1 s0) 12 i 1 (bcF (atV (setV w 12 i s1 s0) 15 i x2))) 12 i 2 (bcF (atV (setV (setV w 12 i s1 s0) 12 i 1 (bcF (atV (setV w 12 i s1 s0) 15 i x2))) 16 i x2))) 12 i 3 ((setV (setV (setV w 12 i s1 s0) 12 i 1 (bcF (atV (setV w 12 i s1 s0) 15 i x2))) 12 i 2 (bcF (atV (setV (setV w 12 i s1 s0) 12 i 1 (bcF (atV (setV w 12 i s1 s0) 15 i x2))) 16 i x2))) 0 i 4)) 12 i 4 (atV (setV (setV (setV (setV w 12 i s1 s0) 12 i 1 (bcF (atV (setV w 12 i s1 s0) 15 i x2))) 12 i 2 (bcF (atV (setV (setV w 12 i s1 s0) 12 i 1 (bcF (atV (setV w 12 i s1 s0) 15 i x2))) 16 i x2))) 12 i 3 ((setV (setV (setV w 12 i s1 s0) 12 i 1 (bcF (atV (setV w 12 i s1 s0) 15 i x2))) 12 i 2 (bcF (atV (setV (setV w 12 i s1 s0) 12 i 1 (bcF (atV (setV w 12 i s1 s0) 15 i x2))) 16 i x2))) 0 i 4)) 17 i x2)) (P := True) [(.aload_n 0, 0, 0, 0, 0), (.getfield 9, 0, 1, 0, 0), (.iconst 5, 0, 0, 5, 0), (.aload_n 0, 0, 0, 0, 0), (.getfield 18, 0, 7, 0, 0), (.iload_n 2, 0, 0, 0, 0)] (by decide +kernel) rfl trivial ?_
  refine GE_callNIp (As := [.inr (.inr (some (14, i))), .inl x2]) (S := [.inl 5, .inr (.inr (some (12, i)))]) (p_X4_at l X hN 14 i x2 (by decide) (ok_coast_14 hN hi) (setV (setV (setV (setV (setV w 12 i s1 s0) 12 i 1 (bcF (atV (setV w 12 i s1 s0) 15 i x2))) 12 i 2 (bcF (atV (setV (setV w 12 i s1 s0) 12 i 1 (bcF (atV (setV w 12 i s1 s0) 15 i x2))) 16 i x2))) 12 i 3 ((setV (setV (setV w 12 i s1 s0) 12 i 1 (bcF (atV (setV w 12 i s1 s0) 15 i x2))) 12 i 2 (bcF (atV (setV (setV w 12 i s1 s0) 12 i 1 (bcF (atV (setV w 12 i s1 s0) 15 i x2))) 16 i x2))) 0 i 4)) 12 i 4 (atV (setV (setV (setV (setV w 12 i s1 s0) 12 i 1 (bcF (atV (setV w 12 i s1 s0) 15 i x2))) 12 i 2 (bcF (atV (setV (setV w 12 i s1 s0) 12 i 1 (bcF (atV (setV w 12 i s1 s0) 15 i x2))) 16 i x2))) 12 i 3 ((setV (setV (setV w 12 i s1 s0) 12 i 1 (bcF (atV (setV w 12 i s1 s0) 15 i x2))) 12 i 2 (bcF (atV (setV (setV w 12 i s1 s0) 12 i 1 (bcF (atV (setV w 12 i s1 s0) 15 i x2))) 16 i x2))) 0 i 4)) 17 i x2))) ⟨me_X4_at, ms_X4_at, ln_X0_47⟩ (by decide +kernel) rfl (by decide) (by decide) (Nat.le_of_ble_eq_true rfl) ?_
  refine GE_callNVp (As := [.inr (.inr (some (12, i))), .inl 5, .inl (atV (setV (setV (setV (setV (setV w 12 i s1 s0) 12 i 1 (bcF (atV (setV w 12 i s1 s0) 15 i x2))) 12 i 2 (bcF (atV (setV (setV w 12 i s1 s0) 12 i 1 (bcF (atV (setV w 12 i s1 s0) 15 i x2))) 16 i x2))) 12 i 3 ((setV (setV (setV w 12 i s1 s0) 12 i 1 (bcF (atV (setV w 12 i s1 s0) 15 i x2))) 12 i 2 (bcF (atV (setV (setV w 12 i s1 s0) 12 i 1 (bcF (atV (setV w 12 i s1 s0) 15 i x2))) 16 i x2))) 0 i 4)) 12 i 4 (atV (setV (setV (setV (setV w 12 i s1 s0) 12 i 1 (bcF (atV (setV w 12 i s1 s0) 15 i x2))) 12 i 2 (bcF (atV (setV (setV w 12 i s1 s0) 12 i 1 (bcF (atV (setV w 12 i s1 s0) 15 i x2))) 16 i x2))) 12 i 3 ((setV (setV (setV w 12 i s1 s0) 12 i 1 (bcF (atV (setV w 12 i s1 s0) 15 i x2))) 12 i 2 (bcF (atV (setV (setV w 12 i s1 s0) 12 i 1 (bcF (atV (setV w 12 i s1 s0) 15 i x2))) 16 i x2))) 0 i 4)) 17 i x2)) 14 i x2)]) (S := []) (p_X4_set l X hN 12 i 5 (atV (setV (setV (setV (setV (setV w 12 i s1 s0) 12 i 1 (bcF (atV (setV w 12 i s1 s0) 15 i x2))) 12 i 2 (bcF (atV (setV (setV w 12 i s1 s0) 12 i 1 (bcF (atV (setV w 12 i s1 s0) 15 i x2))) 16 i x2))) 12 i 3 ((setV (setV (setV w 12 i s1 s0) 12 i 1 (bcF (atV (setV w 12 i s1 s0) 15 i x2))) 12 i 2 (bcF (atV (setV (setV w 12 i s1 s0) 12 i 1 (bcF (atV (setV w 12 i s1 s0) 15 i x2))) 16 i x2))) 0 i 4)) 12 i 4 (atV (setV (setV (setV (setV w 12 i s1 s0) 12 i 1 (bcF (atV (setV w 12 i s1 s0) 15 i x2))) 12 i 2 (bcF (atV (setV (setV w 12 i s1 s0) 12 i 1 (bcF (atV (setV w 12 i s1 s0) 15 i x2))) 16 i x2))) 12 i 3 ((setV (setV (setV w 12 i s1 s0) 12 i 1 (bcF (atV (setV w 12 i s1 s0) 15 i x2))) 12 i 2 (bcF (atV (setV (setV w 12 i s1 s0) 12 i 1 (bcF (atV (setV w 12 i s1 s0) 15 i x2))) 16 i x2))) 0 i 4)) 17 i x2)) 14 i x2) (by decide) (ok_coast_12 hN hi) (setV (setV (setV (setV (setV w 12 i s1 s0) 12 i 1 (bcF (atV (setV w 12 i s1 s0) 15 i x2))) 12 i 2 (bcF (atV (setV (setV w 12 i s1 s0) 12 i 1 (bcF (atV (setV w 12 i s1 s0) 15 i x2))) 16 i x2))) 12 i 3 ((setV (setV (setV w 12 i s1 s0) 12 i 1 (bcF (atV (setV w 12 i s1 s0) 15 i x2))) 12 i 2 (bcF (atV (setV (setV w 12 i s1 s0) 12 i 1 (bcF (atV (setV w 12 i s1 s0) 15 i x2))) 16 i x2))) 0 i 4)) 12 i 4 (atV (setV (setV (setV (setV w 12 i s1 s0) 12 i 1 (bcF (atV (setV w 12 i s1 s0) 15 i x2))) 12 i 2 (bcF (atV (setV (setV w 12 i s1 s0) 12 i 1 (bcF (atV (setV w 12 i s1 s0) 15 i x2))) 16 i x2))) 12 i 3 ((setV (setV (setV w 12 i s1 s0) 12 i 1 (bcF (atV (setV w 12 i s1 s0) 15 i x2))) 12 i 2 (bcF (atV (setV (setV w 12 i s1 s0) 12 i 1 (bcF (atV (setV w 12 i s1 s0) 15 i x2))) 16 i x2))) 0 i 4)) 17 i x2))) ⟨me_X4_set, ms_X4_set, ln_X0_51⟩ (by decide +kernel) rfl (by decide) (by decide) (Nat.le_of_ble_eq_true rfl) ?_
  refine GE_run (flG_T hN) (pc1 := 122) (L1 := [some (.inr (.inr (some (0, i)))), some (.inl x1), some (.inl x2), none, none]) (S1 := [.inr (.inr (some (12, i))), .inl x1, .inl ((setV (setV (setV (setV (setV (setV w 12 i s1 s0) 12 i 1 (bcF (atV (setV w 12 i s1 s0) 15 i x2))) 12 i 2 (bcF (atV (setV (setV w 12 i s1 s0) 12 i 1 (bcF (atV (setV w 12 i s1 s0) 15 i x2))) 16 i x2))) 12 i 3 ((setV (setV (setV w 12 i s1 s0) 12 i 1 (bcF (atV (setV w 12 i s1 s0) 15 i x2))) 12 i 2 (bcF (atV (setV (setV w 12 i s1 s0) 12 i 1 (bcF (atV (setV w 12 i s1 s0) 15 i x2))) 16 i x2))) 0 i 4)) 12 i 4 (atV (setV (setV (setV (setV w 12 i s1 s0) 12 i 1 (bcF (atV (setV w 12 i s1 s0) 15 i x2))) 12 i 2 (bcF (atV (setV (setV w 12 i s1 s0) 12 i 1 (bcF (atV (setV w 12 i s1 s0) 15 i x2))) 16 i x2))) 12 i 3 ((setV (setV (setV w 12 i s1 s0) 12 i 1 (bcF (atV (setV w 12 i s1 s0) 15 i x2))) 12 i 2 (bcF (atV (setV (setV w 12 i s1 s0) 12 i 1 (bcF (atV (setV w 12 i s1 s0) 15 i x2))) 16 i x2))) 0 i 4)) 17 i x2)) 12 i 5 (atV (setV (setV (setV (setV (setV w 12 i s1 s0) 12 i 1 (bcF (atV (setV w 12 i s1 s0) 15 i x2))) 12 i 2 (bcF (atV (setV (setV w 12 i s1 s0) 12 i 1 (bcF (atV (setV w 12 i s1 s0) 15 i x2))) 16 i x2))) 12 i 3 ((setV (setV (setV w 12 i s1 s0) 12 i 1 (bcF (atV (setV w 12 i s1 s0) 15 i x2))) 12 i 2 (bcF (atV (setV (setV w 12 i s1 s0) 12 i 1 (bcF (atV (setV w 12 i s1 s0) 15 i x2))) 16 i x2))) 0 i 4)) 12 i 4 (atV (setV (setV (setV (setV w 12 i s1 s0) 12 i 1 (bcF (atV (setV w 12 i s1 s0) 15 i x2))) 12 i 2 (bcF (atV (setV (setV w 12 i s1 s0) 12 i 1 (bcF (atV (setV w 12 i s1 s0) 15 i x2))) 16 i x2))) 12 i 3 ((setV (setV (setV w 12 i s1 s0) 12 i 1 (bcF (atV (setV w 12 i s1 s0) 15 i x2))) 12 i 2 (bcF (atV (setV (setV w 12 i s1 s0) 12 i 1 (bcF (atV (setV w 12 i s1 s0) 15 i x2))) 16 i x2))) 0 i 4)) 17 i x2)) 14 i x2)) 0 i 5), .inr (.inr (some (3, 0)))]) (w1 := setV (setV (setV (setV (setV (setV w 12 i s1 s0) 12 i 1 (bcF (atV (setV w 12 i s1 s0) 15 i x2))) 12 i 2 (bcF (atV (setV (setV w 12 i s1 s0) 12 i 1 (bcF (atV (setV w 12 i s1 s0) 15 i x2))) 16 i x2))) 12 i 3 ((setV (setV (setV w 12 i s1 s0) 12 i 1 (bcF (atV (setV w 12 i s1 s0) 15 i x2))) 12 i 2 (bcF (atV (setV (setV w 12 i s1 s0) 12 i 1 (bcF (atV (setV w 12 i s1 s0) 15 i x2))) 16 i x2))) 0 i 4)) 12 i 4 (atV (setV (setV (setV (setV w 12 i s1 s0) 12 i 1 (bcF (atV (setV w 12 i s1 s0) 15 i x2))) 12 i 2 (bcF (atV (setV (setV w 12 i s1 s0) 12 i 1 (bcF (atV (setV w 12 i s1 s0) 15 i x2))) 16 i x2))) 12 i 3 ((setV (setV (setV w 12 i s1 s0) 12 i 1 (bcF (atV (setV w 12 i s1 s0) 15 i x2))) 12 i 2 (bcF (atV (setV (setV w 12 i s1 s0) 12 i 1 (bcF (atV (setV w 12 i s1 s0) 15 i x2))) 16 i x2))) 0 i 4)) 17 i x2)) 12 i 5 (atV (setV (setV (setV (setV (setV w 12 i s1 s0) 12 i 1 (bcF (atV (setV w 12 i s1 s0) 15 i x2))) 12 i 2 (bcF (atV (setV (setV w 12 i s1 s0) 12 i 1 (bcF (atV (setV w 12 i s1 s0) 15 i x2))) 16 i x2))) 12 i 3 ((setV (setV (setV w 12 i s1 s0) 12 i 1 (bcF (atV (setV w 12 i s1 s0) 15 i x2))) 12 i 2 (bcF (atV (setV (setV w 12 i s1 s0) 12 i 1 (bcF (atV (setV w 12 i s1 s0) 15 i x2))) 16 i x2))) 0 i 4)) 12 i 4 (atV (setV (setV (setV (setV w 12 i s1 s0) 12 i 1 (bcF (atV (setV w 12 i s1 s0) 15 i x2))) 12 i 2 (bcF (atV (setV (setV w 12 i s1 s0) 12 i 1 (bcF (atV (setV w 12 i s1 s0) 15 i x2))) 16 i x2))) 12 i 3 ((setV (setV (setV w 12 i s1 s0) 12 i 1 (bcF (atV (setV w 12 i s1 s0) 15 i x2))) 12 i 2 (bcF (atV (setV (setV w 12 i s1 s0) 12 i 1 (bcF (atV (setV w 12 i s1 s0) 15 i x2))) 16 i x2))) 0 i 4)) 17 i x2)) 14 i x2)) (P := True) [(.aload_n 0, 0, 0, 0, 0), (.getfield 30, 0, 0, 0, 0), (.aload_n 0, 0, 0, 0, 0), (.getfield 44, 0, 5, 0, 0), (.iload_n 1, 0, 0, 0, 0), (.aload_n 0, 0, 0, 0, 0), (.getfield 9, 0, 1, 0, 0)] (by decide +kernel) rfl trivial ?_
  refine GE_callVI (As := [.inl ((setV (setV (setV (setV (setV (setV w 12 i s1 s0) 12 i 1 (bcF (atV (setV w 12 i s1 s0) 15 i x2))) 12 i 2 (bcF (atV (setV (setV w 12 i s1 s0) 12 i 1 (bcF (atV (setV w 12 i s1 s0) 15 i x2))) 16 i x2))) 12 i 3 ((setV (setV (setV w 12 i s1 s0) 12 i 1 (bcF (atV (setV w 12 i s1 s0) 15 i x2))) 12 i 2 (bcF (atV (setV (setV w 12 i s1 s0) 12 i 1 (bcF (atV (setV w 12 i s1 s0) 15 i x2))) 16 i x2))) 0 i 4)) 12 i 4 (atV (setV (setV (setV (setV w 12 i s1 s0) 12 i 1 (bcF (atV (setV w 12 i s1 s0) 15 i x2))) 12 i 2 (bcF (atV (setV (setV w 12 i s1 s0) 12 i 1 (bcF (atV (setV w 12 i s1 s0) 15 i x2))) 16 i x2))) 12 i 3 ((setV (setV (setV w 12 i s1 s0) 12 i 1 (bcF (atV (setV w 12 i s1 s0) 15 i x2))) 12 i 2 (bcF (atV (setV (setV w 12 i s1 s0) 12 i 1 (bcF (atV (setV w 12 i s1 s0) 15 i x2))) 16 i x2))) 0 i 4)) 17 i x2)) 12 i 5 (atV (setV (setV (setV (setV (setV w 12 i s1 s0) 12 i 1 (bcF (atV (setV w 12 i s1 s0) 15 i x2))) 12 i 2 (bcF (atV (setV (setV w 12 i s1 s0) 12 i 1 (bcF (atV (setV w 12 i s1 s0) 15 i x2))) 16 i x2))) 12 i 3 ((setV (setV (setV w 12 i s1 s0) 12 i 1 (bcF (atV (setV w 12 i s1 s0) 15 i x2))) 12 i 2 (bcF (atV (setV (setV w 12 i s1 s0) 12 i 1 (bcF (atV (setV w 12 i s1 s0) 15 i x2))) 16 i x2))) 0 i 4)) 12 i 4 (atV (setV (setV (setV (setV w 12 i s1 s0) 12 i 1 (bcF (atV (setV w 12 i s1 s0) 15 i x2))) 12 i 2 (bcF (atV (setV (setV w 12 i s1 s0) 12 i 1 (bcF (atV (setV w 12 i s1 s0) 15 i x2))) 16 i x2))) 12 i 3 ((setV (setV (setV w 12 i s1 s0) 12 i 1 (bcF (atV (setV w 12 i s1 s0) 15 i x2))) 12 i 2 (bcF (atV (setV (setV w 12 i s1 s0) 12 i 1 (bcF (atV (setV w 12 i s1 s0) 15 i x2))) 16 i x2))) 0 i 4)) 17 i x2)) 14 i x2)) 0 i 5), .inl x1, .inr (.inr (some (12, i)))]) (k := 3) (i := 0) (S := []) (t_X3_value l X hN ((setV (setV (setV (setV (setV (setV w 12 i s1 s0) 12 i 1 (bcF (atV (setV w 12 i s1 s0) 15 i x2))) 12 i 2 (bcF (atV (setV (setV w 12 i s1 s0) 12 i 1 (bcF (atV (setV w 12 i s1 s0) 15 i x2))) 16 i x2))) 12 i 3 ((setV (setV (setV w 12 i s1 s0) 12 i 1 (bcF (atV (setV w 12 i s1 s0) 15 i x2))) 12 i 2 (bcF (atV (setV (setV w 12 i s1 s0) 12 i 1 (bcF (atV (setV w 12 i s1 s0) 15 i x2))) 16 i x2))) 0 i 4)) 12 i 4 (atV (setV (setV (setV (setV w 12 i s1 s0) 12 i 1 (bcF (atV (setV w 12 i s1 s0) 15 i x2))) 12 i 2 (bcF (atV (setV (setV w 12 i s1 s0) 12 i 1 (bcF (atV (setV w 12 i s1 s0) 15 i x2))) 16 i x2))) 12 i 3 ((setV (setV (setV w 12 i s1 s0) 12 i 1 (bcF (atV (setV w 12 i s1 s0) 15 i x2))) 12 i 2 (bcF (atV (setV (setV w 12 i s1 s0) 12 i 1 (bcF (atV (setV w 12 i s1 s0) 15 i x2))) 16 i x2))) 0 i 4)) 17 i x2)) 12 i 5 (atV (setV (setV (setV (setV (setV w 12 i s1 s0) 12 i 1 (bcF (atV (setV w 12 i s1 s0) 15 i x2))) 12 i 2 (bcF (atV (setV (setV w 12 i s1 s0) 12 i 1 (bcF (atV (setV w 12 i s1 s0) 15 i x2))) 16 i x2))) 12 i 3 ((setV (setV (setV w 12 i s1 s0) 12 i 1 (bcF (atV (setV w 12 i s1 s0) 15 i x2))) 12 i 2 (bcF (atV (setV (setV w 12 i s1 s0) 12 i 1 (bcF (atV (setV w 12 i s1 s0) 15 i x2))) 16 i x2))) 0 i 4)) 12 i 4 (atV (setV (setV (setV (setV w 12 i s1 s0) 12 i 1 (bcF (atV (setV w 12 i s1 s0) 15 i x2))) 12 i 2 (bcF (atV (setV (setV w 12 i s1 s0) 12 i 1 (bcF (atV (setV w 12 i s1 s0) 15 i x2))) 16 i x2))) 12 i 3 ((setV (setV (setV w 12 i s1 s0) 12 i 1 (bcF (atV (setV w 12 i s1 s0) 15 i x2))) 12 i 2 (bcF (atV (setV (setV w 12 i s1 s0) 12 i 1 (bcF (atV (setV w 12 i s1 s0) 15 i x2))) 16 i x2))) 0 i 4)) 17 i x2)) 14 i x2)) 0 i 5) x1 i hi (setV (setV (setV (setV (setV (setV w 12 i s1 s0) 12 i 1 (bcF (atV (setV w 12 i s1 s0) 15 i x2))) 12 i 2 (bcF (atV (setV (setV w 12 i s1 s0) 12 i 1 (bcF (atV (setV w 12 i s1 s0) 15 i x2))) 16 i x2))) 12 i 3 ((setV (setV (setV w 12 i s1 s0) 12 i 1 (bcF (atV (setV w 12 i s1 s0) 15 i x2))) 12 i 2 (bcF (atV (setV (setV w 12 i s1 s0) 12 i 1 (bcF (atV (setV w 12 i s1 s0) 15 i x2))) 16 i x2))) 0 i 4)) 12 i 4 (atV (setV (setV (setV (setV w 12 i s1 s0) 12 i 1 (bcF (atV (setV w 12 i s1 s0) 15 i x2))) 12 i 2 (bcF (atV (setV (setV w 12 i s1 s0) 12 i 1 (bcF (atV (setV w 12 i s1 s0) 15 i x2))) 16 i x2))) 12 i 3 ((setV (setV (setV w 12 i s1 s0) 12 i 1 (bcF (atV (setV w 12 i s1 s0) 15 i x2))) 12 i 2 (bcF (atV (setV (setV w 12 i s1 s0) 12 i 1 (bcF (atV (setV w 12 i s1 s0) 15 i x2))) 16 i x2))) 0 i 4)) 17 i x2)) 12 i 5 (atV (setV (setV (setV (setV (setV w 12 i s1 s0) 12 i 1 (bcF (atV (setV w 12 i s1 s0) 15 i x2))) 12 i 2 (bcF (atV (setV (setV w 12 i s1 s0) 12 i 1 (bcF (atV (setV w 12 i s1 s0) 15 i x2))) 16 i x2))) 12 i 3 ((setV (setV (setV w 12 i s1 s0) 12 i 1 (bcF (atV (setV w 12 i s1 s0) 15 i x2))) 12 i 2 (bcF (atV (setV (setV w 12 i s1 s0) 12 i 1 (bcF (atV (setV w 12 i s1 s0) 15 i x2))) 16 i x2))) 0 i 4)) 12 i 4 (atV (setV (setV (setV (setV w 12 i s1 s0) 12 i 1 (bcF (atV (setV w 12 i s1 s0) 15 i x2))) 12 i 2 (bcF (atV (setV (setV w 12 i s1 s0) 12 i 1 (bcF (atV (setV w 12 i s1 s0) 15 i x2))) 16 i x2))) 12 i 3 ((setV (setV (setV w 12 i s1 s0) 12 i 1 (bcF (atV (setV w 12 i s1 s0) 15 i x2))) 12 i 2 (bcF (atV (setV (setV w 12 i s1 s0) 12 i 1 (bcF (atV (setV w 12 i s1 s0) 15 i x2))) 16 i x2))) 0 i 4)) 17 i x2)) 14 i x2))) (by decide) ⟨me_X3_value, mi_X3_value, mv_X3_value, lk_X0_61⟩ rfl (by decide +kernel) rfl (by decide) (by decide) (Nat.le_of_ble_eq_true rfl) (fun r2 _ => ?_)
  refine GE_run (flG_T hN) (pc1 := 129) (L1 := [some (.inr (.inr (some (0, i)))), some (.inl x1), some (.inl x2), none, some (.inl r2.1)]) (S1 := [.inl 2, .inl x1]) (w1 := r2.2) (P := True) [(.istore 4, 0, 0, 0, 0), (.iload_n 1, 0, 0, 0, 0), (.iconst 2, 0, 0, 2, 0)] (by decide +kernel) rfl trivial ?_
  refine GE_icmpN (k := .ne) (off := 14) (tgt := 143) (by decide +kernel) (by decide) (cnd_ne _ _) (fun c3 => ?_) (fun c3 => ?_)
  · refine GE_run (flG_T hN) (pc1 := 149) (L1 := [some (.inr (.inr (some (0, i)))), some (.inl x1), some (.inl x2), none, some (.inl r2.1)]) (S1 := [.inl 99, .inl (-99), .inl r2.1]) (w1 := r2.2) (P := True) [(.iload 4, 0, 0, 0, 0), (.bipush (-99), 0, 0, -99, 0), (.bipush 99, 0, 0, 99, 0)] (by decide +kernel) rfl trivial ?_
    refine GE_callNIp (As := [.inl r2.1, .inl (-99), .inl 99]) (S := []) (p_X4_bounded l X hN r2.1 (-99) 99 r2.2) ⟨me_X4_bounded, ms_X4_bounded, ln_X0_67⟩ (by decide +kernel) rfl (by decide) (by decide) (Nat.le_of_ble_eq_true rfl) ?_
    exact GE_iret rfl (by decide +kernel)
  · refine GE_run (flG_T hN) (pc1 := 137) (L1 := [some (.inr (.inr (some (0, i)))), some (.inl x1), some (.inl x2), none, some (.inl r2.1)]) (S1 := [.inl 16, .inl 0, .inl r2.1]) (w1 := r2.2) (P := True) [(.iload 4, 0, 0, 0, 0), (.iconst 0, 0, 0, 0, 0), (.bipush 16, 0, 0, 16, 0)] (by decide +kernel) rfl trivial ?_
    refine GE_callNIp (As := [.inl r2.1, .inl 0, .inl 16]) (S := []) (p_X4_bounded l X hN r2.1 0 16 r2.2) ⟨me_X4_bounded, ms_X4_bounded, ln_X0_67⟩ (by decide +kernel) rfl (by decide) (by decide) (Nat.le_of_ble_eq_true rfl) ?_
    refine GE_run (flG_T hN) (pc1 := 152) (L1 := [some (.inr (.inr (some (0, i)))), some (.inl x1), some (.inl x2), none, some (.inl r2.1)]) (S1 := [.inl (wiF r2.1 0 16)]) (w1 := r2.2) (P := True) [(.goto 12, 0, 0, 0, 0)] (by decide +kernel) rfl trivial ?_
    exact GE_iret rfl (by decide +kernel)
noncomputable def f_X0_says (i : Nat) (a1 : Int32) (a2 : Int32) (a3 : Int32) (w : Mem) : Option (Int32 × Mem) := if a1 = 2 then (j_X0_says_24 i a1 a2 0 0 w) else (j_X0_says_24 i a1 a2 a3 0 w)
set_option maxRecDepth 100000 in
theorem t_X0_says (l : Launch) (X : XC) {N9 : Nat} (hN : 39 ≤ N9)  (i : Nat) (a1 : Int32) (a2 : Int32) (a3 : Int32) (hi : i < 3) (w : Mem) : Ct l X 2 yX0_says cX0_says 5 (some .int) emI [.inr (.inr (some (0, i))), .inl a1, .inl a2, .inl a3] N9 flT w (f_X0_says i a1 a2 a3 w) := by
  refine Ct_of (mi := mm_X0_says) (mik_X0 _ _ _) me_X0_says rfl (okAs_cons (ok_coast_0 hN hi) (okAs_cons rfl (okAs_cons rfl (okAs_cons rfl okAs_nil)))) (Nat.le_of_ble_eq_true rfl) ?_
  unfold f_X0_says
  refine GE_run (flG_T hN) (pc1 := 4) (L1 := [some (.inr (.inr (some (0, i)))), some (.inl a1), some (.inl a2), some (.inl a3), none]) (S1 := [.inr (.inr (some (3, 0)))]) (w1 := w) (P := True) [(.aload_n 0, 0, 0, 0, 0), (.getfield 30, 0, 0, 0, 0)] (by decide +kernel) rfl trivial ?_
  refine GE_nonnull1 (off := 5) (tgt := 9) (by decide +kernel) (by decide) ?_
  refine GE_run (flG_T hN) (pc1 := 16) (L1 := [some (.inr (.inr (some (0, i)))), some (.inl a1), some (.inl a2), some (.inl a3), none]) (S1 := [.inl 2, .inl a1, .inl 0, .inr (.inr (some (12, i)))]) (w1 := w) (P := True) [(.aload_n 0, 0, 0, 0, 0), (.getfield 9, 0, 1, 0, 0), (.iconst 0, 0, 0, 0, 0), (.iload_n 1, 0, 0, 0, 0), (.iconst 2, 0, 0, 2, 0)] (by decide +kernel) rfl trivial ?_
  refine GE_icmpN (k := .ne) (off := 7) (tgt := 23) (by decide +kernel) (by decide) (cnd_ne _ _) (fun c1 => ?_) (fun c1 => ?_)
  · refine GE_run (flG_T hN) (pc1 := 24) (L1 := [some (.inr (.inr (some (0, i)))), some (.inl a1), some (.inl a2), some (.inl a3), none]) (S1 := [.inl a3, .inl 0, .inr (.inr (some (12, i)))]) (w1 := w) (P := True) [(.iload_n 3, 0, 0, 0, 0)] (by decide +kernel) rfl trivial ?_
    exact GE_weak [true, true, true, false, false] (j_X0_says_24_ok l X hN i a1 a2 a3 0 hi w)
  · refine GE_run (flG_T hN) (pc1 := 24) (L1 := [some (.inr (.inr (some (0, i)))), some (.inl a1), some (.inl a2), some (.inl a3), none]) (S1 := [.inl 0, .inl 0, .inr (.inr (some (12, i)))]) (w1 := w) (P := True) [(.iconst 0, 0, 0, 0, 0), (.goto 4, 0, 0, 0, 0)] (by decide +kernel) rfl trivial ?_
    exact GE_weak [true, true, true, false, false] (j_X0_says_24_ok l X hN i a1 a2 0 0 hi w)
abbrev mm_X0_letsGo : MI := (RX0, cX0_letsGo, 6, (some .int), ftp_X0.map (fun q => q.1), ctp_X0.map (fun q => q.1), clp_X0.map (fun q => q.1))
noncomputable def j_X0_letsGo_147 (i : Nat)  (x1 : Int32) (x4 : Int32) (w : Mem) : Option (Int32 × Mem) := some (nthF (atV w 15 i x1) x4, w)
set_option maxRecDepth 100000 in
theorem j_X0_letsGo_147_ok (l : Launch) (X : XC) {N9 : Nat} (hN : 39 ≤ N9) (i : Nat)  (x1 : Int32) (x4 : Int32) (hi : i < 3)  (w : Mem) : GE l X mm_X0_letsGo 3 emI N9 flT (j_X0_letsGo_147 i x1 x4 w) 147 [some (.inr (.inr (some (0, i)))), some (.inl x1), none, none, some (.inl x4), none] [] w := by
  unfold j_X0_letsGo_147
  refine GE_run (flG_T hN) (pc1 := 152) (L1 := [some (.inr (.inr (some (0, i)))), some (.inl x1), none, none, some (.inl x4), none]) (S1 := [.inl x1, .inr (.inr (some (15, i)))]) (w1 := w) (P := True) [(.aload_n 0, 0, 0, 0, 0), (.getfield 21, 0, 8, 0, 0), (.iload_n 1, 0, 0, 0, 0)] (by decide +kernel) rfl trivial ?_
  refine GE_callNIp (As := [.inr (.inr (some (15, i))), .inl x1]) (S := []) (p_X4_at l X hN 15 i x1 (by decide) (ok_coast_15 hN hi) w) ⟨me_X4_at, ms_X4_at, ln_X0_47⟩ (by decide +kernel) rfl (by decide) (by decide) (Nat.le_of_ble_eq_true rfl) ?_
  refine GE_run (flG_T hN) (pc1 := 157) (L1 := [some (.inr (.inr (some (0, i)))), some (.inl x1), none, none, some (.inl x4), none]) (S1 := [.inl x4, .inl (atV w 15 i x1)]) (w1 := w) (P := True) [(.iload 4, 0, 0, 0, 0)] (by decide +kernel) rfl trivial ?_
  refine GE_callNIp (As := [.inl (atV w 15 i x1), .inl x4]) (S := []) (p_X4_numbered l X hN (atV w 15 i x1) x4 w) ⟨me_X4_numbered, ms_X4_numbered, ln_X0_80⟩ (by decide +kernel) rfl (by decide) (by decide) (Nat.le_of_ble_eq_true rfl) ?_
  exact GE_iret rfl (by decide +kernel)
noncomputable def f_X0_letsGo (i : Nat) (a1 : Int32) (a2 : Int32) (w : Mem) : Option (Int32 × Mem) := if (bcF (atV w 15 i a1)) < 1 then (some ((-1), w)) else (Option.bind (f_X0_says i 0 a1 a2 w) (fun r2 => Option.bind (f_J9_floorMod r2.1 (bcF (atV w 15 i a1)) r2.2) (fun r3 => swE (atV r3.2 13 i a1) 1 [some (nthF (atV r3.2 15 i a1) (((bcF (atV w 15 i a1)) - 1) - r3.1), r3.2), j_X0_letsGo_147 i a1 r3.1 r3.2, if (bcF (atV w 15 i a1)) < 2 then (some (nthF (atV r3.2 15 i a1) 0, r3.2)) else (some (nthF (atV r3.2 15 i a1) (mxF (((bcF (atV w 15 i a1)) - 1) - r3.1) 1), r3.2)), j_X0_letsGo_147 i a1 r3.1 r3.2, if ¬ (bcF (atV w 15 i a1) : Int32) = 0 then (some (nthF (atV r3.2 15 i a1) (rmI (atV r3.2 14 i a1) (bcF (atV w 15 i a1))), r3.2)) else none] (j_X0_letsGo_147 i a1 r3.1 r3.2))))
set_option maxRecDepth 100000 in
theorem t_X0_letsGo (l : Launch) (X : XC) {N9 : Nat} (hN : 39 ≤ N9)  (i : Nat) (a1 : Int32) (a2 : Int32) (hi : i < 3) (w : Mem) : Ct l X 3 yX0_letsGo cX0_letsGo 6 (some .int) emI [.inr (.inr (some (0, i))), .inl a1, .inl a2] N9 flT w (f_X0_letsGo i a1 a2 w) := by
  refine Ct_of (mi := mm_X0_letsGo) (mik_X0 _ _ _) me_X0_letsGo rfl (okAs_cons (ok_coast_0 hN hi) (okAs_cons rfl (okAs_cons rfl okAs_nil))) (Nat.le_of_ble_eq_true rfl) ?_
  unfold f_X0_letsGo
  refine GE_run (flG_T hN) (pc1 := 5) (L1 := [some (.inr (.inr (some (0, i)))), some (.inl a1), some (.inl a2), none, none, none]) (S1 := [.inl a1, .inr (.inr (some (15, i)))]) (w1 := w) (P := True) [(.aload_n 0, 0, 0, 0, 0), (.getfield 21, 0, 8, 0, 0), (.iload_n 1, 0, 0, 0, 0)] (by decide +kernel) rfl trivial ?_
  refine GE_callNIp (As := [.inr (.inr (some (15, i))), .inl a1]) (S := []) (p_X4_at l X hN 15 i a1 (by decide) (ok_coast_15 hN hi) w) ⟨me_X4_at, ms_X4_at, ln_X0_47⟩ (by decide +kernel) rfl (by decide) (by decide) (Nat.le_of_ble_eq_true rfl) ?_
  refine GE_callSIp (As := [.inl (atV w 15 i a1)]) (S := []) (p_J6_bitCount l X hN (atV w 15 i a1) w) ⟨me_J6_bitCount_0f7a4, ms_J6_bitCount_0f7a4, lk_X0_55⟩ (by decide +kernel) rfl (by decide) (by decide) (Nat.le_of_ble_eq_true rfl) ?_
  refine GE_run (flG_T hN) (pc1 := 14) (L1 := [some (.inr (.inr (some (0, i)))), some (.inl a1), some (.inl a2), some (.inl (bcF (atV w 15 i a1))), none, none]) (S1 := [.inl 1, .inl (bcF (atV w 15 i a1))]) (w1 := w) (P := True) [(.istore_n 3, 0, 0, 0, 0), (.iload_n 3, 0, 0, 0, 0), (.iconst 1, 0, 0, 1, 0)] (by decide +kernel) rfl trivial ?_
  refine GE_icmpN (k := .ge) (off := 5) (tgt := 19) (by decide +kernel) (by decide) (cnd_ge _ _) (fun c1 => ?_) (fun c1 => ?_)
  · refine GE_run (flG_T hN) (pc1 := 23) (L1 := [some (.inr (.inr (some (0, i)))), some (.inl a1), some (.inl a2), some (.inl (bcF (atV w 15 i a1))), none, none]) (S1 := [.inl a2, .inl a1, .inl 0, .inr (.inr (some (0, i)))]) (w1 := w) (P := True) [(.aload_n 0, 0, 0, 0, 0), (.iconst 0, 0, 0, 0, 0), (.iload_n 1, 0, 0, 0, 0), (.iload_n 2, 0, 0, 0, 0)] (by decide +kernel) rfl trivial ?_
    refine GE_callVI (As := [.inl 0, .inl a1, .inl a2]) (k := 0) (i := i) (S := []) (t_X0_says l X hN i 0 a1 a2 hi w) (by decide) ⟨me_X0_says, mi_X0_says, mv_X0_says, lk_X0_71⟩ rfl (by decide +kernel) rfl (by decide) (by decide) (Nat.le_of_ble_eq_true rfl) (fun r2 _ => ?_)
    refine GE_run (flG_T hN) (pc1 := 27) (L1 := [some (.inr (.inr (some (0, i)))), some (.inl a1), some (.inl a2), some (.inl (bcF (atV w 15 i a1))), none, none]) (S1 := [.inl (bcF (atV w 15 i a1)), .inl r2.1]) (w1 := r2.2) (P := True) [(.iload_n 3, 0, 0, 0, 0)] (by decide +kernel) rfl trivial ?_
    refine GE_callSI (As := [.inl r2.1, .inl (bcF (atV w 15 i a1))]) (S := []) (t_J9_floorMod l X hN r2.1 (bcF (atV w 15 i a1)) r2.2) ⟨me_J9_floorMod_7cf53, ms_J9_floorMod_7cf53, lk_X0_74⟩ (by decide +kernel) rfl (by decide) (by decide) (Nat.le_of_ble_eq_true rfl) (fun r3 _ => ?_)
    refine GE_run (flG_T hN) (pc1 := 45) (L1 := [some (.inr (.inr (some (0, i)))), some (.inl a1), some (.inl a2), some (.inl (bcF (atV w 15 i a1))), some (.inl r3.1), some (.inl (((bcF (atV w 15 i a1)) - 1) - r3.1))]) (S1 := [.inl a1, .inr (.inr (some (13, i)))]) (w1 := r3.2) (P := True) [(.istore 4, 0, 0, 0, 0), (.iload_n 3, 0, 0, 0, 0), (.iconst 1, 0, 0, 1, 0), (.isub, 0, 0, 0, 0), (.iload 4, 0, 0, 0, 0), (.isub, 0, 0, 0, 0), (.istore 5, 0, 0, 0, 0), (.aload_n 0, 0, 0, 0, 0), (.getfield 15, 0, 6, 0, 0), (.iload_n 1, 0, 0, 0, 0)] (by decide +kernel) rfl trivial ?_
    refine GE_callNIp (As := [.inr (.inr (some (13, i))), .inl a1]) (S := []) (p_X4_at l X hN 13 i a1 (by decide) (ok_coast_13 hN hi) r3.2) ⟨me_X4_at, ms_X4_at, ln_X0_47⟩ (by decide +kernel) rfl (by decide) (by decide) (Nat.le_of_ble_eq_true rfl) ?_
    refine GE_swm (dflt := 99) (lo := 1) (hi := 5) (offs := #[36, 99, 50, 99, 77]) (len := 36) (dt := 147) (mm := 5) [84, 147, 98, 147, 125] (by decide +kernel) rfl (by decide +kernel) (And.intro (fun _ => ?_) (And.intro (fun _ => ?_) (And.intro (fun _ => ?_) (And.intro (fun _ => ?_) (And.intro (fun _ => ?_) (trivial)))))) ?_
    · refine GE_run (flG_T hN) (pc1 := 89) (L1 := [some (.inr (.inr (some (0, i)))), some (.inl a1), some (.inl a2), some (.inl (bcF (atV w 15 i a1))), some (.inl r3.1), some (.inl (((bcF (atV w 15 i a1)) - 1) - r3.1))]) (S1 := [.inl a1, .inr (.inr (some (15, i)))]) (w1 := r3.2) (P := True) [(.aload_n 0, 0, 0, 0, 0), (.getfield 21, 0, 8, 0, 0), (.iload_n 1, 0, 0, 0, 0)] (by decide +kernel) rfl trivial ?_
      refine GE_callNIp (As := [.inr (.inr (some (15, i))), .inl a1]) (S := []) (p_X4_at l X hN 15 i a1 (by decide) (ok_coast_15 hN hi) r3.2) ⟨me_X4_at, ms_X4_at, ln_X0_47⟩ (by decide +kernel) rfl (by decide) (by decide) (Nat.le_of_ble_eq_true rfl) ?_
      refine GE_run (flG_T hN) (pc1 := 94) (L1 := [some (.inr (.inr (some (0, i)))), some (.inl a1), some (.inl a2), some (.inl (bcF (atV w 15 i a1))), some (.inl r3.1), some (.inl (((bcF (atV w 15 i a1)) - 1) - r3.1))]) (S1 := [.inl (((bcF (atV w 15 i a1)) - 1) - r3.1), .inl (atV r3.2 15 i a1)]) (w1 := r3.2) (P := True) [(.iload 5, 0, 0, 0, 0)] (by decide +kernel) rfl trivial ?_
      refine GE_callNIp (As := [.inl (atV r3.2 15 i a1), .inl (((bcF (atV w 15 i a1)) - 1) - r3.1)]) (S := []) (p_X4_numbered l X hN (atV r3.2 15 i a1) (((bcF (atV w 15 i a1)) - 1) - r3.1) r3.2) ⟨me_X4_numbered, ms_X4_numbered, ln_X0_80⟩ (by decide +kernel) rfl (by decide) (by decide) (Nat.le_of_ble_eq_true rfl) ?_
      exact GE_iret rfl (by decide +kernel)
    · exact GE_weak [true, true, false, false, true, false] (j_X0_letsGo_147_ok l X hN i a1 r3.1 hi r3.2)
    · refine GE_run (flG_T hN) (pc1 := 103) (L1 := [some (.inr (.inr (some (0, i)))), some (.inl a1), some (.inl a2), some (.inl (bcF (atV w 15 i a1))), some (.inl r3.1), some (.inl (((bcF (atV w 15 i a1)) - 1) - r3.1))]) (S1 := [.inl a1, .inr (.inr (some (15, i)))]) (w1 := r3.2) (P := True) [(.aload_n 0, 0, 0, 0, 0), (.getfield 21, 0, 8, 0, 0), (.iload_n 1, 0, 0, 0, 0)] (by decide +kernel) rfl trivial ?_
      refine GE_callNIp (As := [.inr (.inr (some (15, i))), .inl a1]) (S := []) (p_X4_at l X hN 15 i a1 (by decide) (ok_coast_15 hN hi) r3.2) ⟨me_X4_at, ms_X4_at, ln_X0_47⟩ (by decide +kernel) rfl (by decide) (by decide) (Nat.le_of_ble_eq_true rfl) ?_
      refine GE_run (flG_T hN) (pc1 := 108) (L1 := [some (.inr (.inr (some (0, i)))), some (.inl a1), some (.inl a2), some (.inl (bcF (atV w 15 i a1))), some (.inl r3.1), some (.inl (((bcF (atV w 15 i a1)) - 1) - r3.1))]) (S1 := [.inl 2, .inl (bcF (atV w 15 i a1)), .inl (atV r3.2 15 i a1)]) (w1 := r3.2) (P := True) [(.iload_n 3, 0, 0, 0, 0), (.iconst 2, 0, 0, 2, 0)] (by decide +kernel) rfl trivial ?_
      refine GE_icmpN (k := .ge) (off := 7) (tgt := 115) (by decide +kernel) (by decide) (cnd_ge _ _) (fun c4 => ?_) (fun c4 => ?_)
      · refine GE_run (flG_T hN) (pc1 := 118) (L1 := [some (.inr (.inr (some (0, i)))), some (.inl a1), some (.inl a2), some (.inl (bcF (atV w 15 i a1))), some (.inl r3.1), some (.inl (((bcF (atV w 15 i a1)) - 1) - r3.1))]) (S1 := [.inl 1, .inl (((bcF (atV w 15 i a1)) - 1) - r3.1), .inl (atV r3.2 15 i a1)]) (w1 := r3.2) (P := True) [(.iload 5, 0, 0, 0, 0), (.iconst 1, 0, 0, 1, 0)] (by decide +kernel) rfl trivial ?_
        refine GE_callSIp (As := [.inl (((bcF (atV w 15 i a1)) - 1) - r3.1), .inl 1]) (S := [.inl (atV r3.2 15 i a1)]) (p_J9_max l X hN (((bcF (atV w 15 i a1)) - 1) - r3.1) 1 r3.2) ⟨me_J9_max_7cf53, ms_J9_max_7cf53, lk_X0_83⟩ (by decide +kernel) rfl (by decide) (by decide) (Nat.le_of_ble_eq_true rfl) ?_
        refine GE_callNIp (As := [.inl (atV r3.2 15 i a1), .inl (mxF (((bcF (atV w 15 i a1)) - 1) - r3.1) 1)]) (S := []) (p_X4_numbered l X hN (atV r3.2 15 i a1) (mxF (((bcF (atV w 15 i a1)) - 1) - r3.1) 1) r3.2) ⟨me_X4_numbered, ms_X4_numbered, ln_X0_80⟩ (by decide +kernel) rfl (by decide) (by decide) (Nat.le_of_ble_eq_true rfl) ?_
        exact GE_iret rfl (by decide +kernel)
      · refine GE_run (flG_T hN) (pc1 := 121) (L1 := [some (.inr (.inr (some (0, i)))), some (.inl a1), some (.inl a2), some (.inl (bcF (atV w 15 i a1))), some (.inl r3.1), some (.inl (((bcF (atV w 15 i a1)) - 1) - r3.1))]) (S1 := [.inl 0, .inl (atV r3.2 15 i a1)]) (w1 := r3.2) (P := True) [(.iconst 0, 0, 0, 0, 0), (.goto 9, 0, 0, 0, 0)] (by decide +kernel) rfl trivial ?_
        refine GE_callNIp (As := [.inl (atV r3.2 15 i a1), .inl 0]) (S := []) (p_X4_numbered l X hN (atV r3.2 15 i a1) 0 r3.2) ⟨me_X4_numbered, ms_X4_numbered, ln_X0_80⟩ (by decide +kernel) rfl (by decide) (by decide) (Nat.le_of_ble_eq_true rfl) ?_
        exact GE_iret rfl (by decide +kernel)
    · exact GE_weak [true, true, false, false, true, false] (j_X0_letsGo_147_ok l X hN i a1 r3.1 hi r3.2)
    · refine GE_run (flG_T hN) (pc1 := 130) (L1 := [some (.inr (.inr (some (0, i)))), some (.inl a1), some (.inl a2), some (.inl (bcF (atV w 15 i a1))), some (.inl r3.1), some (.inl (((bcF (atV w 15 i a1)) - 1) - r3.1))]) (S1 := [.inl a1, .inr (.inr (some (15, i)))]) (w1 := r3.2) (P := True) [(.aload_n 0, 0, 0, 0, 0), (.getfield 21, 0, 8, 0, 0), (.iload_n 1, 0, 0, 0, 0)] (by decide +kernel) rfl trivial ?_
      refine GE_callNIp (As := [.inr (.inr (some (15, i))), .inl a1]) (S := []) (p_X4_at l X hN 15 i a1 (by decide) (ok_coast_15 hN hi) r3.2) ⟨me_X4_at, ms_X4_at, ln_X0_47⟩ (by decide +kernel) rfl (by decide) (by decide) (Nat.le_of_ble_eq_true rfl) ?_
      refine GE_run (flG_T hN) (pc1 := 138) (L1 := [some (.inr (.inr (some (0, i)))), some (.inl a1), some (.inl a2), some (.inl (bcF (atV w 15 i a1))), some (.inl r3.1), some (.inl (((bcF (atV w 15 i a1)) - 1) - r3.1))]) (S1 := [.inl a1, .inr (.inr (some (14, i))), .inl (atV r3.2 15 i a1)]) (w1 := r3.2) (P := True) [(.aload_n 0, 0, 0, 0, 0), (.getfield 18, 0, 7, 0, 0), (.iload_n 1, 0, 0, 0, 0)] (by decide +kernel) rfl trivial ?_
      refine GE_callNIp (As := [.inr (.inr (some (14, i))), .inl a1]) (S := [.inl (atV r3.2 15 i a1)]) (p_X4_at l X hN 14 i a1 (by decide) (ok_coast_14 hN hi) r3.2) ⟨me_X4_at, ms_X4_at, ln_X0_47⟩ (by decide +kernel) rfl (by decide) (by decide) (Nat.le_of_ble_eq_true rfl) ?_
      refine GE_chk (fun h5 => ?_)
      refine GE_run (flG_T hN) (pc1 := 143) (L1 := [some (.inr (.inr (some (0, i)))), some (.inl a1), some (.inl a2), some (.inl (bcF (atV w 15 i a1))), some (.inl r3.1), some (.inl (((bcF (atV w 15 i a1)) - 1) - r3.1))]) (S1 := [.inl (rmI (atV r3.2 14 i a1) (bcF (atV w 15 i a1))), .inl (atV r3.2 15 i a1)]) (w1 := r3.2) (P := (¬ (bcF (atV w 15 i a1) : Int32) = 0) ∧ True) [(.iload_n 3, 0, 0, 0, 0), (.irem, 0, 0, 0, 0)] (by decide +kernel) rfl ⟨h5, trivial⟩ ?_
      refine GE_callNIp (As := [.inl (atV r3.2 15 i a1), .inl (rmI (atV r3.2 14 i a1) (bcF (atV w 15 i a1)))]) (S := []) (p_X4_numbered l X hN (atV r3.2 15 i a1) (rmI (atV r3.2 14 i a1) (bcF (atV w 15 i a1))) r3.2) ⟨me_X4_numbered, ms_X4_numbered, ln_X0_80⟩ (by decide +kernel) rfl (by decide) (by decide) (Nat.le_of_ble_eq_true rfl) ?_
      exact GE_iret rfl (by decide +kernel)
    · exact GE_weak [true, true, false, false, true, false] (j_X0_letsGo_147_ok l X hN i a1 r3.1 hi r3.2)
  · refine GE_run (flG_T hN) (pc1 := 18) (L1 := [some (.inr (.inr (some (0, i)))), some (.inl a1), some (.inl a2), some (.inl (bcF (atV w 15 i a1))), none, none]) (S1 := [.inl (-1)]) (w1 := w) (P := True) [(.iconst (-1), 0, 0, -1, 0)] (by decide +kernel) rfl trivial ?_
    exact GE_iret rfl (by decide +kernel)
abbrev mm_X0_lucksBy : MI := (RX0, cX0_lucksBy, 5, (some .int), ftp_X0.map (fun q => q.1), ctp_X0.map (fun q => q.1), clp_X0.map (fun q => q.1))
noncomputable def j_X0_lucksBy_60 (i : Nat)  (x1 : Int32) (x3 : Int32) (x4 : Int32) (w : Mem) : Option (Int32 × Mem) := if x3 = 0 then (some (x4 - (atV w 14 i x1), w)) else (some (x4, w))
set_option maxRecDepth 100000 in
theorem j_X0_lucksBy_60_ok (l : Launch) (X : XC) {N9 : Nat} (hN : 39 ≤ N9) (i : Nat)  (x1 : Int32) (x3 : Int32) (x4 : Int32) (hi : i < 3)  (w : Mem) : GE l X mm_X0_lucksBy 3 emI N9 flT (j_X0_lucksBy_60 i x1 x3 x4 w) 60 [some (.inr (.inr (some (0, i)))), some (.inl x1), none, some (.inl x3), some (.inl x4)] [] w := by
  unfold j_X0_lucksBy_60
  refine GE_run (flG_T hN) (pc1 := 61) (L1 := [some (.inr (.inr (some (0, i)))), some (.inl x1), none, some (.inl x3), some (.inl x4)]) (S1 := [.inl x3]) (w1 := w) (P := True) [(.iload_n 3, 0, 0, 0, 0)] (by decide +kernel) rfl trivial ?_
  refine GE_if (k := .eq) (off := 8) (tgt := 69) (by decide +kernel) (by decide) (cnd_eq _ _) (fun c2 => ?_) (fun c2 => ?_)
  · refine GE_run (flG_T hN) (pc1 := 76) (L1 := [some (.inr (.inr (some (0, i)))), some (.inl x1), none, some (.inl x3), some (.inl x4)]) (S1 := [.inl x1, .inr (.inr (some (14, i))), .inl x4]) (w1 := w) (P := True) [(.iload 4, 0, 0, 0, 0), (.aload_n 0, 0, 0, 0, 0), (.getfield 18, 0, 7, 0, 0), (.iload_n 1, 0, 0, 0, 0)] (by decide +kernel) rfl trivial ?_
    refine GE_callNIp (As := [.inr (.inr (some (14, i))), .inl x1]) (S := [.inl x4]) (p_X4_at l X hN 14 i x1 (by decide) (ok_coast_14 hN hi) w) ⟨me_X4_at, ms_X4_at, ln_X0_47⟩ (by decide +kernel) rfl (by decide) (by decide) (Nat.le_of_ble_eq_true rfl) ?_
    refine GE_run (flG_T hN) (pc1 := 80) (L1 := [some (.inr (.inr (some (0, i)))), some (.inl x1), none, some (.inl x3), some (.inl x4)]) (S1 := [.inl (x4 - (atV w 14 i x1))]) (w1 := w) (P := True) [(.isub, 0, 0, 0, 0)] (by decide +kernel) rfl trivial ?_
    exact GE_iret rfl (by decide +kernel)
  · refine GE_run (flG_T hN) (pc1 := 80) (L1 := [some (.inr (.inr (some (0, i)))), some (.inl x1), none, some (.inl x3), some (.inl x4)]) (S1 := [.inl x4]) (w1 := w) (P := True) [(.iload 4, 0, 0, 0, 0), (.goto 14, 0, 0, 0, 0)] (by decide +kernel) rfl trivial ?_
    exact GE_iret rfl (by decide +kernel)
noncomputable def f_X0_lucksBy (i : Nat) (a1 : Int32) (a2 : Int32) (w : Mem) : Option (Int32 × Mem) := Option.bind (f_X0_says i 1 a1 a2 w) (fun r1 => swE (atV r1.2 13 i a1) 1 [j_X0_lucksBy_60 i a1 (holdsF (atV w 15 i a1) a2) r1.1 r1.2, if ¬ (2 : Int32) = 0 then (some (r1.1 / 2, r1.2)) else none, j_X0_lucksBy_60 i a1 (holdsF (atV w 15 i a1) a2) r1.1 r1.2, if (holdsF (atV w 15 i a1) a2) = 0 then (if ¬ (2 : Int32) = 0 then (some (r1.1 / 2, r1.2)) else none) else (some (atV r1.2 14 i a1, r1.2))] (some (r1.1, r1.2)))
set_option maxRecDepth 100000 in
theorem t_X0_lucksBy (l : Launch) (X : XC) {N9 : Nat} (hN : 39 ≤ N9)  (i : Nat) (a1 : Int32) (a2 : Int32) (hi : i < 3) (w : Mem) : Ct l X 3 yX0_lucksBy cX0_lucksBy 5 (some .int) emI [.inr (.inr (some (0, i))), .inl a1, .inl a2] N9 flT w (f_X0_lucksBy i a1 a2 w) := by
  refine Ct_of (mi := mm_X0_lucksBy) (mik_X0 _ _ _) me_X0_lucksBy rfl (okAs_cons (ok_coast_0 hN hi) (okAs_cons rfl (okAs_cons rfl okAs_nil))) (Nat.le_of_ble_eq_true rfl) ?_
  unfold f_X0_lucksBy
  refine GE_run (flG_T hN) (pc1 := 5) (L1 := [some (.inr (.inr (some (0, i)))), some (.inl a1), some (.inl a2), none, none]) (S1 := [.inl a1, .inr (.inr (some (15, i)))]) (w1 := w) (P := True) [(.aload_n 0, 0, 0, 0, 0), (.getfield 21, 0, 8, 0, 0), (.iload_n 1, 0, 0, 0, 0)] (by decide +kernel) rfl trivial ?_
  refine GE_callNIp (As := [.inr (.inr (some (15, i))), .inl a1]) (S := []) (p_X4_at l X hN 15 i a1 (by decide) (ok_coast_15 hN hi) w) ⟨me_X4_at, ms_X4_at, ln_X0_47⟩ (by decide +kernel) rfl (by decide) (by decide) (Nat.le_of_ble_eq_true rfl) ?_
  refine GE_run (flG_T hN) (pc1 := 9) (L1 := [some (.inr (.inr (some (0, i)))), some (.inl a1), some (.inl a2), none, none]) (S1 := [.inl a2, .inl (atV w 15 i a1)]) (w1 := w) (P := True) [(.iload_n 2, 0, 0, 0, 0)] (by decide +kernel) rfl trivial ?_
  refine GE_callNIp (As := [.inl (atV w 15 i a1), .inl a2]) (S := []) (p_X4_holds l X hN (atV w 15 i a1) a2 w) ⟨me_X4_holds, ms_X4_holds, ln_X0_86⟩ (by decide +kernel) rfl (by decide) (by decide) (Nat.le_of_ble_eq_true rfl) ?_
  refine GE_run (flG_T hN) (pc1 := 17) (L1 := [some (.inr (.inr (some (0, i)))), some (.inl a1), some (.inl a2), some (.inl (holdsF (atV w 15 i a1) a2)), none]) (S1 := [.inl a2, .inl a1, .inl 1, .inr (.inr (some (0, i)))]) (w1 := w) (P := True) [(.istore_n 3, 0, 0, 0, 0), (.aload_n 0, 0, 0, 0, 0), (.iconst 1, 0, 0, 1, 0), (.iload_n 1, 0, 0, 0, 0), (.iload_n 2, 0, 0, 0, 0)] (by decide +kernel) rfl trivial ?_
  refine GE_callVI (As := [.inl 1, .inl a1, .inl a2]) (k := 0) (i := i) (S := []) (t_X0_says l X hN i 1 a1 a2 hi w) (by decide) ⟨me_X0_says, mi_X0_says, mv_X0_says, lk_X0_71⟩ rfl (by decide +kernel) rfl (by decide) (by decide) (Nat.le_of_ble_eq_true rfl) (fun r1 _ => ?_)
  refine GE_run (flG_T hN) (pc1 := 27) (L1 := [some (.inr (.inr (some (0, i)))), some (.inl a1), some (.inl a2), some (.inl (holdsF (atV w 15 i a1) a2)), some (.inl r1.1)]) (S1 := [.inl a1, .inr (.inr (some (13, i)))]) (w1 := r1.2) (P := True) [(.istore 4, 0, 0, 0, 0), (.aload_n 0, 0, 0, 0, 0), (.getfield 15, 0, 6, 0, 0), (.iload_n 1, 0, 0, 0, 0)] (by decide +kernel) rfl trivial ?_
  refine GE_callNIp (As := [.inr (.inr (some (13, i))), .inl a1]) (S := []) (p_X4_at l X hN 13 i a1 (by decide) (ok_coast_13 hN hi) r1.2) ⟨me_X4_at, ms_X4_at, ln_X0_47⟩ (by decide +kernel) rfl (by decide) (by decide) (Nat.le_of_ble_eq_true rfl) ?_
  refine GE_swm (dflt := 76) (lo := 1) (hi := 4) (offs := #[30, 51, 30, 56]) (len := 30) (dt := 106) (mm := 4) [60, 81, 60, 86] (by decide +kernel) rfl (by decide +kernel) (And.intro (fun _ => ?_) (And.intro (fun _ => ?_) (And.intro (fun _ => ?_) (And.intro (fun _ => ?_) (trivial))))) ?_
  · exact GE_weak [true, true, false, true, true] (j_X0_lucksBy_60_ok l X hN i a1 (holdsF (atV w 15 i a1) a2) r1.1 hi r1.2)
  · refine GE_chk (fun h3 => ?_)
    refine GE_run (flG_T hN) (pc1 := 85) (L1 := [some (.inr (.inr (some (0, i)))), some (.inl a1), some (.inl a2), some (.inl (holdsF (atV w 15 i a1) a2)), some (.inl r1.1)]) (S1 := [.inl (r1.1 / 2)]) (w1 := r1.2) (P := (¬ (2 : Int32) = 0) ∧ True) [(.iload 4, 0, 0, 0, 0), (.iconst 2, 0, 0, 2, 0), (.idiv, 0, 0, 0, 0)] (by decide +kernel) rfl ⟨h3, trivial⟩ ?_
    exact GE_iret rfl (by decide +kernel)
  · exact GE_weak [true, true, false, true, true] (j_X0_lucksBy_60_ok l X hN i a1 (holdsF (atV w 15 i a1) a2) r1.1 hi r1.2)
  · refine GE_run (flG_T hN) (pc1 := 87) (L1 := [some (.inr (.inr (some (0, i)))), some (.inl a1), some (.inl a2), some (.inl (holdsF (atV w 15 i a1) a2)), some (.inl r1.1)]) (S1 := [.inl (holdsF (atV w 15 i a1) a2)]) (w1 := r1.2) (P := True) [(.iload_n 3, 0, 0, 0, 0)] (by decide +kernel) rfl trivial ?_
    refine GE_if (k := .eq) (off := 14) (tgt := 101) (by decide +kernel) (by decide) (cnd_eq _ _) (fun c4 => ?_) (fun c4 => ?_)
    · refine GE_chk (fun h5 => ?_)
      refine GE_run (flG_T hN) (pc1 := 105) (L1 := [some (.inr (.inr (some (0, i)))), some (.inl a1), some (.inl a2), some (.inl (holdsF (atV w 15 i a1) a2)), some (.inl r1.1)]) (S1 := [.inl (r1.1 / 2)]) (w1 := r1.2) (P := (¬ (2 : Int32) = 0) ∧ True) [(.iload 4, 0, 0, 0, 0), (.iconst 2, 0, 0, 2, 0), (.idiv, 0, 0, 0, 0)] (by decide +kernel) rfl ⟨h5, trivial⟩ ?_
      exact GE_iret rfl (by decide +kernel)
    · refine GE_run (flG_T hN) (pc1 := 95) (L1 := [some (.inr (.inr (some (0, i)))), some (.inl a1), some (.inl a2), some (.inl (holdsF (atV w 15 i a1) a2)), some (.inl r1.1)]) (S1 := [.inl a1, .inr (.inr (some (14, i)))]) (w1 := r1.2) (P := True) [(.aload_n 0, 0, 0, 0, 0), (.getfield 18, 0, 7, 0, 0), (.iload_n 1, 0, 0, 0, 0)] (by decide +kernel) rfl trivial ?_
      refine GE_callNIp (As := [.inr (.inr (some (14, i))), .inl a1]) (S := []) (p_X4_at l X hN 14 i a1 (by decide) (ok_coast_14 hN hi) r1.2) ⟨me_X4_at, ms_X4_at, ln_X0_47⟩ (by decide +kernel) rfl (by decide) (by decide) (Nat.le_of_ble_eq_true rfl) ?_
      refine GE_run (flG_T hN) (pc1 := 105) (L1 := [some (.inr (.inr (some (0, i)))), some (.inl a1), some (.inl a2), some (.inl (holdsF (atV w 15 i a1) a2)), some (.inl r1.1)]) (S1 := [.inl (atV r1.2 14 i a1)]) (w1 := r1.2) (P := True) [(.goto 7, 0, 0, 0, 0)] (by decide +kernel) rfl trivial ?_
      exact GE_iret rfl (by decide +kernel)
  · refine GE_run (flG_T hN) (pc1 := 108) (L1 := [some (.inr (.inr (some (0, i)))), some (.inl a1), some (.inl a2), some (.inl (holdsF (atV w 15 i a1) a2)), some (.inl r1.1)]) (S1 := [.inl r1.1]) (w1 := r1.2) (P := True) [(.iload 4, 0, 0, 0, 0)] (by decide +kernel) rfl trivial ?_
    exact GE_iret rfl (by decide +kernel)
abbrev mm_X0_takesOf : MI := (RX0, cX0_takesOf, 3, (some .int), ftp_X0.map (fun q => q.1), ctp_X0.map (fun q => q.1), clp_X0.map (fun q => q.1))
noncomputable def f_X0_takesOf (i : Nat) (a1 : Int32) (w : Mem) : Option (Int32 × Mem) := Option.bind (f_X0_says i 2 a1 0 w) (fun r1 => swE (atV r1.2 13 i a1) 2 [some (r1.1 + (atV r1.2 14 i a1), r1.2), if ¬ (3 : Int32) = 0 then (if (rmI (r1.2 0 i 4) 3) = 0 then (some (r1.1, r1.2)) else (some (0, r1.2))) else none, some (2 * (r1.1 + (atV r1.2 14 i a1)), r1.2), some (1, r1.2)] (some (r1.1, r1.2)))
set_option maxRecDepth 100000 in
theorem t_X0_takesOf (l : Launch) (X : XC) {N9 : Nat} (hN : 39 ≤ N9)  (i : Nat) (a1 : Int32) (hi : i < 3) (w : Mem) : Ct l X 3 yX0_takesOf cX0_takesOf 3 (some .int) emI [.inr (.inr (some (0, i))), .inl a1] N9 flT w (f_X0_takesOf i a1 w) := by
  refine Ct_of (mi := mm_X0_takesOf) (mik_X0 _ _ _) me_X0_takesOf rfl (okAs_cons (ok_coast_0 hN hi) (okAs_cons rfl okAs_nil)) (Nat.le_of_ble_eq_true rfl) ?_
  unfold f_X0_takesOf
  refine GE_run (flG_T hN) (pc1 := 4) (L1 := [some (.inr (.inr (some (0, i)))), some (.inl a1), none]) (S1 := [.inl 0, .inl a1, .inl 2, .inr (.inr (some (0, i)))]) (w1 := w) (P := True) [(.aload_n 0, 0, 0, 0, 0), (.iconst 2, 0, 0, 2, 0), (.iload_n 1, 0, 0, 0, 0), (.iconst 0, 0, 0, 0, 0)] (by decide +kernel) rfl trivial ?_
  refine GE_callVI (As := [.inl 2, .inl a1, .inl 0]) (k := 0) (i := i) (S := []) (t_X0_says l X hN i 2 a1 0 hi w) (by decide) ⟨me_X0_says, mi_X0_says, mv_X0_says, lk_X0_71⟩ rfl (by decide +kernel) rfl (by decide) (by decide) (Nat.le_of_ble_eq_true rfl) (fun r1 _ => ?_)
  refine GE_run (flG_T hN) (pc1 := 13) (L1 := [some (.inr (.inr (some (0, i)))), some (.inl a1), some (.inl r1.1)]) (S1 := [.inl a1, .inr (.inr (some (13, i)))]) (w1 := r1.2) (P := True) [(.istore_n 2, 0, 0, 0, 0), (.aload_n 0, 0, 0, 0, 0), (.getfield 15, 0, 6, 0, 0), (.iload_n 1, 0, 0, 0, 0)] (by decide +kernel) rfl trivial ?_
  refine GE_callNIp (As := [.inr (.inr (some (13, i))), .inl a1]) (S := []) (p_X4_at l X hN 13 i a1 (by decide) (ok_coast_13 hN hi) r1.2) ⟨me_X4_at, ms_X4_at, ln_X0_47⟩ (by decide +kernel) rfl (by decide) (by decide) (Nat.le_of_ble_eq_true rfl) ?_
  refine GE_swm (dflt := 73) (lo := 2) (hi := 5) (offs := #[32, 43, 58, 71]) (len := 32) (dt := 89) (mm := 4) [48, 59, 74, 87] (by decide +kernel) rfl (by decide +kernel) (And.intro (fun _ => ?_) (And.intro (fun _ => ?_) (And.intro (fun _ => ?_) (And.intro (fun _ => ?_) (trivial))))) ?_
  · refine GE_run (flG_T hN) (pc1 := 54) (L1 := [some (.inr (.inr (some (0, i)))), some (.inl a1), some (.inl r1.1)]) (S1 := [.inl a1, .inr (.inr (some (14, i))), .inl r1.1]) (w1 := r1.2) (P := True) [(.iload_n 2, 0, 0, 0, 0), (.aload_n 0, 0, 0, 0, 0), (.getfield 18, 0, 7, 0, 0), (.iload_n 1, 0, 0, 0, 0)] (by decide +kernel) rfl trivial ?_
    refine GE_callNIp (As := [.inr (.inr (some (14, i))), .inl a1]) (S := [.inl r1.1]) (p_X4_at l X hN 14 i a1 (by decide) (ok_coast_14 hN hi) r1.2) ⟨me_X4_at, ms_X4_at, ln_X0_47⟩ (by decide +kernel) rfl (by decide) (by decide) (Nat.le_of_ble_eq_true rfl) ?_
    refine GE_run (flG_T hN) (pc1 := 58) (L1 := [some (.inr (.inr (some (0, i)))), some (.inl a1), some (.inl r1.1)]) (S1 := [.inl (r1.1 + (atV r1.2 14 i a1))]) (w1 := r1.2) (P := True) [(.iadd, 0, 0, 0, 0)] (by decide +kernel) rfl trivial ?_
    exact GE_iret rfl (by decide +kernel)
  · refine GE_chk (fun h2 => ?_)
    refine GE_run (flG_T hN) (pc1 := 65) (L1 := [some (.inr (.inr (some (0, i)))), some (.inl a1), some (.inl r1.1)]) (S1 := [.inl (rmI (r1.2 0 i 4) 3)]) (w1 := r1.2) (P := (¬ (3 : Int32) = 0) ∧ True) [(.aload_n 0, 0, 0, 0, 0), (.getfield 41, 0, 4, 0, 0), (.iconst 3, 0, 0, 3, 0), (.irem, 0, 0, 0, 0)] (by decide +kernel) rfl ⟨h2, trivial⟩ ?_
    refine GE_ifN (k := .ne) (off := 7) (tgt := 72) (by decide +kernel) (by decide) (cnd_ne _ _) (fun c3 => ?_) (fun c3 => ?_)
    · refine GE_run (flG_T hN) (pc1 := 73) (L1 := [some (.inr (.inr (some (0, i)))), some (.inl a1), some (.inl r1.1)]) (S1 := [.inl 0]) (w1 := r1.2) (P := True) [(.iconst 0, 0, 0, 0, 0)] (by decide +kernel) rfl trivial ?_
      exact GE_iret rfl (by decide +kernel)
    · refine GE_run (flG_T hN) (pc1 := 73) (L1 := [some (.inr (.inr (some (0, i)))), some (.inl a1), some (.inl r1.1)]) (S1 := [.inl r1.1]) (w1 := r1.2) (P := True) [(.iload_n 2, 0, 0, 0, 0), (.goto 4, 0, 0, 0, 0)] (by decide +kernel) rfl trivial ?_
      exact GE_iret rfl (by decide +kernel)
  · refine GE_run (flG_T hN) (pc1 := 81) (L1 := [some (.inr (.inr (some (0, i)))), some (.inl a1), some (.inl r1.1)]) (S1 := [.inl a1, .inr (.inr (some (14, i))), .inl r1.1, .inl 2]) (w1 := r1.2) (P := True) [(.iconst 2, 0, 0, 2, 0), (.iload_n 2, 0, 0, 0, 0), (.aload_n 0, 0, 0, 0, 0), (.getfield 18, 0, 7, 0, 0), (.iload_n 1, 0, 0, 0, 0)] (by decide +kernel) rfl trivial ?_
    refine GE_callNIp (As := [.inr (.inr (some (14, i))), .inl a1]) (S := [.inl r1.1, .inl 2]) (p_X4_at l X hN 14 i a1 (by decide) (ok_coast_14 hN hi) r1.2) ⟨me_X4_at, ms_X4_at, ln_X0_47⟩ (by decide +kernel) rfl (by decide) (by decide) (Nat.le_of_ble_eq_true rfl) ?_
    refine GE_run (flG_T hN) (pc1 := 86) (L1 := [some (.inr (.inr (some (0, i)))), some (.inl a1), some (.inl r1.1)]) (S1 := [.inl (2 * (r1.1 + (atV r1.2 14 i a1)))]) (w1 := r1.2) (P := True) [(.iadd, 0, 0, 0, 0), (.imul, 0, 0, 0, 0)] (by decide +kernel) rfl trivial ?_
    exact GE_iret rfl (by decide +kernel)
  · refine GE_run (flG_T hN) (pc1 := 88) (L1 := [some (.inr (.inr (some (0, i)))), some (.inl a1), some (.inl r1.1)]) (S1 := [.inl 1]) (w1 := r1.2) (P := True) [(.iconst 1, 0, 0, 1, 0)] (by decide +kernel) rfl trivial ?_
    exact GE_iret rfl (by decide +kernel)
  · refine GE_run (flG_T hN) (pc1 := 90) (L1 := [some (.inr (.inr (some (0, i)))), some (.inl a1), some (.inl r1.1)]) (S1 := [.inl r1.1]) (w1 := r1.2) (P := True) [(.iload_n 2, 0, 0, 0, 0)] (by decide +kernel) rfl trivial ?_
    exact GE_iret rfl (by decide +kernel)
abbrev mm_X0_isTold : MI := (RX0, cX0_isTold, 3, none, ftp_X0.map (fun q => q.1), ctp_X0.map (fun q => q.1), clp_X0.map (fun q => q.1))
noncomputable def f_X0_isTold (i : Nat) (a1 : Int32) (a2 : Int32) (w : Mem) : Option (Mem) := some (setV w 15 i a1 ((atV w 15 i a1) ||| a2))
set_option maxRecDepth 100000 in
theorem t_X0_isTold (l : Launch) (X : XC) {N9 : Nat} (hN : 39 ≤ N9)  (i : Nat) (a1 : Int32) (a2 : Int32) (hi : i < 3) (w : Mem) : Ct l X 1 yX0_isTold cX0_isTold 3 none emV [.inr (.inr (some (0, i))), .inl a1, .inl a2] N9 flT w (f_X0_isTold i a1 a2 w) := by
  refine Ct_of (mi := mm_X0_isTold) (mik_X0 _ _ _) me_X0_isTold rfl (okAs_cons (ok_coast_0 hN hi) (okAs_cons rfl (okAs_cons rfl okAs_nil))) (Nat.le_of_ble_eq_true rfl) ?_
  unfold f_X0_isTold
  refine GE_run (flG_T hN) (pc1 := 10) (L1 := [some (.inr (.inr (some (0, i)))), some (.inl a1), some (.inl a2)]) (S1 := [.inl a1, .inr (.inr (some (15, i))), .inl a1, .inr (.inr (some (15, i)))]) (w1 := w) (P := True) [(.aload_n 0, 0, 0, 0, 0), (.getfield 21, 0, 8, 0, 0), (.iload_n 1, 0, 0, 0, 0), (.aload_n 0, 0, 0, 0, 0), (.getfield 21, 0, 8, 0, 0), (.iload_n 1, 0, 0, 0, 0)] (by decide +kernel) rfl trivial ?_
  refine GE_callNIp (As := [.inr (.inr (some (15, i))), .inl a1]) (S := [.inl a1, .inr (.inr (some (15, i)))]) (p_X4_at l X hN 15 i a1 (by decide) (ok_coast_15 hN hi) w) ⟨me_X4_at, ms_X4_at, ln_X0_47⟩ (by decide +kernel) rfl (by decide) (by decide) (Nat.le_of_ble_eq_true rfl) ?_
  refine GE_run (flG_T hN) (pc1 := 15) (L1 := [some (.inr (.inr (some (0, i)))), some (.inl a1), some (.inl a2)]) (S1 := [.inl ((atV w 15 i a1) ||| a2), .inl a1, .inr (.inr (some (15, i)))]) (w1 := w) (P := True) [(.iload_n 2, 0, 0, 0, 0), (.ior, 0, 0, 0, 0)] (by decide +kernel) rfl trivial ?_
  refine GE_callNVp (As := [.inr (.inr (some (15, i))), .inl a1, .inl ((atV w 15 i a1) ||| a2)]) (S := []) (p_X4_set l X hN 15 i a1 ((atV w 15 i a1) ||| a2) (by decide) (ok_coast_15 hN hi) w) ⟨me_X4_set, ms_X4_set, ln_X0_51⟩ (by decide +kernel) rfl (by decide) (by decide) (Nat.le_of_ble_eq_true rfl) ?_
  exact GE_vret rfl (by decide +kernel)
abbrev mm_X0_learns : MI := (RX0, cX0_learns, 4, (some .int), ftp_X0.map (fun q => q.1), ctp_X0.map (fun q => q.1), clp_X0.map (fun q => q.1))
noncomputable def f_X0_learns (i : Nat) (a1 : Int32) (a2 : Int32) (w : Mem) : Option (Int32 × Mem) := if ((atV w 15 i a1) &&& ((atV w 15 i a2) ^^^ (-1))) = 0 then (some (0, w)) else (Option.bind (f_X0_takesOf i a2 w) (fun r2 => some (leastF ((atV w 15 i a1) &&& ((atV w 15 i a2) ^^^ (-1))) r2.1, r2.2)))
set_option maxRecDepth 100000 in
theorem t_X0_learns (l : Launch) (X : XC) {N9 : Nat} (hN : 39 ≤ N9)  (i : Nat) (a1 : Int32) (a2 : Int32) (hi : i < 3) (w : Mem) : Ct l X 4 yX0_learns cX0_learns 4 (some .int) emI [.inr (.inr (some (0, i))), .inl a1, .inl a2] N9 flT w (f_X0_learns i a1 a2 w) := by
  refine Ct_of (mi := mm_X0_learns) (mik_X0 _ _ _) me_X0_learns rfl (okAs_cons (ok_coast_0 hN hi) (okAs_cons rfl (okAs_cons rfl okAs_nil))) (Nat.le_of_ble_eq_true rfl) ?_
  unfold f_X0_learns
  refine GE_run (flG_T hN) (pc1 := 5) (L1 := [some (.inr (.inr (some (0, i)))), some (.inl a1), some (.inl a2), none]) (S1 := [.inl a1, .inr (.inr (some (15, i)))]) (w1 := w) (P := True) [(.aload_n 0, 0, 0, 0, 0), (.getfield 21, 0, 8, 0, 0), (.iload_n 1, 0, 0, 0, 0)] (by decide +kernel) rfl trivial ?_
  refine GE_callNIp (As := [.inr (.inr (some (15, i))), .inl a1]) (S := []) (p_X4_at l X hN 15 i a1 (by decide) (ok_coast_15 hN hi) w) ⟨me_X4_at, ms_X4_at, ln_X0_47⟩ (by decide +kernel) rfl (by decide) (by decide) (Nat.le_of_ble_eq_true rfl) ?_
  refine GE_run (flG_T hN) (pc1 := 13) (L1 := [some (.inr (.inr (some (0, i)))), some (.inl a1), some (.inl a2), none]) (S1 := [.inl a2, .inr (.inr (some (15, i))), .inl (atV w 15 i a1)]) (w1 := w) (P := True) [(.aload_n 0, 0, 0, 0, 0), (.getfield 21, 0, 8, 0, 0), (.iload_n 2, 0, 0, 0, 0)] (by decide +kernel) rfl trivial ?_
  refine GE_callNIp (As := [.inr (.inr (some (15, i))), .inl a2]) (S := [.inl (atV w 15 i a1)]) (p_X4_at l X hN 15 i a2 (by decide) (ok_coast_15 hN hi) w) ⟨me_X4_at, ms_X4_at, ln_X0_47⟩ (by decide +kernel) rfl (by decide) (by decide) (Nat.le_of_ble_eq_true rfl) ?_
  refine GE_run (flG_T hN) (pc1 := 21) (L1 := [some (.inr (.inr (some (0, i)))), some (.inl a1), some (.inl a2), some (.inl ((atV w 15 i a1) &&& ((atV w 15 i a2) ^^^ (-1))))]) (S1 := [.inl ((atV w 15 i a1) &&& ((atV w 15 i a2) ^^^ (-1)))]) (w1 := w) (P := True) [(.iconst (-1), 0, 0, -1, 0), (.ixor, 0, 0, 0, 0), (.iand, 0, 0, 0, 0), (.istore_n 3, 0, 0, 0, 0), (.iload_n 3, 0, 0, 0, 0)] (by decide +kernel) rfl trivial ?_
  refine GE_ifN (k := .ne) (off := 7) (tgt := 28) (by decide +kernel) (by decide) (cnd_ne _ _) (fun c1 => ?_) (fun c1 => ?_)
  · refine GE_run (flG_T hN) (pc1 := 31) (L1 := [some (.inr (.inr (some (0, i)))), some (.inl a1), some (.inl a2), some (.inl ((atV w 15 i a1) &&& ((atV w 15 i a2) ^^^ (-1))))]) (S1 := [.inl a2, .inr (.inr (some (0, i))), .inl ((atV w 15 i a1) &&& ((atV w 15 i a2) ^^^ (-1)))]) (w1 := w) (P := True) [(.iload_n 3, 0, 0, 0, 0), (.aload_n 0, 0, 0, 0, 0), (.iload_n 2, 0, 0, 0, 0)] (by decide +kernel) rfl trivial ?_
    refine GE_callVI (As := [.inl a2]) (k := 0) (i := i) (S := [.inl ((atV w 15 i a1) &&& ((atV w 15 i a2) ^^^ (-1)))]) (t_X0_takesOf l X hN i a2 hi w) (by decide) ⟨me_X0_takesOf, mi_X0_takesOf, mv_X0_takesOf, lk_X0_103⟩ rfl (by decide +kernel) rfl (by decide) (by decide) (Nat.le_of_ble_eq_true rfl) (fun r2 _ => ?_)
    refine GE_callNIp (As := [.inl ((atV w 15 i a1) &&& ((atV w 15 i a2) ^^^ (-1))), .inl r2.1]) (S := []) (p_X4_leastOf l X hN ((atV w 15 i a1) &&& ((atV w 15 i a2) ^^^ (-1))) r2.1 r2.2) ⟨me_X4_leastOf, ms_X4_leastOf, ln_X0_106⟩ (by decide +kernel) rfl (by decide) (by decide) (Nat.le_of_ble_eq_true rfl) ?_
    exact GE_iret rfl (by decide +kernel)
  · refine GE_run (flG_T hN) (pc1 := 37) (L1 := [some (.inr (.inr (some (0, i)))), some (.inl a1), some (.inl a2), some (.inl ((atV w 15 i a1) &&& ((atV w 15 i a2) ^^^ (-1))))]) (S1 := [.inl 0]) (w1 := w) (P := True) [(.iconst 0, 0, 0, 0, 0), (.goto 12, 0, 0, 0, 0)] (by decide +kernel) rfl trivial ?_
    exact GE_iret rfl (by decide +kernel)
abbrev mm_X0_landing : MI := (RX0, cX0_landing, 4, (some .int), ftp_X0.map (fun q => q.1), ctp_X0.map (fun q => q.1), clp_X0.map (fun q => q.1))
noncomputable def f_X0_landing (i : Nat) (a1 : Int32) (a2 : Int32) (w : Mem) : Option (Int32 × Mem) := if (hasF a1 (w 0 i 2)) = 0 then (some ((-1), w)) else (if (rng a2 0 15) = 0 then (some ((-1), w)) else (Option.bind (f_X0_letsGo i a1 a2 w) (fun r3 => Option.bind (f_X0_lucksBy i a1 a2 r3.2) (fun r4 => if r3.1 < 0 then (some (r3.1, setV (setV r4.2 17 i a1 (wiF ((atV r3.2 17 i a1) + r4.1) 0 99)) 16 i a1 ((atV (setV r4.2 17 i a1 (wiF ((atV r3.2 17 i a1) + r4.1) 0 99)) 16 i a1) ||| (shlI 1 a2)))) else (some (r3.1, up (setV (setV (setV r4.2 17 i a1 (wiF ((atV r3.2 17 i a1) + r4.1) 0 99)) 16 i a1 ((atV (setV r4.2 17 i a1 (wiF ((atV r3.2 17 i a1) + r4.1) 0 99)) 16 i a1) ||| (shlI 1 a2))) 15 i a1 ((atV (setV (setV r4.2 17 i a1 (wiF ((atV r3.2 17 i a1) + r4.1) 0 99)) 16 i a1 ((atV (setV r4.2 17 i a1 (wiF ((atV r3.2 17 i a1) + r4.1) 0 99)) 16 i a1) ||| (shlI 1 a2))) 15 i a1) &&& ((shlI 1 r3.1) ^^^ (-1)))) 0 i 3 (((setV (setV (setV r4.2 17 i a1 (wiF ((atV r3.2 17 i a1) + r4.1) 0 99)) 16 i a1 ((atV (setV r4.2 17 i a1 (wiF ((atV r3.2 17 i a1) + r4.1) 0 99)) 16 i a1) ||| (shlI 1 a2))) 15 i a1 ((atV (setV (setV r4.2 17 i a1 (wiF ((atV r3.2 17 i a1) + r4.1) 0 99)) 16 i a1 ((atV (setV r4.2 17 i a1 (wiF ((atV r3.2 17 i a1) + r4.1) 0 99)) 16 i a1) ||| (shlI 1 a2))) 15 i a1) &&& ((shlI 1 r3.1) ^^^ (-1)))) 0 i 3) ||| (shlI 1 r3.1))))))))
set_option maxRecDepth 100000 in
theorem t_X0_landing (l : Launch) (X : XC) {N9 : Nat} (hN : 39 ≤ N9)  (i : Nat) (a1 : Int32) (a2 : Int32) (hi : i < 3) (w : Mem) : Ct l X 4 yX0_landing cX0_landing 4 (some .int) emI [.inr (.inr (some (0, i))), .inl a1, .inl a2] N9 flT w (f_X0_landing i a1 a2 w) := by
  refine Ct_of (mi := mm_X0_landing) (mik_X0 _ _ _) me_X0_landing rfl (okAs_cons (ok_coast_0 hN hi) (okAs_cons rfl (okAs_cons rfl okAs_nil))) (Nat.le_of_ble_eq_true rfl) ?_
  unfold f_X0_landing
  refine GE_run (flG_T hN) (pc1 := 2) (L1 := [some (.inr (.inr (some (0, i)))), some (.inl a1), some (.inl a2), none]) (S1 := [.inl a1, .inr (.inr (some (0, i)))]) (w1 := w) (P := True) [(.aload_n 0, 0, 0, 0, 0), (.iload_n 1, 0, 0, 0, 0)] (by decide +kernel) rfl trivial ?_
  refine GE_callVIp (As := [.inl a1]) (k := 0) (i := i) (S := []) (p_X0_has l X hN i a1 hi w) (by decide) ⟨me_X0_has, mi_X0_has, mv_X0_has, lk_X0_90⟩ rfl (by decide +kernel) rfl (by decide) (by decide) (Nat.le_of_ble_eq_true rfl) ?_
  refine GE_if (k := .eq) (off := 10) (tgt := 15) (by decide +kernel) (by decide) (cnd_eq _ _) (fun c1 => ?_) (fun c1 => ?_)
  · refine GE_run (flG_T hN) (pc1 := 16) (L1 := [some (.inr (.inr (some (0, i)))), some (.inl a1), some (.inl a2), none]) (S1 := [.inl (-1)]) (w1 := w) (P := True) [(.iconst (-1), 0, 0, -1, 0)] (by decide +kernel) rfl trivial ?_
    exact GE_iret rfl (by decide +kernel)
  · refine GE_run (flG_T hN) (pc1 := 9) (L1 := [some (.inr (.inr (some (0, i)))), some (.inl a1), some (.inl a2), none]) (S1 := [.inl a2]) (w1 := w) (P := True) [(.iload_n 2, 0, 0, 0, 0)] (by decide +kernel) rfl trivial ?_
    refine GE_callNIp (As := [.inl a2]) (S := []) (p_X4_isThing l X hN a2 w) ⟨me_X4_isThing, ms_X4_isThing, ln_X0_94⟩ (by decide +kernel) rfl (by decide) (by decide) (Nat.le_of_ble_eq_true rfl) ?_
    refine GE_ifN (k := .ne) (off := 5) (tgt := 17) (by decide +kernel) (by decide) (cnd_ne _ _) (fun c2 => ?_) (fun c2 => ?_)
    · refine GE_run (flG_T hN) (pc1 := 20) (L1 := [some (.inr (.inr (some (0, i)))), some (.inl a1), some (.inl a2), none]) (S1 := [.inl a2, .inl a1, .inr (.inr (some (0, i)))]) (w1 := w) (P := True) [(.aload_n 0, 0, 0, 0, 0), (.iload_n 1, 0, 0, 0, 0), (.iload_n 2, 0, 0, 0, 0)] (by decide +kernel) rfl trivial ?_
      refine GE_callVI (As := [.inl a1, .inl a2]) (k := 0) (i := i) (S := []) (t_X0_letsGo l X hN i a1 a2 hi w) (by decide) ⟨me_X0_letsGo, mi_X0_letsGo, mv_X0_letsGo, lk_X0_97⟩ rfl (by decide +kernel) rfl (by decide) (by decide) (Nat.le_of_ble_eq_true rfl) (fun r3 _ => ?_)
      refine GE_run (flG_T hN) (pc1 := 34) (L1 := [some (.inr (.inr (some (0, i)))), some (.inl a1), some (.inl a2), some (.inl r3.1)]) (S1 := [.inl a1, .inr (.inr (some (17, i))), .inl a1, .inr (.inr (some (17, i)))]) (w1 := r3.2) (P := True) [(.istore_n 3, 0, 0, 0, 0), (.aload_n 0, 0, 0, 0, 0), (.getfield 27, 0, 10, 0, 0), (.iload_n 1, 0, 0, 0, 0), (.aload_n 0, 0, 0, 0, 0), (.getfield 27, 0, 10, 0, 0), (.iload_n 1, 0, 0, 0, 0)] (by decide +kernel) rfl trivial ?_
      refine GE_callNIp (As := [.inr (.inr (some (17, i))), .inl a1]) (S := [.inl a1, .inr (.inr (some (17, i)))]) (p_X4_at l X hN 17 i a1 (by decide) (ok_coast_17 hN hi) r3.2) ⟨me_X4_at, ms_X4_at, ln_X0_47⟩ (by decide +kernel) rfl (by decide) (by decide) (Nat.le_of_ble_eq_true rfl) ?_
      refine GE_run (flG_T hN) (pc1 := 40) (L1 := [some (.inr (.inr (some (0, i)))), some (.inl a1), some (.inl a2), some (.inl r3.1)]) (S1 := [.inl a2, .inl a1, .inr (.inr (some (0, i))), .inl (atV r3.2 17 i a1), .inl a1, .inr (.inr (some (17, i)))]) (w1 := r3.2) (P := True) [(.aload_n 0, 0, 0, 0, 0), (.iload_n 1, 0, 0, 0, 0), (.iload_n 2, 0, 0, 0, 0)] (by decide +kernel) rfl trivial ?_
      refine GE_callVI (As := [.inl a1, .inl a2]) (k := 0) (i := i) (S := [.inl (atV r3.2 17 i a1), .inl a1, .inr (.inr (some (17, i)))]) (t_X0_lucksBy l X hN i a1 a2 hi r3.2) (by decide) ⟨me_X0_lucksBy, mi_X0_lucksBy, mv_X0_lucksBy, lk_X0_100⟩ rfl (by decide +kernel) rfl (by decide) (by decide) (Nat.le_of_ble_eq_true rfl) (fun r4 _ => ?_)
      refine GE_run (flG_T hN) (pc1 := 47) (L1 := [some (.inr (.inr (some (0, i)))), some (.inl a1), some (.inl a2), some (.inl r3.1)]) (S1 := [.inl 99, .inl 0, .inl ((atV r3.2 17 i a1) + r4.1), .inl a1, .inr (.inr (some (17, i)))]) (w1 := r4.2) (P := True) [(.iadd, 0, 0, 0, 0), (.iconst 0, 0, 0, 0, 0), (.bipush 99, 0, 0, 99, 0)] (by decide +kernel) rfl trivial ?_
      refine GE_callNIp (As := [.inl ((atV r3.2 17 i a1) + r4.1), .inl 0, .inl 99]) (S := [.inl a1, .inr (.inr (some (17, i)))]) (p_X4_bounded l X hN ((atV r3.2 17 i a1) + r4.1) 0 99 r4.2) ⟨me_X4_bounded, ms_X4_bounded, ln_X0_67⟩ (by decide +kernel) rfl (by decide) (by decide) (Nat.le_of_ble_eq_true rfl) ?_
      refine GE_callNVp (As := [.inr (.inr (some (17, i))), .inl a1, .inl (wiF ((atV r3.2 17 i a1) + r4.1) 0 99)]) (S := []) (p_X4_set l X hN 17 i a1 (wiF ((atV r3.2 17 i a1) + r4.1) 0 99) (by decide) (ok_coast_17 hN hi) r4.2) ⟨me_X4_set, ms_X4_set, ln_X0_51⟩ (by decide +kernel) rfl (by decide) (by decide) (Nat.le_of_ble_eq_true rfl) ?_
      refine GE_run (flG_T hN) (pc1 := 63) (L1 := [some (.inr (.inr (some (0, i)))), some (.inl a1), some (.inl a2), some (.inl r3.1)]) (S1 := [.inl a1, .inr (.inr (some (16, i))), .inl a1, .inr (.inr (some (16, i)))]) (w1 := setV r4.2 17 i a1 (wiF ((atV r3.2 17 i a1) + r4.1) 0 99)) (P := True) [(.aload_n 0, 0, 0, 0, 0), (.getfield 24, 0, 9, 0, 0), (.iload_n 1, 0, 0, 0, 0), (.aload_n 0, 0, 0, 0, 0), (.getfield 24, 0, 9, 0, 0), (.iload_n 1, 0, 0, 0, 0)] (by decide +kernel) rfl trivial ?_
      refine GE_callNIp (As := [.inr (.inr (some (16, i))), .inl a1]) (S := [.inl a1, .inr (.inr (some (16, i)))]) (p_X4_at l X hN 16 i a1 (by decide) (ok_coast_16 hN hi) (setV r4.2 17 i a1 (wiF ((atV r3.2 17 i a1) + r4.1) 0 99))) ⟨me_X4_at, ms_X4_at, ln_X0_47⟩ (by decide +kernel) rfl (by decide) (by decide) (Nat.le_of_ble_eq_true rfl) ?_
      refine GE_run (flG_T hN) (pc1 := 70) (L1 := [some (.inr (.inr (some (0, i)))), some (.inl a1), some (.inl a2), some (.inl r3.1)]) (S1 := [.inl ((atV (setV r4.2 17 i a1 (wiF ((atV r3.2 17 i a1) + r4.1) 0 99)) 16 i a1) ||| (shlI 1 a2)), .inl a1, .inr (.inr (some (16, i)))]) (w1 := setV r4.2 17 i a1 (wiF ((atV r3.2 17 i a1) + r4.1) 0 99)) (P := True) [(.iconst 1, 0, 0, 1, 0), (.iload_n 2, 0, 0, 0, 0), (.ishl, 0, 0, 0, 0), (.ior, 0, 0, 0, 0)] (by decide +kernel) rfl trivial ?_
      refine GE_callNVp (As := [.inr (.inr (some (16, i))), .inl a1, .inl ((atV (setV r4.2 17 i a1 (wiF ((atV r3.2 17 i a1) + r4.1) 0 99)) 16 i a1) ||| (shlI 1 a2))]) (S := []) (p_X4_set l X hN 16 i a1 ((atV (setV r4.2 17 i a1 (wiF ((atV r3.2 17 i a1) + r4.1) 0 99)) 16 i a1) ||| (shlI 1 a2)) (by decide) (ok_coast_16 hN hi) (setV r4.2 17 i a1 (wiF ((atV r3.2 17 i a1) + r4.1) 0 99))) ⟨me_X4_set, ms_X4_set, ln_X0_51⟩ (by decide +kernel) rfl (by decide) (by decide) (Nat.le_of_ble_eq_true rfl) ?_
      refine GE_run (flG_T hN) (pc1 := 74) (L1 := [some (.inr (.inr (some (0, i)))), some (.inl a1), some (.inl a2), some (.inl r3.1)]) (S1 := [.inl r3.1]) (w1 := setV (setV r4.2 17 i a1 (wiF ((atV r3.2 17 i a1) + r4.1) 0 99)) 16 i a1 ((atV (setV r4.2 17 i a1 (wiF ((atV r3.2 17 i a1) + r4.1) 0 99)) 16 i a1) ||| (shlI 1 a2))) (P := True) [(.iload_n 3, 0, 0, 0, 0)] (by decide +kernel) rfl trivial ?_
      refine GE_if (k := .lt) (off := 37) (tgt := 111) (by decide +kernel) (by decide) (cnd_lt _ _) (fun c5 => ?_) (fun c5 => ?_)
      · refine GE_run (flG_T hN) (pc1 := 112) (L1 := [some (.inr (.inr (some (0, i)))), some (.inl a1), some (.inl a2), some (.inl r3.1)]) (S1 := [.inl r3.1]) (w1 := setV (setV r4.2 17 i a1 (wiF ((atV r3.2 17 i a1) + r4.1) 0 99)) 16 i a1 ((atV (setV r4.2 17 i a1 (wiF ((atV r3.2 17 i a1) + r4.1) 0 99)) 16 i a1) ||| (shlI 1 a2))) (P := True) [(.iload_n 3, 0, 0, 0, 0)] (by decide +kernel) rfl trivial ?_
        exact GE_iret rfl (by decide +kernel)
      · refine GE_run (flG_T hN) (pc1 := 87) (L1 := [some (.inr (.inr (some (0, i)))), some (.inl a1), some (.inl a2), some (.inl r3.1)]) (S1 := [.inl a1, .inr (.inr (some (15, i))), .inl a1, .inr (.inr (some (15, i)))]) (w1 := setV (setV r4.2 17 i a1 (wiF ((atV r3.2 17 i a1) + r4.1) 0 99)) 16 i a1 ((atV (setV r4.2 17 i a1 (wiF ((atV r3.2 17 i a1) + r4.1) 0 99)) 16 i a1) ||| (shlI 1 a2))) (P := True) [(.aload_n 0, 0, 0, 0, 0), (.getfield 21, 0, 8, 0, 0), (.iload_n 1, 0, 0, 0, 0), (.aload_n 0, 0, 0, 0, 0), (.getfield 21, 0, 8, 0, 0), (.iload_n 1, 0, 0, 0, 0)] (by decide +kernel) rfl trivial ?_
        refine GE_callNIp (As := [.inr (.inr (some (15, i))), .inl a1]) (S := [.inl a1, .inr (.inr (some (15, i)))]) (p_X4_at l X hN 15 i a1 (by decide) (ok_coast_15 hN hi) (setV (setV r4.2 17 i a1 (wiF ((atV r3.2 17 i a1) + r4.1) 0 99)) 16 i a1 ((atV (setV r4.2 17 i a1 (wiF ((atV r3.2 17 i a1) + r4.1) 0 99)) 16 i a1) ||| (shlI 1 a2)))) ⟨me_X4_at, ms_X4_at, ln_X0_47⟩ (by decide +kernel) rfl (by decide) (by decide) (Nat.le_of_ble_eq_true rfl) ?_
        refine GE_run (flG_T hN) (pc1 := 96) (L1 := [some (.inr (.inr (some (0, i)))), some (.inl a1), some (.inl a2), some (.inl r3.1)]) (S1 := [.inl ((atV (setV (setV r4.2 17 i a1 (wiF ((atV r3.2 17 i a1) + r4.1) 0 99)) 16 i a1 ((atV (setV r4.2 17 i a1 (wiF ((atV r3.2 17 i a1) + r4.1) 0 99)) 16 i a1) ||| (shlI 1 a2))) 15 i a1) &&& ((shlI 1 r3.1) ^^^ (-1))), .inl a1, .inr (.inr (some (15, i)))]) (w1 := setV (setV r4.2 17 i a1 (wiF ((atV r3.2 17 i a1) + r4.1) 0 99)) 16 i a1 ((atV (setV r4.2 17 i a1 (wiF ((atV r3.2 17 i a1) + r4.1) 0 99)) 16 i a1) ||| (shlI 1 a2))) (P := True) [(.iconst 1, 0, 0, 1, 0), (.iload_n 3, 0, 0, 0, 0), (.ishl, 0, 0, 0, 0), (.iconst (-1), 0, 0, -1, 0), (.ixor, 0, 0, 0, 0), (.iand, 0, 0, 0, 0)] (by decide +kernel) rfl trivial ?_
        refine GE_callNVp (As := [.inr (.inr (some (15, i))), .inl a1, .inl ((atV (setV (setV r4.2 17 i a1 (wiF ((atV r3.2 17 i a1) + r4.1) 0 99)) 16 i a1 ((atV (setV r4.2 17 i a1 (wiF ((atV r3.2 17 i a1) + r4.1) 0 99)) 16 i a1) ||| (shlI 1 a2))) 15 i a1) &&& ((shlI 1 r3.1) ^^^ (-1)))]) (S := []) (p_X4_set l X hN 15 i a1 ((atV (setV (setV r4.2 17 i a1 (wiF ((atV r3.2 17 i a1) + r4.1) 0 99)) 16 i a1 ((atV (setV r4.2 17 i a1 (wiF ((atV r3.2 17 i a1) + r4.1) 0 99)) 16 i a1) ||| (shlI 1 a2))) 15 i a1) &&& ((shlI 1 r3.1) ^^^ (-1))) (by decide) (ok_coast_15 hN hi) (setV (setV r4.2 17 i a1 (wiF ((atV r3.2 17 i a1) + r4.1) 0 99)) 16 i a1 ((atV (setV r4.2 17 i a1 (wiF ((atV r3.2 17 i a1) + r4.1) 0 99)) 16 i a1) ||| (shlI 1 a2)))) ⟨me_X4_set, ms_X4_set, ln_X0_51⟩ (by decide +kernel) rfl (by decide) (by decide) (Nat.le_of_ble_eq_true rfl) ?_
        refine GE_run (flG_T hN) (pc1 := 112) (L1 := [some (.inr (.inr (some (0, i)))), some (.inl a1), some (.inl a2), some (.inl r3.1)]) (S1 := [.inl r3.1]) (w1 := up (setV (setV (setV r4.2 17 i a1 (wiF ((atV r3.2 17 i a1) + r4.1) 0 99)) 16 i a1 ((atV (setV r4.2 17 i a1 (wiF ((atV r3.2 17 i a1) + r4.1) 0 99)) 16 i a1) ||| (shlI 1 a2))) 15 i a1 ((atV (setV (setV r4.2 17 i a1 (wiF ((atV r3.2 17 i a1) + r4.1) 0 99)) 16 i a1 ((atV (setV r4.2 17 i a1 (wiF ((atV r3.2 17 i a1) + r4.1) 0 99)) 16 i a1) ||| (shlI 1 a2))) 15 i a1) &&& ((shlI 1 r3.1) ^^^ (-1)))) 0 i 3 (((setV (setV (setV r4.2 17 i a1 (wiF ((atV r3.2 17 i a1) + r4.1) 0 99)) 16 i a1 ((atV (setV r4.2 17 i a1 (wiF ((atV r3.2 17 i a1) + r4.1) 0 99)) 16 i a1) ||| (shlI 1 a2))) 15 i a1 ((atV (setV (setV r4.2 17 i a1 (wiF ((atV r3.2 17 i a1) + r4.1) 0 99)) 16 i a1 ((atV (setV r4.2 17 i a1 (wiF ((atV r3.2 17 i a1) + r4.1) 0 99)) 16 i a1) ||| (shlI 1 a2))) 15 i a1) &&& ((shlI 1 r3.1) ^^^ (-1)))) 0 i 3) ||| (shlI 1 r3.1))) (P := True) [(.aload_n 0, 0, 0, 0, 0), (.dup, 0, 0, 0, 0), (.getfield 38, 0, 3, 0, 0), (.iconst 1, 0, 0, 1, 0), (.iload_n 3, 0, 0, 0, 0), (.ishl, 0, 0, 0, 0), (.ior, 0, 0, 0, 0), (.putfield 38, 0, 3, 0, 0), (.iload_n 3, 0, 0, 0, 0)] (by decide +kernel) rfl trivial ?_
        exact GE_iret rfl (by decide +kernel)
    · refine GE_run (flG_T hN) (pc1 := 16) (L1 := [some (.inr (.inr (some (0, i)))), some (.inl a1), some (.inl a2), none]) (S1 := [.inl (-1)]) (w1 := w) (P := True) [(.iconst (-1), 0, 0, -1, 0)] (by decide +kernel) rfl trivial ?_
      exact GE_iret rfl (by decide +kernel)
abbrev mm_X0_washes : MI := (RX0, cX0_washes, 3, (some .int), ftp_X0.map (fun q => q.1), ctp_X0.map (fun q => q.1), clp_X0.map (fun q => q.1))
noncomputable def h_X0_washes_30 (i : Nat) (k71 : Int32 → Mem → Option (Int32 × Mem)) : Nat → Int32 → Int32 → Mem → Option (Int32 × Mem)
  | 0, _, _, _ => none
  | n + 1, x1, x2, w => if x2 < (w 0 i 2) then (if (bcF (atV w 15 i x2)) < (bcF (atV w 15 i x1)) then ((h_X0_washes_30 i k71 n) x2 (x2 + 1) w) else ((h_X0_washes_30 i k71 n) x1 (x2 + 1) w)) else (k71 x1 w)
set_option maxRecDepth 100000 in
theorem h_X0_washes_30_ok (l : Launch) (X : XC) {N9 : Nat} (hN : 39 ≤ N9) (i : Nat) (k71 : Int32 → Mem → Option (Int32 × Mem)) (hi : i < 3) (hk71 : ∀ (x1 : Int32) (w : Mem), GE l X mm_X0_washes 2 emI N9 flT (k71 x1 w) 71 [some (.inr (.inr (some (0, i)))), some (.inl x1), none] [] w) : ∀ (n : Nat) (x1 : Int32) (x2 : Int32) (w : Mem), GE l X mm_X0_washes 2 emI N9 flT ((h_X0_washes_30 i k71 n) x1 x2 w) 30 [some (.inr (.inr (some (0, i)))), some (.inl x1), some (.inl x2)] [] w := by
  intro n
  induction n with
  | zero => intro x1 x2 w; exact GE_none
  | succ n ih =>
    intro x1 x2 w
    unfold h_X0_washes_30
    refine GE_run (flG_T hN) (pc1 := 35) (L1 := [some (.inr (.inr (some (0, i)))), some (.inl x1), some (.inl x2)]) (S1 := [.inl (w 0 i 2), .inl x2]) (w1 := w) (P := True) [(.iload_n 2, 0, 0, 0, 0), (.aload_n 0, 0, 0, 0, 0), (.getfield 34, 0, 2, 0, 0)] (by decide +kernel) rfl trivial ?_
    refine GE_icmpN (k := .ge) (off := 36) (tgt := 71) (by decide +kernel) (by decide) (cnd_ge _ _) (fun c3 => ?_) (fun c3 => ?_)
    · exact GE_weak [true, true, false] (hk71 x1 w)
    · refine GE_run (flG_T hN) (pc1 := 43) (L1 := [some (.inr (.inr (some (0, i)))), some (.inl x1), some (.inl x2)]) (S1 := [.inl x2, .inr (.inr (some (15, i)))]) (w1 := w) (P := True) [(.aload_n 0, 0, 0, 0, 0), (.getfield 21, 0, 8, 0, 0), (.iload_n 2, 0, 0, 0, 0)] (by decide +kernel) rfl trivial ?_
      refine GE_callNIp (As := [.inr (.inr (some (15, i))), .inl x2]) (S := []) (p_X4_at l X hN 15 i x2 (by decide) (ok_coast_15 hN hi) w) ⟨me_X4_at, ms_X4_at, ln_X0_47⟩ (by decide +kernel) rfl (by decide) (by decide) (Nat.le_of_ble_eq_true rfl) ?_
      refine GE_callSIp (As := [.inl (atV w 15 i x2)]) (S := []) (p_J6_bitCount l X hN (atV w 15 i x2) w) ⟨me_J6_bitCount_0f7a4, ms_J6_bitCount_0f7a4, lk_X0_55⟩ (by decide +kernel) rfl (by decide) (by decide) (Nat.le_of_ble_eq_true rfl) ?_
      refine GE_run (flG_T hN) (pc1 := 54) (L1 := [some (.inr (.inr (some (0, i)))), some (.inl x1), some (.inl x2)]) (S1 := [.inl x1, .inr (.inr (some (15, i))), .inl (bcF (atV w 15 i x2))]) (w1 := w) (P := True) [(.aload_n 0, 0, 0, 0, 0), (.getfield 21, 0, 8, 0, 0), (.iload_n 1, 0, 0, 0, 0)] (by decide +kernel) rfl trivial ?_
      refine GE_callNIp (As := [.inr (.inr (some (15, i))), .inl x1]) (S := [.inl (bcF (atV w 15 i x2))]) (p_X4_at l X hN 15 i x1 (by decide) (ok_coast_15 hN hi) w) ⟨me_X4_at, ms_X4_at, ln_X0_47⟩ (by decide +kernel) rfl (by decide) (by decide) (Nat.le_of_ble_eq_true rfl) ?_
      refine GE_callSIp (As := [.inl (atV w 15 i x1)]) (S := [.inl (bcF (atV w 15 i x2))]) (p_J6_bitCount l X hN (atV w 15 i x1) w) ⟨me_J6_bitCount_0f7a4, ms_J6_bitCount_0f7a4, lk_X0_55⟩ (by decide +kernel) rfl (by decide) (by decide) (Nat.le_of_ble_eq_true rfl) ?_
      refine GE_icmpN (k := .ge) (off := 5) (tgt := 65) (by decide +kernel) (by decide) (cnd_ge _ _) (fun c4 => ?_) (fun c4 => ?_)
      · refine GE_run (flG_T hN) (pc1 := 30) (L1 := [some (.inr (.inr (some (0, i)))), some (.inl x1), some (.inl (x2 + 1))]) (S1 := []) (w1 := w) (P := True) [(.iinc 2 1, 0, 0, 1, 0), (.goto (-38), 0, 0, 0, 0)] (by decide +kernel) rfl trivial ?_
        exact GE_weak [true, true, true] (ih x1 (x2 + 1) w)
      · refine GE_run (flG_T hN) (pc1 := 30) (L1 := [some (.inr (.inr (some (0, i)))), some (.inl x2), some (.inl (x2 + 1))]) (S1 := []) (w1 := w) (P := True) [(.iload_n 2, 0, 0, 0, 0), (.istore_n 1, 0, 0, 0, 0), (.iinc 2 1, 0, 0, 1, 0), (.goto (-38), 0, 0, 0, 0)] (by decide +kernel) rfl trivial ?_
        exact GE_weak [true, true, true] (ih x2 (x2 + 1) w)
noncomputable def f_X0_washes (i : Nat) (w : Mem) : Option (Int32 × Mem) := if ((up w 0 i 4 ((w 0 i 4) + 1)) 0 i 2) = 0 then (some ((-1), up w 0 i 4 ((w 0 i 4) + 1))) else (if ((up w 0 i 4 ((w 0 i 4) + 1)) 0 i 3) = 0 then (some ((-1), up w 0 i 4 ((w 0 i 4) + 1))) else (h_X0_washes_30 i (fun x1_5 w6 => Option.bind (f_X0_isTold i x1_5 (shlI 1 (nthF (w6 0 i 3) 0)) (up w6 0 i 3 ((w6 0 i 3) &&& ((shlI 1 (nthF (w6 0 i 3) 0)) ^^^ (-1))))) (fun r7 => some (nthF (w6 0 i 3) 0, r7))) FU 0 1 (up w 0 i 4 ((w 0 i 4) + 1))))
set_option maxRecDepth 100000 in
theorem t_X0_washes (l : Launch) (X : XC) {N9 : Nat} (hN : 39 ≤ N9)  (i : Nat) (hi : i < 3) (w : Mem) : Ct l X 2 yX0_washes cX0_washes 3 (some .int) emI [.inr (.inr (some (0, i)))] N9 flT w (f_X0_washes i w) := by
  refine Ct_of (mi := mm_X0_washes) (mik_X0 _ _ _) me_X0_washes rfl (okAs_cons (ok_coast_0 hN hi) okAs_nil) (Nat.le_of_ble_eq_true rfl) ?_
  unfold f_X0_washes
  refine GE_run (flG_T hN) (pc1 := 14) (L1 := [some (.inr (.inr (some (0, i)))), none, none]) (S1 := [.inl ((up w 0 i 4 ((w 0 i 4) + 1)) 0 i 2)]) (w1 := up w 0 i 4 ((w 0 i 4) + 1)) (P := True) [(.aload_n 0, 0, 0, 0, 0), (.dup, 0, 0, 0, 0), (.getfield 41, 0, 4, 0, 0), (.iconst 1, 0, 0, 1, 0), (.iadd, 0, 0, 0, 0), (.putfield 41, 0, 4, 0, 0), (.aload_n 0, 0, 0, 0, 0), (.getfield 34, 0, 2, 0, 0)] (by decide +kernel) rfl trivial ?_
  refine GE_if (k := .eq) (off := 10) (tgt := 24) (by decide +kernel) (by decide) (cnd_eq _ _) (fun c1 => ?_) (fun c1 => ?_)
  · refine GE_run (flG_T hN) (pc1 := 25) (L1 := [some (.inr (.inr (some (0, i)))), none, none]) (S1 := [.inl (-1)]) (w1 := up w 0 i 4 ((w 0 i 4) + 1)) (P := True) [(.iconst (-1), 0, 0, -1, 0)] (by decide +kernel) rfl trivial ?_
    exact GE_iret rfl (by decide +kernel)
  · refine GE_run (flG_T hN) (pc1 := 21) (L1 := [some (.inr (.inr (some (0, i)))), none, none]) (S1 := [.inl ((up w 0 i 4 ((w 0 i 4) + 1)) 0 i 3)]) (w1 := up w 0 i 4 ((w 0 i 4) + 1)) (P := True) [(.aload_n 0, 0, 0, 0, 0), (.getfield 38, 0, 3, 0, 0)] (by decide +kernel) rfl trivial ?_
    refine GE_ifN (k := .ne) (off := 5) (tgt := 26) (by decide +kernel) (by decide) (cnd_ne _ _) (fun c2 => ?_) (fun c2 => ?_)
    · refine GE_run (flG_T hN) (pc1 := 30) (L1 := [some (.inr (.inr (some (0, i)))), some (.inl 0), some (.inl 1)]) (S1 := []) (w1 := up w 0 i 4 ((w 0 i 4) + 1)) (P := True) [(.iconst 0, 0, 0, 0, 0), (.istore_n 1, 0, 0, 0, 0), (.iconst 1, 0, 0, 1, 0), (.istore_n 2, 0, 0, 0, 0)] (by decide +kernel) rfl trivial ?_
      refine GE_weak [true, true, true] (h_X0_washes_30_ok l X hN i _ hi ?_ FU 0 1 (up w 0 i 4 ((w 0 i 4) + 1)))
      · intro x1_5 w6
        refine GE_run (flG_T hN) (pc1 := 76) (L1 := [some (.inr (.inr (some (0, i)))), some (.inl x1_5), none]) (S1 := [.inl 0, .inl (w6 0 i 3)]) (w1 := w6) (P := True) [(.aload_n 0, 0, 0, 0, 0), (.getfield 38, 0, 3, 0, 0), (.iconst 0, 0, 0, 0, 0)] (by decide +kernel) rfl trivial ?_
        refine GE_callNIp (As := [.inl (w6 0 i 3), .inl 0]) (S := []) (p_X4_numbered l X hN (w6 0 i 3) 0 w6) ⟨me_X4_numbered, ms_X4_numbered, ln_X0_80⟩ (by decide +kernel) rfl (by decide) (by decide) (Nat.le_of_ble_eq_true rfl) ?_
        refine GE_run (flG_T hN) (pc1 := 99) (L1 := [some (.inr (.inr (some (0, i)))), some (.inl x1_5), some (.inl (nthF (w6 0 i 3) 0))]) (S1 := [.inl (shlI 1 (nthF (w6 0 i 3) 0)), .inl x1_5, .inr (.inr (some (0, i)))]) (w1 := up w6 0 i 3 ((w6 0 i 3) &&& ((shlI 1 (nthF (w6 0 i 3) 0)) ^^^ (-1)))) (P := True) [(.istore_n 2, 0, 0, 0, 0), (.aload_n 0, 0, 0, 0, 0), (.dup, 0, 0, 0, 0), (.getfield 38, 0, 3, 0, 0), (.iconst 1, 0, 0, 1, 0), (.iload_n 2, 0, 0, 0, 0), (.ishl, 0, 0, 0, 0), (.iconst (-1), 0, 0, -1, 0), (.ixor, 0, 0, 0, 0), (.iand, 0, 0, 0, 0), (.putfield 38, 0, 3, 0, 0), (.aload_n 0, 0, 0, 0, 0), (.iload_n 1, 0, 0, 0, 0), (.iconst 1, 0, 0, 1, 0), (.iload_n 2, 0, 0, 0, 0), (.ishl, 0, 0, 0, 0)] (by decide +kernel) rfl trivial ?_
        refine GE_callVV (As := [.inl x1_5, .inl (shlI 1 (nthF (w6 0 i 3) 0))]) (k := 0) (i := i) (S := []) (t_X0_isTold l X hN i x1_5 (shlI 1 (nthF (w6 0 i 3) 0)) hi (up w6 0 i 3 ((w6 0 i 3) &&& ((shlI 1 (nthF (w6 0 i 3) 0)) ^^^ (-1))))) (by decide) ⟨me_X0_isTold, mi_X0_isTold, mv_X0_isTold, lk_X0_109⟩ rfl (by decide +kernel) rfl (by decide) (by decide) (Nat.le_of_ble_eq_true rfl) (fun r7 _ => ?_)
        refine GE_run (flG_T hN) (pc1 := 103) (L1 := [some (.inr (.inr (some (0, i)))), some (.inl x1_5), some (.inl (nthF (w6 0 i 3) 0))]) (S1 := [.inl (nthF (w6 0 i 3) 0)]) (w1 := r7) (P := True) [(.iload_n 2, 0, 0, 0, 0)] (by decide +kernel) rfl trivial ?_
        exact GE_iret rfl (by decide +kernel)
    · refine GE_run (flG_T hN) (pc1 := 25) (L1 := [some (.inr (.inr (some (0, i)))), none, none]) (S1 := [.inl (-1)]) (w1 := up w 0 i 4 ((w 0 i 4) + 1)) (P := True) [(.iconst (-1), 0, 0, -1, 0)] (by decide +kernel) rfl trivial ?_
      exact GE_iret rfl (by decide +kernel)
end
section
/-! the class, first half -/
abbrev mm_X4_count : MI := (RX4, cX4_count, 2, (some .int), ftp_X4.map (fun q => q.1), ctp_X4.map (fun q => q.1), clp_X4.map (fun q => q.1))
noncomputable def f_X4_count (a1 : Int32) (w : Mem) : Option (Int32 × Mem) := swE a1 0 [some (w 0 0 2, w), some (bcF (w 0 0 3), w), some (w 0 0 4, w), some (w 3 0 0, w), some (w 0 0 5, w), some (w 1 0 1, w)] (some ((-2), w))
set_option maxRecDepth 100000 in
theorem t_X4_count (l : Launch) (X : XC) {N9 : Nat} (hN : 39 ≤ N9)  (a1 : Int32) (w : Mem) : Ct l X 1 yX4_count cX4_count 2 (some .int) emI [.inr (.inr (some (4, 0))), .inl a1] N9 flT w (f_X4_count a1 w) := by
  refine Ct_of (mi := mm_X4_count) (mik_X4 _ _ _) me_X4_count rfl (okAs_cons (okMV hN (by decide)) (okAs_cons rfl okAs_nil)) (Nat.le_of_ble_eq_true rfl) ?_
  unfold f_X4_count
  refine GE_run (flG_T hN) (pc1 := 1) (L1 := [some (.inr (.inr (some (4, 0)))), some (.inl a1)]) (S1 := [.inl a1]) (w1 := w) (P := True) [(.iload_n 1, 0, 0, 0, 0)] (by decide +kernel) rfl trivial ?_
  refine GE_swm (dflt := 90) (lo := 0) (hi := 5) (offs := #[39, 47, 58, 66, 74, 82]) (len := 39) (dt := 91) (mm := 6) [40, 48, 59, 67, 75, 83] (by decide +kernel) rfl (by decide +kernel) (And.intro (fun _ => ?_) (And.intro (fun _ => ?_) (And.intro (fun _ => ?_) (And.intro (fun _ => ?_) (And.intro (fun _ => ?_) (And.intro (fun _ => ?_) (trivial))))))) ?_
  · refine GE_run (flG_T hN) (pc1 := 47) (L1 := [some (.inr (.inr (some (4, 0)))), some (.inl a1)]) (S1 := [.inl (w 0 0 2)]) (w1 := w) (P := True) [(.aload_n 0, 0, 0, 0, 0), (.getfield 28, 4, 2, 0, 0), (.getfield 45, 0, 2, 0, 0)] (by decide +kernel) rfl trivial ?_
    exact GE_iret rfl (by decide +kernel)
  · refine GE_run (flG_T hN) (pc1 := 55) (L1 := [some (.inr (.inr (some (4, 0)))), some (.inl a1)]) (S1 := [.inl (w 0 0 3)]) (w1 := w) (P := True) [(.aload_n 0, 0, 0, 0, 0), (.getfield 28, 4, 2, 0, 0), (.getfield 49, 0, 3, 0, 0)] (by decide +kernel) rfl trivial ?_
    refine GE_callSIp (As := [.inl (w 0 0 3)]) (S := []) (p_J6_bitCount l X hN (w 0 0 3) w) ⟨me_J6_bitCount_0f7a4, ms_J6_bitCount_0f7a4, lk_X4_52⟩ (by decide +kernel) rfl (by decide) (by decide) (Nat.le_of_ble_eq_true rfl) ?_
    exact GE_iret rfl (by decide +kernel)
  · refine GE_run (flG_T hN) (pc1 := 66) (L1 := [some (.inr (.inr (some (4, 0)))), some (.inl a1)]) (S1 := [.inl (w 0 0 4)]) (w1 := w) (P := True) [(.aload_n 0, 0, 0, 0, 0), (.getfield 28, 4, 2, 0, 0), (.getfield 58, 0, 4, 0, 0)] (by decide +kernel) rfl trivial ?_
    exact GE_iret rfl (by decide +kernel)
  · refine GE_run (flG_T hN) (pc1 := 74) (L1 := [some (.inr (.inr (some (4, 0)))), some (.inl a1)]) (S1 := [.inl (w 3 0 0)]) (w1 := w) (P := True) [(.aload_n 0, 0, 0, 0, 0), (.getfield 10, 4, 0, 0, 0), (.getfield 61, 3, 0, 0, 0)] (by decide +kernel) rfl trivial ?_
    exact GE_iret rfl (by decide +kernel)
  · refine GE_run (flG_T hN) (pc1 := 82) (L1 := [some (.inr (.inr (some (4, 0)))), some (.inl a1)]) (S1 := [.inl (w 0 0 5)]) (w1 := w) (P := True) [(.aload_n 0, 0, 0, 0, 0), (.getfield 28, 4, 2, 0, 0), (.getfield 64, 0, 5, 0, 0)] (by decide +kernel) rfl trivial ?_
    exact GE_iret rfl (by decide +kernel)
  · refine GE_run (flG_T hN) (pc1 := 90) (L1 := [some (.inr (.inr (some (4, 0)))), some (.inl a1)]) (S1 := [.inl (w 1 0 1)]) (w1 := w) (P := True) [(.aload_n 0, 0, 0, 0, 0), (.getfield 19, 4, 1, 0, 0), (.getfield 67, 1, 1, 0, 0)] (by decide +kernel) rfl trivial ?_
    exact GE_iret rfl (by decide +kernel)
  · refine GE_run (flG_T hN) (pc1 := 93) (L1 := [some (.inr (.inr (some (4, 0)))), some (.inl a1)]) (S1 := [.inl (-2)]) (w1 := w) (P := True) [(.bipush (-2), 0, 0, -2, 0)] (by decide +kernel) rfl trivial ?_
    exact GE_iret rfl (by decide +kernel)
abbrev mm_X4_shore : MI := (RX4, cX4_shore, 4, (some .int), ftp_X4.map (fun q => q.1), ctp_X4.map (fun q => q.1), clp_X4.map (fun q => q.1))
noncomputable def j_X4_shore_37   (x1 : Int32) (x2 : Int32) (x3 : Int32) (w : Mem) : Option (Int32 × Mem) := if x1 = 1 then (if (rng x2 0 65535) = 0 then (some (x3, w)) else (some (w 0 0 3, up w 0 0 3 x2))) else (some (x3, w))
set_option maxRecDepth 100000 in
theorem j_X4_shore_37_ok (l : Launch) (X : XC) {N9 : Nat} (hN : 39 ≤ N9)   (x1 : Int32) (x2 : Int32) (x3 : Int32)   (w : Mem) : GE l X mm_X4_shore 1 emI N9 flT (j_X4_shore_37 x1 x2 x3 w) 37 [some (.inr (.inr (some (4, 0)))), some (.inl x1), some (.inl x2), some (.inl x3)] [] w := by
  unfold j_X4_shore_37
  refine GE_run (flG_T hN) (pc1 := 39) (L1 := [some (.inr (.inr (some (4, 0)))), some (.inl x1), some (.inl x2), some (.inl x3)]) (S1 := [.inl 1, .inl x1]) (w1 := w) (P := True) [(.iload_n 1, 0, 0, 0, 0), (.iconst 1, 0, 0, 1, 0)] (by decide +kernel) rfl trivial ?_
  refine GE_icmpN (k := .ne) (off := 26) (tgt := 65) (by decide +kernel) (by decide) (cnd_ne _ _) (fun c3 => ?_) (fun c3 => ?_)
  · refine GE_run (flG_T hN) (pc1 := 66) (L1 := [some (.inr (.inr (some (4, 0)))), some (.inl x1), some (.inl x2), some (.inl x3)]) (S1 := [.inl x3]) (w1 := w) (P := True) [(.iload_n 3, 0, 0, 0, 0)] (by decide +kernel) rfl trivial ?_
    exact GE_iret rfl (by decide +kernel)
  · refine GE_run (flG_T hN) (pc1 := 43) (L1 := [some (.inr (.inr (some (4, 0)))), some (.inl x1), some (.inl x2), some (.inl x3)]) (S1 := [.inl x2]) (w1 := w) (P := True) [(.iload_n 2, 0, 0, 0, 0)] (by decide +kernel) rfl trivial ?_
    refine GE_callSIp (As := [.inl x2]) (S := []) (p_X4_isSet l X hN x2 w) ⟨me_X4_isSet, ms_X4_isSet, lk_X4_70⟩ (by decide +kernel) rfl (by decide) (by decide) (Nat.le_of_ble_eq_true rfl) ?_
    refine GE_if (k := .eq) (off := 19) (tgt := 65) (by decide +kernel) (by decide) (cnd_eq _ _) (fun c4 => ?_) (fun c4 => ?_)
    · refine GE_run (flG_T hN) (pc1 := 66) (L1 := [some (.inr (.inr (some (4, 0)))), some (.inl x1), some (.inl x2), some (.inl x3)]) (S1 := [.inl x3]) (w1 := w) (P := True) [(.iload_n 3, 0, 0, 0, 0)] (by decide +kernel) rfl trivial ?_
      exact GE_iret rfl (by decide +kernel)
    · refine GE_run (flG_T hN) (pc1 := 66) (L1 := [some (.inr (.inr (some (4, 0)))), some (.inl x1), some (.inl x2), some (.inl (w 0 0 3))]) (S1 := [.inl (w 0 0 3)]) (w1 := up w 0 0 3 x2) (P := True) [(.aload_n 0, 0, 0, 0, 0), (.getfield 28, 4, 2, 0, 0), (.getfield 49, 0, 3, 0, 0), (.istore_n 3, 0, 0, 0, 0), (.aload_n 0, 0, 0, 0, 0), (.getfield 28, 4, 2, 0, 0), (.iload_n 2, 0, 0, 0, 0), (.putfield 49, 0, 3, 0, 0), (.iload_n 3, 0, 0, 0, 0)] (by decide +kernel) rfl trivial ?_
      exact GE_iret rfl (by decide +kernel)
noncomputable def f_X4_shore (a1 : Int32) (a2 : Int32) (w : Mem) : Option (Int32 × Mem) := if a1 = 0 then (if a2 < 0 then (j_X4_shore_37 a1 a2 (-2) w) else (if a2 ≤ 999 then (some (w 0 0 4, up w 0 0 4 a2)) else (j_X4_shore_37 a1 a2 (-2) w))) else (j_X4_shore_37 a1 a2 (-2) w)
set_option maxRecDepth 100000 in
theorem t_X4_shore (l : Launch) (X : XC) {N9 : Nat} (hN : 39 ≤ N9)  (a1 : Int32) (a2 : Int32) (w : Mem) : Ct l X 1 yX4_shore cX4_shore 4 (some .int) emI [.inr (.inr (some (4, 0))), .inl a1, .inl a2] N9 flT w (f_X4_shore a1 a2 w) := by
  refine Ct_of (mi := mm_X4_shore) (mik_X4 _ _ _) me_X4_shore rfl (okAs_cons (okMV hN (by decide)) (okAs_cons rfl (okAs_cons rfl okAs_nil))) (Nat.le_of_ble_eq_true rfl) ?_
  unfold f_X4_shore
  refine GE_run (flG_T hN) (pc1 := 4) (L1 := [some (.inr (.inr (some (4, 0)))), some (.inl a1), some (.inl a2), some (.inl (-2))]) (S1 := [.inl a1]) (w1 := w) (P := True) [(.bipush (-2), 0, 0, -2, 0), (.istore_n 3, 0, 0, 0, 0), (.iload_n 1, 0, 0, 0, 0)] (by decide +kernel) rfl trivial ?_
  refine GE_ifN (k := .ne) (off := 33) (tgt := 37) (by decide +kernel) (by decide) (cnd_ne _ _) (fun c1 => ?_) (fun c1 => ?_)
  · exact GE_weak [true, true, true, true] (j_X4_shore_37_ok l X hN a1 a2 (-2) w)
  · refine GE_run (flG_T hN) (pc1 := 8) (L1 := [some (.inr (.inr (some (4, 0)))), some (.inl a1), some (.inl a2), some (.inl (-2))]) (S1 := [.inl a2]) (w1 := w) (P := True) [(.iload_n 2, 0, 0, 0, 0)] (by decide +kernel) rfl trivial ?_
    refine GE_if (k := .lt) (off := 29) (tgt := 37) (by decide +kernel) (by decide) (cnd_lt _ _) (fun c2 => ?_) (fun c2 => ?_)
    · exact GE_weak [true, true, true, true] (j_X4_shore_37_ok l X hN a1 a2 (-2) w)
    · refine GE_run (flG_T hN) (pc1 := 15) (L1 := [some (.inr (.inr (some (4, 0)))), some (.inl a1), some (.inl a2), some (.inl (-2))]) (S1 := [.inl 999, .inl a2]) (w1 := w) (P := True) [(.iload_n 2, 0, 0, 0, 0), (.sipush 999, 0, 0, 999, 0)] (by decide +kernel) rfl trivial ?_
      refine GE_icmpN (k := .gt) (off := 22) (tgt := 37) (by decide +kernel) (by decide) (cnd_gt _ _) (fun c5 => ?_) (fun c5 => ?_)
      · exact GE_weak [true, true, true, true] (j_X4_shore_37_ok l X hN a1 a2 (-2) w)
      · refine GE_run (flG_T hN) (pc1 := 66) (L1 := [some (.inr (.inr (some (4, 0)))), some (.inl a1), some (.inl a2), some (.inl (w 0 0 4))]) (S1 := [.inl (w 0 0 4)]) (w1 := up w 0 0 4 a2) (P := True) [(.aload_n 0, 0, 0, 0, 0), (.getfield 28, 4, 2, 0, 0), (.getfield 58, 0, 4, 0, 0), (.istore_n 3, 0, 0, 0, 0), (.aload_n 0, 0, 0, 0, 0), (.getfield 28, 4, 2, 0, 0), (.iload_n 2, 0, 0, 0, 0), (.putfield 58, 0, 4, 0, 0), (.goto 31, 0, 0, 0, 0), (.iload_n 3, 0, 0, 0, 0)] (by decide +kernel) rfl trivial ?_
        exact GE_iret rfl (by decide +kernel)
abbrev mm_X4_force : MI := (RX4, cX4_force, 3, (some .int), ftp_X4.map (fun q => q.1), ctp_X4.map (fun q => q.1), clp_X4.map (fun q => q.1))
noncomputable def f_X4_force (a1 : Int32) (w : Mem) : Option (Int32 × Mem) := if a1 < 0 then (some ((-2), w)) else (if a1 < (w 3 0 0) then (some (w 0 0 5, up w 0 0 5 a1)) else (some ((-2), w)))
set_option maxRecDepth 100000 in
theorem t_X4_force (l : Launch) (X : XC) {N9 : Nat} (hN : 39 ≤ N9)  (a1 : Int32) (w : Mem) : Ct l X 0 yX4_force cX4_force 3 (some .int) emI [.inr (.inr (some (4, 0))), .inl a1] N9 flT w (f_X4_force a1 w) := by
  refine Ct_of (mi := mm_X4_force) (mik_X4 _ _ _) me_X4_force rfl (okAs_cons (okMV hN (by decide)) (okAs_cons rfl okAs_nil)) (Nat.le_of_ble_eq_true rfl) ?_
  unfold f_X4_force
  refine GE_run (flG_T hN) (pc1 := 1) (L1 := [some (.inr (.inr (some (4, 0)))), some (.inl a1), none]) (S1 := [.inl a1]) (w1 := w) (P := True) [(.iload_n 1, 0, 0, 0, 0)] (by decide +kernel) rfl trivial ?_
  refine GE_if (k := .lt) (off := 14) (tgt := 15) (by decide +kernel) (by decide) (cnd_lt _ _) (fun c1 => ?_) (fun c1 => ?_)
  · refine GE_run (flG_T hN) (pc1 := 17) (L1 := [some (.inr (.inr (some (4, 0)))), some (.inl a1), none]) (S1 := [.inl (-2)]) (w1 := w) (P := True) [(.bipush (-2), 0, 0, -2, 0)] (by decide +kernel) rfl trivial ?_
    exact GE_iret rfl (by decide +kernel)
  · refine GE_run (flG_T hN) (pc1 := 12) (L1 := [some (.inr (.inr (some (4, 0)))), some (.inl a1), none]) (S1 := [.inl (w 3 0 0), .inl a1]) (w1 := w) (P := True) [(.iload_n 1, 0, 0, 0, 0), (.aload_n 0, 0, 0, 0, 0), (.getfield 10, 4, 0, 0, 0), (.getfield 61, 3, 0, 0, 0)] (by decide +kernel) rfl trivial ?_
    refine GE_icmp (k := .lt) (off := 6) (tgt := 18) (by decide +kernel) (by decide) (cnd_lt _ _) (fun c2 => ?_) (fun c2 => ?_)
    · refine GE_run (flG_T hN) (pc1 := 35) (L1 := [some (.inr (.inr (some (4, 0)))), some (.inl a1), some (.inl (w 0 0 5))]) (S1 := [.inl (w 0 0 5)]) (w1 := up w 0 0 5 a1) (P := True) [(.aload_n 0, 0, 0, 0, 0), (.getfield 28, 4, 2, 0, 0), (.getfield 64, 0, 5, 0, 0), (.istore_n 2, 0, 0, 0, 0), (.aload_n 0, 0, 0, 0, 0), (.getfield 28, 4, 2, 0, 0), (.iload_n 1, 0, 0, 0, 0), (.putfield 64, 0, 5, 0, 0), (.iload_n 2, 0, 0, 0, 0)] (by decide +kernel) rfl trivial ?_
      exact GE_iret rfl (by decide +kernel)
    · refine GE_run (flG_T hN) (pc1 := 17) (L1 := [some (.inr (.inr (some (4, 0)))), some (.inl a1), none]) (S1 := [.inl (-2)]) (w1 := w) (P := True) [(.bipush (-2), 0, 0, -2, 0)] (by decide +kernel) rfl trivial ?_
      exact GE_iret rfl (by decide +kernel)
abbrev mm_X4_fisher : MI := (RX4, cX4_fisher, 3, (some .int), ftp_X4.map (fun q => q.1), ctp_X4.map (fun q => q.1), clp_X4.map (fun q => q.1))
noncomputable def f_X4_fisher (a1 : Int32) (a2 : Int32) (w : Mem) : Option (Int32 × Mem) := if a1 < 0 then (some ((-2), w)) else (if a1 < 60 then (if (rng a2 0 65535) = 0 then (some ((-2), w)) else (if (w 0 0 2) < 6 then (if ¬ (10 : Int32) = 0 then (if ¬ (10 : Int32) = 0 then (Option.bind (f_X0_comes 0 (a1 / 10) (rmI a1 10) a2 w) (fun r7 => some (r7.1, r7.2))) else none) else none) else (some ((-4), w)))) else (some ((-2), w)))
set_option maxRecDepth 100000 in
theorem t_X4_fisher (l : Launch) (X : XC) {N9 : Nat} (hN : 39 ≤ N9)  (a1 : Int32) (a2 : Int32) (w : Mem) : Ct l X 2 yX4_fisher cX4_fisher 3 (some .int) emI [.inr (.inr (some (4, 0))), .inl a1, .inl a2] N9 flT w (f_X4_fisher a1 a2 w) := by
  refine Ct_of (mi := mm_X4_fisher) (mik_X4 _ _ _) me_X4_fisher rfl (okAs_cons (okMV hN (by decide)) (okAs_cons rfl (okAs_cons rfl okAs_nil))) (Nat.le_of_ble_eq_true rfl) ?_
  unfold f_X4_fisher
  refine GE_run (flG_T hN) (pc1 := 1) (L1 := [some (.inr (.inr (some (4, 0)))), some (.inl a1), some (.inl a2)]) (S1 := [.inl a1]) (w1 := w) (P := True) [(.iload_n 1, 0, 0, 0, 0)] (by decide +kernel) rfl trivial ?_
  refine GE_if (k := .lt) (off := 16) (tgt := 17) (by decide +kernel) (by decide) (cnd_lt _ _) (fun c1 => ?_) (fun c1 => ?_)
  · refine GE_run (flG_T hN) (pc1 := 19) (L1 := [some (.inr (.inr (some (4, 0)))), some (.inl a1), some (.inl a2)]) (S1 := [.inl (-2)]) (w1 := w) (P := True) [(.bipush (-2), 0, 0, -2, 0)] (by decide +kernel) rfl trivial ?_
    exact GE_iret rfl (by decide +kernel)
  · refine GE_run (flG_T hN) (pc1 := 7) (L1 := [some (.inr (.inr (some (4, 0)))), some (.inl a1), some (.inl a2)]) (S1 := [.inl 60, .inl a1]) (w1 := w) (P := True) [(.iload_n 1, 0, 0, 0, 0), (.bipush 60, 0, 0, 60, 0)] (by decide +kernel) rfl trivial ?_
    refine GE_icmpN (k := .ge) (off := 10) (tgt := 17) (by decide +kernel) (by decide) (cnd_ge _ _) (fun c2 => ?_) (fun c2 => ?_)
    · refine GE_run (flG_T hN) (pc1 := 19) (L1 := [some (.inr (.inr (some (4, 0)))), some (.inl a1), some (.inl a2)]) (S1 := [.inl (-2)]) (w1 := w) (P := True) [(.bipush (-2), 0, 0, -2, 0)] (by decide +kernel) rfl trivial ?_
      exact GE_iret rfl (by decide +kernel)
    · refine GE_run (flG_T hN) (pc1 := 11) (L1 := [some (.inr (.inr (some (4, 0)))), some (.inl a1), some (.inl a2)]) (S1 := [.inl a2]) (w1 := w) (P := True) [(.iload_n 2, 0, 0, 0, 0)] (by decide +kernel) rfl trivial ?_
      refine GE_callSIp (As := [.inl a2]) (S := []) (p_X4_isSet l X hN a2 w) ⟨me_X4_isSet, ms_X4_isSet, lk_X4_70⟩ (by decide +kernel) rfl (by decide) (by decide) (Nat.le_of_ble_eq_true rfl) ?_
      refine GE_ifN (k := .ne) (off := 6) (tgt := 20) (by decide +kernel) (by decide) (cnd_ne _ _) (fun c3 => ?_) (fun c3 => ?_)
      · refine GE_run (flG_T hN) (pc1 := 29) (L1 := [some (.inr (.inr (some (4, 0)))), some (.inl a1), some (.inl a2)]) (S1 := [.inl 6, .inl (w 0 0 2)]) (w1 := w) (P := True) [(.aload_n 0, 0, 0, 0, 0), (.getfield 28, 4, 2, 0, 0), (.getfield 45, 0, 2, 0, 0), (.bipush 6, 0, 0, 6, 0)] (by decide +kernel) rfl trivial ?_
        refine GE_icmp (k := .lt) (off := 6) (tgt := 35) (by decide +kernel) (by decide) (cnd_lt _ _) (fun c4 => ?_) (fun c4 => ?_)
        · refine GE_chk (fun h5 => ?_)
          refine GE_chk (fun h6 => ?_)
          refine GE_run (flG_T hN) (pc1 := 48) (L1 := [some (.inr (.inr (some (4, 0)))), some (.inl a1), some (.inl a2)]) (S1 := [.inl a2, .inl (rmI a1 10), .inl (a1 / 10), .inr (.inr (some (0, 0)))]) (w1 := w) (P := (¬ (10 : Int32) = 0) ∧ (¬ (10 : Int32) = 0) ∧ True) [(.aload_n 0, 0, 0, 0, 0), (.getfield 28, 4, 2, 0, 0), (.iload_n 1, 0, 0, 0, 0), (.bipush 10, 0, 0, 10, 0), (.idiv, 0, 0, 0, 0), (.iload_n 1, 0, 0, 0, 0), (.bipush 10, 0, 0, 10, 0), (.irem, 0, 0, 0, 0), (.iload_n 2, 0, 0, 0, 0)] (by decide +kernel) rfl ⟨h5, h6, trivial⟩ ?_
          refine GE_callVI (As := [.inl (a1 / 10), .inl (rmI a1 10), .inl a2]) (k := 0) (i := 0) (S := []) (t_X0_comes l X hN 0 (a1 / 10) (rmI a1 10) a2 (by decide) w) (by decide) ⟨me_X0_comes, mi_X0_comes, mv_X0_comes, lk_X4_105⟩ rfl (by decide +kernel) rfl (by decide) (by decide) (Nat.le_of_ble_eq_true rfl) (fun r7 _ => ?_)
          exact GE_iret rfl (by decide +kernel)
        · refine GE_run (flG_T hN) (pc1 := 34) (L1 := [some (.inr (.inr (some (4, 0)))), some (.inl a1), some (.inl a2)]) (S1 := [.inl (-4)]) (w1 := w) (P := True) [(.bipush (-4), 0, 0, -4, 0)] (by decide +kernel) rfl trivial ?_
          exact GE_iret rfl (by decide +kernel)
      · refine GE_run (flG_T hN) (pc1 := 19) (L1 := [some (.inr (.inr (some (4, 0)))), some (.inl a1), some (.inl a2)]) (S1 := [.inl (-2)]) (w1 := w) (P := True) [(.bipush (-2), 0, 0, -2, 0)] (by decide +kernel) rfl trivial ?_
        exact GE_iret rfl (by decide +kernel)
abbrev mm_X4_put : MI := (RX4, cX4_put, 4, (some .int), ftp_X4.map (fun q => q.1), ctp_X4.map (fun q => q.1), clp_X4.map (fun q => q.1))
noncomputable def j_X4_put_63   (x1 : Int32) (x2 : Int32) (x3 : Int32) (w : Mem) : Option (Int32 × Mem) := if x2 = 2 then (if x3 < 0 then (some ((-7), w)) else (if x3 ≤ 99 then (some (atV w 17 0 x1, setV w 17 0 x1 x3)) else (some ((-7), w)))) else (some ((-7), w))
set_option maxRecDepth 100000 in
theorem j_X4_put_63_ok (l : Launch) (X : XC) {N9 : Nat} (hN : 39 ≤ N9)   (x1 : Int32) (x2 : Int32) (x3 : Int32)   (w : Mem) : GE l X mm_X4_put 2 emI N9 flT (j_X4_put_63 x1 x2 x3 w) 63 [some (.inr (.inr (some (4, 0)))), some (.inl x1), some (.inl x2), some (.inl x3)] [] w := by
  unfold j_X4_put_63
  refine GE_run (flG_T hN) (pc1 := 65) (L1 := [some (.inr (.inr (some (4, 0)))), some (.inl x1), some (.inl x2), some (.inl x3)]) (S1 := [.inl 2, .inl x2]) (w1 := w) (P := True) [(.iload_n 2, 0, 0, 0, 0), (.iconst 2, 0, 0, 2, 0)] (by decide +kernel) rfl trivial ?_
  refine GE_icmpN (k := .ne) (off := 26) (tgt := 91) (by decide +kernel) (by decide) (cnd_ne _ _) (fun c6 => ?_) (fun c6 => ?_)
  · refine GE_run (flG_T hN) (pc1 := 93) (L1 := [some (.inr (.inr (some (4, 0)))), some (.inl x1), some (.inl x2), some (.inl x3)]) (S1 := [.inl (-7)]) (w1 := w) (P := True) [(.bipush (-7), 0, 0, -7, 0)] (by decide +kernel) rfl trivial ?_
    exact GE_iret rfl (by decide +kernel)
  · refine GE_run (flG_T hN) (pc1 := 69) (L1 := [some (.inr (.inr (some (4, 0)))), some (.inl x1), some (.inl x2), some (.inl x3)]) (S1 := [.inl x3]) (w1 := w) (P := True) [(.iload_n 3, 0, 0, 0, 0)] (by decide +kernel) rfl trivial ?_
    refine GE_if (k := .lt) (off := 22) (tgt := 91) (by decide +kernel) (by decide) (cnd_lt _ _) (fun c7 => ?_) (fun c7 => ?_)
    · refine GE_run (flG_T hN) (pc1 := 93) (L1 := [some (.inr (.inr (some (4, 0)))), some (.inl x1), some (.inl x2), some (.inl x3)]) (S1 := [.inl (-7)]) (w1 := w) (P := True) [(.bipush (-7), 0, 0, -7, 0)] (by decide +kernel) rfl trivial ?_
      exact GE_iret rfl (by decide +kernel)
    · refine GE_run (flG_T hN) (pc1 := 75) (L1 := [some (.inr (.inr (some (4, 0)))), some (.inl x1), some (.inl x2), some (.inl x3)]) (S1 := [.inl 99, .inl x3]) (w1 := w) (P := True) [(.iload_n 3, 0, 0, 0, 0), (.bipush 99, 0, 0, 99, 0)] (by decide +kernel) rfl trivial ?_
      refine GE_icmpN (k := .gt) (off := 16) (tgt := 91) (by decide +kernel) (by decide) (cnd_gt _ _) (fun c8 => ?_) (fun c8 => ?_)
      · refine GE_run (flG_T hN) (pc1 := 93) (L1 := [some (.inr (.inr (some (4, 0)))), some (.inl x1), some (.inl x2), some (.inl x3)]) (S1 := [.inl (-7)]) (w1 := w) (P := True) [(.bipush (-7), 0, 0, -7, 0)] (by decide +kernel) rfl trivial ?_
        exact GE_iret rfl (by decide +kernel)
      · refine GE_run (flG_T hN) (pc1 := 87) (L1 := [some (.inr (.inr (some (4, 0)))), some (.inl x1), some (.inl x2), some (.inl x3)]) (S1 := [.inl x3, .inl x1, .inr (.inr (some (17, 0)))]) (w1 := w) (P := True) [(.aload_n 0, 0, 0, 0, 0), (.getfield 28, 4, 2, 0, 0), (.getfield 117, 0, 10, 0, 0), (.iload_n 1, 0, 0, 0, 0), (.iload_n 3, 0, 0, 0, 0)] (by decide +kernel) rfl trivial ?_
        refine GE_callSIp (As := [.inr (.inr (some (17, 0))), .inl x1, .inl x3]) (S := []) (p_X4_swap l X hN 17 0 x1 x3 (by decide) (okM hN (by decide)) w) ⟨me_X4_swap, ms_X4_swap, lk_X4_111⟩ (by decide +kernel) rfl (by decide) (by decide) (Nat.le_of_ble_eq_true rfl) ?_
        exact GE_iret rfl (by decide +kernel)
noncomputable def j_X4_put_38   (x1 : Int32) (x2 : Int32) (x3 : Int32) (w : Mem) : Option (Int32 × Mem) := if x2 = 1 then (if (rng x3 0 65535) = 0 then (j_X4_put_63 x1 x2 x3 w) else (some (atV w 16 0 x1, setV w 16 0 x1 x3))) else (j_X4_put_63 x1 x2 x3 w)
set_option maxRecDepth 100000 in
theorem j_X4_put_38_ok (l : Launch) (X : XC) {N9 : Nat} (hN : 39 ≤ N9)   (x1 : Int32) (x2 : Int32) (x3 : Int32)   (w : Mem) : GE l X mm_X4_put 2 emI N9 flT (j_X4_put_38 x1 x2 x3 w) 38 [some (.inr (.inr (some (4, 0)))), some (.inl x1), some (.inl x2), some (.inl x3)] [] w := by
  unfold j_X4_put_38
  refine GE_run (flG_T hN) (pc1 := 40) (L1 := [some (.inr (.inr (some (4, 0)))), some (.inl x1), some (.inl x2), some (.inl x3)]) (S1 := [.inl 1, .inl x2]) (w1 := w) (P := True) [(.iload_n 2, 0, 0, 0, 0), (.iconst 1, 0, 0, 1, 0)] (by decide +kernel) rfl trivial ?_
  refine GE_icmpN (k := .ne) (off := 23) (tgt := 63) (by decide +kernel) (by decide) (cnd_ne _ _) (fun c4 => ?_) (fun c4 => ?_)
  · exact GE_weak [true, true, true, true] (j_X4_put_63_ok l X hN x1 x2 x3 w)
  · refine GE_run (flG_T hN) (pc1 := 44) (L1 := [some (.inr (.inr (some (4, 0)))), some (.inl x1), some (.inl x2), some (.inl x3)]) (S1 := [.inl x3]) (w1 := w) (P := True) [(.iload_n 3, 0, 0, 0, 0)] (by decide +kernel) rfl trivial ?_
    refine GE_callSIp (As := [.inl x3]) (S := []) (p_X4_isSet l X hN x3 w) ⟨me_X4_isSet, ms_X4_isSet, lk_X4_70⟩ (by decide +kernel) rfl (by decide) (by decide) (Nat.le_of_ble_eq_true rfl) ?_
    refine GE_if (k := .eq) (off := 16) (tgt := 63) (by decide +kernel) (by decide) (cnd_eq _ _) (fun c5 => ?_) (fun c5 => ?_)
    · exact GE_weak [true, true, true, true] (j_X4_put_63_ok l X hN x1 x2 x3 w)
    · refine GE_run (flG_T hN) (pc1 := 59) (L1 := [some (.inr (.inr (some (4, 0)))), some (.inl x1), some (.inl x2), some (.inl x3)]) (S1 := [.inl x3, .inl x1, .inr (.inr (some (16, 0)))]) (w1 := w) (P := True) [(.aload_n 0, 0, 0, 0, 0), (.getfield 28, 4, 2, 0, 0), (.getfield 115, 0, 9, 0, 0), (.iload_n 1, 0, 0, 0, 0), (.iload_n 3, 0, 0, 0, 0)] (by decide +kernel) rfl trivial ?_
      refine GE_callSIp (As := [.inr (.inr (some (16, 0))), .inl x1, .inl x3]) (S := []) (p_X4_swap l X hN 16 0 x1 x3 (by decide) (okM hN (by decide)) w) ⟨me_X4_swap, ms_X4_swap, lk_X4_111⟩ (by decide +kernel) rfl (by decide) (by decide) (Nat.le_of_ble_eq_true rfl) ?_
      exact GE_iret rfl (by decide +kernel)
noncomputable def f_X4_put (a1 : Int32) (a2 : Int32) (a3 : Int32) (w : Mem) : Option (Int32 × Mem) := if (hasF a1 (w 0 0 2)) = 0 then (some ((-5), w)) else (if a2 = 0 then (if (rng a3 0 65535) = 0 then (j_X4_put_38 a1 a2 a3 w) else (some (atV w 15 0 a1, setV w 15 0 a1 a3))) else (j_X4_put_38 a1 a2 a3 w))
set_option maxRecDepth 100000 in
theorem t_X4_put (l : Launch) (X : XC) {N9 : Nat} (hN : 39 ≤ N9)  (a1 : Int32) (a2 : Int32) (a3 : Int32) (w : Mem) : Ct l X 2 yX4_put cX4_put 4 (some .int) emI [.inr (.inr (some (4, 0))), .inl a1, .inl a2, .inl a3] N9 flT w (f_X4_put a1 a2 a3 w) := by
  refine Ct_of (mi := mm_X4_put) (mik_X4 _ _ _) me_X4_put rfl (okAs_cons (okMV hN (by decide)) (okAs_cons rfl (okAs_cons rfl (okAs_cons rfl okAs_nil)))) (Nat.le_of_ble_eq_true rfl) ?_
  unfold f_X4_put
  refine GE_run (flG_T hN) (pc1 := 5) (L1 := [some (.inr (.inr (some (4, 0)))), some (.inl a1), some (.inl a2), some (.inl a3)]) (S1 := [.inl a1, .inr (.inr (some (0, 0)))]) (w1 := w) (P := True) [(.aload_n 0, 0, 0, 0, 0), (.getfield 28, 4, 2, 0, 0), (.iload_n 1, 0, 0, 0, 0)] (by decide +kernel) rfl trivial ?_
  refine GE_callVIp (As := [.inl a1]) (k := 0) (i := 0) (S := []) (p_X0_has l X hN 0 a1 (by decide) w) (by decide) ⟨me_X0_has, mi_X0_has, mv_X0_has, lk_X4_95⟩ rfl (by decide +kernel) rfl (by decide) (by decide) (Nat.le_of_ble_eq_true rfl) ?_
  refine GE_ifN (k := .ne) (off := 6) (tgt := 14) (by decide +kernel) (by decide) (cnd_ne _ _) (fun c1 => ?_) (fun c1 => ?_)
  · refine GE_run (flG_T hN) (pc1 := 15) (L1 := [some (.inr (.inr (some (4, 0)))), some (.inl a1), some (.inl a2), some (.inl a3)]) (S1 := [.inl a2]) (w1 := w) (P := True) [(.iload_n 2, 0, 0, 0, 0)] (by decide +kernel) rfl trivial ?_
    refine GE_ifN (k := .ne) (off := 23) (tgt := 38) (by decide +kernel) (by decide) (cnd_ne _ _) (fun c2 => ?_) (fun c2 => ?_)
    · exact GE_weak [true, true, true, true] (j_X4_put_38_ok l X hN a1 a2 a3 w)
    · refine GE_run (flG_T hN) (pc1 := 19) (L1 := [some (.inr (.inr (some (4, 0)))), some (.inl a1), some (.inl a2), some (.inl a3)]) (S1 := [.inl a3]) (w1 := w) (P := True) [(.iload_n 3, 0, 0, 0, 0)] (by decide +kernel) rfl trivial ?_
      refine GE_callSIp (As := [.inl a3]) (S := []) (p_X4_isSet l X hN a3 w) ⟨me_X4_isSet, ms_X4_isSet, lk_X4_70⟩ (by decide +kernel) rfl (by decide) (by decide) (Nat.le_of_ble_eq_true rfl) ?_
      refine GE_if (k := .eq) (off := 16) (tgt := 38) (by decide +kernel) (by decide) (cnd_eq _ _) (fun c3 => ?_) (fun c3 => ?_)
      · exact GE_weak [true, true, true, true] (j_X4_put_38_ok l X hN a1 a2 a3 w)
      · refine GE_run (flG_T hN) (pc1 := 34) (L1 := [some (.inr (.inr (some (4, 0)))), some (.inl a1), some (.inl a2), some (.inl a3)]) (S1 := [.inl a3, .inl a1, .inr (.inr (some (15, 0)))]) (w1 := w) (P := True) [(.aload_n 0, 0, 0, 0, 0), (.getfield 28, 4, 2, 0, 0), (.getfield 108, 0, 8, 0, 0), (.iload_n 1, 0, 0, 0, 0), (.iload_n 3, 0, 0, 0, 0)] (by decide +kernel) rfl trivial ?_
        refine GE_callSIp (As := [.inr (.inr (some (15, 0))), .inl a1, .inl a3]) (S := []) (p_X4_swap l X hN 15 0 a1 a3 (by decide) (okM hN (by decide)) w) ⟨me_X4_swap, ms_X4_swap, lk_X4_111⟩ (by decide +kernel) rfl (by decide) (by decide) (Nat.le_of_ble_eq_true rfl) ?_
        exact GE_iret rfl (by decide +kernel)
  · refine GE_run (flG_T hN) (pc1 := 13) (L1 := [some (.inr (.inr (some (4, 0)))), some (.inl a1), some (.inl a2), some (.inl a3)]) (S1 := [.inl (-5)]) (w1 := w) (P := True) [(.bipush (-5), 0, 0, -5, 0)] (by decide +kernel) rfl trivial ?_
    exact GE_iret rfl (by decide +kernel)
abbrev mm_X4_told : MI := (RX4, cX4_told, 3, (some .int), ftp_X4.map (fun q => q.1), ctp_X4.map (fun q => q.1), clp_X4.map (fun q => q.1))
noncomputable def f_X4_told (a1 : Int32) (a2 : Int32) (w : Mem) : Option (Int32 × Mem) := if (hasF a1 (w 0 0 2)) = 0 then (some ((-5), w)) else (swE a2 0 [some (atV w 15 0 a1, w), some (atV w 16 0 a1, w), some (atV w 17 0 a1, w), some (atV w 13 0 a1, w), some (atV w 14 0 a1, w), Option.bind (f_X0_nameless 0 a1 w) (fun r2 => some (r2.1, r2.2)), Option.bind (f_X0_takesOf 0 a1 w) (fun r3 => some (r3.1, r3.2))] (some ((-7), w)))
set_option maxRecDepth 100000 in
theorem t_X4_told (l : Launch) (X : XC) {N9 : Nat} (hN : 39 ≤ N9)  (a1 : Int32) (a2 : Int32) (w : Mem) : Ct l X 4 yX4_told cX4_told 3 (some .int) emI [.inr (.inr (some (4, 0))), .inl a1, .inl a2] N9 flT w (f_X4_told a1 a2 w) := by
  refine Ct_of (mi := mm_X4_told) (mik_X4 _ _ _) me_X4_told rfl (okAs_cons (okMV hN (by decide)) (okAs_cons rfl (okAs_cons rfl okAs_nil))) (Nat.le_of_ble_eq_true rfl) ?_
  unfold f_X4_told
  refine GE_run (flG_T hN) (pc1 := 5) (L1 := [some (.inr (.inr (some (4, 0)))), some (.inl a1), some (.inl a2)]) (S1 := [.inl a1, .inr (.inr (some (0, 0)))]) (w1 := w) (P := True) [(.aload_n 0, 0, 0, 0, 0), (.getfield 28, 4, 2, 0, 0), (.iload_n 1, 0, 0, 0, 0)] (by decide +kernel) rfl trivial ?_
  refine GE_callVIp (As := [.inl a1]) (k := 0) (i := 0) (S := []) (p_X0_has l X hN 0 a1 (by decide) w) (by decide) ⟨me_X0_has, mi_X0_has, mv_X0_has, lk_X4_95⟩ rfl (by decide +kernel) rfl (by decide) (by decide) (Nat.le_of_ble_eq_true rfl) ?_
  refine GE_ifN (k := .ne) (off := 6) (tgt := 14) (by decide +kernel) (by decide) (cnd_ne _ _) (fun c1 => ?_) (fun c1 => ?_)
  · refine GE_run (flG_T hN) (pc1 := 15) (L1 := [some (.inr (.inr (some (4, 0)))), some (.inl a1), some (.inl a2)]) (S1 := [.inl a2]) (w1 := w) (P := True) [(.iload_n 2, 0, 0, 0, 0)] (by decide +kernel) rfl trivial ?_
    refine GE_swm (dflt := 119) (lo := 0) (hi := 6) (offs := #[41, 53, 65, 77, 89, 101, 110]) (len := 41) (dt := 134) (mm := 7) [56, 68, 80, 92, 104, 116, 125] (by decide +kernel) rfl (by decide +kernel) (And.intro (fun _ => ?_) (And.intro (fun _ => ?_) (And.intro (fun _ => ?_) (And.intro (fun _ => ?_) (And.intro (fun _ => ?_) (And.intro (fun _ => ?_) (And.intro (fun _ => ?_) (trivial)))))))) ?_
    · refine GE_run (flG_T hN) (pc1 := 64) (L1 := [some (.inr (.inr (some (4, 0)))), some (.inl a1), some (.inl a2)]) (S1 := [.inl a1, .inr (.inr (some (15, 0)))]) (w1 := w) (P := True) [(.aload_n 0, 0, 0, 0, 0), (.getfield 28, 4, 2, 0, 0), (.getfield 108, 0, 8, 0, 0), (.iload_n 1, 0, 0, 0, 0)] (by decide +kernel) rfl trivial ?_
      refine GE_callSIp (As := [.inr (.inr (some (15, 0))), .inl a1]) (S := []) (p_X4_at l X hN 15 0 a1 (by decide) (okM hN (by decide)) w) ⟨me_X4_at, ms_X4_at, lk_X4_120⟩ (by decide +kernel) rfl (by decide) (by decide) (Nat.le_of_ble_eq_true rfl) ?_
      exact GE_iret rfl (by decide +kernel)
    · refine GE_run (flG_T hN) (pc1 := 76) (L1 := [some (.inr (.inr (some (4, 0)))), some (.inl a1), some (.inl a2)]) (S1 := [.inl a1, .inr (.inr (some (16, 0)))]) (w1 := w) (P := True) [(.aload_n 0, 0, 0, 0, 0), (.getfield 28, 4, 2, 0, 0), (.getfield 115, 0, 9, 0, 0), (.iload_n 1, 0, 0, 0, 0)] (by decide +kernel) rfl trivial ?_
      refine GE_callSIp (As := [.inr (.inr (some (16, 0))), .inl a1]) (S := []) (p_X4_at l X hN 16 0 a1 (by decide) (okM hN (by decide)) w) ⟨me_X4_at, ms_X4_at, lk_X4_120⟩ (by decide +kernel) rfl (by decide) (by decide) (Nat.le_of_ble_eq_true rfl) ?_
      exact GE_iret rfl (by decide +kernel)
    · refine GE_run (flG_T hN) (pc1 := 88) (L1 := [some (.inr (.inr (some (4, 0)))), some (.inl a1), some (.inl a2)]) (S1 := [.inl a1, .inr (.inr (some (17, 0)))]) (w1 := w) (P := True) [(.aload_n 0, 0, 0, 0, 0), (.getfield 28, 4, 2, 0, 0), (.getfield 117, 0, 10, 0, 0), (.iload_n 1, 0, 0, 0, 0)] (by decide +kernel) rfl trivial ?_
      refine GE_callSIp (As := [.inr (.inr (some (17, 0))), .inl a1]) (S := []) (p_X4_at l X hN 17 0 a1 (by decide) (okM hN (by decide)) w) ⟨me_X4_at, ms_X4_at, lk_X4_120⟩ (by decide +kernel) rfl (by decide) (by decide) (Nat.le_of_ble_eq_true rfl) ?_
      exact GE_iret rfl (by decide +kernel)
    · refine GE_run (flG_T hN) (pc1 := 100) (L1 := [some (.inr (.inr (some (4, 0)))), some (.inl a1), some (.inl a2)]) (S1 := [.inl a1, .inr (.inr (some (13, 0)))]) (w1 := w) (P := True) [(.aload_n 0, 0, 0, 0, 0), (.getfield 28, 4, 2, 0, 0), (.getfield 124, 0, 6, 0, 0), (.iload_n 1, 0, 0, 0, 0)] (by decide +kernel) rfl trivial ?_
      refine GE_callSIp (As := [.inr (.inr (some (13, 0))), .inl a1]) (S := []) (p_X4_at l X hN 13 0 a1 (by decide) (okM hN (by decide)) w) ⟨me_X4_at, ms_X4_at, lk_X4_120⟩ (by decide +kernel) rfl (by decide) (by decide) (Nat.le_of_ble_eq_true rfl) ?_
      exact GE_iret rfl (by decide +kernel)
    · refine GE_run (flG_T hN) (pc1 := 112) (L1 := [some (.inr (.inr (some (4, 0)))), some (.inl a1), some (.inl a2)]) (S1 := [.inl a1, .inr (.inr (some (14, 0)))]) (w1 := w) (P := True) [(.aload_n 0, 0, 0, 0, 0), (.getfield 28, 4, 2, 0, 0), (.getfield 127, 0, 7, 0, 0), (.iload_n 1, 0, 0, 0, 0)] (by decide +kernel) rfl trivial ?_
      refine GE_callSIp (As := [.inr (.inr (some (14, 0))), .inl a1]) (S := []) (p_X4_at l X hN 14 0 a1 (by decide) (okM hN (by decide)) w) ⟨me_X4_at, ms_X4_at, lk_X4_120⟩ (by decide +kernel) rfl (by decide) (by decide) (Nat.le_of_ble_eq_true rfl) ?_
      exact GE_iret rfl (by decide +kernel)
    · refine GE_run (flG_T hN) (pc1 := 121) (L1 := [some (.inr (.inr (some (4, 0)))), some (.inl a1), some (.inl a2)]) (S1 := [.inl a1, .inr (.inr (some (0, 0)))]) (w1 := w) (P := True) [(.aload_n 0, 0, 0, 0, 0), (.getfield 28, 4, 2, 0, 0), (.iload_n 1, 0, 0, 0, 0)] (by decide +kernel) rfl trivial ?_
      refine GE_callVI (As := [.inl a1]) (k := 0) (i := 0) (S := []) (t_X0_nameless l X hN 0 a1 (by decide) w) (by decide) ⟨me_X0_nameless, mi_X0_nameless, mv_X0_nameless, lk_X4_130⟩ rfl (by decide +kernel) rfl (by decide) (by decide) (Nat.le_of_ble_eq_true rfl) (fun r2 _ => ?_)
      exact GE_iret rfl (by decide +kernel)
    · refine GE_run (flG_T hN) (pc1 := 130) (L1 := [some (.inr (.inr (some (4, 0)))), some (.inl a1), some (.inl a2)]) (S1 := [.inl a1, .inr (.inr (some (0, 0)))]) (w1 := w) (P := True) [(.aload_n 0, 0, 0, 0, 0), (.getfield 28, 4, 2, 0, 0), (.iload_n 1, 0, 0, 0, 0)] (by decide +kernel) rfl trivial ?_
      refine GE_callVI (As := [.inl a1]) (k := 0) (i := 0) (S := []) (t_X0_takesOf l X hN 0 a1 (by decide) w) (by decide) ⟨me_X0_takesOf, mi_X0_takesOf, mv_X0_takesOf, lk_X4_133⟩ rfl (by decide +kernel) rfl (by decide) (by decide) (Nat.le_of_ble_eq_true rfl) (fun r3 _ => ?_)
      exact GE_iret rfl (by decide +kernel)
    · refine GE_run (flG_T hN) (pc1 := 136) (L1 := [some (.inr (.inr (some (4, 0)))), some (.inl a1), some (.inl a2)]) (S1 := [.inl (-7)]) (w1 := w) (P := True) [(.bipush (-7), 0, 0, -7, 0)] (by decide +kernel) rfl trivial ?_
      exact GE_iret rfl (by decide +kernel)
  · refine GE_run (flG_T hN) (pc1 := 13) (L1 := [some (.inr (.inr (some (4, 0)))), some (.inl a1), some (.inl a2)]) (S1 := [.inl (-5)]) (w1 := w) (P := True) [(.bipush (-5), 0, 0, -5, 0)] (by decide +kernel) rfl trivial ?_
    exact GE_iret rfl (by decide +kernel)
abbrev mm_X4_lands : MI := (RX4, cX4_lands, 4, (some .int), ftp_X4.map (fun q => q.1), ctp_X4.map (fun q => q.1), clp_X4.map (fun q => q.1))
noncomputable def f_X4_lands (a1 : Int32) (a2 : Int32) (a3 : Int32) (w : Mem) : Option (Int32 × Mem) := if (hasF a1 (w 0 0 2)) = 0 then (some ((-5000), w)) else (if (rng a2 0 15) = 0 then (some ((-5000), w)) else (if a3 = 0 then (Option.bind (f_X0_letsGo 0 a1 a2 w) (fun r4 => some (r4.1, r4.2))) else (if a3 = 1 then (Option.bind (f_X0_lucksBy 0 a1 a2 w) (fun r6 => some (r6.1, r6.2))) else (some ((-7000), w)))))
set_option maxRecDepth 100000 in
theorem t_X4_lands (l : Launch) (X : XC) {N9 : Nat} (hN : 39 ≤ N9)  (a1 : Int32) (a2 : Int32) (a3 : Int32) (w : Mem) : Ct l X 4 yX4_lands cX4_lands 4 (some .int) emI [.inr (.inr (some (4, 0))), .inl a1, .inl a2, .inl a3] N9 flT w (f_X4_lands a1 a2 a3 w) := by
  refine Ct_of (mi := mm_X4_lands) (mik_X4 _ _ _) me_X4_lands rfl (okAs_cons (okMV hN (by decide)) (okAs_cons rfl (okAs_cons rfl (okAs_cons rfl okAs_nil)))) (Nat.le_of_ble_eq_true rfl) ?_
  unfold f_X4_lands
  refine GE_run (flG_T hN) (pc1 := 5) (L1 := [some (.inr (.inr (some (4, 0)))), some (.inl a1), some (.inl a2), some (.inl a3)]) (S1 := [.inl a1, .inr (.inr (some (0, 0)))]) (w1 := w) (P := True) [(.aload_n 0, 0, 0, 0, 0), (.getfield 28, 4, 2, 0, 0), (.iload_n 1, 0, 0, 0, 0)] (by decide +kernel) rfl trivial ?_
  refine GE_callVIp (As := [.inl a1]) (k := 0) (i := 0) (S := []) (p_X0_has l X hN 0 a1 (by decide) w) (by decide) ⟨me_X0_has, mi_X0_has, mv_X0_has, lk_X4_95⟩ rfl (by decide +kernel) rfl (by decide) (by decide) (Nat.le_of_ble_eq_true rfl) ?_
  refine GE_if (k := .eq) (off := 10) (tgt := 18) (by decide +kernel) (by decide) (cnd_eq _ _) (fun c1 => ?_) (fun c1 => ?_)
  · refine GE_run (flG_T hN) (pc1 := 21) (L1 := [some (.inr (.inr (some (4, 0)))), some (.inl a1), some (.inl a2), some (.inl a3)]) (S1 := [.inl (-5000)]) (w1 := w) (P := True) [(.sipush (-5000), 0, 0, -5000, 0)] (by decide +kernel) rfl trivial ?_
    exact GE_iret rfl (by decide +kernel)
  · refine GE_run (flG_T hN) (pc1 := 12) (L1 := [some (.inr (.inr (some (4, 0)))), some (.inl a1), some (.inl a2), some (.inl a3)]) (S1 := [.inl a2]) (w1 := w) (P := True) [(.iload_n 2, 0, 0, 0, 0)] (by decide +kernel) rfl trivial ?_
    refine GE_callSIp (As := [.inl a2]) (S := []) (p_X4_isThing l X hN a2 w) ⟨me_X4_isThing, ms_X4_isThing, lk_X4_98⟩ (by decide +kernel) rfl (by decide) (by decide) (Nat.le_of_ble_eq_true rfl) ?_
    refine GE_ifN (k := .ne) (off := 7) (tgt := 22) (by decide +kernel) (by decide) (cnd_ne _ _) (fun c2 => ?_) (fun c2 => ?_)
    · refine GE_run (flG_T hN) (pc1 := 23) (L1 := [some (.inr (.inr (some (4, 0)))), some (.inl a1), some (.inl a2), some (.inl a3)]) (S1 := [.inl a3]) (w1 := w) (P := True) [(.iload_n 3, 0, 0, 0, 0)] (by decide +kernel) rfl trivial ?_
      refine GE_ifN (k := .ne) (off := 13) (tgt := 36) (by decide +kernel) (by decide) (cnd_ne _ _) (fun c3 => ?_) (fun c3 => ?_)
      · refine GE_run (flG_T hN) (pc1 := 38) (L1 := [some (.inr (.inr (some (4, 0)))), some (.inl a1), some (.inl a2), some (.inl a3)]) (S1 := [.inl 1, .inl a3]) (w1 := w) (P := True) [(.iload_n 3, 0, 0, 0, 0), (.iconst 1, 0, 0, 1, 0)] (by decide +kernel) rfl trivial ?_
        refine GE_icmpN (k := .ne) (off := 13) (tgt := 51) (by decide +kernel) (by decide) (cnd_ne _ _) (fun c5 => ?_) (fun c5 => ?_)
        · refine GE_run (flG_T hN) (pc1 := 54) (L1 := [some (.inr (.inr (some (4, 0)))), some (.inl a1), some (.inl a2), some (.inl a3)]) (S1 := [.inl (-7000)]) (w1 := w) (P := True) [(.sipush (-7000), 0, 0, -7000, 0)] (by decide +kernel) rfl trivial ?_
          exact GE_iret rfl (by decide +kernel)
        · refine GE_run (flG_T hN) (pc1 := 47) (L1 := [some (.inr (.inr (some (4, 0)))), some (.inl a1), some (.inl a2), some (.inl a3)]) (S1 := [.inl a2, .inl a1, .inr (.inr (some (0, 0)))]) (w1 := w) (P := True) [(.aload_n 0, 0, 0, 0, 0), (.getfield 28, 4, 2, 0, 0), (.iload_n 1, 0, 0, 0, 0), (.iload_n 2, 0, 0, 0, 0)] (by decide +kernel) rfl trivial ?_
          refine GE_callVI (As := [.inl a1, .inl a2]) (k := 0) (i := 0) (S := []) (t_X0_lucksBy l X hN 0 a1 a2 (by decide) w) (by decide) ⟨me_X0_lucksBy, mi_X0_lucksBy, mv_X0_lucksBy, lk_X4_140⟩ rfl (by decide +kernel) rfl (by decide) (by decide) (Nat.le_of_ble_eq_true rfl) (fun r6 _ => ?_)
          exact GE_iret rfl (by decide +kernel)
      · refine GE_run (flG_T hN) (pc1 := 32) (L1 := [some (.inr (.inr (some (4, 0)))), some (.inl a1), some (.inl a2), some (.inl a3)]) (S1 := [.inl a2, .inl a1, .inr (.inr (some (0, 0)))]) (w1 := w) (P := True) [(.aload_n 0, 0, 0, 0, 0), (.getfield 28, 4, 2, 0, 0), (.iload_n 1, 0, 0, 0, 0), (.iload_n 2, 0, 0, 0, 0)] (by decide +kernel) rfl trivial ?_
        refine GE_callVI (As := [.inl a1, .inl a2]) (k := 0) (i := 0) (S := []) (t_X0_letsGo l X hN 0 a1 a2 (by decide) w) (by decide) ⟨me_X0_letsGo, mi_X0_letsGo, mv_X0_letsGo, lk_X4_136⟩ rfl (by decide +kernel) rfl (by decide) (by decide) (Nat.le_of_ble_eq_true rfl) (fun r4 _ => ?_)
        exact GE_iret rfl (by decide +kernel)
    · refine GE_run (flG_T hN) (pc1 := 21) (L1 := [some (.inr (.inr (some (4, 0)))), some (.inl a1), some (.inl a2), some (.inl a3)]) (S1 := [.inl (-5000)]) (w1 := w) (P := True) [(.sipush (-5000), 0, 0, -5000, 0)] (by decide +kernel) rfl trivial ?_
      exact GE_iret rfl (by decide +kernel)
abbrev mm_X4_land : MI := (RX4, cX4_land, 3, (some .int), ftp_X4.map (fun q => q.1), ctp_X4.map (fun q => q.1), clp_X4.map (fun q => q.1))
noncomputable def f_X4_land (a1 : Int32) (a2 : Int32) (w : Mem) : Option (Int32 × Mem) := if (hasF a1 (w 0 0 2)) = 0 then (some ((-5), w)) else (if (rng a2 0 15) = 0 then (some ((-6), w)) else (Option.bind (f_X0_landing 0 a1 a2 w) (fun r3 => some (r3.1, r3.2))))
set_option maxRecDepth 100000 in
theorem t_X4_land (l : Launch) (X : XC) {N9 : Nat} (hN : 39 ≤ N9)  (a1 : Int32) (a2 : Int32) (w : Mem) : Ct l X 5 yX4_land cX4_land 3 (some .int) emI [.inr (.inr (some (4, 0))), .inl a1, .inl a2] N9 flT w (f_X4_land a1 a2 w) := by
  refine Ct_of (mi := mm_X4_land) (mik_X4 _ _ _) me_X4_land rfl (okAs_cons (okMV hN (by decide)) (okAs_cons rfl (okAs_cons rfl okAs_nil))) (Nat.le_of_ble_eq_true rfl) ?_
  unfold f_X4_land
  refine GE_run (flG_T hN) (pc1 := 5) (L1 := [some (.inr (.inr (some (4, 0)))), some (.inl a1), some (.inl a2)]) (S1 := [.inl a1, .inr (.inr (some (0, 0)))]) (w1 := w) (P := True) [(.aload_n 0, 0, 0, 0, 0), (.getfield 28, 4, 2, 0, 0), (.iload_n 1, 0, 0, 0, 0)] (by decide +kernel) rfl trivial ?_
  refine GE_callVIp (As := [.inl a1]) (k := 0) (i := 0) (S := []) (p_X0_has l X hN 0 a1 (by decide) w) (by decide) ⟨me_X0_has, mi_X0_has, mv_X0_has, lk_X4_95⟩ rfl (by decide +kernel) rfl (by decide) (by decide) (Nat.le_of_ble_eq_true rfl) ?_
  refine GE_ifN (k := .ne) (off := 6) (tgt := 14) (by decide +kernel) (by decide) (cnd_ne _ _) (fun c1 => ?_) (fun c1 => ?_)
  · refine GE_run (flG_T hN) (pc1 := 15) (L1 := [some (.inr (.inr (some (4, 0)))), some (.inl a1), some (.inl a2)]) (S1 := [.inl a2]) (w1 := w) (P := True) [(.iload_n 2, 0, 0, 0, 0)] (by decide +kernel) rfl trivial ?_
    refine GE_callSIp (As := [.inl a2]) (S := []) (p_X4_isThing l X hN a2 w) ⟨me_X4_isThing, ms_X4_isThing, lk_X4_98⟩ (by decide +kernel) rfl (by decide) (by decide) (Nat.le_of_ble_eq_true rfl) ?_
    refine GE_ifN (k := .ne) (off := 6) (tgt := 24) (by decide +kernel) (by decide) (cnd_ne _ _) (fun c2 => ?_) (fun c2 => ?_)
    · refine GE_run (flG_T hN) (pc1 := 30) (L1 := [some (.inr (.inr (some (4, 0)))), some (.inl a1), some (.inl a2)]) (S1 := [.inl a2, .inl a1, .inr (.inr (some (0, 0)))]) (w1 := w) (P := True) [(.aload_n 0, 0, 0, 0, 0), (.getfield 28, 4, 2, 0, 0), (.iload_n 1, 0, 0, 0, 0), (.iload_n 2, 0, 0, 0, 0)] (by decide +kernel) rfl trivial ?_
      refine GE_callVI (As := [.inl a1, .inl a2]) (k := 0) (i := 0) (S := []) (t_X0_landing l X hN 0 a1 a2 (by decide) w) (by decide) ⟨me_X0_landing, mi_X0_landing, mv_X0_landing, lk_X4_143⟩ rfl (by decide +kernel) rfl (by decide) (by decide) (Nat.le_of_ble_eq_true rfl) (fun r3 _ => ?_)
      exact GE_iret rfl (by decide +kernel)
    · refine GE_run (flG_T hN) (pc1 := 23) (L1 := [some (.inr (.inr (some (4, 0)))), some (.inl a1), some (.inl a2)]) (S1 := [.inl (-6)]) (w1 := w) (P := True) [(.bipush (-6), 0, 0, -6, 0)] (by decide +kernel) rfl trivial ?_
      exact GE_iret rfl (by decide +kernel)
  · refine GE_run (flG_T hN) (pc1 := 13) (L1 := [some (.inr (.inr (some (4, 0)))), some (.inl a1), some (.inl a2)]) (S1 := [.inl (-5)]) (w1 := w) (P := True) [(.bipush (-5), 0, 0, -5, 0)] (by decide +kernel) rfl trivial ?_
    exact GE_iret rfl (by decide +kernel)
abbrev mm_X4_teach : MI := (RX4, cX4_teach, 4, (some .int), ftp_X4.map (fun q => q.1), ctp_X4.map (fun q => q.1), clp_X4.map (fun q => q.1))
noncomputable def f_X4_teach (a1 : Int32) (a2 : Int32) (w : Mem) : Option (Int32 × Mem) := if (hasF a1 (w 0 0 2)) = 0 then (some ((-5), w)) else (if (hasF a2 (w 0 0 2)) = 0 then (some ((-5), w)) else (if a1 = a2 then (some ((-5), w)) else (Option.bind (f_X0_learns 0 a1 a2 w) (fun r4 => Option.bind (f_X0_isTold 0 a2 r4.1 r4.2) (fun r5 => some (r4.1, r5))))))
set_option maxRecDepth 100000 in
theorem t_X4_teach (l : Launch) (X : XC) {N9 : Nat} (hN : 39 ≤ N9)  (a1 : Int32) (a2 : Int32) (w : Mem) : Ct l X 5 yX4_teach cX4_teach 4 (some .int) emI [.inr (.inr (some (4, 0))), .inl a1, .inl a2] N9 flT w (f_X4_teach a1 a2 w) := by
  refine Ct_of (mi := mm_X4_teach) (mik_X4 _ _ _) me_X4_teach rfl (okAs_cons (okMV hN (by decide)) (okAs_cons rfl (okAs_cons rfl okAs_nil))) (Nat.le_of_ble_eq_true rfl) ?_
  unfold f_X4_teach
  refine GE_run (flG_T hN) (pc1 := 5) (L1 := [some (.inr (.inr (some (4, 0)))), some (.inl a1), some (.inl a2), none]) (S1 := [.inl a1, .inr (.inr (some (0, 0)))]) (w1 := w) (P := True) [(.aload_n 0, 0, 0, 0, 0), (.getfield 28, 4, 2, 0, 0), (.iload_n 1, 0, 0, 0, 0)] (by decide +kernel) rfl trivial ?_
  refine GE_callVIp (As := [.inl a1]) (k := 0) (i := 0) (S := []) (p_X0_has l X hN 0 a1 (by decide) w) (by decide) ⟨me_X0_has, mi_X0_has, mv_X0_has, lk_X4_95⟩ rfl (by decide +kernel) rfl (by decide) (by decide) (Nat.le_of_ble_eq_true rfl) ?_
  refine GE_if (k := .eq) (off := 19) (tgt := 27) (by decide +kernel) (by decide) (cnd_eq _ _) (fun c1 => ?_) (fun c1 => ?_)
  · refine GE_run (flG_T hN) (pc1 := 29) (L1 := [some (.inr (.inr (some (4, 0)))), some (.inl a1), some (.inl a2), none]) (S1 := [.inl (-5)]) (w1 := w) (P := True) [(.bipush (-5), 0, 0, -5, 0)] (by decide +kernel) rfl trivial ?_
    exact GE_iret rfl (by decide +kernel)
  · refine GE_run (flG_T hN) (pc1 := 16) (L1 := [some (.inr (.inr (some (4, 0)))), some (.inl a1), some (.inl a2), none]) (S1 := [.inl a2, .inr (.inr (some (0, 0)))]) (w1 := w) (P := True) [(.aload_n 0, 0, 0, 0, 0), (.getfield 28, 4, 2, 0, 0), (.iload_n 2, 0, 0, 0, 0)] (by decide +kernel) rfl trivial ?_
    refine GE_callVIp (As := [.inl a2]) (k := 0) (i := 0) (S := []) (p_X0_has l X hN 0 a2 (by decide) w) (by decide) ⟨me_X0_has, mi_X0_has, mv_X0_has, lk_X4_95⟩ rfl (by decide +kernel) rfl (by decide) (by decide) (Nat.le_of_ble_eq_true rfl) ?_
    refine GE_if (k := .eq) (off := 8) (tgt := 27) (by decide +kernel) (by decide) (cnd_eq _ _) (fun c2 => ?_) (fun c2 => ?_)
    · refine GE_run (flG_T hN) (pc1 := 29) (L1 := [some (.inr (.inr (some (4, 0)))), some (.inl a1), some (.inl a2), none]) (S1 := [.inl (-5)]) (w1 := w) (P := True) [(.bipush (-5), 0, 0, -5, 0)] (by decide +kernel) rfl trivial ?_
      exact GE_iret rfl (by decide +kernel)
    · refine GE_run (flG_T hN) (pc1 := 24) (L1 := [some (.inr (.inr (some (4, 0)))), some (.inl a1), some (.inl a2), none]) (S1 := [.inl a2, .inl a1]) (w1 := w) (P := True) [(.iload_n 1, 0, 0, 0, 0), (.iload_n 2, 0, 0, 0, 0)] (by decide +kernel) rfl trivial ?_
      refine GE_icmpN (k := .ne) (off := 6) (tgt := 30) (by decide +kernel) (by decide) (cnd_ne _ _) (fun c3 => ?_) (fun c3 => ?_)
      · refine GE_run (flG_T hN) (pc1 := 36) (L1 := [some (.inr (.inr (some (4, 0)))), some (.inl a1), some (.inl a2), none]) (S1 := [.inl a2, .inl a1, .inr (.inr (some (0, 0)))]) (w1 := w) (P := True) [(.aload_n 0, 0, 0, 0, 0), (.getfield 28, 4, 2, 0, 0), (.iload_n 1, 0, 0, 0, 0), (.iload_n 2, 0, 0, 0, 0)] (by decide +kernel) rfl trivial ?_
        refine GE_callVI (As := [.inl a1, .inl a2]) (k := 0) (i := 0) (S := []) (t_X0_learns l X hN 0 a1 a2 (by decide) w) (by decide) ⟨me_X0_learns, mi_X0_learns, mv_X0_learns, lk_X4_146⟩ rfl (by decide +kernel) rfl (by decide) (by decide) (Nat.le_of_ble_eq_true rfl) (fun r4 _ => ?_)
        refine GE_run (flG_T hN) (pc1 := 46) (L1 := [some (.inr (.inr (some (4, 0)))), some (.inl a1), some (.inl a2), some (.inl r4.1)]) (S1 := [.inl r4.1, .inl a2, .inr (.inr (some (0, 0)))]) (w1 := r4.2) (P := True) [(.istore_n 3, 0, 0, 0, 0), (.aload_n 0, 0, 0, 0, 0), (.getfield 28, 4, 2, 0, 0), (.iload_n 2, 0, 0, 0, 0), (.iload_n 3, 0, 0, 0, 0)] (by decide +kernel) rfl trivial ?_
        refine GE_callVV (As := [.inl a2, .inl r4.1]) (k := 0) (i := 0) (S := []) (t_X0_isTold l X hN 0 a2 r4.1 (by decide) r4.2) (by decide) ⟨me_X0_isTold, mi_X0_isTold, mv_X0_isTold, lk_X4_149⟩ rfl (by decide +kernel) rfl (by decide) (by decide) (Nat.le_of_ble_eq_true rfl) (fun r5 _ => ?_)
        refine GE_run (flG_T hN) (pc1 := 50) (L1 := [some (.inr (.inr (some (4, 0)))), some (.inl a1), some (.inl a2), some (.inl r4.1)]) (S1 := [.inl r4.1]) (w1 := r5) (P := True) [(.iload_n 3, 0, 0, 0, 0)] (by decide +kernel) rfl trivial ?_
        exact GE_iret rfl (by decide +kernel)
      · refine GE_run (flG_T hN) (pc1 := 29) (L1 := [some (.inr (.inr (some (4, 0)))), some (.inl a1), some (.inl a2), none]) (S1 := [.inl (-5)]) (w1 := w) (P := True) [(.bipush (-5), 0, 0, -5, 0)] (by decide +kernel) rfl trivial ?_
        exact GE_iret rfl (by decide +kernel)
abbrev mm_X4_tide : MI := (RX4, cX4_tide, 1, (some .int), ftp_X4.map (fun q => q.1), ctp_X4.map (fun q => q.1), clp_X4.map (fun q => q.1))
noncomputable def f_X4_tide  (w : Mem) : Option (Int32 × Mem) := if (w 0 0 4) < 999 then (Option.bind (f_X0_washes 0 w) (fun r2 => some (r2.1, r2.2))) else (some ((-3), w))
set_option maxRecDepth 100000 in
theorem t_X4_tide (l : Launch) (X : XC) {N9 : Nat} (hN : 39 ≤ N9)   (w : Mem) : Ct l X 3 yX4_tide cX4_tide 1 (some .int) emI [.inr (.inr (some (4, 0)))] N9 flT w (f_X4_tide  w) := by
  refine Ct_of (mi := mm_X4_tide) (mik_X4 _ _ _) me_X4_tide rfl (okAs_cons (okMV hN (by decide)) okAs_nil) (Nat.le_of_ble_eq_true rfl) ?_
  unfold f_X4_tide
  refine GE_run (flG_T hN) (pc1 := 10) (L1 := [some (.inr (.inr (some (4, 0))))]) (S1 := [.inl 999, .inl (w 0 0 4)]) (w1 := w) (P := True) [(.aload_n 0, 0, 0, 0, 0), (.getfield 28, 4, 2, 0, 0), (.getfield 58, 0, 4, 0, 0), (.sipush 999, 0, 0, 999, 0)] (by decide +kernel) rfl trivial ?_
  refine GE_icmp (k := .lt) (off := 6) (tgt := 16) (by decide +kernel) (by decide) (cnd_lt _ _) (fun c1 => ?_) (fun c1 => ?_)
  · refine GE_run (flG_T hN) (pc1 := 20) (L1 := [some (.inr (.inr (some (4, 0))))]) (S1 := [.inr (.inr (some (0, 0)))]) (w1 := w) (P := True) [(.aload_n 0, 0, 0, 0, 0), (.getfield 28, 4, 2, 0, 0)] (by decide +kernel) rfl trivial ?_
    refine GE_callVI (As := []) (k := 0) (i := 0) (S := []) (t_X0_washes l X hN 0 (by decide) w) (by decide) ⟨me_X0_washes, mi_X0_washes, mv_X0_washes, lk_X4_153⟩ rfl (by decide +kernel) rfl (by decide) (by decide) (Nat.le_of_ble_eq_true rfl) (fun r2 _ => ?_)
    exact GE_iret rfl (by decide +kernel)
  · refine GE_run (flG_T hN) (pc1 := 15) (L1 := [some (.inr (.inr (some (4, 0))))]) (S1 := [.inl (-3)]) (w1 := w) (P := True) [(.bipush (-3), 0, 0, -3, 0)] (by decide +kernel) rfl trivial ?_
    exact GE_iret rfl (by decide +kernel)
abbrev mm_X4_talk : MI := (RX4, cX4_talk, 8, (some .int), ftp_X4.map (fun q => q.1), ctp_X4.map (fun q => q.1), clp_X4.map (fun q => q.1))
noncomputable def h_X4_talk_41 (x1 : Int32) (x2 : Int32) (k99 : Int32 → Int32 → Int32 → Mem → Option (Int32 × Mem)) : Nat → Int32 → Int32 → Int32 → Int32 → Mem → Option (Int32 × Mem)
  | 0, _, _, _, _, _ => none
  | n + 1, x3, x4, x5, x6, w => if x6 < 6 then (if (holdsF x1 x6) = 0 then ((h_X4_talk_41 x1 x2 k99 n) x3 x4 x5 (x6 + 1) w) else ((h_X4_talk_41 x1 x2 k99 n) (x3 &&& (atV w 15 0 x6)) (x4 ||| (atV w 15 0 x6)) (x5 ||| (x4 &&& (atV w 15 0 x6))) (x6 + 1) w)) else (k99 x3 x4 x5 w)
set_option maxRecDepth 100000 in
theorem h_X4_talk_41_ok (l : Launch) (X : XC) {N9 : Nat} (hN : 39 ≤ N9) (x1 : Int32) (x2 : Int32) (k99 : Int32 → Int32 → Int32 → Mem → Option (Int32 × Mem))  (hk99 : ∀ (x3 : Int32) (x4 : Int32) (x5 : Int32) (w : Mem), GE l X mm_X4_talk 1 emI N9 flT (k99 x3 x4 x5 w) 99 [none, none, some (.inl x2), some (.inl x3), some (.inl x4), some (.inl x5), none, none] [] w) : ∀ (n : Nat) (x3 : Int32) (x4 : Int32) (x5 : Int32) (x6 : Int32) (w : Mem), GE l X mm_X4_talk 1 emI N9 flT ((h_X4_talk_41 x1 x2 k99 n) x3 x4 x5 x6 w) 41 [some (.inr (.inr (some (4, 0)))), some (.inl x1), some (.inl x2), some (.inl x3), some (.inl x4), some (.inl x5), some (.inl x6), none] [] w := by
  intro n
  induction n with
  | zero => intro x3 x4 x5 x6 w; exact GE_none
  | succ n ih =>
    intro x3 x4 x5 x6 w
    unfold h_X4_talk_41
    refine GE_run (flG_T hN) (pc1 := 45) (L1 := [some (.inr (.inr (some (4, 0)))), some (.inl x1), some (.inl x2), some (.inl x3), some (.inl x4), some (.inl x5), some (.inl x6), none]) (S1 := [.inl 6, .inl x6]) (w1 := w) (P := True) [(.iload 6, 0, 0, 0, 0), (.bipush 6, 0, 0, 6, 0)] (by decide +kernel) rfl trivial ?_
    refine GE_icmpN (k := .ge) (off := 54) (tgt := 99) (by decide +kernel) (by decide) (cnd_ge _ _) (fun c5 => ?_) (fun c5 => ?_)
    · exact GE_weak [false, false, true, true, true, true, false, false] (hk99 x3 x4 x5 w)
    · refine GE_run (flG_T hN) (pc1 := 51) (L1 := [some (.inr (.inr (some (4, 0)))), some (.inl x1), some (.inl x2), some (.inl x3), some (.inl x4), some (.inl x5), some (.inl x6), none]) (S1 := [.inl x6, .inl x1]) (w1 := w) (P := True) [(.iload_n 1, 0, 0, 0, 0), (.iload 6, 0, 0, 0, 0)] (by decide +kernel) rfl trivial ?_
      refine GE_callSIp (As := [.inl x1, .inl x6]) (S := []) (p_X4_holds l X hN x1 x6 w) ⟨me_X4_holds, ms_X4_holds, lk_X4_157⟩ (by decide +kernel) rfl (by decide) (by decide) (Nat.le_of_ble_eq_true rfl) ?_
      refine GE_if (k := .eq) (off := 39) (tgt := 93) (by decide +kernel) (by decide) (cnd_eq _ _) (fun c6 => ?_) (fun c6 => ?_)
      · refine GE_run (flG_T hN) (pc1 := 41) (L1 := [some (.inr (.inr (some (4, 0)))), some (.inl x1), some (.inl x2), some (.inl x3), some (.inl x4), some (.inl x5), some (.inl (x6 + 1)), none]) (S1 := []) (w1 := w) (P := True) [(.iinc 6 1, 0, 0, 1, 0), (.goto (-55), 0, 0, 0, 0)] (by decide +kernel) rfl trivial ?_
        exact GE_weak [true, true, true, true, true, true, true, false] (ih x3 x4 x5 (x6 + 1) w)
      · refine GE_run (flG_T hN) (pc1 := 66) (L1 := [some (.inr (.inr (some (4, 0)))), some (.inl x1), some (.inl x2), some (.inl x3), some (.inl x4), some (.inl x5), some (.inl x6), none]) (S1 := [.inl x6, .inr (.inr (some (15, 0)))]) (w1 := w) (P := True) [(.aload_n 0, 0, 0, 0, 0), (.getfield 28, 4, 2, 0, 0), (.getfield 108, 0, 8, 0, 0), (.iload 6, 0, 0, 0, 0)] (by decide +kernel) rfl trivial ?_
        refine GE_callSIp (As := [.inr (.inr (some (15, 0))), .inl x6]) (S := []) (p_X4_at l X hN 15 0 x6 (by decide) (okM hN (by decide)) w) ⟨me_X4_at, ms_X4_at, lk_X4_120⟩ (by decide +kernel) rfl (by decide) (by decide) (Nat.le_of_ble_eq_true rfl) ?_
        refine GE_run (flG_T hN) (pc1 := 41) (L1 := [some (.inr (.inr (some (4, 0)))), some (.inl x1), some (.inl x2), some (.inl (x3 &&& (atV w 15 0 x6))), some (.inl (x4 ||| (atV w 15 0 x6))), some (.inl (x5 ||| (x4 &&& (atV w 15 0 x6)))), some (.inl (x6 + 1)), some (.inl (atV w 15 0 x6))]) (S1 := []) (w1 := w) (P := True) [(.istore 7, 0, 0, 0, 0), (.iload 5, 0, 0, 0, 0), (.iload 4, 0, 0, 0, 0), (.iload 7, 0, 0, 0, 0), (.iand, 0, 0, 0, 0), (.ior, 0, 0, 0, 0), (.istore 5, 0, 0, 0, 0), (.iload 4, 0, 0, 0, 0), (.iload 7, 0, 0, 0, 0), (.ior, 0, 0, 0, 0), (.istore 4, 0, 0, 0, 0), (.iload_n 3, 0, 0, 0, 0), (.iload 7, 0, 0, 0, 0), (.iand, 0, 0, 0, 0), (.istore_n 3, 0, 0, 0, 0), (.iinc 6 1, 0, 0, 1, 0), (.goto (-55), 0, 0, 0, 0)] (by decide +kernel) rfl trivial ?_
        exact GE_weak [true, true, true, true, true, true, true, false] (ih (x3 &&& (atV w 15 0 x6)) (x4 ||| (atV w 15 0 x6)) (x5 ||| (x4 &&& (atV w 15 0 x6))) (x6 + 1) w)
noncomputable def f_X4_talk (a1 : Int32) (a2 : Int32) (w : Mem) : Option (Int32 × Mem) := if a1 < 0 then (some ((-2), w)) else (if a1 < (shlI 1 (w 0 0 2)) then (if a2 < 0 then (some ((-2), w)) else (if a2 ≤ 3 then (h_X4_talk_41 a1 a2 (fun x3_7 x4_8 x5_9 w10 => swE a2 0 [some (x3_7, w10), some (x4_8, w10), some (65535 &&& (x4_8 ^^^ (-1)), w10)] (some (x4_8 &&& (x5_9 ^^^ (-1)), w10))) FU 65535 0 0 0 w) else (some ((-2), w)))) else (some ((-2), w)))
set_option maxRecDepth 100000 in
theorem t_X4_talk (l : Launch) (X : XC) {N9 : Nat} (hN : 39 ≤ N9)  (a1 : Int32) (a2 : Int32) (w : Mem) : Ct l X 1 yX4_talk cX4_talk 8 (some .int) emI [.inr (.inr (some (4, 0))), .inl a1, .inl a2] N9 flT w (f_X4_talk a1 a2 w) := by
  refine Ct_of (mi := mm_X4_talk) (mik_X4 _ _ _) me_X4_talk rfl (okAs_cons (okMV hN (by decide)) (okAs_cons rfl (okAs_cons rfl okAs_nil))) (Nat.le_of_ble_eq_true rfl) ?_
  unfold f_X4_talk
  refine GE_run (flG_T hN) (pc1 := 1) (L1 := [some (.inr (.inr (some (4, 0)))), some (.inl a1), some (.inl a2), none, none, none, none, none]) (S1 := [.inl a1]) (w1 := w) (P := True) [(.iload_n 1, 0, 0, 0, 0)] (by decide +kernel) rfl trivial ?_
  refine GE_if (k := .lt) (off := 25) (tgt := 26) (by decide +kernel) (by decide) (cnd_lt _ _) (fun c1 => ?_) (fun c1 => ?_)
  · refine GE_run (flG_T hN) (pc1 := 28) (L1 := [some (.inr (.inr (some (4, 0)))), some (.inl a1), some (.inl a2), none, none, none, none, none]) (S1 := [.inl (-2)]) (w1 := w) (P := True) [(.bipush (-2), 0, 0, -2, 0)] (by decide +kernel) rfl trivial ?_
    exact GE_iret rfl (by decide +kernel)
  · refine GE_run (flG_T hN) (pc1 := 14) (L1 := [some (.inr (.inr (some (4, 0)))), some (.inl a1), some (.inl a2), none, none, none, none, none]) (S1 := [.inl (shlI 1 (w 0 0 2)), .inl a1]) (w1 := w) (P := True) [(.iload_n 1, 0, 0, 0, 0), (.iconst 1, 0, 0, 1, 0), (.aload_n 0, 0, 0, 0, 0), (.getfield 28, 4, 2, 0, 0), (.getfield 45, 0, 2, 0, 0), (.ishl, 0, 0, 0, 0)] (by decide +kernel) rfl trivial ?_
    refine GE_icmpN (k := .ge) (off := 12) (tgt := 26) (by decide +kernel) (by decide) (cnd_ge _ _) (fun c2 => ?_) (fun c2 => ?_)
    · refine GE_run (flG_T hN) (pc1 := 28) (L1 := [some (.inr (.inr (some (4, 0)))), some (.inl a1), some (.inl a2), none, none, none, none, none]) (S1 := [.inl (-2)]) (w1 := w) (P := True) [(.bipush (-2), 0, 0, -2, 0)] (by decide +kernel) rfl trivial ?_
      exact GE_iret rfl (by decide +kernel)
    · refine GE_run (flG_T hN) (pc1 := 18) (L1 := [some (.inr (.inr (some (4, 0)))), some (.inl a1), some (.inl a2), none, none, none, none, none]) (S1 := [.inl a2]) (w1 := w) (P := True) [(.iload_n 2, 0, 0, 0, 0)] (by decide +kernel) rfl trivial ?_
      refine GE_if (k := .lt) (off := 8) (tgt := 26) (by decide +kernel) (by decide) (cnd_lt _ _) (fun c3 => ?_) (fun c3 => ?_)
      · refine GE_run (flG_T hN) (pc1 := 28) (L1 := [some (.inr (.inr (some (4, 0)))), some (.inl a1), some (.inl a2), none, none, none, none, none]) (S1 := [.inl (-2)]) (w1 := w) (P := True) [(.bipush (-2), 0, 0, -2, 0)] (by decide +kernel) rfl trivial ?_
        exact GE_iret rfl (by decide +kernel)
      · refine GE_run (flG_T hN) (pc1 := 23) (L1 := [some (.inr (.inr (some (4, 0)))), some (.inl a1), some (.inl a2), none, none, none, none, none]) (S1 := [.inl 3, .inl a2]) (w1 := w) (P := True) [(.iload_n 2, 0, 0, 0, 0), (.iconst 3, 0, 0, 3, 0)] (by decide +kernel) rfl trivial ?_
        refine GE_icmp (k := .le) (off := 6) (tgt := 29) (by decide +kernel) (by decide) (cnd_le _ _) (fun c4 => ?_) (fun c4 => ?_)
        · refine GE_run (flG_T hN) (pc1 := 41) (L1 := [some (.inr (.inr (some (4, 0)))), some (.inl a1), some (.inl a2), some (.inl 65535), some (.inl 0), some (.inl 0), some (.inl 0), none]) (S1 := []) (w1 := w) (P := True) [(.ldc 156, 0, 0, 65535, 0), (.istore_n 3, 0, 0, 0, 0), (.iconst 0, 0, 0, 0, 0), (.istore 4, 0, 0, 0, 0), (.iconst 0, 0, 0, 0, 0), (.istore 5, 0, 0, 0, 0), (.iconst 0, 0, 0, 0, 0), (.istore 6, 0, 0, 0, 0)] (by decide +kernel) rfl trivial ?_
          refine GE_weak [true, true, true, true, true, true, true, false] (h_X4_talk_41_ok l X hN a1 a2 _ ?_ FU 65535 0 0 0 w)
          · intro x3_7 x4_8 x5_9 w10
            refine GE_run (flG_T hN) (pc1 := 100) (L1 := [none, none, some (.inl a2), some (.inl x3_7), some (.inl x4_8), some (.inl x5_9), none, none]) (S1 := [.inl a2]) (w1 := w10) (P := True) [(.iload_n 2, 0, 0, 0, 0)] (by decide +kernel) rfl trivial ?_
            refine GE_swm (dflt := 41) (lo := 0) (hi := 2) (offs := #[28, 30, 33]) (len := 28) (dt := 141) (mm := 3) [128, 130, 133] (by decide +kernel) rfl (by decide +kernel) (And.intro (fun _ => ?_) (And.intro (fun _ => ?_) (And.intro (fun _ => ?_) (trivial)))) ?_
            · refine GE_run (flG_T hN) (pc1 := 129) (L1 := [none, none, some (.inl a2), some (.inl x3_7), some (.inl x4_8), some (.inl x5_9), none, none]) (S1 := [.inl x3_7]) (w1 := w10) (P := True) [(.iload_n 3, 0, 0, 0, 0)] (by decide +kernel) rfl trivial ?_
              exact GE_iret rfl (by decide +kernel)
            · refine GE_run (flG_T hN) (pc1 := 132) (L1 := [none, none, some (.inl a2), some (.inl x3_7), some (.inl x4_8), some (.inl x5_9), none, none]) (S1 := [.inl x4_8]) (w1 := w10) (P := True) [(.iload 4, 0, 0, 0, 0)] (by decide +kernel) rfl trivial ?_
              exact GE_iret rfl (by decide +kernel)
            · refine GE_run (flG_T hN) (pc1 := 140) (L1 := [none, none, some (.inl a2), some (.inl x3_7), some (.inl x4_8), some (.inl x5_9), none, none]) (S1 := [.inl (65535 &&& (x4_8 ^^^ (-1)))]) (w1 := w10) (P := True) [(.ldc 156, 0, 0, 65535, 0), (.iload 4, 0, 0, 0, 0), (.iconst (-1), 0, 0, -1, 0), (.ixor, 0, 0, 0, 0), (.iand, 0, 0, 0, 0)] (by decide +kernel) rfl trivial ?_
              exact GE_iret rfl (by decide +kernel)
            · refine GE_run (flG_T hN) (pc1 := 148) (L1 := [none, none, some (.inl a2), some (.inl x3_7), some (.inl x4_8), some (.inl x5_9), none, none]) (S1 := [.inl (x4_8 &&& (x5_9 ^^^ (-1)))]) (w1 := w10) (P := True) [(.iload 4, 0, 0, 0, 0), (.iload 5, 0, 0, 0, 0), (.iconst (-1), 0, 0, -1, 0), (.ixor, 0, 0, 0, 0), (.iand, 0, 0, 0, 0)] (by decide +kernel) rfl trivial ?_
              exact GE_iret rfl (by decide +kernel)
        · refine GE_run (flG_T hN) (pc1 := 28) (L1 := [some (.inr (.inr (some (4, 0)))), some (.inl a1), some (.inl a2), none, none, none, none, none]) (S1 := [.inl (-2)]) (w1 := w) (P := True) [(.bipush (-2), 0, 0, -2, 0)] (by decide +kernel) rfl trivial ?_
          exact GE_iret rfl (by decide +kernel)
end
section
/-! the class, second half -/
abbrev mm_X4_which : MI := (RX4, cX4_which, 7, (some .int), ftp_X4.map (fun q => q.1), ctp_X4.map (fun q => q.1), clp_X4.map (fun q => q.1))
noncomputable def j_X4_which_111  (kl44 : Int32 → Int32 → Int32 → Mem → Option (Int32 × Mem)) (x1 : Int32) (x2 : Int32) (x5 : Int32) (x6 : Int32) (w : Mem) : Option (Int32 × Mem) := kl44 x5 x6 (x5 + 1) w
set_option maxRecDepth 100000 in
theorem j_X4_which_111_ok (l : Launch) (X : XC) {N9 : Nat} (hN : 39 ≤ N9)  (kl44 : Int32 → Int32 → Int32 → Mem → Option (Int32 × Mem)) (x1 : Int32) (x2 : Int32) (x5 : Int32) (x6 : Int32)  (ih : ∀ (x3 : Int32) (x4 : Int32) (x5 : Int32) (w : Mem), GE l X mm_X4_which 4 emI N9 flT (kl44 x3 x4 x5 w) 44 [some (.inr (.inr (some (4, 0)))), some (.inl x1), some (.inl x2), some (.inl x3), some (.inl x4), some (.inl x5), none] [] w) (w : Mem) : GE l X mm_X4_which 4 emI N9 flT (j_X4_which_111 kl44 x1 x2 x5 x6 w) 111 [some (.inr (.inr (some (4, 0)))), some (.inl x1), some (.inl x2), none, none, some (.inl x5), some (.inl x6)] [] w := by
  unfold j_X4_which_111
  refine GE_run (flG_T hN) (pc1 := 44) (L1 := [some (.inr (.inr (some (4, 0)))), some (.inl x1), some (.inl x2), some (.inl x5), some (.inl x6), some (.inl (x5 + 1)), some (.inl x6)]) (S1 := []) (w1 := w) (P := True) [(.iload 5, 0, 0, 0, 0), (.istore_n 3, 0, 0, 0, 0), (.iload 6, 0, 0, 0, 0), (.istore 4, 0, 0, 0, 0), (.iinc 5 1, 0, 0, 1, 0), (.goto (-77), 0, 0, 0, 0)] (by decide +kernel) rfl trivial ?_
  exact GE_weak [true, true, true, true, true, true, false] (ih x5 x6 (x5 + 1) w)
noncomputable def h_X4_which_44 (x1 : Int32) (x2 : Int32) (k124 : Int32 → Int32 → Mem → Option (Int32 × Mem)) : Nat → Int32 → Int32 → Int32 → Mem → Option (Int32 × Mem)
  | 0, _, _, _, _ => none
  | n + 1, x3, x4, x5, w => if x5 < 16 then (if (holdsF (atV w 16 0 x1) x5) = 0 then (Option.bind (f_X0_lucksBy 0 x1 x5 w) (fun r5 => if x3 < 0 then (j_X4_which_111 (h_X4_which_44 x1 x2 k124 n) x1 x2 x5 (wiF ((atV w 17 0 x1) + r5.1) 0 99) r5.2) else (if (wiF ((atV w 17 0 x1) + r5.1) 0 99) ≤ x4 then ((h_X4_which_44 x1 x2 k124 n) x3 x4 (x5 + 1) r5.2) else (j_X4_which_111 (h_X4_which_44 x1 x2 k124 n) x1 x2 x5 (wiF ((atV w 17 0 x1) + r5.1) 0 99) r5.2)))) else ((h_X4_which_44 x1 x2 k124 n) x3 x4 (x5 + 1) w)) else (k124 x3 x4 w)
set_option maxRecDepth 100000 in
theorem h_X4_which_44_ok (l : Launch) (X : XC) {N9 : Nat} (hN : 39 ≤ N9) (x1 : Int32) (x2 : Int32) (k124 : Int32 → Int32 → Mem → Option (Int32 × Mem))  (hk124 : ∀ (x3 : Int32) (x4 : Int32) (w : Mem), GE l X mm_X4_which 4 emI N9 flT (k124 x3 x4 w) 124 [none, none, some (.inl x2), some (.inl x3), some (.inl x4), none, none] [] w) : ∀ (n : Nat) (x3 : Int32) (x4 : Int32) (x5 : Int32) (w : Mem), GE l X mm_X4_which 4 emI N9 flT ((h_X4_which_44 x1 x2 k124 n) x3 x4 x5 w) 44 [some (.inr (.inr (some (4, 0)))), some (.inl x1), some (.inl x2), some (.inl x3), some (.inl x4), some (.inl x5), none] [] w := by
  intro n
  induction n with
  | zero => intro x3 x4 x5 w; exact GE_none
  | succ n ih =>
    intro x3 x4 x5 w
    unfold h_X4_which_44
    refine GE_run (flG_T hN) (pc1 := 48) (L1 := [some (.inr (.inr (some (4, 0)))), some (.inl x1), some (.inl x2), some (.inl x3), some (.inl x4), some (.inl x5), none]) (S1 := [.inl 16, .inl x5]) (w1 := w) (P := True) [(.iload 5, 0, 0, 0, 0), (.bipush 16, 0, 0, 16, 0)] (by decide +kernel) rfl trivial ?_
    refine GE_icmpN (k := .ge) (off := 76) (tgt := 124) (by decide +kernel) (by decide) (cnd_ge _ _) (fun c3 => ?_) (fun c3 => ?_)
    · exact GE_weak [false, false, true, true, true, false, false] (hk124 x3 x4 w)
    · refine GE_run (flG_T hN) (pc1 := 59) (L1 := [some (.inr (.inr (some (4, 0)))), some (.inl x1), some (.inl x2), some (.inl x3), some (.inl x4), some (.inl x5), none]) (S1 := [.inl x1, .inr (.inr (some (16, 0)))]) (w1 := w) (P := True) [(.aload_n 0, 0, 0, 0, 0), (.getfield 28, 4, 2, 0, 0), (.getfield 115, 0, 9, 0, 0), (.iload_n 1, 0, 0, 0, 0)] (by decide +kernel) rfl trivial ?_
      refine GE_callSIp (As := [.inr (.inr (some (16, 0))), .inl x1]) (S := []) (p_X4_at l X hN 16 0 x1 (by decide) (okM hN (by decide)) w) ⟨me_X4_at, ms_X4_at, lk_X4_120⟩ (by decide +kernel) rfl (by decide) (by decide) (Nat.le_of_ble_eq_true rfl) ?_
      refine GE_run (flG_T hN) (pc1 := 64) (L1 := [some (.inr (.inr (some (4, 0)))), some (.inl x1), some (.inl x2), some (.inl x3), some (.inl x4), some (.inl x5), none]) (S1 := [.inl x5, .inl (atV w 16 0 x1)]) (w1 := w) (P := True) [(.iload 5, 0, 0, 0, 0)] (by decide +kernel) rfl trivial ?_
      refine GE_callSIp (As := [.inl (atV w 16 0 x1), .inl x5]) (S := []) (p_X4_holds l X hN (atV w 16 0 x1) x5 w) ⟨me_X4_holds, ms_X4_holds, lk_X4_157⟩ (by decide +kernel) rfl (by decide) (by decide) (Nat.le_of_ble_eq_true rfl) ?_
      refine GE_ifN (k := .ne) (off := 51) (tgt := 118) (by decide +kernel) (by decide) (cnd_ne _ _) (fun c4 => ?_) (fun c4 => ?_)
      · refine GE_run (flG_T hN) (pc1 := 44) (L1 := [some (.inr (.inr (some (4, 0)))), some (.inl x1), some (.inl x2), some (.inl x3), some (.inl x4), some (.inl (x5 + 1)), none]) (S1 := []) (w1 := w) (P := True) [(.iinc 5 1, 0, 0, 1, 0), (.goto (-77), 0, 0, 0, 0)] (by decide +kernel) rfl trivial ?_
        exact GE_weak [true, true, true, true, true, true, false] (ih x3 x4 (x5 + 1) w)
      · refine GE_run (flG_T hN) (pc1 := 78) (L1 := [some (.inr (.inr (some (4, 0)))), some (.inl x1), some (.inl x2), some (.inl x3), some (.inl x4), some (.inl x5), none]) (S1 := [.inl x1, .inr (.inr (some (17, 0)))]) (w1 := w) (P := True) [(.aload_n 0, 0, 0, 0, 0), (.getfield 28, 4, 2, 0, 0), (.getfield 117, 0, 10, 0, 0), (.iload_n 1, 0, 0, 0, 0)] (by decide +kernel) rfl trivial ?_
        refine GE_callSIp (As := [.inr (.inr (some (17, 0))), .inl x1]) (S := []) (p_X4_at l X hN 17 0 x1 (by decide) (okM hN (by decide)) w) ⟨me_X4_at, ms_X4_at, lk_X4_120⟩ (by decide +kernel) rfl (by decide) (by decide) (Nat.le_of_ble_eq_true rfl) ?_
        refine GE_run (flG_T hN) (pc1 := 88) (L1 := [some (.inr (.inr (some (4, 0)))), some (.inl x1), some (.inl x2), some (.inl x3), some (.inl x4), some (.inl x5), none]) (S1 := [.inl x5, .inl x1, .inr (.inr (some (0, 0))), .inl (atV w 17 0 x1)]) (w1 := w) (P := True) [(.aload_n 0, 0, 0, 0, 0), (.getfield 28, 4, 2, 0, 0), (.iload_n 1, 0, 0, 0, 0), (.iload 5, 0, 0, 0, 0)] (by decide +kernel) rfl trivial ?_
        refine GE_callVI (As := [.inl x1, .inl x5]) (k := 0) (i := 0) (S := [.inl (atV w 17 0 x1)]) (t_X0_lucksBy l X hN 0 x1 x5 (by decide) w) (by decide) ⟨me_X0_lucksBy, mi_X0_lucksBy, mv_X0_lucksBy, lk_X4_140⟩ rfl (by decide +kernel) rfl (by decide) (by decide) (Nat.le_of_ble_eq_true rfl) (fun r5 _ => ?_)
        refine GE_run (flG_T hN) (pc1 := 95) (L1 := [some (.inr (.inr (some (4, 0)))), some (.inl x1), some (.inl x2), some (.inl x3), some (.inl x4), some (.inl x5), none]) (S1 := [.inl 99, .inl 0, .inl ((atV w 17 0 x1) + r5.1)]) (w1 := r5.2) (P := True) [(.iadd, 0, 0, 0, 0), (.iconst 0, 0, 0, 0, 0), (.bipush 99, 0, 0, 99, 0)] (by decide +kernel) rfl trivial ?_
        refine GE_callSIp (As := [.inl ((atV w 17 0 x1) + r5.1), .inl 0, .inl 99]) (S := []) (p_X4_bounded l X hN ((atV w 17 0 x1) + r5.1) 0 99 r5.2) ⟨me_X4_bounded, ms_X4_bounded, lk_X4_193⟩ (by decide +kernel) rfl (by decide) (by decide) (Nat.le_of_ble_eq_true rfl) ?_
        refine GE_run (flG_T hN) (pc1 := 101) (L1 := [some (.inr (.inr (some (4, 0)))), some (.inl x1), some (.inl x2), some (.inl x3), some (.inl x4), some (.inl x5), some (.inl (wiF ((atV w 17 0 x1) + r5.1) 0 99))]) (S1 := [.inl x3]) (w1 := r5.2) (P := True) [(.istore 6, 0, 0, 0, 0), (.iload_n 3, 0, 0, 0, 0)] (by decide +kernel) rfl trivial ?_
        refine GE_if (k := .lt) (off := 10) (tgt := 111) (by decide +kernel) (by decide) (cnd_lt _ _) (fun c6 => ?_) (fun c6 => ?_)
        · exact GE_weak [true, true, true, false, false, true, true] (j_X4_which_111_ok l X hN (h_X4_which_44 x1 x2 k124 n) x1 x2 x5 (wiF ((atV w 17 0 x1) + r5.1) 0 99) ih r5.2)
        · refine GE_run (flG_T hN) (pc1 := 108) (L1 := [some (.inr (.inr (some (4, 0)))), some (.inl x1), some (.inl x2), some (.inl x3), some (.inl x4), some (.inl x5), some (.inl (wiF ((atV w 17 0 x1) + r5.1) 0 99))]) (S1 := [.inl x4, .inl (wiF ((atV w 17 0 x1) + r5.1) 0 99)]) (w1 := r5.2) (P := True) [(.iload 6, 0, 0, 0, 0), (.iload 4, 0, 0, 0, 0)] (by decide +kernel) rfl trivial ?_
          refine GE_icmp (k := .le) (off := 10) (tgt := 118) (by decide +kernel) (by decide) (cnd_le _ _) (fun c7 => ?_) (fun c7 => ?_)
          · refine GE_run (flG_T hN) (pc1 := 44) (L1 := [some (.inr (.inr (some (4, 0)))), some (.inl x1), some (.inl x2), some (.inl x3), some (.inl x4), some (.inl (x5 + 1)), some (.inl (wiF ((atV w 17 0 x1) + r5.1) 0 99))]) (S1 := []) (w1 := r5.2) (P := True) [(.iinc 5 1, 0, 0, 1, 0), (.goto (-77), 0, 0, 0, 0)] (by decide +kernel) rfl trivial ?_
            exact GE_weak [true, true, true, true, true, true, false] (ih x3 x4 (x5 + 1) r5.2)
          · exact GE_weak [true, true, true, false, false, true, true] (j_X4_which_111_ok l X hN (h_X4_which_44 x1 x2 k124 n) x1 x2 x5 (wiF ((atV w 17 0 x1) + r5.1) 0 99) ih r5.2)
noncomputable def j_X4_which_26   (x1 : Int32) (x2 : Int32) (w : Mem) : Option (Int32 × Mem) := h_X4_which_44 x1 x2 (fun x3_8 x4_9 w10 => if x2 = 0 then (some (x3_8, w10)) else (some (x4_9, w10))) FU (-1) (atV w 17 0 x1) 0 w
set_option maxRecDepth 100000 in
theorem j_X4_which_26_ok (l : Launch) (X : XC) {N9 : Nat} (hN : 39 ≤ N9)   (x1 : Int32) (x2 : Int32)   (w : Mem) : GE l X mm_X4_which 4 emI N9 flT (j_X4_which_26 x1 x2 w) 26 [some (.inr (.inr (some (4, 0)))), some (.inl x1), some (.inl x2), none, none, none, none] [] w := by
  unfold j_X4_which_26
  refine GE_run (flG_T hN) (pc1 := 36) (L1 := [some (.inr (.inr (some (4, 0)))), some (.inl x1), some (.inl x2), some (.inl (-1)), none, none, none]) (S1 := [.inl x1, .inr (.inr (some (17, 0)))]) (w1 := w) (P := True) [(.iconst (-1), 0, 0, -1, 0), (.istore_n 3, 0, 0, 0, 0), (.aload_n 0, 0, 0, 0, 0), (.getfield 28, 4, 2, 0, 0), (.getfield 117, 0, 10, 0, 0), (.iload_n 1, 0, 0, 0, 0)] (by decide +kernel) rfl trivial ?_
  refine GE_callSIp (As := [.inr (.inr (some (17, 0))), .inl x1]) (S := []) (p_X4_at l X hN 17 0 x1 (by decide) (okM hN (by decide)) w) ⟨me_X4_at, ms_X4_at, lk_X4_120⟩ (by decide +kernel) rfl (by decide) (by decide) (Nat.le_of_ble_eq_true rfl) ?_
  refine GE_run (flG_T hN) (pc1 := 44) (L1 := [some (.inr (.inr (some (4, 0)))), some (.inl x1), some (.inl x2), some (.inl (-1)), some (.inl (atV w 17 0 x1)), some (.inl 0), none]) (S1 := []) (w1 := w) (P := True) [(.istore 4, 0, 0, 0, 0), (.iconst 0, 0, 0, 0, 0), (.istore 5, 0, 0, 0, 0)] (by decide +kernel) rfl trivial ?_
  refine GE_weak [true, true, true, true, true, true, false] (h_X4_which_44_ok l X hN x1 x2 _ ?_ FU (-1) (atV w 17 0 x1) 0 w)
  · intro x3_8 x4_9 w10
    refine GE_run (flG_T hN) (pc1 := 125) (L1 := [none, none, some (.inl x2), some (.inl x3_8), some (.inl x4_9), none, none]) (S1 := [.inl x2]) (w1 := w10) (P := True) [(.iload_n 2, 0, 0, 0, 0)] (by decide +kernel) rfl trivial ?_
    refine GE_ifN (k := .ne) (off := 7) (tgt := 132) (by decide +kernel) (by decide) (cnd_ne _ _) (fun c11 => ?_) (fun c11 => ?_)
    · refine GE_run (flG_T hN) (pc1 := 134) (L1 := [none, none, some (.inl x2), some (.inl x3_8), some (.inl x4_9), none, none]) (S1 := [.inl x4_9]) (w1 := w10) (P := True) [(.iload 4, 0, 0, 0, 0)] (by decide +kernel) rfl trivial ?_
      exact GE_iret rfl (by decide +kernel)
    · refine GE_run (flG_T hN) (pc1 := 134) (L1 := [none, none, some (.inl x2), some (.inl x3_8), some (.inl x4_9), none, none]) (S1 := [.inl x3_8]) (w1 := w10) (P := True) [(.iload_n 3, 0, 0, 0, 0), (.goto 5, 0, 0, 0, 0)] (by decide +kernel) rfl trivial ?_
      exact GE_iret rfl (by decide +kernel)
noncomputable def f_X4_which (a1 : Int32) (a2 : Int32) (w : Mem) : Option (Int32 × Mem) := if (hasF a1 (w 0 0 2)) = 0 then (some ((-5), w)) else (if a2 = 0 then (j_X4_which_26 a1 a2 w) else (if a2 = 1 then (j_X4_which_26 a1 a2 w) else (some ((-7), w))))
set_option maxRecDepth 100000 in
theorem t_X4_which (l : Launch) (X : XC) {N9 : Nat} (hN : 39 ≤ N9)  (a1 : Int32) (a2 : Int32) (w : Mem) : Ct l X 4 yX4_which cX4_which 7 (some .int) emI [.inr (.inr (some (4, 0))), .inl a1, .inl a2] N9 flT w (f_X4_which a1 a2 w) := by
  refine Ct_of (mi := mm_X4_which) (mik_X4 _ _ _) me_X4_which rfl (okAs_cons (okMV hN (by decide)) (okAs_cons rfl (okAs_cons rfl okAs_nil))) (Nat.le_of_ble_eq_true rfl) ?_
  unfold f_X4_which
  refine GE_run (flG_T hN) (pc1 := 5) (L1 := [some (.inr (.inr (some (4, 0)))), some (.inl a1), some (.inl a2), none, none, none, none]) (S1 := [.inl a1, .inr (.inr (some (0, 0)))]) (w1 := w) (P := True) [(.aload_n 0, 0, 0, 0, 0), (.getfield 28, 4, 2, 0, 0), (.iload_n 1, 0, 0, 0, 0)] (by decide +kernel) rfl trivial ?_
  refine GE_callVIp (As := [.inl a1]) (k := 0) (i := 0) (S := []) (p_X0_has l X hN 0 a1 (by decide) w) (by decide) ⟨me_X0_has, mi_X0_has, mv_X0_has, lk_X4_95⟩ rfl (by decide +kernel) rfl (by decide) (by decide) (Nat.le_of_ble_eq_true rfl) ?_
  refine GE_ifN (k := .ne) (off := 6) (tgt := 14) (by decide +kernel) (by decide) (cnd_ne _ _) (fun c1 => ?_) (fun c1 => ?_)
  · refine GE_run (flG_T hN) (pc1 := 15) (L1 := [some (.inr (.inr (some (4, 0)))), some (.inl a1), some (.inl a2), none, none, none, none]) (S1 := [.inl a2]) (w1 := w) (P := True) [(.iload_n 2, 0, 0, 0, 0)] (by decide +kernel) rfl trivial ?_
    refine GE_if (k := .eq) (off := 11) (tgt := 26) (by decide +kernel) (by decide) (cnd_eq _ _) (fun c2 => ?_) (fun c2 => ?_)
    · exact GE_weak [true, true, true, false, false, false, false] (j_X4_which_26_ok l X hN a1 a2 w)
    · refine GE_run (flG_T hN) (pc1 := 20) (L1 := [some (.inr (.inr (some (4, 0)))), some (.inl a1), some (.inl a2), none, none, none, none]) (S1 := [.inl 1, .inl a2]) (w1 := w) (P := True) [(.iload_n 2, 0, 0, 0, 0), (.iconst 1, 0, 0, 1, 0)] (by decide +kernel) rfl trivial ?_
      refine GE_icmp (k := .eq) (off := 6) (tgt := 26) (by decide +kernel) (by decide) (cnd_eq _ _) (fun c12 => ?_) (fun c12 => ?_)
      · exact GE_weak [true, true, true, false, false, false, false] (j_X4_which_26_ok l X hN a1 a2 w)
      · refine GE_run (flG_T hN) (pc1 := 25) (L1 := [some (.inr (.inr (some (4, 0)))), some (.inl a1), some (.inl a2), none, none, none, none]) (S1 := [.inl (-7)]) (w1 := w) (P := True) [(.bipush (-7), 0, 0, -7, 0)] (by decide +kernel) rfl trivial ?_
        exact GE_iret rfl (by decide +kernel)
  · refine GE_run (flG_T hN) (pc1 := 13) (L1 := [some (.inr (.inr (some (4, 0)))), some (.inl a1), some (.inl a2), none, none, none, none]) (S1 := [.inl (-5)]) (w1 := w) (P := True) [(.bipush (-5), 0, 0, -5, 0)] (by decide +kernel) rfl trivial ?_
    exact GE_iret rfl (by decide +kernel)
abbrev mm_X4_when : MI := (RX4, cX4_when, 3, (some .int), ftp_X4.map (fun q => q.1), ctp_X4.map (fun q => q.1), clp_X4.map (fun q => q.1))
noncomputable def j_X4_when_66  (kl27 : Int32 → Mem → Option (Int32 × Mem)) (x1 : Int32) (x2 : Int32) (w : Mem) : Option (Int32 × Mem) := Option.bind (f_X0_washes 1 w) (fun r7 => kl27 (x2 + 1) r7.2)
set_option maxRecDepth 100000 in
theorem j_X4_when_66_ok (l : Launch) (X : XC) {N9 : Nat} (hN : 39 ≤ N9)  (kl27 : Int32 → Mem → Option (Int32 × Mem)) (x1 : Int32) (x2 : Int32)  (ih : ∀ (x2 : Int32) (w : Mem), GE l X mm_X4_when 3 emI N9 flT (kl27 x2 w) 27 [some (.inr (.inr (some (4, 0)))), some (.inl x1), some (.inl x2)] [] w) (w : Mem) : GE l X mm_X4_when 3 emI N9 flT (j_X4_when_66 kl27 x1 x2 w) 66 [some (.inr (.inr (some (4, 0)))), some (.inl x1), some (.inl x2)] [] w := by
  unfold j_X4_when_66
  refine GE_run (flG_T hN) (pc1 := 70) (L1 := [some (.inr (.inr (some (4, 0)))), some (.inl x1), some (.inl x2)]) (S1 := [.inr (.inr (some (0, 1)))]) (w1 := w) (P := True) [(.aload_n 0, 0, 0, 0, 0), (.getfield 32, 4, 3, 0, 0)] (by decide +kernel) rfl trivial ?_
  refine GE_callVI (As := []) (k := 0) (i := 1) (S := []) (t_X0_washes l X hN 1 (by decide) w) (by decide) ⟨me_X0_washes, mi_X0_washes, mv_X0_washes, lk_X4_153⟩ rfl (by decide +kernel) rfl (by decide) (by decide) (Nat.le_of_ble_eq_true rfl) (fun r7 _ => ?_)
  refine GE_run (flG_T hN) (pc1 := 27) (L1 := [some (.inr (.inr (some (4, 0)))), some (.inl x1), some (.inl (x2 + 1))]) (S1 := []) (w1 := r7.2) (P := True) [(.pop, 0, 0, 0, 0), (.iinc 2 1, 0, 0, 1, 0), (.goto (-50), 0, 0, 0, 0)] (by decide +kernel) rfl trivial ?_
  exact GE_weak [true, true, true] (ih (x2 + 1) r7.2)
noncomputable def h_X4_when_27 (x1 : Int32) (k80 : Mem → Option (Int32 × Mem)) : Nat → Int32 → Mem → Option (Int32 × Mem)
  | 0, _, _ => none
  | n + 1, x2, w => if x2 ≤ 60 then (if x1 < 0 then (if (w 0 1 3) = 0 then (some (x2, w)) else (j_X4_when_66 (h_X4_when_27 x1 k80 n) x1 x2 w)) else (Option.bind (f_X0_knownToAny 1 w) (fun r8 => if (holdsF r8.1 x1) = 0 then (j_X4_when_66 (h_X4_when_27 x1 k80 n) x1 x2 r8.2) else (some (x2, r8.2))))) else (k80 w)
set_option maxRecDepth 100000 in
theorem h_X4_when_27_ok (l : Launch) (X : XC) {N9 : Nat} (hN : 39 ≤ N9) (x1 : Int32) (k80 : Mem → Option (Int32 × Mem))  (hk80 : ∀  (w : Mem), GE l X mm_X4_when 3 emI N9 flT (k80 w) 80 [none, none, none] [] w) : ∀ (n : Nat) (x2 : Int32) (w : Mem), GE l X mm_X4_when 3 emI N9 flT ((h_X4_when_27 x1 k80 n) x2 w) 27 [some (.inr (.inr (some (4, 0)))), some (.inl x1), some (.inl x2)] [] w := by
  intro n
  induction n with
  | zero => intro x2 w; exact GE_none
  | succ n ih =>
    intro x2 w
    unfold h_X4_when_27
    refine GE_run (flG_T hN) (pc1 := 30) (L1 := [some (.inr (.inr (some (4, 0)))), some (.inl x1), some (.inl x2)]) (S1 := [.inl 60, .inl x2]) (w1 := w) (P := True) [(.iload_n 2, 0, 0, 0, 0), (.bipush 60, 0, 0, 60, 0)] (by decide +kernel) rfl trivial ?_
    refine GE_icmpN (k := .gt) (off := 50) (tgt := 80) (by decide +kernel) (by decide) (cnd_gt _ _) (fun c4 => ?_) (fun c4 => ?_)
    · exact GE_weak [false, false, false] (hk80 w)
    · refine GE_run (flG_T hN) (pc1 := 34) (L1 := [some (.inr (.inr (some (4, 0)))), some (.inl x1), some (.inl x2)]) (S1 := [.inl x1]) (w1 := w) (P := True) [(.iload_n 1, 0, 0, 0, 0)] (by decide +kernel) rfl trivial ?_
      refine GE_ifN (k := .ge) (off := 16) (tgt := 50) (by decide +kernel) (by decide) (cnd_ge _ _) (fun c5 => ?_) (fun c5 => ?_)
      · refine GE_run (flG_T hN) (pc1 := 54) (L1 := [some (.inr (.inr (some (4, 0)))), some (.inl x1), some (.inl x2)]) (S1 := [.inr (.inr (some (0, 1)))]) (w1 := w) (P := True) [(.aload_n 0, 0, 0, 0, 0), (.getfield 32, 4, 3, 0, 0)] (by decide +kernel) rfl trivial ?_
        refine GE_callVI (As := []) (k := 0) (i := 1) (S := []) (t_X0_knownToAny l X hN 1 (by decide) w) (by decide) ⟨me_X0_knownToAny, mi_X0_knownToAny, mv_X0_knownToAny, lk_X4_208⟩ rfl (by decide +kernel) rfl (by decide) (by decide) (Nat.le_of_ble_eq_true rfl) (fun r8 _ => ?_)
        refine GE_run (flG_T hN) (pc1 := 58) (L1 := [some (.inr (.inr (some (4, 0)))), some (.inl x1), some (.inl x2)]) (S1 := [.inl x1, .inl r8.1]) (w1 := r8.2) (P := True) [(.iload_n 1, 0, 0, 0, 0)] (by decide +kernel) rfl trivial ?_
        refine GE_callSIp (As := [.inl r8.1, .inl x1]) (S := []) (p_X4_holds l X hN r8.1 x1 r8.2) ⟨me_X4_holds, ms_X4_holds, lk_X4_157⟩ (by decide +kernel) rfl (by decide) (by decide) (Nat.le_of_ble_eq_true rfl) ?_
        refine GE_if (k := .eq) (off := 5) (tgt := 66) (by decide +kernel) (by decide) (cnd_eq _ _) (fun c9 => ?_) (fun c9 => ?_)
        · exact GE_weak [true, true, true] (j_X4_when_66_ok l X hN (h_X4_when_27 x1 k80 n) x1 x2 ih r8.2)
        · refine GE_run (flG_T hN) (pc1 := 65) (L1 := [some (.inr (.inr (some (4, 0)))), some (.inl x1), some (.inl x2)]) (S1 := [.inl x2]) (w1 := r8.2) (P := True) [(.iload_n 2, 0, 0, 0, 0)] (by decide +kernel) rfl trivial ?_
          exact GE_iret rfl (by decide +kernel)
      · refine GE_run (flG_T hN) (pc1 := 44) (L1 := [some (.inr (.inr (some (4, 0)))), some (.inl x1), some (.inl x2)]) (S1 := [.inl (w 0 1 3)]) (w1 := w) (P := True) [(.aload_n 0, 0, 0, 0, 0), (.getfield 32, 4, 3, 0, 0), (.getfield 49, 0, 3, 0, 0)] (by decide +kernel) rfl trivial ?_
        refine GE_ifN (k := .ne) (off := 22) (tgt := 66) (by decide +kernel) (by decide) (cnd_ne _ _) (fun c6 => ?_) (fun c6 => ?_)
        · exact GE_weak [true, true, true] (j_X4_when_66_ok l X hN (h_X4_when_27 x1 k80 n) x1 x2 ih w)
        · refine GE_run (flG_T hN) (pc1 := 65) (L1 := [some (.inr (.inr (some (4, 0)))), some (.inl x1), some (.inl x2)]) (S1 := [.inl x2]) (w1 := w) (P := True) [(.goto 17, 0, 0, 0, 0), (.iload_n 2, 0, 0, 0, 0)] (by decide +kernel) rfl trivial ?_
          exact GE_iret rfl (by decide +kernel)
noncomputable def f_X4_when (a1 : Int32) (w : Mem) : Option (Int32 × Mem) := if a1 < (-1) then (some ((-2), w)) else (if a1 < 16 then (Option.bind (f_X0_become 1 0 w) (fun r3 => h_X4_when_27 a1 (fun w10 => some ((-1), w10)) FU 0 r3)) else (some ((-2), w)))
set_option maxRecDepth 100000 in
theorem t_X4_when (l : Launch) (X : XC) {N9 : Nat} (hN : 39 ≤ N9)  (a1 : Int32) (w : Mem) : Ct l X 3 yX4_when cX4_when 3 (some .int) emI [.inr (.inr (some (4, 0))), .inl a1] N9 flT w (f_X4_when a1 w) := by
  refine Ct_of (mi := mm_X4_when) (mik_X4 _ _ _) me_X4_when rfl (okAs_cons (okMV hN (by decide)) (okAs_cons rfl okAs_nil)) (Nat.le_of_ble_eq_true rfl) ?_
  unfold f_X4_when
  refine GE_run (flG_T hN) (pc1 := 2) (L1 := [some (.inr (.inr (some (4, 0)))), some (.inl a1), none]) (S1 := [.inl (-1), .inl a1]) (w1 := w) (P := True) [(.iload_n 1, 0, 0, 0, 0), (.iconst (-1), 0, 0, -1, 0)] (by decide +kernel) rfl trivial ?_
  refine GE_icmp (k := .lt) (off := 9) (tgt := 11) (by decide +kernel) (by decide) (cnd_lt _ _) (fun c1 => ?_) (fun c1 => ?_)
  · refine GE_run (flG_T hN) (pc1 := 13) (L1 := [some (.inr (.inr (some (4, 0)))), some (.inl a1), none]) (S1 := [.inl (-2)]) (w1 := w) (P := True) [(.bipush (-2), 0, 0, -2, 0)] (by decide +kernel) rfl trivial ?_
    exact GE_iret rfl (by decide +kernel)
  · refine GE_run (flG_T hN) (pc1 := 8) (L1 := [some (.inr (.inr (some (4, 0)))), some (.inl a1), none]) (S1 := [.inl 16, .inl a1]) (w1 := w) (P := True) [(.iload_n 1, 0, 0, 0, 0), (.bipush 16, 0, 0, 16, 0)] (by decide +kernel) rfl trivial ?_
    refine GE_icmp (k := .lt) (off := 6) (tgt := 14) (by decide +kernel) (by decide) (cnd_lt _ _) (fun c2 => ?_) (fun c2 => ?_)
    · refine GE_run (flG_T hN) (pc1 := 22) (L1 := [some (.inr (.inr (some (4, 0)))), some (.inl a1), none]) (S1 := [.inr (.inr (some (0, 0))), .inr (.inr (some (0, 1)))]) (w1 := w) (P := True) [(.aload_n 0, 0, 0, 0, 0), (.getfield 32, 4, 3, 0, 0), (.aload_n 0, 0, 0, 0, 0), (.getfield 28, 4, 2, 0, 0)] (by decide +kernel) rfl trivial ?_
      refine GE_callVV (As := [.inr (.inr (some (0, 0)))]) (k := 0) (i := 1) (S := []) (t_X0_become l X hN 1 0 (by decide) (by decide) w) (by decide) ⟨me_X0_become, mi_X0_become, mv_X0_become, lk_X4_164⟩ rfl (by decide +kernel) rfl (by decide) (by decide) (Nat.le_of_ble_eq_true rfl) (fun r3 _ => ?_)
      refine GE_run (flG_T hN) (pc1 := 27) (L1 := [some (.inr (.inr (some (4, 0)))), some (.inl a1), some (.inl 0)]) (S1 := []) (w1 := r3) (P := True) [(.iconst 0, 0, 0, 0, 0), (.istore_n 2, 0, 0, 0, 0)] (by decide +kernel) rfl trivial ?_
      refine GE_weak [true, true, true] (h_X4_when_27_ok l X hN a1 _ ?_ FU 0 r3)
      · intro w10
        refine GE_run (flG_T hN) (pc1 := 81) (L1 := [none, none, none]) (S1 := [.inl (-1)]) (w1 := w10) (P := True) [(.iconst (-1), 0, 0, -1, 0)] (by decide +kernel) rfl trivial ?_
        exact GE_iret rfl (by decide +kernel)
    · refine GE_run (flG_T hN) (pc1 := 13) (L1 := [some (.inr (.inr (some (4, 0)))), some (.inl a1), none]) (S1 := [.inl (-2)]) (w1 := w) (P := True) [(.bipush (-2), 0, 0, -2, 0)] (by decide +kernel) rfl trivial ?_
      exact GE_iret rfl (by decide +kernel)
abbrev mm_X4_sheet : MI := (RX4, cX4_sheet, 5, (some .int), ftp_X4.map (fun q => q.1), ctp_X4.map (fun q => q.1), clp_X4.map (fun q => q.1))
noncomputable def f_X4_sheet (a1 : Int32) (a2 : Int32) (a3 : Int32) (w : Mem) : Option (Int32 × Mem) := Option.elim (rowF a1) (some ((-2), w)) (fun z1 => if a2 < (-1) then (some ((-2), w)) else (if a2 ≤ 2 then (if a2 = (-1) then (Option.bind (f_X2_becomes z1 (-1) 0 w) (fun r5 => some (1, r5))) else (if a3 ≤ 40 then (if a3 < 0 then (some ((-14), w)) else (Option.bind (f_X2_becomes z1 a2 a3 w) (fun r8 => some (1, r8)))) else (some ((-2), w)))) else (some ((-2), w))))
set_option maxRecDepth 100000 in
theorem t_X4_sheet (l : Launch) (X : XC) {N9 : Nat} (hN : 39 ≤ N9)  (a1 : Int32) (a2 : Int32) (a3 : Int32) (w : Mem) : Ct l X 2 yX4_sheet cX4_sheet 5 (some .int) emI [.inr (.inr (some (4, 0))), .inl a1, .inl a2, .inl a3] N9 flT w (f_X4_sheet a1 a2 a3 w) := by
  refine Ct_of (mi := mm_X4_sheet) (mik_X4 _ _ _) me_X4_sheet rfl (okAs_cons (okMV hN (by decide)) (okAs_cons rfl (okAs_cons rfl (okAs_cons rfl okAs_nil)))) (Nat.le_of_ble_eq_true rfl) ?_
  unfold f_X4_sheet
  refine GE_run (flG_T hN) (pc1 := 2) (L1 := [some (.inr (.inr (some (4, 0)))), some (.inl a1), some (.inl a2), some (.inl a3), none]) (S1 := [.inl a1, .inr (.inr (some (4, 0)))]) (w1 := w) (P := True) [(.aload_n 0, 0, 0, 0, 0), (.iload_n 1, 0, 0, 0, 0)] (by decide +kernel) rfl trivial ?_
  refine GE_callVAp (As := [.inl a1]) (k := 4) (i := 0) (S := []) (p_X4_rowAt l X hN a1 w) (by decide) ⟨me_X4_rowAt, mi_X4_rowAt, mv_X4_rowAt, lk_X4_175⟩ rfl (by decide +kernel) rfl (by decide) (by decide) (Nat.le_of_ble_eq_true rfl) ?_
  refine GE_run (flG_T hN) (pc1 := 9) (L1 := [some (.inr (.inr (some (4, 0)))), some (.inl a1), some (.inl a2), some (.inl a3), some (.inr (.inr ((rowF a1).map fun z => (2, z))))]) (S1 := [.inr (.inr ((rowF a1).map fun z => (2, z)))]) (w1 := w) (P := True) [(.astore 4, 0, 0, 0, 0), (.aload 4, 0, 0, 0, 0)] (by decide +kernel) rfl trivial ?_
  cases hz1 : rowF a1 with
  | none =>
    simp only [Option.elim_none, Option.map_none]
    refine GE_null0 (off := 13) (tgt := 22) (by decide +kernel) (by decide) ?_
    refine GE_run (flG_T hN) (pc1 := 24) (L1 := [some (.inr (.inr (some (4, 0)))), some (.inl a1), some (.inl a2), some (.inl a3), some (.inr (.inr none))]) (S1 := [.inl (-2)]) (w1 := w) (P := True) [(.bipush (-2), 0, 0, -2, 0)] (by decide +kernel) rfl trivial ?_
    exact GE_iret rfl (by decide +kernel)
  | some z1 =>
    have bz1 := rowF_lt hz1
    refine GE_eq (Option.elim_some _ _ _) ?_
    refine GE_null1 (off := 13) (by decide +kernel) ?_
    refine GE_run (flG_T hN) (pc1 := 14) (L1 := [some (.inr (.inr (some (4, 0)))), some (.inl a1), some (.inl a2), some (.inl a3), some (.inr (.inr (some (2, z1))))]) (S1 := [.inl (-1), .inl a2]) (w1 := w) (P := True) [(.iload_n 2, 0, 0, 0, 0), (.iconst (-1), 0, 0, -1, 0)] (by decide +kernel) rfl trivial ?_
    refine GE_icmp (k := .lt) (off := 8) (tgt := 22) (by decide +kernel) (by decide) (cnd_lt _ _) (fun c2 => ?_) (fun c2 => ?_)
    · refine GE_run (flG_T hN) (pc1 := 24) (L1 := [some (.inr (.inr (some (4, 0)))), some (.inl a1), some (.inl a2), some (.inl a3), some (.inr (.inr (some (2, z1))))]) (S1 := [.inl (-2)]) (w1 := w) (P := True) [(.bipush (-2), 0, 0, -2, 0)] (by decide +kernel) rfl trivial ?_
      exact GE_iret rfl (by decide +kernel)
    · refine GE_run (flG_T hN) (pc1 := 19) (L1 := [some (.inr (.inr (some (4, 0)))), some (.inl a1), some (.inl a2), some (.inl a3), some (.inr (.inr (some (2, z1))))]) (S1 := [.inl 2, .inl a2]) (w1 := w) (P := True) [(.iload_n 2, 0, 0, 0, 0), (.iconst 2, 0, 0, 2, 0)] (by decide +kernel) rfl trivial ?_
      refine GE_icmp (k := .le) (off := 6) (tgt := 25) (by decide +kernel) (by decide) (cnd_le _ _) (fun c3 => ?_) (fun c3 => ?_)
      · refine GE_run (flG_T hN) (pc1 := 27) (L1 := [some (.inr (.inr (some (4, 0)))), some (.inl a1), some (.inl a2), some (.inl a3), some (.inr (.inr (some (2, z1))))]) (S1 := [.inl (-1), .inl a2]) (w1 := w) (P := True) [(.iload_n 2, 0, 0, 0, 0), (.iconst (-1), 0, 0, -1, 0)] (by decide +kernel) rfl trivial ?_
        refine GE_icmpN (k := .ne) (off := 12) (tgt := 39) (by decide +kernel) (by decide) (cnd_ne _ _) (fun c4 => ?_) (fun c4 => ?_)
        · refine GE_run (flG_T hN) (pc1 := 42) (L1 := [some (.inr (.inr (some (4, 0)))), some (.inl a1), some (.inl a2), some (.inl a3), some (.inr (.inr (some (2, z1))))]) (S1 := [.inl 40, .inl a3]) (w1 := w) (P := True) [(.iload_n 3, 0, 0, 0, 0), (.bipush 40, 0, 0, 40, 0)] (by decide +kernel) rfl trivial ?_
          refine GE_icmp (k := .le) (off := 6) (tgt := 48) (by decide +kernel) (by decide) (cnd_le _ _) (fun c6 => ?_) (fun c6 => ?_)
          · refine GE_run (flG_T hN) (pc1 := 49) (L1 := [some (.inr (.inr (some (4, 0)))), some (.inl a1), some (.inl a2), some (.inl a3), some (.inr (.inr (some (2, z1))))]) (S1 := [.inl a3]) (w1 := w) (P := True) [(.iload_n 3, 0, 0, 0, 0)] (by decide +kernel) rfl trivial ?_
            refine GE_ifN (k := .ge) (off := 6) (tgt := 55) (by decide +kernel) (by decide) (cnd_ge _ _) (fun c7 => ?_) (fun c7 => ?_)
            · refine GE_run (flG_T hN) (pc1 := 59) (L1 := [some (.inr (.inr (some (4, 0)))), some (.inl a1), some (.inl a2), some (.inl a3), some (.inr (.inr (some (2, z1))))]) (S1 := [.inl a3, .inl a2, .inr (.inr (some (2, z1)))]) (w1 := w) (P := True) [(.aload 4, 0, 0, 0, 0), (.iload_n 2, 0, 0, 0, 0), (.iload_n 3, 0, 0, 0, 0)] (by decide +kernel) rfl trivial ?_
              refine GE_callVV (As := [.inl a2, .inl a3]) (k := 2) (i := z1) (S := []) (t_X2_becomes l X hN z1 a2 a3 bz1 w) (by decide) ⟨me_X2_becomes, mi_X2_becomes, mv_X2_becomes, lk_X4_226⟩ rfl (by decide +kernel) rfl (by decide) (by decide) (Nat.le_of_ble_eq_true rfl) (fun r8 _ => ?_)
              refine GE_run (flG_T hN) (pc1 := 63) (L1 := [some (.inr (.inr (some (4, 0)))), some (.inl a1), some (.inl a2), some (.inl a3), some (.inr (.inr (some (2, z1))))]) (S1 := [.inl 1]) (w1 := r8) (P := True) [(.iconst 1, 0, 0, 1, 0)] (by decide +kernel) rfl trivial ?_
              exact GE_iret rfl (by decide +kernel)
            · refine GE_run (flG_T hN) (pc1 := 54) (L1 := [some (.inr (.inr (some (4, 0)))), some (.inl a1), some (.inl a2), some (.inl a3), some (.inr (.inr (some (2, z1))))]) (S1 := [.inl (-14)]) (w1 := w) (P := True) [(.bipush (-14), 0, 0, -14, 0)] (by decide +kernel) rfl trivial ?_
              exact GE_iret rfl (by decide +kernel)
          · refine GE_run (flG_T hN) (pc1 := 47) (L1 := [some (.inr (.inr (some (4, 0)))), some (.inl a1), some (.inl a2), some (.inl a3), some (.inr (.inr (some (2, z1))))]) (S1 := [.inl (-2)]) (w1 := w) (P := True) [(.bipush (-2), 0, 0, -2, 0)] (by decide +kernel) rfl trivial ?_
            exact GE_iret rfl (by decide +kernel)
        · refine GE_run (flG_T hN) (pc1 := 34) (L1 := [some (.inr (.inr (some (4, 0)))), some (.inl a1), some (.inl a2), some (.inl a3), some (.inr (.inr (some (2, z1))))]) (S1 := [.inl 0, .inl (-1), .inr (.inr (some (2, z1)))]) (w1 := w) (P := True) [(.aload 4, 0, 0, 0, 0), (.iconst (-1), 0, 0, -1, 0), (.iconst 0, 0, 0, 0, 0)] (by decide +kernel) rfl trivial ?_
          refine GE_callVV (As := [.inl (-1), .inl 0]) (k := 2) (i := z1) (S := []) (t_X2_becomes l X hN z1 (-1) 0 bz1 w) (by decide) ⟨me_X2_becomes, mi_X2_becomes, mv_X2_becomes, lk_X4_226⟩ rfl (by decide +kernel) rfl (by decide) (by decide) (Nat.le_of_ble_eq_true rfl) (fun r5 _ => ?_)
          refine GE_run (flG_T hN) (pc1 := 38) (L1 := [some (.inr (.inr (some (4, 0)))), some (.inl a1), some (.inl a2), some (.inl a3), some (.inr (.inr (some (2, z1))))]) (S1 := [.inl 1]) (w1 := r5) (P := True) [(.iconst 1, 0, 0, 1, 0)] (by decide +kernel) rfl trivial ?_
          exact GE_iret rfl (by decide +kernel)
      · refine GE_run (flG_T hN) (pc1 := 24) (L1 := [some (.inr (.inr (some (4, 0)))), some (.inl a1), some (.inl a2), some (.inl a3), some (.inr (.inr (some (2, z1))))]) (S1 := [.inl (-2)]) (w1 := w) (P := True) [(.bipush (-2), 0, 0, -2, 0)] (by decide +kernel) rfl trivial ?_
        exact GE_iret rfl (by decide +kernel)
abbrev mm_X4_cell : MI := (RX4, cX4_cell, 5, (some .int), ftp_X4.map (fun q => q.1), ctp_X4.map (fun q => q.1), clp_X4.map (fun q => q.1))
noncomputable def f_X4_cell (a1 : Int32) (a2 : Int32) (a3 : Int32) (w : Mem) : Option (Int32 × Mem) := Option.elim (rowF a1) (some ((-2), w)) (fun z1 => if (w 2 z1 0) = (-1) then (some ((-11), w)) else (if a2 < 0 then (some ((-12), w)) else (if a2 < (w 2 z1 1) then (Option.bind (f_X2_write z1 a2 a3 w) (fun r5 => some (1, r5))) else (some ((-12), w)))))
set_option maxRecDepth 100000 in
theorem t_X4_cell (l : Launch) (X : XC) {N9 : Nat} (hN : 39 ≤ N9)  (a1 : Int32) (a2 : Int32) (a3 : Int32) (w : Mem) : Ct l X 2 yX4_cell cX4_cell 5 (some .int) emI [.inr (.inr (some (4, 0))), .inl a1, .inl a2, .inl a3] N9 flT w (f_X4_cell a1 a2 a3 w) := by
  refine Ct_of (mi := mm_X4_cell) (mik_X4 _ _ _) me_X4_cell rfl (okAs_cons (okMV hN (by decide)) (okAs_cons rfl (okAs_cons rfl (okAs_cons rfl okAs_nil)))) (Nat.le_of_ble_eq_true rfl) ?_
  unfold f_X4_cell
  refine GE_run (flG_T hN) (pc1 := 2) (L1 := [some (.inr (.inr (some (4, 0)))), some (.inl a1), some (.inl a2), some (.inl a3), none]) (S1 := [.inl a1, .inr (.inr (some (4, 0)))]) (w1 := w) (P := True) [(.aload_n 0, 0, 0, 0, 0), (.iload_n 1, 0, 0, 0, 0)] (by decide +kernel) rfl trivial ?_
  refine GE_callVAp (As := [.inl a1]) (k := 4) (i := 0) (S := []) (p_X4_rowAt l X hN a1 w) (by decide) ⟨me_X4_rowAt, mi_X4_rowAt, mv_X4_rowAt, lk_X4_175⟩ rfl (by decide +kernel) rfl (by decide) (by decide) (Nat.le_of_ble_eq_true rfl) ?_
  refine GE_run (flG_T hN) (pc1 := 9) (L1 := [some (.inr (.inr (some (4, 0)))), some (.inl a1), some (.inl a2), some (.inl a3), some (.inr (.inr ((rowF a1).map fun z => (2, z))))]) (S1 := [.inr (.inr ((rowF a1).map fun z => (2, z)))]) (w1 := w) (P := True) [(.astore 4, 0, 0, 0, 0), (.aload 4, 0, 0, 0, 0)] (by decide +kernel) rfl trivial ?_
  cases hz1 : rowF a1 with
  | none =>
    simp only [Option.elim_none, Option.map_none]
    refine GE_nonnull0 (off := 6) (by decide +kernel) ?_
    refine GE_run (flG_T hN) (pc1 := 14) (L1 := [some (.inr (.inr (some (4, 0)))), some (.inl a1), some (.inl a2), some (.inl a3), some (.inr (.inr none))]) (S1 := [.inl (-2)]) (w1 := w) (P := True) [(.bipush (-2), 0, 0, -2, 0)] (by decide +kernel) rfl trivial ?_
    exact GE_iret rfl (by decide +kernel)
  | some z1 =>
    have bz1 := rowF_lt hz1
    refine GE_eq (Option.elim_some _ _ _) ?_
    refine GE_nonnull1 (off := 6) (tgt := 15) (by decide +kernel) (by decide) ?_
    refine GE_run (flG_T hN) (pc1 := 21) (L1 := [some (.inr (.inr (some (4, 0)))), some (.inl a1), some (.inl a2), some (.inl a3), some (.inr (.inr (some (2, z1))))]) (S1 := [.inl (-1), .inl (w 2 z1 0)]) (w1 := w) (P := True) [(.aload 4, 0, 0, 0, 0), (.getfield 179, 2, 0, 0, 0), (.iconst (-1), 0, 0, -1, 0)] (by decide +kernel) rfl trivial ?_
    refine GE_icmpN (k := .ne) (off := 6) (tgt := 27) (by decide +kernel) (by decide) (cnd_ne _ _) (fun c2 => ?_) (fun c2 => ?_)
    · refine GE_run (flG_T hN) (pc1 := 28) (L1 := [some (.inr (.inr (some (4, 0)))), some (.inl a1), some (.inl a2), some (.inl a3), some (.inr (.inr (some (2, z1))))]) (S1 := [.inl a2]) (w1 := w) (P := True) [(.iload_n 2, 0, 0, 0, 0)] (by decide +kernel) rfl trivial ?_
      refine GE_if (k := .lt) (off := 12) (tgt := 40) (by decide +kernel) (by decide) (cnd_lt _ _) (fun c3 => ?_) (fun c3 => ?_)
      · refine GE_run (flG_T hN) (pc1 := 42) (L1 := [some (.inr (.inr (some (4, 0)))), some (.inl a1), some (.inl a2), some (.inl a3), some (.inr (.inr (some (2, z1))))]) (S1 := [.inl (-12)]) (w1 := w) (P := True) [(.bipush (-12), 0, 0, -12, 0)] (by decide +kernel) rfl trivial ?_
        exact GE_iret rfl (by decide +kernel)
      · refine GE_run (flG_T hN) (pc1 := 37) (L1 := [some (.inr (.inr (some (4, 0)))), some (.inl a1), some (.inl a2), some (.inl a3), some (.inr (.inr (some (2, z1))))]) (S1 := [.inl (w 2 z1 1), .inl a2]) (w1 := w) (P := True) [(.iload_n 2, 0, 0, 0, 0), (.aload 4, 0, 0, 0, 0), (.getfield 189, 2, 1, 0, 0)] (by decide +kernel) rfl trivial ?_
        refine GE_icmp (k := .lt) (off := 6) (tgt := 43) (by decide +kernel) (by decide) (cnd_lt _ _) (fun c4 => ?_) (fun c4 => ?_)
        · refine GE_run (flG_T hN) (pc1 := 47) (L1 := [some (.inr (.inr (some (4, 0)))), some (.inl a1), some (.inl a2), some (.inl a3), some (.inr (.inr (some (2, z1))))]) (S1 := [.inl a3, .inl a2, .inr (.inr (some (2, z1)))]) (w1 := w) (P := True) [(.aload 4, 0, 0, 0, 0), (.iload_n 2, 0, 0, 0, 0), (.iload_n 3, 0, 0, 0, 0)] (by decide +kernel) rfl trivial ?_
          refine GE_callVV (As := [.inl a2, .inl a3]) (k := 2) (i := z1) (S := []) (t_X2_write l X hN z1 a2 a3 bz1 w) (by decide) ⟨me_X2_write, mi_X2_write, mv_X2_write, lk_X4_229⟩ rfl (by decide +kernel) rfl (by decide) (by decide) (Nat.le_of_ble_eq_true rfl) (fun r5 _ => ?_)
          refine GE_run (flG_T hN) (pc1 := 51) (L1 := [some (.inr (.inr (some (4, 0)))), some (.inl a1), some (.inl a2), some (.inl a3), some (.inr (.inr (some (2, z1))))]) (S1 := [.inl 1]) (w1 := r5) (P := True) [(.iconst 1, 0, 0, 1, 0)] (by decide +kernel) rfl trivial ?_
          exact GE_iret rfl (by decide +kernel)
        · refine GE_run (flG_T hN) (pc1 := 42) (L1 := [some (.inr (.inr (some (4, 0)))), some (.inl a1), some (.inl a2), some (.inl a3), some (.inr (.inr (some (2, z1))))]) (S1 := [.inl (-12)]) (w1 := w) (P := True) [(.bipush (-12), 0, 0, -12, 0)] (by decide +kernel) rfl trivial ?_
          exact GE_iret rfl (by decide +kernel)
    · refine GE_run (flG_T hN) (pc1 := 26) (L1 := [some (.inr (.inr (some (4, 0)))), some (.inl a1), some (.inl a2), some (.inl a3), some (.inr (.inr (some (2, z1))))]) (S1 := [.inl (-11)]) (w1 := w) (P := True) [(.bipush (-11), 0, 0, -11, 0)] (by decide +kernel) rfl trivial ?_
      exact GE_iret rfl (by decide +kernel)
end
section
/-! the reader -/
theorem Ct_none {ρ : Type} {l : Launch} {X : XC} {d maxL n : Nat} {fl : Fl} {w : Mem} {em : ρ → Option AV × Mem} {y : MethodName} {cc : ByteArray} {ret : Option FieldType} {As : List AV} : Ct l X d y cc maxL ret em As n fl w none := fun _ _ h => nomatch h
abbrev mm_X1_add : MI := (RX1, cX1_add, 2, none, ftp_X1.map (fun q => q.1), ctp_X1.map (fun q => q.1), clp_X1.map (fun q => q.1))
noncomputable def f_X1_add (a1 : Int32) (w : Mem) : Option (Mem) := if (w 1 0 1) < 160 then (some (up (setV w 9 0 (w 1 0 1) a1) 1 0 1 (((setV w 9 0 (w 1 0 1) a1) 1 0 1) + 1))) else (some w)
set_option maxRecDepth 100000 in
theorem t_X1_add (l : Launch) (X : XC) {N9 : Nat} (hN : 39 ≤ N9)  (a1 : Int32) (w : Mem) : Ct l X 1 yX1_add cX1_add 2 none emV [.inr (.inr (some (1, 0))), .inl a1] N9 flT w (f_X1_add a1 w) := by
  refine Ct_of (mi := mm_X1_add) (mik_X1 _ _ _) me_X1_add rfl (okAs_cons (okMV hN (by decide)) (okAs_cons rfl okAs_nil)) (Nat.le_of_ble_eq_true rfl) ?_
  unfold f_X1_add
  refine GE_run (flG_T hN) (pc1 := 7) (L1 := [some (.inr (.inr (some (1, 0)))), some (.inl a1)]) (S1 := [.inl 160, .inl (w 1 0 1)]) (w1 := w) (P := True) [(.aload_n 0, 0, 0, 0, 0), (.getfield 21, 1, 1, 0, 0), (.sipush 160, 0, 0, 160, 0)] (by decide +kernel) rfl trivial ?_
  refine GE_icmpN (k := .ge) (off := 25) (tgt := 32) (by decide +kernel) (by decide) (cnd_ge _ _) (fun c1 => ?_) (fun c1 => ?_)
  · exact GE_vret rfl (by decide +kernel)
  · refine GE_run (flG_T hN) (pc1 := 19) (L1 := [some (.inr (.inr (some (1, 0)))), some (.inl a1)]) (S1 := [.inl a1, .inl (w 1 0 1), .inr (.inr (some (9, 0)))]) (w1 := w) (P := True) [(.aload_n 0, 0, 0, 0, 0), (.getfield 9, 1, 0, 0, 0), (.aload_n 0, 0, 0, 0, 0), (.getfield 21, 1, 1, 0, 0), (.iload_n 1, 0, 0, 0, 0)] (by decide +kernel) rfl trivial ?_
    refine GE_callNVp (As := [.inr (.inr (some (9, 0))), .inl (w 1 0 1), .inl a1]) (S := []) (p_X4_set l X hN 9 0 (w 1 0 1) a1 (by decide) (okM hN (by decide)) w) ⟨me_X4_set, ms_X4_set, ln_X1_25⟩ (by decide +kernel) rfl (by decide) (by decide) (Nat.le_of_ble_eq_true rfl) ?_
    refine GE_run (flG_T hN) (pc1 := 32) (L1 := [some (.inr (.inr (some (1, 0)))), some (.inl a1)]) (S1 := []) (w1 := up (setV w 9 0 (w 1 0 1) a1) 1 0 1 (((setV w 9 0 (w 1 0 1) a1) 1 0 1) + 1)) (P := True) [(.aload_n 0, 0, 0, 0, 0), (.dup, 0, 0, 0, 0), (.getfield 21, 1, 1, 0, 0), (.iconst 1, 0, 0, 1, 0), (.iadd, 0, 0, 0, 0), (.putfield 21, 1, 1, 0, 0)] (by decide +kernel) rfl trivial ?_
    exact GE_vret rfl (by decide +kernel)
abbrev mm_X1_write : MI := (RX1, cX1_write, 2, none, ftp_X1.map (fun q => q.1), ctp_X1.map (fun q => q.1), clp_X1.map (fun q => q.1))
noncomputable def f_X1_write (a1 : Int32) (w : Mem) : Option (Mem) := some (up (setV w 10 0 (w 1 0 3) a1) 1 0 3 (((setV w 10 0 (w 1 0 3) a1) 1 0 3) + 1))
set_option maxRecDepth 100000 in
theorem t_X1_write (l : Launch) (X : XC) {N9 : Nat} (hN : 39 ≤ N9)  (a1 : Int32) (w : Mem) : Ct l X 1 yX1_write cX1_write 2 none emV [.inr (.inr (some (1, 0))), .inl a1] N9 flT w (f_X1_write a1 w) := by
  refine Ct_of (mi := mm_X1_write) (mik_X1 _ _ _) me_X1_write rfl (okAs_cons (okMV hN (by decide)) (okAs_cons rfl okAs_nil)) (Nat.le_of_ble_eq_true rfl) ?_
  unfold f_X1_write
  refine GE_run (flG_T hN) (pc1 := 9) (L1 := [some (.inr (.inr (some (1, 0)))), some (.inl a1)]) (S1 := [.inl a1, .inl (w 1 0 3), .inr (.inr (some (10, 0)))]) (w1 := w) (P := True) [(.aload_n 0, 0, 0, 0, 0), (.getfield 15, 1, 2, 0, 0), (.aload_n 0, 0, 0, 0, 0), (.getfield 29, 1, 3, 0, 0), (.iload_n 1, 0, 0, 0, 0)] (by decide +kernel) rfl trivial ?_
  refine GE_callNVp (As := [.inr (.inr (some (10, 0))), .inl (w 1 0 3), .inl a1]) (S := []) (p_X4_set l X hN 10 0 (w 1 0 3) a1 (by decide) (okM hN (by decide)) w) ⟨me_X4_set, ms_X4_set, ln_X1_25⟩ (by decide +kernel) rfl (by decide) (by decide) (Nat.le_of_ble_eq_true rfl) ?_
  refine GE_run (flG_T hN) (pc1 := 22) (L1 := [some (.inr (.inr (some (1, 0)))), some (.inl a1)]) (S1 := []) (w1 := up (setV w 10 0 (w 1 0 3) a1) 1 0 3 (((setV w 10 0 (w 1 0 3) a1) 1 0 3) + 1)) (P := True) [(.aload_n 0, 0, 0, 0, 0), (.dup, 0, 0, 0, 0), (.getfield 29, 1, 3, 0, 0), (.iconst 1, 0, 0, 1, 0), (.iadd, 0, 0, 0, 0), (.putfield 29, 1, 3, 0, 0)] (by decide +kernel) rfl trivial ?_
  exact GE_vret rfl (by decide +kernel)
abbrev mm_X1_isSign : MI := (RX1, cX1_isSign, 1, (some .boolean), ftp_X1.map (fun q => q.1), ctp_X1.map (fun q => q.1), clp_X1.map (fun q => q.1))
noncomputable def f_X1_isSign (a1 : Int32) (w : Mem) : Option (Int32 × Mem) := swE a1 40 [some (1, w), some (1, w), some (1, w), some (1, w), some (0, w), some (1, w), some (0, w), some (0, w), some (0, w), some (0, w), some (0, w), some (0, w), some (0, w), some (0, w), some (0, w), some (0, w), some (0, w), some (0, w), some (0, w), some (1, w), some (1, w), some (1, w)] (some (0, w))
set_option maxRecDepth 100000 in
theorem t_X1_isSign (l : Launch) (X : XC) {N9 : Nat} (hN : 39 ≤ N9)  (a1 : Int32) (w : Mem) : Ct l X 0 yX1_isSign cX1_isSign 1 (some .boolean) emI [.inl a1] N9 flT w (f_X1_isSign a1 w) := by
  refine Ct_of (mi := mm_X1_isSign) (mik_X1 _ _ _) me_X1_isSign rfl (okAs_cons rfl okAs_nil) (Nat.le_of_ble_eq_true rfl) ?_
  unfold f_X1_isSign
  refine GE_run (flG_T hN) (pc1 := 1) (L1 := [some (.inl a1)]) (S1 := [.inl a1]) (w1 := w) (P := True) [(.iload_n 0, 0, 0, 0, 0)] (by decide +kernel) rfl trivial ?_
  refine GE_swm (dflt := 105) (lo := 40) (hi := 61) (offs := #[103, 103, 103, 103, 105, 103, 105, 105, 105, 105, 105, 105, 105, 105, 105, 105, 105, 105, 105, 103, 103, 103]) (len := 103) (dt := 106) (mm := 22) [104, 104, 104, 104, 106, 104, 106, 106, 106, 106, 106, 106, 106, 106, 106, 106, 106, 106, 106, 104, 104, 104] (by decide +kernel) rfl (by decide +kernel) (And.intro (fun _ => ?_) (And.intro (fun _ => ?_) (And.intro (fun _ => ?_) (And.intro (fun _ => ?_) (And.intro (fun _ => ?_) (And.intro (fun _ => ?_) (And.intro (fun _ => ?_) (And.intro (fun _ => ?_) (And.intro (fun _ => ?_) (And.intro (fun _ => ?_) (And.intro (fun _ => ?_) (And.intro (fun _ => ?_) (And.intro (fun _ => ?_) (And.intro (fun _ => ?_) (And.intro (fun _ => ?_) (And.intro (fun _ => ?_) (And.intro (fun _ => ?_) (And.intro (fun _ => ?_) (And.intro (fun _ => ?_) (And.intro (fun _ => ?_) (And.intro (fun _ => ?_) (And.intro (fun _ => ?_) (trivial))))))))))))))))))))))) ?_
  · refine GE_run (flG_T hN) (pc1 := 105) (L1 := [some (.inl a1)]) (S1 := [.inl 1]) (w1 := w) (P := True) [(.iconst 1, 0, 0, 1, 0)] (by decide +kernel) rfl trivial ?_
    exact GE_zret (ty := .boolean) rfl (by decide +kernel) (by decide +kernel)
  · refine GE_run (flG_T hN) (pc1 := 105) (L1 := [some (.inl a1)]) (S1 := [.inl 1]) (w1 := w) (P := True) [(.iconst 1, 0, 0, 1, 0)] (by decide +kernel) rfl trivial ?_
    exact GE_zret (ty := .boolean) rfl (by decide +kernel) (by decide +kernel)
  · refine GE_run (flG_T hN) (pc1 := 105) (L1 := [some (.inl a1)]) (S1 := [.inl 1]) (w1 := w) (P := True) [(.iconst 1, 0, 0, 1, 0)] (by decide +kernel) rfl trivial ?_
    exact GE_zret (ty := .boolean) rfl (by decide +kernel) (by decide +kernel)
  · refine GE_run (flG_T hN) (pc1 := 105) (L1 := [some (.inl a1)]) (S1 := [.inl 1]) (w1 := w) (P := True) [(.iconst 1, 0, 0, 1, 0)] (by decide +kernel) rfl trivial ?_
    exact GE_zret (ty := .boolean) rfl (by decide +kernel) (by decide +kernel)
  · refine GE_run (flG_T hN) (pc1 := 107) (L1 := [some (.inl a1)]) (S1 := [.inl 0]) (w1 := w) (P := True) [(.iconst 0, 0, 0, 0, 0)] (by decide +kernel) rfl trivial ?_
    exact GE_zret (ty := .boolean) rfl (by decide +kernel) (by decide +kernel)
  · refine GE_run (flG_T hN) (pc1 := 105) (L1 := [some (.inl a1)]) (S1 := [.inl 1]) (w1 := w) (P := True) [(.iconst 1, 0, 0, 1, 0)] (by decide +kernel) rfl trivial ?_
    exact GE_zret (ty := .boolean) rfl (by decide +kernel) (by decide +kernel)
  · refine GE_run (flG_T hN) (pc1 := 107) (L1 := [some (.inl a1)]) (S1 := [.inl 0]) (w1 := w) (P := True) [(.iconst 0, 0, 0, 0, 0)] (by decide +kernel) rfl trivial ?_
    exact GE_zret (ty := .boolean) rfl (by decide +kernel) (by decide +kernel)
  · refine GE_run (flG_T hN) (pc1 := 107) (L1 := [some (.inl a1)]) (S1 := [.inl 0]) (w1 := w) (P := True) [(.iconst 0, 0, 0, 0, 0)] (by decide +kernel) rfl trivial ?_
    exact GE_zret (ty := .boolean) rfl (by decide +kernel) (by decide +kernel)
  · refine GE_run (flG_T hN) (pc1 := 107) (L1 := [some (.inl a1)]) (S1 := [.inl 0]) (w1 := w) (P := True) [(.iconst 0, 0, 0, 0, 0)] (by decide +kernel) rfl trivial ?_
    exact GE_zret (ty := .boolean) rfl (by decide +kernel) (by decide +kernel)
  · refine GE_run (flG_T hN) (pc1 := 107) (L1 := [some (.inl a1)]) (S1 := [.inl 0]) (w1 := w) (P := True) [(.iconst 0, 0, 0, 0, 0)] (by decide +kernel) rfl trivial ?_
    exact GE_zret (ty := .boolean) rfl (by decide +kernel) (by decide +kernel)
  · refine GE_run (flG_T hN) (pc1 := 107) (L1 := [some (.inl a1)]) (S1 := [.inl 0]) (w1 := w) (P := True) [(.iconst 0, 0, 0, 0, 0)] (by decide +kernel) rfl trivial ?_
    exact GE_zret (ty := .boolean) rfl (by decide +kernel) (by decide +kernel)
  · refine GE_run (flG_T hN) (pc1 := 107) (L1 := [some (.inl a1)]) (S1 := [.inl 0]) (w1 := w) (P := True) [(.iconst 0, 0, 0, 0, 0)] (by decide +kernel) rfl trivial ?_
    exact GE_zret (ty := .boolean) rfl (by decide +kernel) (by decide +kernel)
  · refine GE_run (flG_T hN) (pc1 := 107) (L1 := [some (.inl a1)]) (S1 := [.inl 0]) (w1 := w) (P := True) [(.iconst 0, 0, 0, 0, 0)] (by decide +kernel) rfl trivial ?_
    exact GE_zret (ty := .boolean) rfl (by decide +kernel) (by decide +kernel)
  · refine GE_run (flG_T hN) (pc1 := 107) (L1 := [some (.inl a1)]) (S1 := [.inl 0]) (w1 := w) (P := True) [(.iconst 0, 0, 0, 0, 0)] (by decide +kernel) rfl trivial ?_
    exact GE_zret (ty := .boolean) rfl (by decide +kernel) (by decide +kernel)
  · refine GE_run (flG_T hN) (pc1 := 107) (L1 := [some (.inl a1)]) (S1 := [.inl 0]) (w1 := w) (P := True) [(.iconst 0, 0, 0, 0, 0)] (by decide +kernel) rfl trivial ?_
    exact GE_zret (ty := .boolean) rfl (by decide +kernel) (by decide +kernel)
  · refine GE_run (flG_T hN) (pc1 := 107) (L1 := [some (.inl a1)]) (S1 := [.inl 0]) (w1 := w) (P := True) [(.iconst 0, 0, 0, 0, 0)] (by decide +kernel) rfl trivial ?_
    exact GE_zret (ty := .boolean) rfl (by decide +kernel) (by decide +kernel)
  · refine GE_run (flG_T hN) (pc1 := 107) (L1 := [some (.inl a1)]) (S1 := [.inl 0]) (w1 := w) (P := True) [(.iconst 0, 0, 0, 0, 0)] (by decide +kernel) rfl trivial ?_
    exact GE_zret (ty := .boolean) rfl (by decide +kernel) (by decide +kernel)
  · refine GE_run (flG_T hN) (pc1 := 107) (L1 := [some (.inl a1)]) (S1 := [.inl 0]) (w1 := w) (P := True) [(.iconst 0, 0, 0, 0, 0)] (by decide +kernel) rfl trivial ?_
    exact GE_zret (ty := .boolean) rfl (by decide +kernel) (by decide +kernel)
  · refine GE_run (flG_T hN) (pc1 := 107) (L1 := [some (.inl a1)]) (S1 := [.inl 0]) (w1 := w) (P := True) [(.iconst 0, 0, 0, 0, 0)] (by decide +kernel) rfl trivial ?_
    exact GE_zret (ty := .boolean) rfl (by decide +kernel) (by decide +kernel)
  · refine GE_run (flG_T hN) (pc1 := 105) (L1 := [some (.inl a1)]) (S1 := [.inl 1]) (w1 := w) (P := True) [(.iconst 1, 0, 0, 1, 0)] (by decide +kernel) rfl trivial ?_
    exact GE_zret (ty := .boolean) rfl (by decide +kernel) (by decide +kernel)
  · refine GE_run (flG_T hN) (pc1 := 105) (L1 := [some (.inl a1)]) (S1 := [.inl 1]) (w1 := w) (P := True) [(.iconst 1, 0, 0, 1, 0)] (by decide +kernel) rfl trivial ?_
    exact GE_zret (ty := .boolean) rfl (by decide +kernel) (by decide +kernel)
  · refine GE_run (flG_T hN) (pc1 := 105) (L1 := [some (.inl a1)]) (S1 := [.inl 1]) (w1 := w) (P := True) [(.iconst 1, 0, 0, 1, 0)] (by decide +kernel) rfl trivial ?_
    exact GE_zret (ty := .boolean) rfl (by decide +kernel) (by decide +kernel)
  · refine GE_run (flG_T hN) (pc1 := 107) (L1 := [some (.inl a1)]) (S1 := [.inl 0]) (w1 := w) (P := True) [(.iconst 0, 0, 0, 0, 0)] (by decide +kernel) rfl trivial ?_
    exact GE_zret (ty := .boolean) rfl (by decide +kernel) (by decide +kernel)
abbrev mm_X1_isLetter : MI := (RX1, cX1_isLetter, 3, (some .boolean), ftp_X1.map (fun q => q.1), ctp_X1.map (fun q => q.1), clp_X1.map (fun q => q.1))
noncomputable def f_X1_isLetter (a1 : Int32) (w : Mem) : Option (Int32 × Mem) := if (atV w 9 0 a1) < 97 then (some (0, w)) else (if (atV w 9 0 a1) ≤ 122 then (some (1, w)) else (some (0, w)))
set_option maxRecDepth 100000 in
theorem t_X1_isLetter (l : Launch) (X : XC) {N9 : Nat} (hN : 39 ≤ N9)  (a1 : Int32) (w : Mem) : Ct l X 1 yX1_isLetter cX1_isLetter 3 (some .boolean) emI [.inr (.inr (some (1, 0))), .inl a1] N9 flT w (f_X1_isLetter a1 w) := by
  refine Ct_of (mi := mm_X1_isLetter) (mik_X1 _ _ _) me_X1_isLetter rfl (okAs_cons (okMV hN (by decide)) (okAs_cons rfl okAs_nil)) (Nat.le_of_ble_eq_true rfl) ?_
  unfold f_X1_isLetter
  refine GE_run (flG_T hN) (pc1 := 5) (L1 := [some (.inr (.inr (some (1, 0)))), some (.inl a1), none]) (S1 := [.inl a1, .inr (.inr (some (9, 0)))]) (w1 := w) (P := True) [(.aload_n 0, 0, 0, 0, 0), (.getfield 9, 1, 0, 0, 0), (.iload_n 1, 0, 0, 0, 0)] (by decide +kernel) rfl trivial ?_
  refine GE_callNIp (As := [.inr (.inr (some (9, 0))), .inl a1]) (S := []) (p_X4_at l X hN 9 0 a1 (by decide) (okM hN (by decide)) w) ⟨me_X4_at, ms_X4_at, ln_X1_70⟩ (by decide +kernel) rfl (by decide) (by decide) (Nat.le_of_ble_eq_true rfl) ?_
  refine GE_run (flG_T hN) (pc1 := 12) (L1 := [some (.inr (.inr (some (1, 0)))), some (.inl a1), some (.inl (atV w 9 0 a1))]) (S1 := [.inl 97, .inl (atV w 9 0 a1)]) (w1 := w) (P := True) [(.istore_n 2, 0, 0, 0, 0), (.iload_n 2, 0, 0, 0, 0), (.bipush 97, 0, 0, 97, 0)] (by decide +kernel) rfl trivial ?_
  refine GE_icmp (k := .lt) (off := 13) (tgt := 25) (by decide +kernel) (by decide) (cnd_lt _ _) (fun c1 => ?_) (fun c1 => ?_)
  · refine GE_run (flG_T hN) (pc1 := 26) (L1 := [some (.inr (.inr (some (1, 0)))), some (.inl a1), some (.inl (atV w 9 0 a1))]) (S1 := [.inl 0]) (w1 := w) (P := True) [(.iconst 0, 0, 0, 0, 0)] (by decide +kernel) rfl trivial ?_
    exact GE_zret (ty := .boolean) rfl (by decide +kernel) (by decide +kernel)
  · refine GE_run (flG_T hN) (pc1 := 18) (L1 := [some (.inr (.inr (some (1, 0)))), some (.inl a1), some (.inl (atV w 9 0 a1))]) (S1 := [.inl 122, .inl (atV w 9 0 a1)]) (w1 := w) (P := True) [(.iload_n 2, 0, 0, 0, 0), (.bipush 122, 0, 0, 122, 0)] (by decide +kernel) rfl trivial ?_
    refine GE_icmpN (k := .gt) (off := 7) (tgt := 25) (by decide +kernel) (by decide) (cnd_gt _ _) (fun c2 => ?_) (fun c2 => ?_)
    · refine GE_run (flG_T hN) (pc1 := 26) (L1 := [some (.inr (.inr (some (1, 0)))), some (.inl a1), some (.inl (atV w 9 0 a1))]) (S1 := [.inl 0]) (w1 := w) (P := True) [(.iconst 0, 0, 0, 0, 0)] (by decide +kernel) rfl trivial ?_
      exact GE_zret (ty := .boolean) rfl (by decide +kernel) (by decide +kernel)
    · refine GE_run (flG_T hN) (pc1 := 26) (L1 := [some (.inr (.inr (some (1, 0)))), some (.inl a1), some (.inl (atV w 9 0 a1))]) (S1 := [.inl 1]) (w1 := w) (P := True) [(.iconst 1, 0, 0, 1, 0), (.goto 4, 0, 0, 0, 0)] (by decide +kernel) rfl trivial ?_
      exact GE_zret (ty := .boolean) rfl (by decide +kernel) (by decide +kernel)
abbrev mm_X1_isDigit : MI := (RX1, cX1_isDigit, 3, (some .boolean), ftp_X1.map (fun q => q.1), ctp_X1.map (fun q => q.1), clp_X1.map (fun q => q.1))
noncomputable def f_X1_isDigit (a1 : Int32) (w : Mem) : Option (Int32 × Mem) := if (atV w 9 0 a1) < 48 then (some (0, w)) else (if (atV w 9 0 a1) ≤ 57 then (some (1, w)) else (some (0, w)))
set_option maxRecDepth 100000 in
theorem t_X1_isDigit (l : Launch) (X : XC) {N9 : Nat} (hN : 39 ≤ N9)  (a1 : Int32) (w : Mem) : Ct l X 1 yX1_isDigit cX1_isDigit 3 (some .boolean) emI [.inr (.inr (some (1, 0))), .inl a1] N9 flT w (f_X1_isDigit a1 w) := by
  refine Ct_of (mi := mm_X1_isDigit) (mik_X1 _ _ _) me_X1_isDigit rfl (okAs_cons (okMV hN (by decide)) (okAs_cons rfl okAs_nil)) (Nat.le_of_ble_eq_true rfl) ?_
  unfold f_X1_isDigit
  refine GE_run (flG_T hN) (pc1 := 5) (L1 := [some (.inr (.inr (some (1, 0)))), some (.inl a1), none]) (S1 := [.inl a1, .inr (.inr (some (9, 0)))]) (w1 := w) (P := True) [(.aload_n 0, 0, 0, 0, 0), (.getfield 9, 1, 0, 0, 0), (.iload_n 1, 0, 0, 0, 0)] (by decide +kernel) rfl trivial ?_
  refine GE_callNIp (As := [.inr (.inr (some (9, 0))), .inl a1]) (S := []) (p_X4_at l X hN 9 0 a1 (by decide) (okM hN (by decide)) w) ⟨me_X4_at, ms_X4_at, ln_X1_70⟩ (by decide +kernel) rfl (by decide) (by decide) (Nat.le_of_ble_eq_true rfl) ?_
  refine GE_run (flG_T hN) (pc1 := 12) (L1 := [some (.inr (.inr (some (1, 0)))), some (.inl a1), some (.inl (atV w 9 0 a1))]) (S1 := [.inl 48, .inl (atV w 9 0 a1)]) (w1 := w) (P := True) [(.istore_n 2, 0, 0, 0, 0), (.iload_n 2, 0, 0, 0, 0), (.bipush 48, 0, 0, 48, 0)] (by decide +kernel) rfl trivial ?_
  refine GE_icmp (k := .lt) (off := 13) (tgt := 25) (by decide +kernel) (by decide) (cnd_lt _ _) (fun c1 => ?_) (fun c1 => ?_)
  · refine GE_run (flG_T hN) (pc1 := 26) (L1 := [some (.inr (.inr (some (1, 0)))), some (.inl a1), some (.inl (atV w 9 0 a1))]) (S1 := [.inl 0]) (w1 := w) (P := True) [(.iconst 0, 0, 0, 0, 0)] (by decide +kernel) rfl trivial ?_
    exact GE_zret (ty := .boolean) rfl (by decide +kernel) (by decide +kernel)
  · refine GE_run (flG_T hN) (pc1 := 18) (L1 := [some (.inr (.inr (some (1, 0)))), some (.inl a1), some (.inl (atV w 9 0 a1))]) (S1 := [.inl 57, .inl (atV w 9 0 a1)]) (w1 := w) (P := True) [(.iload_n 2, 0, 0, 0, 0), (.bipush 57, 0, 0, 57, 0)] (by decide +kernel) rfl trivial ?_
    refine GE_icmpN (k := .gt) (off := 7) (tgt := 25) (by decide +kernel) (by decide) (cnd_gt _ _) (fun c2 => ?_) (fun c2 => ?_)
    · refine GE_run (flG_T hN) (pc1 := 26) (L1 := [some (.inr (.inr (some (1, 0)))), some (.inl a1), some (.inl (atV w 9 0 a1))]) (S1 := [.inl 0]) (w1 := w) (P := True) [(.iconst 0, 0, 0, 0, 0)] (by decide +kernel) rfl trivial ?_
      exact GE_zret (ty := .boolean) rfl (by decide +kernel) (by decide +kernel)
    · refine GE_run (flG_T hN) (pc1 := 26) (L1 := [some (.inr (.inr (some (1, 0)))), some (.inl a1), some (.inl (atV w 9 0 a1))]) (S1 := [.inl 1]) (w1 := w) (P := True) [(.iconst 1, 0, 0, 1, 0), (.goto 4, 0, 0, 0, 0)] (by decide +kernel) rfl trivial ?_
      exact GE_zret (ty := .boolean) rfl (by decide +kernel) (by decide +kernel)
abbrev mm_X1_endOfWord : MI := (RX1, cX1_endOfWord, 3, (some .int), ftp_X1.map (fun q => q.1), ctp_X1.map (fun q => q.1), clp_X1.map (fun q => q.1))
noncomputable def h_X1_endOfWord_2  (k24 : Int32 → Mem → Option (Int32 × Mem)) : Nat → Int32 → Mem → Option (Int32 × Mem)
  | 0, _, _ => none
  | n + 1, x2, w => if x2 < (w 1 0 1) then (Option.bind (f_X1_isLetter x2 w) (fun r2 => if r2.1 = 0 then (k24 x2 r2.2) else ((h_X1_endOfWord_2 k24 n) (x2 + 1) r2.2))) else (k24 x2 w)
set_option maxRecDepth 100000 in
theorem h_X1_endOfWord_2_ok (l : Launch) (X : XC) {N9 : Nat} (hN : 39 ≤ N9)  (k24 : Int32 → Mem → Option (Int32 × Mem))  (hk24 : ∀ (x2 : Int32) (w : Mem), GE l X mm_X1_endOfWord 2 emI N9 flT (k24 x2 w) 24 [none, none, some (.inl x2)] [] w) : ∀ (n : Nat) (x2 : Int32) (w : Mem), GE l X mm_X1_endOfWord 2 emI N9 flT ((h_X1_endOfWord_2 k24 n) x2 w) 2 [some (.inr (.inr (some (1, 0)))), none, some (.inl x2)] [] w := by
  intro n
  induction n with
  | zero => intro x2 w; exact GE_none
  | succ n ih =>
    intro x2 w
    unfold h_X1_endOfWord_2
    refine GE_run (flG_T hN) (pc1 := 7) (L1 := [some (.inr (.inr (some (1, 0)))), none, some (.inl x2)]) (S1 := [.inl (w 1 0 1), .inl x2]) (w1 := w) (P := True) [(.iload_n 2, 0, 0, 0, 0), (.aload_n 0, 0, 0, 0, 0), (.getfield 21, 1, 1, 0, 0)] (by decide +kernel) rfl trivial ?_
    refine GE_icmpN (k := .ge) (off := 17) (tgt := 24) (by decide +kernel) (by decide) (cnd_ge _ _) (fun c1 => ?_) (fun c1 => ?_)
    · exact GE_weak [false, false, true] (hk24 x2 w)
    · refine GE_run (flG_T hN) (pc1 := 12) (L1 := [some (.inr (.inr (some (1, 0)))), none, some (.inl x2)]) (S1 := [.inl x2, .inr (.inr (some (1, 0)))]) (w1 := w) (P := True) [(.aload_n 0, 0, 0, 0, 0), (.iload_n 2, 0, 0, 0, 0)] (by decide +kernel) rfl trivial ?_
      refine GE_callVI (As := [.inl x2]) (k := 1) (i := 0) (S := []) (t_X1_isLetter l X hN x2 w) (by decide) ⟨me_X1_isLetter, mi_X1_isLetter, mv_X1_isLetter, lk_X1_74⟩ rfl (by decide +kernel) rfl (by decide) (by decide) (Nat.le_of_ble_eq_true rfl) (fun r2 _ => ?_)
      refine GE_if (k := .eq) (off := 9) (tgt := 24) (by decide +kernel) (by decide) (cnd_eq _ _) (fun c3 => ?_) (fun c3 => ?_)
      · exact GE_weak [false, false, true] (hk24 x2 r2.2)
      · refine GE_run (flG_T hN) (pc1 := 2) (L1 := [some (.inr (.inr (some (1, 0)))), none, some (.inl (x2 + 1))]) (S1 := []) (w1 := r2.2) (P := True) [(.iinc 2 1, 0, 0, 1, 0), (.goto (-19), 0, 0, 0, 0)] (by decide +kernel) rfl trivial ?_
        exact GE_weak [true, false, true] (ih (x2 + 1) r2.2)
noncomputable def f_X1_endOfWord (a1 : Int32) (w : Mem) : Option (Int32 × Mem) := h_X1_endOfWord_2 (fun x2_4 w5 => some (x2_4, w5)) FU a1 w
set_option maxRecDepth 100000 in
theorem t_X1_endOfWord (l : Launch) (X : XC) {N9 : Nat} (hN : 39 ≤ N9)  (a1 : Int32) (w : Mem) : Ct l X 2 yX1_endOfWord cX1_endOfWord 3 (some .int) emI [.inr (.inr (some (1, 0))), .inl a1] N9 flT w (f_X1_endOfWord a1 w) := by
  refine Ct_of (mi := mm_X1_endOfWord) (mik_X1 _ _ _) me_X1_endOfWord rfl (okAs_cons (okMV hN (by decide)) (okAs_cons rfl okAs_nil)) (Nat.le_of_ble_eq_true rfl) ?_
  unfold f_X1_endOfWord
  refine GE_run (flG_T hN) (pc1 := 2) (L1 := [some (.inr (.inr (some (1, 0)))), some (.inl a1), some (.inl a1)]) (S1 := []) (w1 := w) (P := True) [(.iload_n 1, 0, 0, 0, 0), (.istore_n 2, 0, 0, 0, 0)] (by decide +kernel) rfl trivial ?_
  refine GE_weak [true, false, true] (h_X1_endOfWord_2_ok l X hN _ ?_ FU a1 w)
  · intro x2_4 w5
    refine GE_run (flG_T hN) (pc1 := 25) (L1 := [none, none, some (.inl x2_4)]) (S1 := [.inl x2_4]) (w1 := w5) (P := True) [(.iload_n 2, 0, 0, 0, 0)] (by decide +kernel) rfl trivial ?_
    exact GE_iret rfl (by decide +kernel)
abbrev mm_X1_endOfNumber : MI := (RX1, cX1_endOfNumber, 3, (some .int), ftp_X1.map (fun q => q.1), ctp_X1.map (fun q => q.1), clp_X1.map (fun q => q.1))
noncomputable def h_X1_endOfNumber_7 (x1 : Int32) (k63 : Int32 → Mem → Option (Int32 × Mem)) : Nat → Int32 → Mem → Option (Int32 × Mem)
  | 0, _, _ => none
  | n + 1, x2, w => if x2 < (w 1 0 1) then (Option.bind (f_X1_isDigit x2 w) (fun r2 => if r2.1 = 0 then (k63 x2 r2.2) else (if (x2 - x1) < 4 then ((h_X1_endOfNumber_7 x1 k63 n) (x2 + 1) (up r2.2 1 0 8 ((((r2.2 1 0 8) * 10) + (atV r2.2 9 0 x2)) - 48))) else ((h_X1_endOfNumber_7 x1 k63 n) (x2 + 1) (up r2.2 1 0 8 0))))) else (k63 x2 w)
set_option maxRecDepth 100000 in
theorem h_X1_endOfNumber_7_ok (l : Launch) (X : XC) {N9 : Nat} (hN : 39 ≤ N9) (x1 : Int32) (k63 : Int32 → Mem → Option (Int32 × Mem))  (hk63 : ∀ (x2 : Int32) (w : Mem), GE l X mm_X1_endOfNumber 2 emI N9 flT (k63 x2 w) 63 [none, none, some (.inl x2)] [] w) : ∀ (n : Nat) (x2 : Int32) (w : Mem), GE l X mm_X1_endOfNumber 2 emI N9 flT ((h_X1_endOfNumber_7 x1 k63 n) x2 w) 7 [some (.inr (.inr (some (1, 0)))), some (.inl x1), some (.inl x2)] [] w := by
  intro n
  induction n with
  | zero => intro x2 w; exact GE_none
  | succ n ih =>
    intro x2 w
    unfold h_X1_endOfNumber_7
    refine GE_run (flG_T hN) (pc1 := 12) (L1 := [some (.inr (.inr (some (1, 0)))), some (.inl x1), some (.inl x2)]) (S1 := [.inl (w 1 0 1), .inl x2]) (w1 := w) (P := True) [(.iload_n 2, 0, 0, 0, 0), (.aload_n 0, 0, 0, 0, 0), (.getfield 21, 1, 1, 0, 0)] (by decide +kernel) rfl trivial ?_
    refine GE_icmpN (k := .ge) (off := 51) (tgt := 63) (by decide +kernel) (by decide) (cnd_ge _ _) (fun c1 => ?_) (fun c1 => ?_)
    · exact GE_weak [false, false, true] (hk63 x2 w)
    · refine GE_run (flG_T hN) (pc1 := 17) (L1 := [some (.inr (.inr (some (1, 0)))), some (.inl x1), some (.inl x2)]) (S1 := [.inl x2, .inr (.inr (some (1, 0)))]) (w1 := w) (P := True) [(.aload_n 0, 0, 0, 0, 0), (.iload_n 2, 0, 0, 0, 0)] (by decide +kernel) rfl trivial ?_
      refine GE_callVI (As := [.inl x2]) (k := 1) (i := 0) (S := []) (t_X1_isDigit l X hN x2 w) (by decide) ⟨me_X1_isDigit, mi_X1_isDigit, mv_X1_isDigit, lk_X1_86⟩ rfl (by decide +kernel) rfl (by decide) (by decide) (Nat.le_of_ble_eq_true rfl) (fun r2 _ => ?_)
      refine GE_if (k := .eq) (off := 43) (tgt := 63) (by decide +kernel) (by decide) (cnd_eq _ _) (fun c3 => ?_) (fun c3 => ?_)
      · exact GE_weak [false, false, true] (hk63 x2 r2.2)
      · refine GE_run (flG_T hN) (pc1 := 28) (L1 := [some (.inr (.inr (some (1, 0)))), some (.inl x1), some (.inl x2)]) (S1 := [.inl 4, .inl (x2 - x1), .inr (.inr (some (1, 0)))]) (w1 := r2.2) (P := True) [(.aload_n 0, 0, 0, 0, 0), (.iload_n 2, 0, 0, 0, 0), (.iload_n 1, 0, 0, 0, 0), (.isub, 0, 0, 0, 0), (.iconst 4, 0, 0, 4, 0)] (by decide +kernel) rfl trivial ?_
        refine GE_icmpN (k := .ge) (off := 25) (tgt := 53) (by decide +kernel) (by decide) (cnd_ge _ _) (fun c4 => ?_) (fun c4 => ?_)
        · refine GE_run (flG_T hN) (pc1 := 7) (L1 := [some (.inr (.inr (some (1, 0)))), some (.inl x1), some (.inl (x2 + 1))]) (S1 := []) (w1 := up r2.2 1 0 8 0) (P := True) [(.iconst 0, 0, 0, 0, 0), (.putfield 67, 1, 8, 0, 0), (.iinc 2 1, 0, 0, 1, 0), (.goto (-53), 0, 0, 0, 0)] (by decide +kernel) rfl trivial ?_
          exact GE_weak [true, true, true] (ih (x2 + 1) (up r2.2 1 0 8 0))
        · refine GE_run (flG_T hN) (pc1 := 43) (L1 := [some (.inr (.inr (some (1, 0)))), some (.inl x1), some (.inl x2)]) (S1 := [.inl x2, .inr (.inr (some (9, 0))), .inl ((r2.2 1 0 8) * 10), .inr (.inr (some (1, 0)))]) (w1 := r2.2) (P := True) [(.aload_n 0, 0, 0, 0, 0), (.getfield 67, 1, 8, 0, 0), (.bipush 10, 0, 0, 10, 0), (.imul, 0, 0, 0, 0), (.aload_n 0, 0, 0, 0, 0), (.getfield 9, 1, 0, 0, 0), (.iload_n 2, 0, 0, 0, 0)] (by decide +kernel) rfl trivial ?_
          refine GE_callNIp (As := [.inr (.inr (some (9, 0))), .inl x2]) (S := [.inl ((r2.2 1 0 8) * 10), .inr (.inr (some (1, 0)))]) (p_X4_at l X hN 9 0 x2 (by decide) (okM hN (by decide)) r2.2) ⟨me_X4_at, ms_X4_at, ln_X1_70⟩ (by decide +kernel) rfl (by decide) (by decide) (Nat.le_of_ble_eq_true rfl) ?_
          refine GE_run (flG_T hN) (pc1 := 7) (L1 := [some (.inr (.inr (some (1, 0)))), some (.inl x1), some (.inl (x2 + 1))]) (S1 := []) (w1 := up r2.2 1 0 8 ((((r2.2 1 0 8) * 10) + (atV r2.2 9 0 x2)) - 48)) (P := True) [(.iadd, 0, 0, 0, 0), (.bipush 48, 0, 0, 48, 0), (.isub, 0, 0, 0, 0), (.goto 4, 0, 0, 0, 0), (.putfield 67, 1, 8, 0, 0), (.iinc 2 1, 0, 0, 1, 0), (.goto (-53), 0, 0, 0, 0)] (by decide +kernel) rfl trivial ?_
          exact GE_weak [true, true, true] (ih (x2 + 1) (up r2.2 1 0 8 ((((r2.2 1 0 8) * 10) + (atV r2.2 9 0 x2)) - 48)))
noncomputable def f_X1_endOfNumber (a1 : Int32) (w : Mem) : Option (Int32 × Mem) := h_X1_endOfNumber_7 a1 (fun x2_5 w6 => some (x2_5, w6)) FU a1 (up w 1 0 8 0)
set_option maxRecDepth 100000 in
theorem t_X1_endOfNumber (l : Launch) (X : XC) {N9 : Nat} (hN : 39 ≤ N9)  (a1 : Int32) (w : Mem) : Ct l X 2 yX1_endOfNumber cX1_endOfNumber 3 (some .int) emI [.inr (.inr (some (1, 0))), .inl a1] N9 flT w (f_X1_endOfNumber a1 w) := by
  refine Ct_of (mi := mm_X1_endOfNumber) (mik_X1 _ _ _) me_X1_endOfNumber rfl (okAs_cons (okMV hN (by decide)) (okAs_cons rfl okAs_nil)) (Nat.le_of_ble_eq_true rfl) ?_
  unfold f_X1_endOfNumber
  refine GE_run (flG_T hN) (pc1 := 7) (L1 := [some (.inr (.inr (some (1, 0)))), some (.inl a1), some (.inl a1)]) (S1 := []) (w1 := up w 1 0 8 0) (P := True) [(.iload_n 1, 0, 0, 0, 0), (.istore_n 2, 0, 0, 0, 0), (.aload_n 0, 0, 0, 0, 0), (.iconst 0, 0, 0, 0, 0), (.putfield 67, 1, 8, 0, 0)] (by decide +kernel) rfl trivial ?_
  refine GE_weak [true, true, true] (h_X1_endOfNumber_7_ok l X hN a1 _ ?_ FU a1 (up w 1 0 8 0))
  · intro x2_5 w6
    refine GE_run (flG_T hN) (pc1 := 64) (L1 := [none, none, some (.inl x2_5)]) (S1 := [.inl x2_5]) (w1 := w6) (P := True) [(.iload_n 2, 0, 0, 0, 0)] (by decide +kernel) rfl trivial ?_
    exact GE_iret rfl (by decide +kernel)
abbrev mm_X1_spells : MI := (RX1, cX1_spells, 3, (some .boolean), ftp_X1.map (fun q => q.1), ctp_X1.map (fun q => q.1), clp_X1.map (fun q => q.1))
noncomputable def h_X1_spells_24 (i1 : Nat) (k61 : Mem → Option (Int32 × Mem)) : Nat → Int32 → Mem → Option (Int32 × Mem)
  | 0, _, _ => none
  | n + 1, x2, w => if x2 < (nI (lenS.getD i1 0)) then (if inB x2 (lenS.getD i1 0) then (if (chS i1 x2) = (atV w 9 0 ((w 1 0 6) + x2)) then ((h_X1_spells_24 i1 k61 n) (x2 + 1) w) else (some (0, w))) else none) else (k61 w)
set_option maxRecDepth 100000 in
theorem h_X1_spells_24_ok (l : Launch) (X : XC) {N9 : Nat} (hN : 39 ≤ N9) (i1 : Nat) (k61 : Mem → Option (Int32 × Mem)) (hi1 : i1 < 12) (hk61 : ∀  (w : Mem), GE l X mm_X1_spells 4 emI N9 flT (k61 w) 61 [none, none, none] [] w) : ∀ (n : Nat) (x2 : Int32) (w : Mem), GE l X mm_X1_spells 4 emI N9 flT ((h_X1_spells_24 i1 k61 n) x2 w) 24 [some (.inr (.inr (some (1, 0)))), some (.inr (.inr (some (40, i1)))), some (.inl x2)] [] w := by
  intro n
  induction n with
  | zero => intro x2 w; exact GE_none
  | succ n ih =>
    intro x2 w
    unfold h_X1_spells_24
    refine GE_run (flG_T hN) (pc1 := 26) (L1 := [some (.inr (.inr (some (1, 0)))), some (.inr (.inr (some (40, i1)))), some (.inl x2)]) (S1 := [.inr (.inr (some (40, i1))), .inl x2]) (w1 := w) (P := True) [(.iload_n 2, 0, 0, 0, 0), (.aload_n 1, 0, 0, 0, 0)] (by decide +kernel) rfl trivial ?_
    refine GE_lenP (S := [.inl x2]) hN hi1 ⟨me_J0_length_8abf5, mi_J0_length_8abf5, mv_J0_length_8abf5, lk_X1_123⟩ (by decide +kernel) (by decide) (Nat.le_of_ble_eq_true rfl) ?_
    refine GE_icmpN (k := .ge) (off := 32) (tgt := 61) (by decide +kernel) (by decide) (cnd_ge _ _) (fun c2 => ?_) (fun c2 => ?_)
    · exact GE_weak [false, false, false] (hk61 w)
    · refine GE_run (flG_T hN) (pc1 := 34) (L1 := [some (.inr (.inr (some (1, 0)))), some (.inr (.inr (some (40, i1)))), some (.inl x2)]) (S1 := [.inl x2, .inr (.inr (some (40, i1)))]) (w1 := w) (P := True) [(.aload_n 1, 0, 0, 0, 0), (.iload_n 2, 0, 0, 0, 0)] (by decide +kernel) rfl trivial ?_
      refine GE_chk (fun h3 => ?_)
      refine GE_chrP (S := []) hN hi1 h3 ⟨me_J0_charAt_5068e, mi_J0_charAt_5068e, mv_J0_charAt_5068e, lk_X1_128⟩ (by decide +kernel) (by decide) (Nat.le_of_ble_eq_true rfl) ?_
      refine GE_run (flG_T hN) (pc1 := 47) (L1 := [some (.inr (.inr (some (1, 0)))), some (.inr (.inr (some (40, i1)))), some (.inl x2)]) (S1 := [.inl ((w 1 0 6) + x2), .inr (.inr (some (9, 0))), .inl (chS i1 x2)]) (w1 := w) (P := True) [(.aload_n 0, 0, 0, 0, 0), (.getfield 9, 1, 0, 0, 0), (.aload_n 0, 0, 0, 0, 0), (.getfield 41, 1, 6, 0, 0), (.iload_n 2, 0, 0, 0, 0), (.iadd, 0, 0, 0, 0)] (by decide +kernel) rfl trivial ?_
      refine GE_callNIp (As := [.inr (.inr (some (9, 0))), .inl ((w 1 0 6) + x2)]) (S := [.inl (chS i1 x2)]) (p_X4_at l X hN 9 0 ((w 1 0 6) + x2) (by decide) (okM hN (by decide)) w) ⟨me_X4_at, ms_X4_at, ln_X1_70⟩ (by decide +kernel) rfl (by decide) (by decide) (Nat.le_of_ble_eq_true rfl) ?_
      refine GE_icmp (k := .eq) (off := 5) (tgt := 55) (by decide +kernel) (by decide) (cnd_eq _ _) (fun c4 => ?_) (fun c4 => ?_)
      · refine GE_run (flG_T hN) (pc1 := 24) (L1 := [some (.inr (.inr (some (1, 0)))), some (.inr (.inr (some (40, i1)))), some (.inl (x2 + 1))]) (S1 := []) (w1 := w) (P := True) [(.iinc 2 1, 0, 0, 1, 0), (.goto (-34), 0, 0, 0, 0)] (by decide +kernel) rfl trivial ?_
        exact GE_weak [true, true, true] (ih (x2 + 1) w)
      · refine GE_run (flG_T hN) (pc1 := 54) (L1 := [some (.inr (.inr (some (1, 0)))), some (.inr (.inr (some (40, i1)))), some (.inl x2)]) (S1 := [.inl 0]) (w1 := w) (P := True) [(.iconst 0, 0, 0, 0, 0)] (by decide +kernel) rfl trivial ?_
        exact GE_zret (ty := .boolean) rfl (by decide +kernel) (by decide +kernel)
noncomputable def f_X1_spells (i1 : Nat) (w : Mem) : Option (Int32 × Mem) := if (nI (lenS.getD i1 0)) = ((w 1 0 7) - (w 1 0 6)) then (h_X1_spells_24 i1 (fun w5 => some (1, w5)) FU 0 w) else (some (0, w))
set_option maxRecDepth 100000 in
theorem t_X1_spells (l : Launch) (X : XC) {N9 : Nat} (hN : 39 ≤ N9)  (i1 : Nat) (hi1 : i1 < 12) (w : Mem) : Ct l X 4 yX1_spells cX1_spells 3 (some .boolean) emI [.inr (.inr (some (1, 0))), .inr (.inr (some (40, i1)))] N9 flT w (f_X1_spells i1 w) := by
  refine Ct_of (mi := mm_X1_spells) (mik_X1 _ _ _) me_X1_spells rfl (okAs_cons (okMV hN (by decide)) (okAs_cons (ok40 (by omega)) okAs_nil)) (Nat.le_of_ble_eq_true rfl) ?_
  unfold f_X1_spells
  refine GE_run (flG_T hN) (pc1 := 1) (L1 := [some (.inr (.inr (some (1, 0)))), some (.inr (.inr (some (40, i1)))), none]) (S1 := [.inr (.inr (some (40, i1)))]) (w1 := w) (P := True) [(.aload_n 1, 0, 0, 0, 0)] (by decide +kernel) rfl trivial ?_
  refine GE_null1 (off := 19) (by decide +kernel) ?_
  refine GE_run (flG_T hN) (pc1 := 5) (L1 := [some (.inr (.inr (some (1, 0)))), some (.inr (.inr (some (40, i1)))), none]) (S1 := [.inr (.inr (some (40, i1)))]) (w1 := w) (P := True) [(.aload_n 1, 0, 0, 0, 0)] (by decide +kernel) rfl trivial ?_
  refine GE_lenP (S := []) hN hi1 ⟨me_J0_length_8abf5, mi_J0_length_8abf5, mv_J0_length_8abf5, lk_X1_123⟩ (by decide +kernel) (by decide) (Nat.le_of_ble_eq_true rfl) ?_
  refine GE_run (flG_T hN) (pc1 := 17) (L1 := [some (.inr (.inr (some (1, 0)))), some (.inr (.inr (some (40, i1)))), none]) (S1 := [.inl ((w 1 0 7) - (w 1 0 6)), .inl (nI (lenS.getD i1 0))]) (w1 := w) (P := True) [(.aload_n 0, 0, 0, 0, 0), (.getfield 32, 1, 7, 0, 0), (.aload_n 0, 0, 0, 0, 0), (.getfield 41, 1, 6, 0, 0), (.isub, 0, 0, 0, 0)] (by decide +kernel) rfl trivial ?_
  refine GE_icmp (k := .eq) (off := 5) (tgt := 22) (by decide +kernel) (by decide) (cnd_eq _ _) (fun c1 => ?_) (fun c1 => ?_)
  · refine GE_run (flG_T hN) (pc1 := 24) (L1 := [some (.inr (.inr (some (1, 0)))), some (.inr (.inr (some (40, i1)))), some (.inl 0)]) (S1 := []) (w1 := w) (P := True) [(.iconst 0, 0, 0, 0, 0), (.istore_n 2, 0, 0, 0, 0)] (by decide +kernel) rfl trivial ?_
    refine GE_weak [true, true, true] (h_X1_spells_24_ok l X hN i1 _ hi1 ?_ FU 0 w)
    · intro w5
      refine GE_run (flG_T hN) (pc1 := 62) (L1 := [none, none, none]) (S1 := [.inl 1]) (w1 := w5) (P := True) [(.iconst 1, 0, 0, 1, 0)] (by decide +kernel) rfl trivial ?_
      exact GE_zret (ty := .boolean) rfl (by decide +kernel) (by decide +kernel)
  · refine GE_run (flG_T hN) (pc1 := 21) (L1 := [some (.inr (.inr (some (1, 0)))), some (.inr (.inr (some (40, i1)))), none]) (S1 := [.inl 0]) (w1 := w) (P := True) [(.iconst 0, 0, 0, 0, 0)] (by decide +kernel) rfl trivial ?_
    exact GE_zret (ty := .boolean) rfl (by decide +kernel) (by decide +kernel)
abbrev mm_X1_wordOf : MI := (RX1, cX1_wordOf, 1, (some .int), ftp_X1.map (fun q => q.1), ctp_X1.map (fun q => q.1), clp_X1.map (fun q => q.1))
noncomputable def f_X1_wordOf  (w : Mem) : Option (Int32 × Mem) := Option.bind (f_X1_spells 0 w) (fun r1 => if r1.1 = 0 then (Option.bind (f_X1_spells 1 r1.2) (fun r3 => if r3.1 = 0 then (Option.bind (f_X1_spells 2 r3.2) (fun r5 => if r5.1 = 0 then (Option.bind (f_X1_spells 3 r5.2) (fun r7 => if r7.1 = 0 then (Option.bind (f_X1_spells 4 r7.2) (fun r9 => if r9.1 = 0 then (Option.bind (f_X1_spells 5 r9.2) (fun r11 => if r11.1 = 0 then (Option.bind (f_X1_spells 6 r11.2) (fun r13 => if r13.1 = 0 then (Option.bind (f_X1_spells 7 r13.2) (fun r15 => if r15.1 = 0 then (Option.bind (f_X1_spells 8 r15.2) (fun r17 => if r17.1 = 0 then (Option.bind (f_X1_spells 9 r17.2) (fun r19 => if r19.1 = 0 then (Option.bind (f_X1_spells 10 r19.2) (fun r21 => if r21.1 = 0 then (Option.bind (f_X1_spells 11 r21.2) (fun r23 => if r23.1 = 0 then (some (1, r23.2)) else (some ((-6), r23.2)))) else (some ((-5), r21.2)))) else (some ((-4), r19.2)))) else (some ((-3), r17.2)))) else (some ((-2), r15.2)))) else (some ((-1), r13.2)))) else (some (8, r11.2)))) else (some (7, r9.2)))) else (some (6, r7.2)))) else (some (5, r5.2)))) else (some (4, r3.2)))) else (some (3, r1.2)))
set_option maxRecDepth 100000 in
theorem t_X1_wordOf (l : Launch) (X : XC) {N9 : Nat} (hN : 39 ≤ N9)   (w : Mem) : Ct l X 5 yX1_wordOf cX1_wordOf 1 (some .int) emI [.inr (.inr (some (1, 0)))] N9 flT w (f_X1_wordOf  w) := by
  refine Ct_of (mi := mm_X1_wordOf) (mik_X1 _ _ _) me_X1_wordOf rfl (okAs_cons (okMV hN (by decide)) okAs_nil) (Nat.le_of_ble_eq_true rfl) ?_
  unfold f_X1_wordOf
  refine GE_run (flG_T hN) (pc1 := 1) (L1 := [some (.inr (.inr (some (1, 0))))]) (S1 := [.inr (.inr (some (1, 0)))]) (w1 := w) (P := True) [(.aload_n 0, 0, 0, 0, 0)] (by decide +kernel) rfl trivial ?_
  refine GE_ldcS "lets" 0 (List.mem_of_getElem? (i := 0) rfl) (by decide) (by decide +kernel) ?_
  refine GE_callVI (As := [.inr (.inr (some (40, 0)))]) (k := 1) (i := 0) (S := []) (t_X1_spells l X hN 0 (by decide) w) (by decide) ⟨me_X1_spells, mi_X1_spells, mv_X1_spells, lk_X1_97⟩ rfl (by decide +kernel) rfl (by decide) (by decide) (Nat.le_of_ble_eq_true rfl) (fun r1 _ => ?_)
  refine GE_if (k := .eq) (off := 5) (tgt := 11) (by decide +kernel) (by decide) (cnd_eq _ _) (fun c2 => ?_) (fun c2 => ?_)
  · refine GE_run (flG_T hN) (pc1 := 12) (L1 := [some (.inr (.inr (some (1, 0))))]) (S1 := [.inr (.inr (some (1, 0)))]) (w1 := r1.2) (P := True) [(.aload_n 0, 0, 0, 0, 0)] (by decide +kernel) rfl trivial ?_
    refine GE_ldcS "lucks" 1 (List.mem_of_getElem? (i := 1) rfl) (by decide) (by decide +kernel) ?_
    refine GE_callVI (As := [.inr (.inr (some (40, 1)))]) (k := 1) (i := 0) (S := []) (t_X1_spells l X hN 1 (by decide) r1.2) (by decide) ⟨me_X1_spells, mi_X1_spells, mv_X1_spells, lk_X1_97⟩ rfl (by decide +kernel) rfl (by decide) (by decide) (Nat.le_of_ble_eq_true rfl) (fun r3 _ => ?_)
    refine GE_if (k := .eq) (off := 5) (tgt := 22) (by decide +kernel) (by decide) (cnd_eq _ _) (fun c4 => ?_) (fun c4 => ?_)
    · refine GE_run (flG_T hN) (pc1 := 23) (L1 := [some (.inr (.inr (some (1, 0))))]) (S1 := [.inr (.inr (some (1, 0)))]) (w1 := r3.2) (P := True) [(.aload_n 0, 0, 0, 0, 0)] (by decide +kernel) rfl trivial ?_
      refine GE_ldcS "takes" 2 (List.mem_of_getElem? (i := 2) rfl) (by decide) (by decide +kernel) ?_
      refine GE_callVI (As := [.inr (.inr (some (40, 2)))]) (k := 1) (i := 0) (S := []) (t_X1_spells l X hN 2 (by decide) r3.2) (by decide) ⟨me_X1_spells, mi_X1_spells, mv_X1_spells, lk_X1_97⟩ rfl (by decide +kernel) rfl (by decide) (by decide) (Nat.le_of_ble_eq_true rfl) (fun r5 _ => ?_)
      refine GE_if (k := .eq) (off := 5) (tgt := 33) (by decide +kernel) (by decide) (cnd_eq _ _) (fun c6 => ?_) (fun c6 => ?_)
      · refine GE_run (flG_T hN) (pc1 := 34) (L1 := [some (.inr (.inr (some (1, 0))))]) (S1 := [.inr (.inr (some (1, 0)))]) (w1 := r5.2) (P := True) [(.aload_n 0, 0, 0, 0, 0)] (by decide +kernel) rfl trivial ?_
        refine GE_ldcS "or" 3 (List.mem_of_getElem? (i := 3) rfl) (by decide) (by decide +kernel) ?_
        refine GE_callVI (As := [.inr (.inr (some (40, 3)))]) (k := 1) (i := 0) (S := []) (t_X1_spells l X hN 3 (by decide) r5.2) (by decide) ⟨me_X1_spells, mi_X1_spells, mv_X1_spells, lk_X1_97⟩ rfl (by decide +kernel) rfl (by decide) (by decide) (Nat.le_of_ble_eq_true rfl) (fun r7 _ => ?_)
        refine GE_if (k := .eq) (off := 6) (tgt := 45) (by decide +kernel) (by decide) (cnd_eq _ _) (fun c8 => ?_) (fun c8 => ?_)
        · refine GE_run (flG_T hN) (pc1 := 46) (L1 := [some (.inr (.inr (some (1, 0))))]) (S1 := [.inr (.inr (some (1, 0)))]) (w1 := r7.2) (P := True) [(.aload_n 0, 0, 0, 0, 0)] (by decide +kernel) rfl trivial ?_
          refine GE_ldcS "and" 4 (List.mem_of_getElem? (i := 4) rfl) (by decide) (by decide +kernel) ?_
          refine GE_callVI (As := [.inr (.inr (some (40, 4)))]) (k := 1) (i := 0) (S := []) (t_X1_spells l X hN 4 (by decide) r7.2) (by decide) ⟨me_X1_spells, mi_X1_spells, mv_X1_spells, lk_X1_97⟩ rfl (by decide +kernel) rfl (by decide) (by decide) (Nat.le_of_ble_eq_true rfl) (fun r9 _ => ?_)
          refine GE_if (k := .eq) (off := 6) (tgt := 57) (by decide +kernel) (by decide) (cnd_eq _ _) (fun c10 => ?_) (fun c10 => ?_)
          · refine GE_run (flG_T hN) (pc1 := 58) (L1 := [some (.inr (.inr (some (1, 0))))]) (S1 := [.inr (.inr (some (1, 0)))]) (w1 := r9.2) (P := True) [(.aload_n 0, 0, 0, 0, 0)] (by decide +kernel) rfl trivial ?_
            refine GE_ldcS "not" 5 (List.mem_of_getElem? (i := 5) rfl) (by decide) (by decide +kernel) ?_
            refine GE_callVI (As := [.inr (.inr (some (40, 5)))]) (k := 1) (i := 0) (S := []) (t_X1_spells l X hN 5 (by decide) r9.2) (by decide) ⟨me_X1_spells, mi_X1_spells, mv_X1_spells, lk_X1_97⟩ rfl (by decide +kernel) rfl (by decide) (by decide) (Nat.le_of_ble_eq_true rfl) (fun r11 _ => ?_)
            refine GE_if (k := .eq) (off := 6) (tgt := 69) (by decide +kernel) (by decide) (cnd_eq _ _) (fun c12 => ?_) (fun c12 => ?_)
            · refine GE_run (flG_T hN) (pc1 := 70) (L1 := [some (.inr (.inr (some (1, 0))))]) (S1 := [.inr (.inr (some (1, 0)))]) (w1 := r11.2) (P := True) [(.aload_n 0, 0, 0, 0, 0)] (by decide +kernel) rfl trivial ?_
              refine GE_ldcS "thing" 6 (List.mem_of_getElem? (i := 6) rfl) (by decide) (by decide +kernel) ?_
              refine GE_callVI (As := [.inr (.inr (some (40, 6)))]) (k := 1) (i := 0) (S := []) (t_X1_spells l X hN 6 (by decide) r11.2) (by decide) ⟨me_X1_spells, mi_X1_spells, mv_X1_spells, lk_X1_97⟩ rfl (by decide +kernel) rfl (by decide) (by decide) (Nat.le_of_ble_eq_true rfl) (fun r13 _ => ?_)
              refine GE_if (k := .eq) (off := 5) (tgt := 80) (by decide +kernel) (by decide) (cnd_eq _ _) (fun c14 => ?_) (fun c14 => ?_)
              · refine GE_run (flG_T hN) (pc1 := 81) (L1 := [some (.inr (.inr (some (1, 0))))]) (S1 := [.inr (.inr (some (1, 0)))]) (w1 := r13.2) (P := True) [(.aload_n 0, 0, 0, 0, 0)] (by decide +kernel) rfl trivial ?_
                refine GE_ldcS "known" 7 (List.mem_of_getElem? (i := 7) rfl) (by decide) (by decide +kernel) ?_
                refine GE_callVI (As := [.inr (.inr (some (40, 7)))]) (k := 1) (i := 0) (S := []) (t_X1_spells l X hN 7 (by decide) r13.2) (by decide) ⟨me_X1_spells, mi_X1_spells, mv_X1_spells, lk_X1_97⟩ rfl (by decide +kernel) rfl (by decide) (by decide) (Nat.le_of_ble_eq_true rfl) (fun r15 _ => ?_)
                refine GE_if (k := .eq) (off := 6) (tgt := 92) (by decide +kernel) (by decide) (cnd_eq _ _) (fun c16 => ?_) (fun c16 => ?_)
                · refine GE_run (flG_T hN) (pc1 := 93) (L1 := [some (.inr (.inr (some (1, 0))))]) (S1 := [.inr (.inr (some (1, 0)))]) (w1 := r15.2) (P := True) [(.aload_n 0, 0, 0, 0, 0)] (by decide +kernel) rfl trivial ?_
                  refine GE_ldcS "kept" 8 (List.mem_of_getElem? (i := 8) rfl) (by decide) (by decide +kernel) ?_
                  refine GE_callVI (As := [.inr (.inr (some (40, 8)))]) (k := 1) (i := 0) (S := []) (t_X1_spells l X hN 8 (by decide) r15.2) (by decide) ⟨me_X1_spells, mi_X1_spells, mv_X1_spells, lk_X1_97⟩ rfl (by decide +kernel) rfl (by decide) (by decide) (Nat.le_of_ble_eq_true rfl) (fun r17 _ => ?_)
                  refine GE_if (k := .eq) (off := 6) (tgt := 104) (by decide +kernel) (by decide) (cnd_eq _ _) (fun c18 => ?_) (fun c18 => ?_)
                  · refine GE_run (flG_T hN) (pc1 := 105) (L1 := [some (.inr (.inr (some (1, 0))))]) (S1 := [.inr (.inr (some (1, 0)))]) (w1 := r17.2) (P := True) [(.aload_n 0, 0, 0, 0, 0)] (by decide +kernel) rfl trivial ?_
                    refine GE_ldcS "tide" 9 (List.mem_of_getElem? (i := 9) rfl) (by decide) (by decide +kernel) ?_
                    refine GE_callVI (As := [.inr (.inr (some (40, 9)))]) (k := 1) (i := 0) (S := []) (t_X1_spells l X hN 9 (by decide) r17.2) (by decide) ⟨me_X1_spells, mi_X1_spells, mv_X1_spells, lk_X1_97⟩ rfl (by decide +kernel) rfl (by decide) (by decide) (Nat.le_of_ble_eq_true rfl) (fun r19 _ => ?_)
                    refine GE_if (k := .eq) (off := 6) (tgt := 116) (by decide +kernel) (by decide) (cnd_eq _ _) (fun c20 => ?_) (fun c20 => ?_)
                    · refine GE_run (flG_T hN) (pc1 := 117) (L1 := [some (.inr (.inr (some (1, 0))))]) (S1 := [.inr (.inr (some (1, 0)))]) (w1 := r19.2) (P := True) [(.aload_n 0, 0, 0, 0, 0)] (by decide +kernel) rfl trivial ?_
                      refine GE_ldcS "luck" 10 (List.mem_of_getElem? (i := 10) rfl) (by decide) (by decide +kernel) ?_
                      refine GE_callVI (As := [.inr (.inr (some (40, 10)))]) (k := 1) (i := 0) (S := []) (t_X1_spells l X hN 10 (by decide) r19.2) (by decide) ⟨me_X1_spells, mi_X1_spells, mv_X1_spells, lk_X1_97⟩ rfl (by decide +kernel) rfl (by decide) (by decide) (Nat.le_of_ble_eq_true rfl) (fun r21 _ => ?_)
                      refine GE_if (k := .eq) (off := 6) (tgt := 128) (by decide +kernel) (by decide) (cnd_eq _ _) (fun c22 => ?_) (fun c22 => ?_)
                      · refine GE_run (flG_T hN) (pc1 := 129) (L1 := [some (.inr (.inr (some (1, 0))))]) (S1 := [.inr (.inr (some (1, 0)))]) (w1 := r21.2) (P := True) [(.aload_n 0, 0, 0, 0, 0)] (by decide +kernel) rfl trivial ?_
                        refine GE_ldcS "more" 11 (List.mem_of_getElem? (i := 11) rfl) (by decide) (by decide +kernel) ?_
                        refine GE_callVI (As := [.inr (.inr (some (40, 11)))]) (k := 1) (i := 0) (S := []) (t_X1_spells l X hN 11 (by decide) r21.2) (by decide) ⟨me_X1_spells, mi_X1_spells, mv_X1_spells, lk_X1_97⟩ rfl (by decide +kernel) rfl (by decide) (by decide) (Nat.le_of_ble_eq_true rfl) (fun r23 _ => ?_)
                        refine GE_if (k := .eq) (off := 8) (tgt := 142) (by decide +kernel) (by decide) (cnd_eq _ _) (fun c24 => ?_) (fun c24 => ?_)
                        · refine GE_run (flG_T hN) (pc1 := 143) (L1 := [some (.inr (.inr (some (1, 0))))]) (S1 := [.inl 1]) (w1 := r23.2) (P := True) [(.iconst 1, 0, 0, 1, 0)] (by decide +kernel) rfl trivial ?_
                          exact GE_iret rfl (by decide +kernel)
                        · refine GE_run (flG_T hN) (pc1 := 143) (L1 := [some (.inr (.inr (some (1, 0))))]) (S1 := [.inl (-6)]) (w1 := r23.2) (P := True) [(.bipush (-6), 0, 0, -6, 0), (.goto 4, 0, 0, 0, 0)] (by decide +kernel) rfl trivial ?_
                          exact GE_iret rfl (by decide +kernel)
                      · refine GE_run (flG_T hN) (pc1 := 127) (L1 := [some (.inr (.inr (some (1, 0))))]) (S1 := [.inl (-5)]) (w1 := r21.2) (P := True) [(.bipush (-5), 0, 0, -5, 0)] (by decide +kernel) rfl trivial ?_
                        exact GE_iret rfl (by decide +kernel)
                    · refine GE_run (flG_T hN) (pc1 := 115) (L1 := [some (.inr (.inr (some (1, 0))))]) (S1 := [.inl (-4)]) (w1 := r19.2) (P := True) [(.bipush (-4), 0, 0, -4, 0)] (by decide +kernel) rfl trivial ?_
                      exact GE_iret rfl (by decide +kernel)
                  · refine GE_run (flG_T hN) (pc1 := 103) (L1 := [some (.inr (.inr (some (1, 0))))]) (S1 := [.inl (-3)]) (w1 := r17.2) (P := True) [(.bipush (-3), 0, 0, -3, 0)] (by decide +kernel) rfl trivial ?_
                    exact GE_iret rfl (by decide +kernel)
                · refine GE_run (flG_T hN) (pc1 := 91) (L1 := [some (.inr (.inr (some (1, 0))))]) (S1 := [.inl (-2)]) (w1 := r15.2) (P := True) [(.bipush (-2), 0, 0, -2, 0)] (by decide +kernel) rfl trivial ?_
                  exact GE_iret rfl (by decide +kernel)
              · refine GE_run (flG_T hN) (pc1 := 79) (L1 := [some (.inr (.inr (some (1, 0))))]) (S1 := [.inl (-1)]) (w1 := r13.2) (P := True) [(.iconst (-1), 0, 0, -1, 0)] (by decide +kernel) rfl trivial ?_
                exact GE_iret rfl (by decide +kernel)
            · refine GE_run (flG_T hN) (pc1 := 68) (L1 := [some (.inr (.inr (some (1, 0))))]) (S1 := [.inl 8]) (w1 := r11.2) (P := True) [(.bipush 8, 0, 0, 8, 0)] (by decide +kernel) rfl trivial ?_
              exact GE_iret rfl (by decide +kernel)
          · refine GE_run (flG_T hN) (pc1 := 56) (L1 := [some (.inr (.inr (some (1, 0))))]) (S1 := [.inl 7]) (w1 := r9.2) (P := True) [(.bipush 7, 0, 0, 7, 0)] (by decide +kernel) rfl trivial ?_
            exact GE_iret rfl (by decide +kernel)
        · refine GE_run (flG_T hN) (pc1 := 44) (L1 := [some (.inr (.inr (some (1, 0))))]) (S1 := [.inl 6]) (w1 := r7.2) (P := True) [(.bipush 6, 0, 0, 6, 0)] (by decide +kernel) rfl trivial ?_
          exact GE_iret rfl (by decide +kernel)
      · refine GE_run (flG_T hN) (pc1 := 32) (L1 := [some (.inr (.inr (some (1, 0))))]) (S1 := [.inl 5]) (w1 := r5.2) (P := True) [(.iconst 5, 0, 0, 5, 0)] (by decide +kernel) rfl trivial ?_
        exact GE_iret rfl (by decide +kernel)
    · refine GE_run (flG_T hN) (pc1 := 21) (L1 := [some (.inr (.inr (some (1, 0))))]) (S1 := [.inl 4]) (w1 := r3.2) (P := True) [(.iconst 4, 0, 0, 4, 0)] (by decide +kernel) rfl trivial ?_
      exact GE_iret rfl (by decide +kernel)
  · refine GE_run (flG_T hN) (pc1 := 10) (L1 := [some (.inr (.inr (some (1, 0))))]) (S1 := [.inl 3]) (w1 := r1.2) (P := True) [(.iconst 3, 0, 0, 3, 0)] (by decide +kernel) rfl trivial ?_
    exact GE_iret rfl (by decide +kernel)
abbrev mm_X1_next : MI := (RX1, cX1_next, 2, none, ftp_X1.map (fun q => q.1), ctp_X1.map (fun q => q.1), clp_X1.map (fun q => q.1))
noncomputable def h_X1_next_5  (k45 : Int32 → Mem → Option (Mem)) : Nat → Int32 → Mem → Option (Mem)
  | 0, _, _ => none
  | n + 1, x1, w => if x1 < (w 1 0 1) then (if (atV w 9 0 x1) = 32 then ((h_X1_next_5 k45 n) (x1 + 1) w) else (if (atV w 9 0 x1) = 10 then ((h_X1_next_5 k45 n) (x1 + 1) w) else (k45 x1 w))) else (k45 x1 w)
set_option maxRecDepth 100000 in
theorem h_X1_next_5_ok (l : Launch) (X : XC) {N9 : Nat} (hN : 39 ≤ N9)  (k45 : Int32 → Mem → Option (Mem))  (hk45 : ∀ (x1 : Int32) (w : Mem), GE l X mm_X1_next 6 emV N9 flT (k45 x1 w) 45 [some (.inr (.inr (some (1, 0)))), some (.inl x1)] [] w) : ∀ (n : Nat) (x1 : Int32) (w : Mem), GE l X mm_X1_next 6 emV N9 flT ((h_X1_next_5 k45 n) x1 w) 5 [some (.inr (.inr (some (1, 0)))), some (.inl x1)] [] w := by
  intro n
  induction n with
  | zero => intro x1 w; exact GE_none
  | succ n ih =>
    intro x1 w
    unfold h_X1_next_5
    refine GE_run (flG_T hN) (pc1 := 10) (L1 := [some (.inr (.inr (some (1, 0)))), some (.inl x1)]) (S1 := [.inl (w 1 0 1), .inl x1]) (w1 := w) (P := True) [(.iload_n 1, 0, 0, 0, 0), (.aload_n 0, 0, 0, 0, 0), (.getfield 21, 1, 1, 0, 0)] (by decide +kernel) rfl trivial ?_
    refine GE_icmpN (k := .ge) (off := 35) (tgt := 45) (by decide +kernel) (by decide) (cnd_ge _ _) (fun c1 => ?_) (fun c1 => ?_)
    · exact GE_weak [true, true] (hk45 x1 w)
    · refine GE_run (flG_T hN) (pc1 := 18) (L1 := [some (.inr (.inr (some (1, 0)))), some (.inl x1)]) (S1 := [.inl x1, .inr (.inr (some (9, 0)))]) (w1 := w) (P := True) [(.aload_n 0, 0, 0, 0, 0), (.getfield 9, 1, 0, 0, 0), (.iload_n 1, 0, 0, 0, 0)] (by decide +kernel) rfl trivial ?_
      refine GE_callNIp (As := [.inr (.inr (some (9, 0))), .inl x1]) (S := []) (p_X4_at l X hN 9 0 x1 (by decide) (okM hN (by decide)) w) ⟨me_X4_at, ms_X4_at, ln_X1_70⟩ (by decide +kernel) rfl (by decide) (by decide) (Nat.le_of_ble_eq_true rfl) ?_
      refine GE_run (flG_T hN) (pc1 := 23) (L1 := [some (.inr (.inr (some (1, 0)))), some (.inl x1)]) (S1 := [.inl 32, .inl (atV w 9 0 x1)]) (w1 := w) (P := True) [(.bipush 32, 0, 0, 32, 0)] (by decide +kernel) rfl trivial ?_
      refine GE_icmp (k := .eq) (off := 16) (tgt := 39) (by decide +kernel) (by decide) (cnd_eq _ _) (fun c2 => ?_) (fun c2 => ?_)
      · refine GE_run (flG_T hN) (pc1 := 5) (L1 := [some (.inr (.inr (some (1, 0)))), some (.inl (x1 + 1))]) (S1 := []) (w1 := w) (P := True) [(.iinc 1 1, 0, 0, 1, 0), (.goto (-37), 0, 0, 0, 0)] (by decide +kernel) rfl trivial ?_
        exact GE_weak [true, true] (ih (x1 + 1) w)
      · refine GE_run (flG_T hN) (pc1 := 31) (L1 := [some (.inr (.inr (some (1, 0)))), some (.inl x1)]) (S1 := [.inl x1, .inr (.inr (some (9, 0)))]) (w1 := w) (P := True) [(.aload_n 0, 0, 0, 0, 0), (.getfield 9, 1, 0, 0, 0), (.iload_n 1, 0, 0, 0, 0)] (by decide +kernel) rfl trivial ?_
        refine GE_callNIp (As := [.inr (.inr (some (9, 0))), .inl x1]) (S := []) (p_X4_at l X hN 9 0 x1 (by decide) (okM hN (by decide)) w) ⟨me_X4_at, ms_X4_at, ln_X1_70⟩ (by decide +kernel) rfl (by decide) (by decide) (Nat.le_of_ble_eq_true rfl) ?_
        refine GE_run (flG_T hN) (pc1 := 36) (L1 := [some (.inr (.inr (some (1, 0)))), some (.inl x1)]) (S1 := [.inl 10, .inl (atV w 9 0 x1)]) (w1 := w) (P := True) [(.bipush 10, 0, 0, 10, 0)] (by decide +kernel) rfl trivial ?_
        refine GE_icmpN (k := .ne) (off := 9) (tgt := 45) (by decide +kernel) (by decide) (cnd_ne _ _) (fun c3 => ?_) (fun c3 => ?_)
        · exact GE_weak [true, true] (hk45 x1 w)
        · refine GE_run (flG_T hN) (pc1 := 5) (L1 := [some (.inr (.inr (some (1, 0)))), some (.inl (x1 + 1))]) (S1 := []) (w1 := w) (P := True) [(.iinc 1 1, 0, 0, 1, 0), (.goto (-37), 0, 0, 0, 0)] (by decide +kernel) rfl trivial ?_
          exact GE_weak [true, true] (ih (x1 + 1) w)
noncomputable def j_X1_next_45   (x1 : Int32) (w : Mem) : Option (Mem) := if x1 < ((up w 1 0 6 x1) 1 0 1) then (Option.bind (f_X1_isLetter x1 (up w 1 0 6 x1)) (fun r7 => if r7.1 = 0 then (Option.bind (f_X1_isDigit x1 r7.2) (fun r9 => if r9.1 = 0 then (Option.bind (f_X1_isSign (atV (up r9.2 1 0 7 (x1 + 1)) 9 0 x1) (up r9.2 1 0 7 (x1 + 1))) (fun r11 => if r11.1 = 0 then (some (up r11.2 1 0 5 1)) else (some (up r11.2 1 0 5 (atV r11.2 9 0 x1))))) else (Option.bind (f_X1_endOfNumber x1 r9.2) (fun r13 => if (((up r13.2 1 0 7 r13.1) 1 0 7) - x1) ≤ 4 then (some (up (up r13.2 1 0 7 r13.1) 1 0 5 2)) else (some (up (up r13.2 1 0 7 r13.1) 1 0 5 1)))))) else (Option.bind (f_X1_endOfWord x1 r7.2) (fun r15 => Option.bind (f_X1_wordOf  (up r15.2 1 0 7 r15.1)) (fun r16 => some (up r16.2 1 0 5 r16.1)))))) else (some (up (up (up w 1 0 6 x1) 1 0 7 x1) 1 0 5 0))
set_option maxRecDepth 100000 in
theorem j_X1_next_45_ok (l : Launch) (X : XC) {N9 : Nat} (hN : 39 ≤ N9)   (x1 : Int32)   (w : Mem) : GE l X mm_X1_next 6 emV N9 flT (j_X1_next_45 x1 w) 45 [some (.inr (.inr (some (1, 0)))), some (.inl x1)] [] w := by
  unfold j_X1_next_45
  refine GE_run (flG_T hN) (pc1 := 55) (L1 := [some (.inr (.inr (some (1, 0)))), some (.inl x1)]) (S1 := [.inl ((up w 1 0 6 x1) 1 0 1), .inl x1]) (w1 := up w 1 0 6 x1) (P := True) [(.aload_n 0, 0, 0, 0, 0), (.iload_n 1, 0, 0, 0, 0), (.putfield 41, 1, 6, 0, 0), (.iload_n 1, 0, 0, 0, 0), (.aload_n 0, 0, 0, 0, 0), (.getfield 21, 1, 1, 0, 0)] (by decide +kernel) rfl trivial ?_
  refine GE_icmp (k := .lt) (off := 16) (tgt := 71) (by decide +kernel) (by decide) (cnd_lt _ _) (fun c6 => ?_) (fun c6 => ?_)
  · refine GE_run (flG_T hN) (pc1 := 73) (L1 := [some (.inr (.inr (some (1, 0)))), some (.inl x1)]) (S1 := [.inl x1, .inr (.inr (some (1, 0)))]) (w1 := up w 1 0 6 x1) (P := True) [(.aload_n 0, 0, 0, 0, 0), (.iload_n 1, 0, 0, 0, 0)] (by decide +kernel) rfl trivial ?_
    refine GE_callVI (As := [.inl x1]) (k := 1) (i := 0) (S := []) (t_X1_isLetter l X hN x1 (up w 1 0 6 x1)) (by decide) ⟨me_X1_isLetter, mi_X1_isLetter, mv_X1_isLetter, lk_X1_74⟩ rfl (by decide +kernel) rfl (by decide) (by decide) (Nat.le_of_ble_eq_true rfl) (fun r7 _ => ?_)
    refine GE_if (k := .eq) (off := 23) (tgt := 99) (by decide +kernel) (by decide) (cnd_eq _ _) (fun c8 => ?_) (fun c8 => ?_)
    · refine GE_run (flG_T hN) (pc1 := 101) (L1 := [some (.inr (.inr (some (1, 0)))), some (.inl x1)]) (S1 := [.inl x1, .inr (.inr (some (1, 0)))]) (w1 := r7.2) (P := True) [(.aload_n 0, 0, 0, 0, 0), (.iload_n 1, 0, 0, 0, 0)] (by decide +kernel) rfl trivial ?_
      refine GE_callVI (As := [.inl x1]) (k := 1) (i := 0) (S := []) (t_X1_isDigit l X hN x1 r7.2) (by decide) ⟨me_X1_isDigit, mi_X1_isDigit, mv_X1_isDigit, lk_X1_86⟩ rfl (by decide +kernel) rfl (by decide) (by decide) (Nat.le_of_ble_eq_true rfl) (fun r9 _ => ?_)
      refine GE_if (k := .eq) (off := 34) (tgt := 138) (by decide +kernel) (by decide) (cnd_eq _ _) (fun c10 => ?_) (fun c10 => ?_)
      · refine GE_run (flG_T hN) (pc1 := 151) (L1 := [some (.inr (.inr (some (1, 0)))), some (.inl x1)]) (S1 := [.inl x1, .inr (.inr (some (9, 0))), .inr (.inr (some (1, 0)))]) (w1 := up r9.2 1 0 7 (x1 + 1)) (P := True) [(.aload_n 0, 0, 0, 0, 0), (.iload_n 1, 0, 0, 0, 0), (.iconst 1, 0, 0, 1, 0), (.iadd, 0, 0, 0, 0), (.putfield 32, 1, 7, 0, 0), (.aload_n 0, 0, 0, 0, 0), (.aload_n 0, 0, 0, 0, 0), (.getfield 9, 1, 0, 0, 0), (.iload_n 1, 0, 0, 0, 0)] (by decide +kernel) rfl trivial ?_
        refine GE_callNIp (As := [.inr (.inr (some (9, 0))), .inl x1]) (S := [.inr (.inr (some (1, 0)))]) (p_X4_at l X hN 9 0 x1 (by decide) (okM hN (by decide)) (up r9.2 1 0 7 (x1 + 1))) ⟨me_X4_at, ms_X4_at, ln_X1_70⟩ (by decide +kernel) rfl (by decide) (by decide) (Nat.le_of_ble_eq_true rfl) ?_
        refine GE_callSI (As := [.inl (atV (up r9.2 1 0 7 (x1 + 1)) 9 0 x1)]) (S := [.inr (.inr (some (1, 0)))]) (t_X1_isSign l X hN (atV (up r9.2 1 0 7 (x1 + 1)) 9 0 x1) (up r9.2 1 0 7 (x1 + 1))) ⟨me_X1_isSign, ms_X1_isSign, lk_X1_92⟩ (by decide +kernel) rfl (by decide) (by decide) (Nat.le_of_ble_eq_true rfl) (fun r11 _ => ?_)
        refine GE_if (k := .eq) (off := 14) (tgt := 171) (by decide +kernel) (by decide) (cnd_eq _ _) (fun c12 => ?_) (fun c12 => ?_)
        · refine GE_run (flG_T hN) (pc1 := 175) (L1 := [some (.inr (.inr (some (1, 0)))), some (.inl x1)]) (S1 := []) (w1 := up r11.2 1 0 5 1) (P := True) [(.iconst 1, 0, 0, 1, 0), (.putfield 38, 1, 5, 0, 0)] (by decide +kernel) rfl trivial ?_
          exact GE_vret rfl (by decide +kernel)
        · refine GE_run (flG_T hN) (pc1 := 165) (L1 := [some (.inr (.inr (some (1, 0)))), some (.inl x1)]) (S1 := [.inl x1, .inr (.inr (some (9, 0))), .inr (.inr (some (1, 0)))]) (w1 := r11.2) (P := True) [(.aload_n 0, 0, 0, 0, 0), (.getfield 9, 1, 0, 0, 0), (.iload_n 1, 0, 0, 0, 0)] (by decide +kernel) rfl trivial ?_
          refine GE_callNIp (As := [.inr (.inr (some (9, 0))), .inl x1]) (S := [.inr (.inr (some (1, 0)))]) (p_X4_at l X hN 9 0 x1 (by decide) (okM hN (by decide)) r11.2) ⟨me_X4_at, ms_X4_at, ln_X1_70⟩ (by decide +kernel) rfl (by decide) (by decide) (Nat.le_of_ble_eq_true rfl) ?_
          refine GE_run (flG_T hN) (pc1 := 175) (L1 := [some (.inr (.inr (some (1, 0)))), some (.inl x1)]) (S1 := []) (w1 := up r11.2 1 0 5 (atV r11.2 9 0 x1)) (P := True) [(.goto 4, 0, 0, 0, 0), (.putfield 38, 1, 5, 0, 0)] (by decide +kernel) rfl trivial ?_
          exact GE_vret rfl (by decide +kernel)
      · refine GE_run (flG_T hN) (pc1 := 110) (L1 := [some (.inr (.inr (some (1, 0)))), some (.inl x1)]) (S1 := [.inl x1, .inr (.inr (some (1, 0))), .inr (.inr (some (1, 0)))]) (w1 := r9.2) (P := True) [(.aload_n 0, 0, 0, 0, 0), (.aload_n 0, 0, 0, 0, 0), (.iload_n 1, 0, 0, 0, 0)] (by decide +kernel) rfl trivial ?_
        refine GE_callVI (As := [.inl x1]) (k := 1) (i := 0) (S := [.inr (.inr (some (1, 0)))]) (t_X1_endOfNumber l X hN x1 r9.2) (by decide) ⟨me_X1_endOfNumber, mi_X1_endOfNumber, mv_X1_endOfNumber, lk_X1_89⟩ rfl (by decide +kernel) rfl (by decide) (by decide) (Nat.le_of_ble_eq_true rfl) (fun r13 _ => ?_)
        refine GE_run (flG_T hN) (pc1 := 124) (L1 := [some (.inr (.inr (some (1, 0)))), some (.inl x1)]) (S1 := [.inl 4, .inl (((up r13.2 1 0 7 r13.1) 1 0 7) - x1), .inr (.inr (some (1, 0)))]) (w1 := up r13.2 1 0 7 r13.1) (P := True) [(.putfield 32, 1, 7, 0, 0), (.aload_n 0, 0, 0, 0, 0), (.aload_n 0, 0, 0, 0, 0), (.getfield 32, 1, 7, 0, 0), (.iload_n 1, 0, 0, 0, 0), (.isub, 0, 0, 0, 0), (.iconst 4, 0, 0, 4, 0)] (by decide +kernel) rfl trivial ?_
        refine GE_icmp (k := .le) (off := 7) (tgt := 131) (by decide +kernel) (by decide) (cnd_le _ _) (fun c14 => ?_) (fun c14 => ?_)
        · refine GE_run (flG_T hN) (pc1 := 175) (L1 := [some (.inr (.inr (some (1, 0)))), some (.inl x1)]) (S1 := []) (w1 := up (up r13.2 1 0 7 r13.1) 1 0 5 2) (P := True) [(.iconst 2, 0, 0, 2, 0), (.putfield 38, 1, 5, 0, 0), (.goto 40, 0, 0, 0, 0)] (by decide +kernel) rfl trivial ?_
          exact GE_vret rfl (by decide +kernel)
        · refine GE_run (flG_T hN) (pc1 := 175) (L1 := [some (.inr (.inr (some (1, 0)))), some (.inl x1)]) (S1 := []) (w1 := up (up r13.2 1 0 7 r13.1) 1 0 5 1) (P := True) [(.iconst 1, 0, 0, 1, 0), (.goto 4, 0, 0, 0, 0), (.putfield 38, 1, 5, 0, 0), (.goto 40, 0, 0, 0, 0)] (by decide +kernel) rfl trivial ?_
          exact GE_vret rfl (by decide +kernel)
    · refine GE_run (flG_T hN) (pc1 := 82) (L1 := [some (.inr (.inr (some (1, 0)))), some (.inl x1)]) (S1 := [.inl x1, .inr (.inr (some (1, 0))), .inr (.inr (some (1, 0)))]) (w1 := r7.2) (P := True) [(.aload_n 0, 0, 0, 0, 0), (.aload_n 0, 0, 0, 0, 0), (.iload_n 1, 0, 0, 0, 0)] (by decide +kernel) rfl trivial ?_
      refine GE_callVI (As := [.inl x1]) (k := 1) (i := 0) (S := [.inr (.inr (some (1, 0)))]) (t_X1_endOfWord l X hN x1 r7.2) (by decide) ⟨me_X1_endOfWord, mi_X1_endOfWord, mv_X1_endOfWord, lk_X1_78⟩ rfl (by decide +kernel) rfl (by decide) (by decide) (Nat.le_of_ble_eq_true rfl) (fun r15 _ => ?_)
      refine GE_run (flG_T hN) (pc1 := 90) (L1 := [some (.inr (.inr (some (1, 0)))), some (.inl x1)]) (S1 := [.inr (.inr (some (1, 0))), .inr (.inr (some (1, 0)))]) (w1 := up r15.2 1 0 7 r15.1) (P := True) [(.putfield 32, 1, 7, 0, 0), (.aload_n 0, 0, 0, 0, 0), (.aload_n 0, 0, 0, 0, 0)] (by decide +kernel) rfl trivial ?_
      refine GE_callVI (As := []) (k := 1) (i := 0) (S := [.inr (.inr (some (1, 0)))]) (t_X1_wordOf l X hN (up r15.2 1 0 7 r15.1)) (by decide) ⟨me_X1_wordOf, mi_X1_wordOf, mv_X1_wordOf, lk_X1_82⟩ rfl (by decide +kernel) rfl (by decide) (by decide) (Nat.le_of_ble_eq_true rfl) (fun r16 _ => ?_)
      refine GE_run (flG_T hN) (pc1 := 175) (L1 := [some (.inr (.inr (some (1, 0)))), some (.inl x1)]) (S1 := []) (w1 := up r16.2 1 0 5 r16.1) (P := True) [(.putfield 38, 1, 5, 0, 0), (.goto 79, 0, 0, 0, 0)] (by decide +kernel) rfl trivial ?_
      exact GE_vret rfl (by decide +kernel)
  · refine GE_run (flG_T hN) (pc1 := 175) (L1 := [some (.inr (.inr (some (1, 0)))), some (.inl x1)]) (S1 := []) (w1 := up (up (up w 1 0 6 x1) 1 0 7 x1) 1 0 5 0) (P := True) [(.aload_n 0, 0, 0, 0, 0), (.iload_n 1, 0, 0, 0, 0), (.putfield 32, 1, 7, 0, 0), (.aload_n 0, 0, 0, 0, 0), (.iconst 0, 0, 0, 0, 0), (.putfield 38, 1, 5, 0, 0), (.goto 107, 0, 0, 0, 0)] (by decide +kernel) rfl trivial ?_
    exact GE_vret rfl (by decide +kernel)
noncomputable def f_X1_next  (w : Mem) : Option (Mem) := h_X1_next_5 (fun x1_4 w5 => j_X1_next_45 x1_4 w5) FU (w 1 0 7) w
set_option maxRecDepth 100000 in
theorem t_X1_next (l : Launch) (X : XC) {N9 : Nat} (hN : 39 ≤ N9)   (w : Mem) : Ct l X 6 yX1_next cX1_next 2 none emV [.inr (.inr (some (1, 0)))] N9 flT w (f_X1_next  w) := by
  refine Ct_of (mi := mm_X1_next) (mik_X1 _ _ _) me_X1_next rfl (okAs_cons (okMV hN (by decide)) okAs_nil) (Nat.le_of_ble_eq_true rfl) ?_
  unfold f_X1_next
  refine GE_run (flG_T hN) (pc1 := 5) (L1 := [some (.inr (.inr (some (1, 0)))), some (.inl (w 1 0 7))]) (S1 := []) (w1 := w) (P := True) [(.aload_n 0, 0, 0, 0, 0), (.getfield 32, 1, 7, 0, 0), (.istore_n 1, 0, 0, 0, 0)] (by decide +kernel) rfl trivial ?_
  refine GE_weak [true, true] (h_X1_next_5_ok l X hN _ ?_ FU (w 1 0 7) w)
  · intro x1_4 w5
    exact GE_weak [true, true] (j_X1_next_45_ok l X hN x1_4 w5)
abbrev mm_X1_readsE : MI := (RX1, cX1_readsE, 3, (some .boolean), ftp_X1.map (fun q => q.1), ctp_X1.map (fun q => q.1), clp_X1.map (fun q => q.1))
noncomputable def h_X1_readsE_21 (rc : Nat → Int32 → Mem → Option (Int32 × Mem)) (x1 : Int32) (k63 : Mem → Option (Int32 × Mem)) : Nat → Int32 → Mem → Option (Int32 × Mem)
  | 0, _, _ => none
  | n + 1, x2, w => if x2 < 160 then (if (w 1 0 5) = 6 then (Option.bind (f_X1_next  w) (fun r6 => Option.bind (rc 1 x1 r6) (fun r7 => if r7.1 = 0 then (some (0, r7.2)) else (Option.bind (f_X1_write (-7) r7.2) (fun r9 => (h_X1_readsE_21 rc x1 k63 n) (x2 + 1) r9))))) else (k63 w)) else (k63 w)
set_option maxRecDepth 100000 in
theorem h_X1_readsE_21_ok (l : Launch) (X : XC) {N9 : Nat} (hN : 39 ≤ N9) (rc : Nat → Int32 → Mem → Option (Int32 × Mem)) (x1 : Int32) (k63 : Mem → Option (Int32 × Mem)) (m : Nat) (hrc0 : ∀ (a : Int32) (w : Mem), Ct l X (m + 6) yX1_readsE cX1_readsE 3 (some .boolean) emI [.inr (.inr (some (1, 0))), .inl a] N9 flT w (rc 0 a w)) (hrc1 : ∀ (a : Int32) (w : Mem), Ct l X (m + 6) yX1_readsAnd cX1_readsAnd 3 (some .boolean) emI [.inr (.inr (some (1, 0))), .inl a] N9 flT w (rc 1 a w)) (hrc2 : ∀ (a : Int32) (w : Mem), Ct l X (m + 6) yX1_readsNot cX1_readsNot 3 (some .boolean) emI [.inr (.inr (some (1, 0))), .inl a] N9 flT w (rc 2 a w)) (hrc3 : ∀ (a : Int32) (w : Mem), Ct l X (m + 6) yX1_readsSum cX1_readsSum 4 (some .boolean) emI [.inr (.inr (some (1, 0))), .inl a] N9 flT w (rc 3 a w)) (hrc4 : ∀ (a : Int32) (w : Mem), Ct l X (m + 6) yX1_readsTerm cX1_readsTerm 3 (some .boolean) emI [.inr (.inr (some (1, 0))), .inl a] N9 flT w (rc 4 a w)) (hrc5 : ∀ (a : Int32) (w : Mem), Ct l X (m + 6) yX1_readsOne cX1_readsOne 3 (some .boolean) emI [.inr (.inr (some (1, 0))), .inl a] N9 flT w (rc 5 a w)) (hk63 : ∀  (w : Mem), GE l X mm_X1_readsE (m + 7) emI N9 flT (k63 w) 63 [none, none, none] [] w) : ∀ (n : Nat) (x2 : Int32) (w : Mem), GE l X mm_X1_readsE (m + 7) emI N9 flT ((h_X1_readsE_21 rc x1 k63 n) x2 w) 21 [some (.inr (.inr (some (1, 0)))), some (.inl x1), some (.inl x2)] [] w := by
  intro n
  induction n with
  | zero => intro x2 w; exact GE_none
  | succ n ih =>
    intro x2 w
    unfold h_X1_readsE_21
    refine GE_run (flG_T hN) (pc1 := 25) (L1 := [some (.inr (.inr (some (1, 0)))), some (.inl x1), some (.inl x2)]) (S1 := [.inl 160, .inl x2]) (w1 := w) (P := True) [(.iload_n 2, 0, 0, 0, 0), (.sipush 160, 0, 0, 160, 0)] (by decide +kernel) rfl trivial ?_
    refine GE_icmpN (k := .ge) (off := 38) (tgt := 63) (by decide +kernel) (by decide) (cnd_ge _ _) (fun c4 => ?_) (fun c4 => ?_)
    · exact GE_weak [false, false, false] (hk63 w)
    · refine GE_run (flG_T hN) (pc1 := 34) (L1 := [some (.inr (.inr (some (1, 0)))), some (.inl x1), some (.inl x2)]) (S1 := [.inl 6, .inl (w 1 0 5)]) (w1 := w) (P := True) [(.aload_n 0, 0, 0, 0, 0), (.getfield 38, 1, 5, 0, 0), (.bipush 6, 0, 0, 6, 0)] (by decide +kernel) rfl trivial ?_
      refine GE_icmpN (k := .ne) (off := 29) (tgt := 63) (by decide +kernel) (by decide) (cnd_ne _ _) (fun c5 => ?_) (fun c5 => ?_)
      · exact GE_weak [false, false, false] (hk63 w)
      · refine GE_run (flG_T hN) (pc1 := 38) (L1 := [some (.inr (.inr (some (1, 0)))), some (.inl x1), some (.inl x2)]) (S1 := [.inr (.inr (some (1, 0)))]) (w1 := w) (P := True) [(.aload_n 0, 0, 0, 0, 0)] (by decide +kernel) rfl trivial ?_
        refine GE_callVV (As := []) (k := 1) (i := 0) (S := []) (t_X1_next l X hN w) (by decide) ⟨me_X1_next, mi_X1_next, mv_X1_next, lk_X1_35⟩ rfl (by decide +kernel) rfl (by omega) (by decide) (Nat.le_of_ble_eq_true rfl) (fun r6 _ => ?_)
        refine GE_run (flG_T hN) (pc1 := 43) (L1 := [some (.inr (.inr (some (1, 0)))), some (.inl x1), some (.inl x2)]) (S1 := [.inl x1, .inr (.inr (some (1, 0)))]) (w1 := r6) (P := True) [(.aload_n 0, 0, 0, 0, 0), (.iload_n 1, 0, 0, 0, 0)] (by decide +kernel) rfl trivial ?_
        refine GE_callSI (As := [.inr (.inr (some (1, 0))), .inl x1]) (S := []) (hrc1 x1 r6) ⟨me_X1_readsAnd, ms_X1_readsAnd, lk_X1_48⟩ (by decide +kernel) rfl (by omega) (by decide) (Nat.le_of_ble_eq_true rfl) (fun r7 _ => ?_)
        refine GE_ifN (k := .ne) (off := 5) (tgt := 51) (by decide +kernel) (by decide) (cnd_ne _ _) (fun c8 => ?_) (fun c8 => ?_)
        · refine GE_run (flG_T hN) (pc1 := 54) (L1 := [some (.inr (.inr (some (1, 0)))), some (.inl x1), some (.inl x2)]) (S1 := [.inl (-7), .inr (.inr (some (1, 0)))]) (w1 := r7.2) (P := True) [(.aload_n 0, 0, 0, 0, 0), (.bipush (-7), 0, 0, -7, 0)] (by decide +kernel) rfl trivial ?_
          refine GE_callVV (As := [.inl (-7)]) (k := 1) (i := 0) (S := []) (t_X1_write l X hN (-7) r7.2) (by decide) ⟨me_X1_write, mi_X1_write, mv_X1_write, lk_X1_51⟩ rfl (by decide +kernel) rfl (by omega) (by decide) (Nat.le_of_ble_eq_true rfl) (fun r9 _ => ?_)
          refine GE_run (flG_T hN) (pc1 := 21) (L1 := [some (.inr (.inr (some (1, 0)))), some (.inl x1), some (.inl (x2 + 1))]) (S1 := []) (w1 := r9) (P := True) [(.iinc 2 1, 0, 0, 1, 0), (.goto (-39), 0, 0, 0, 0)] (by decide +kernel) rfl trivial ?_
          exact GE_weak [true, true, true] (ih (x2 + 1) r9)
        · refine GE_run (flG_T hN) (pc1 := 50) (L1 := [some (.inr (.inr (some (1, 0)))), some (.inl x1), some (.inl x2)]) (S1 := [.inl 0]) (w1 := r7.2) (P := True) [(.iconst 0, 0, 0, 0, 0)] (by decide +kernel) rfl trivial ?_
          exact GE_zret (ty := .boolean) rfl (by decide +kernel) (by decide +kernel)
noncomputable def f_X1_readsE (rc : Nat → Int32 → Mem → Option (Int32 × Mem)) (a2 : Int32) (w : Mem) : Option (Int32 × Mem) := if a2 ≤ 5 then (Option.bind (rc 1 a2 w) (fun r2 => if r2.1 = 0 then (some (0, r2.2)) else (h_X1_readsE_21 rc a2 (fun w10 => some (1, w10)) FU 0 r2.2))) else (some (0, w))
set_option maxRecDepth 100000 in
theorem t_X1_readsE (l : Launch) (X : XC) {N9 : Nat} (hN : 39 ≤ N9)  (rc : Nat → Int32 → Mem → Option (Int32 × Mem)) (a2 : Int32) (m : Nat) (hrc0 : ∀ (a : Int32) (w : Mem), Ct l X (m + 6) yX1_readsE cX1_readsE 3 (some .boolean) emI [.inr (.inr (some (1, 0))), .inl a] N9 flT w (rc 0 a w)) (hrc1 : ∀ (a : Int32) (w : Mem), Ct l X (m + 6) yX1_readsAnd cX1_readsAnd 3 (some .boolean) emI [.inr (.inr (some (1, 0))), .inl a] N9 flT w (rc 1 a w)) (hrc2 : ∀ (a : Int32) (w : Mem), Ct l X (m + 6) yX1_readsNot cX1_readsNot 3 (some .boolean) emI [.inr (.inr (some (1, 0))), .inl a] N9 flT w (rc 2 a w)) (hrc3 : ∀ (a : Int32) (w : Mem), Ct l X (m + 6) yX1_readsSum cX1_readsSum 4 (some .boolean) emI [.inr (.inr (some (1, 0))), .inl a] N9 flT w (rc 3 a w)) (hrc4 : ∀ (a : Int32) (w : Mem), Ct l X (m + 6) yX1_readsTerm cX1_readsTerm 3 (some .boolean) emI [.inr (.inr (some (1, 0))), .inl a] N9 flT w (rc 4 a w)) (hrc5 : ∀ (a : Int32) (w : Mem), Ct l X (m + 6) yX1_readsOne cX1_readsOne 3 (some .boolean) emI [.inr (.inr (some (1, 0))), .inl a] N9 flT w (rc 5 a w)) (w : Mem) : Ct l X (m + 7) yX1_readsE cX1_readsE 3 (some .boolean) emI [.inr (.inr (some (1, 0))), .inl a2] N9 flT w (f_X1_readsE rc a2 w) := by
  refine Ct_of (mi := mm_X1_readsE) (mik_X1 _ _ _) me_X1_readsE rfl (okAs_cons (okMV hN (by decide)) (okAs_cons rfl okAs_nil)) (Nat.le_of_ble_eq_true rfl) ?_
  unfold f_X1_readsE
  refine GE_run (flG_T hN) (pc1 := 1) (L1 := [some (.inr (.inr (some (1, 0)))), some (.inl a2), none]) (S1 := [.inr (.inr (some (1, 0)))]) (w1 := w) (P := True) [(.aload_n 0, 0, 0, 0, 0)] (by decide +kernel) rfl trivial ?_
  refine GE_null1 (off := 16) (by decide +kernel) ?_
  refine GE_run (flG_T hN) (pc1 := 6) (L1 := [some (.inr (.inr (some (1, 0)))), some (.inl a2), none]) (S1 := [.inl 5, .inl a2]) (w1 := w) (P := True) [(.iload_n 1, 0, 0, 0, 0), (.iconst 5, 0, 0, 5, 0)] (by decide +kernel) rfl trivial ?_
  refine GE_icmpN (k := .gt) (off := 11) (tgt := 17) (by decide +kernel) (by decide) (cnd_gt _ _) (fun c1 => ?_) (fun c1 => ?_)
  · refine GE_run (flG_T hN) (pc1 := 18) (L1 := [some (.inr (.inr (some (1, 0)))), some (.inl a2), none]) (S1 := [.inl 0]) (w1 := w) (P := True) [(.iconst 0, 0, 0, 0, 0)] (by decide +kernel) rfl trivial ?_
    exact GE_zret (ty := .boolean) rfl (by decide +kernel) (by decide +kernel)
  · refine GE_run (flG_T hN) (pc1 := 11) (L1 := [some (.inr (.inr (some (1, 0)))), some (.inl a2), none]) (S1 := [.inl a2, .inr (.inr (some (1, 0)))]) (w1 := w) (P := True) [(.aload_n 0, 0, 0, 0, 0), (.iload_n 1, 0, 0, 0, 0)] (by decide +kernel) rfl trivial ?_
    refine GE_callSI (As := [.inr (.inr (some (1, 0))), .inl a2]) (S := []) (hrc1 a2 w) ⟨me_X1_readsAnd, ms_X1_readsAnd, lk_X1_48⟩ (by decide +kernel) rfl (by omega) (by decide) (Nat.le_of_ble_eq_true rfl) (fun r2 _ => ?_)
    refine GE_ifN (k := .ne) (off := 5) (tgt := 19) (by decide +kernel) (by decide) (cnd_ne _ _) (fun c3 => ?_) (fun c3 => ?_)
    · refine GE_run (flG_T hN) (pc1 := 21) (L1 := [some (.inr (.inr (some (1, 0)))), some (.inl a2), some (.inl 0)]) (S1 := []) (w1 := r2.2) (P := True) [(.iconst 0, 0, 0, 0, 0), (.istore_n 2, 0, 0, 0, 0)] (by decide +kernel) rfl trivial ?_
      refine GE_weak [true, true, true] (h_X1_readsE_21_ok l X hN rc a2 _ m hrc0 hrc1 hrc2 hrc3 hrc4 hrc5 ?_ FU 0 r2.2)
      · intro w10
        refine GE_run (flG_T hN) (pc1 := 64) (L1 := [none, none, none]) (S1 := [.inl 1]) (w1 := w10) (P := True) [(.iconst 1, 0, 0, 1, 0)] (by decide +kernel) rfl trivial ?_
        exact GE_zret (ty := .boolean) rfl (by decide +kernel) (by decide +kernel)
    · refine GE_run (flG_T hN) (pc1 := 18) (L1 := [some (.inr (.inr (some (1, 0)))), some (.inl a2), none]) (S1 := [.inl 0]) (w1 := r2.2) (P := True) [(.iconst 0, 0, 0, 0, 0)] (by decide +kernel) rfl trivial ?_
      exact GE_zret (ty := .boolean) rfl (by decide +kernel) (by decide +kernel)
abbrev mm_X1_readsAnd : MI := (RX1, cX1_readsAnd, 3, (some .boolean), ftp_X1.map (fun q => q.1), ctp_X1.map (fun q => q.1), clp_X1.map (fun q => q.1))
noncomputable def h_X1_readsAnd_16 (rc : Nat → Int32 → Mem → Option (Int32 × Mem)) (x1 : Int32) (k58 : Mem → Option (Int32 × Mem)) : Nat → Int32 → Mem → Option (Int32 × Mem)
  | 0, _, _ => none
  | n + 1, x2, w => if x2 < 160 then (if (w 1 0 5) = 7 then (Option.bind (f_X1_next  w) (fun r5 => Option.bind (rc 2 x1 r5) (fun r6 => if r6.1 = 0 then (some (0, r6.2)) else (Option.bind (f_X1_write (-8) r6.2) (fun r8 => (h_X1_readsAnd_16 rc x1 k58 n) (x2 + 1) r8))))) else (k58 w)) else (k58 w)
set_option maxRecDepth 100000 in
theorem h_X1_readsAnd_16_ok (l : Launch) (X : XC) {N9 : Nat} (hN : 39 ≤ N9) (rc : Nat → Int32 → Mem → Option (Int32 × Mem)) (x1 : Int32) (k58 : Mem → Option (Int32 × Mem)) (m : Nat) (hrc0 : ∀ (a : Int32) (w : Mem), Ct l X (m + 6) yX1_readsE cX1_readsE 3 (some .boolean) emI [.inr (.inr (some (1, 0))), .inl a] N9 flT w (rc 0 a w)) (hrc1 : ∀ (a : Int32) (w : Mem), Ct l X (m + 6) yX1_readsAnd cX1_readsAnd 3 (some .boolean) emI [.inr (.inr (some (1, 0))), .inl a] N9 flT w (rc 1 a w)) (hrc2 : ∀ (a : Int32) (w : Mem), Ct l X (m + 6) yX1_readsNot cX1_readsNot 3 (some .boolean) emI [.inr (.inr (some (1, 0))), .inl a] N9 flT w (rc 2 a w)) (hrc3 : ∀ (a : Int32) (w : Mem), Ct l X (m + 6) yX1_readsSum cX1_readsSum 4 (some .boolean) emI [.inr (.inr (some (1, 0))), .inl a] N9 flT w (rc 3 a w)) (hrc4 : ∀ (a : Int32) (w : Mem), Ct l X (m + 6) yX1_readsTerm cX1_readsTerm 3 (some .boolean) emI [.inr (.inr (some (1, 0))), .inl a] N9 flT w (rc 4 a w)) (hrc5 : ∀ (a : Int32) (w : Mem), Ct l X (m + 6) yX1_readsOne cX1_readsOne 3 (some .boolean) emI [.inr (.inr (some (1, 0))), .inl a] N9 flT w (rc 5 a w)) (hk58 : ∀  (w : Mem), GE l X mm_X1_readsAnd (m + 7) emI N9 flT (k58 w) 58 [none, none, none] [] w) : ∀ (n : Nat) (x2 : Int32) (w : Mem), GE l X mm_X1_readsAnd (m + 7) emI N9 flT ((h_X1_readsAnd_16 rc x1 k58 n) x2 w) 16 [some (.inr (.inr (some (1, 0)))), some (.inl x1), some (.inl x2)] [] w := by
  intro n
  induction n with
  | zero => intro x2 w; exact GE_none
  | succ n ih =>
    intro x2 w
    unfold h_X1_readsAnd_16
    refine GE_run (flG_T hN) (pc1 := 20) (L1 := [some (.inr (.inr (some (1, 0)))), some (.inl x1), some (.inl x2)]) (S1 := [.inl 160, .inl x2]) (w1 := w) (P := True) [(.iload_n 2, 0, 0, 0, 0), (.sipush 160, 0, 0, 160, 0)] (by decide +kernel) rfl trivial ?_
    refine GE_icmpN (k := .ge) (off := 38) (tgt := 58) (by decide +kernel) (by decide) (cnd_ge _ _) (fun c3 => ?_) (fun c3 => ?_)
    · exact GE_weak [false, false, false] (hk58 w)
    · refine GE_run (flG_T hN) (pc1 := 29) (L1 := [some (.inr (.inr (some (1, 0)))), some (.inl x1), some (.inl x2)]) (S1 := [.inl 7, .inl (w 1 0 5)]) (w1 := w) (P := True) [(.aload_n 0, 0, 0, 0, 0), (.getfield 38, 1, 5, 0, 0), (.bipush 7, 0, 0, 7, 0)] (by decide +kernel) rfl trivial ?_
      refine GE_icmpN (k := .ne) (off := 29) (tgt := 58) (by decide +kernel) (by decide) (cnd_ne _ _) (fun c4 => ?_) (fun c4 => ?_)
      · exact GE_weak [false, false, false] (hk58 w)
      · refine GE_run (flG_T hN) (pc1 := 33) (L1 := [some (.inr (.inr (some (1, 0)))), some (.inl x1), some (.inl x2)]) (S1 := [.inr (.inr (some (1, 0)))]) (w1 := w) (P := True) [(.aload_n 0, 0, 0, 0, 0)] (by decide +kernel) rfl trivial ?_
        refine GE_callVV (As := []) (k := 1) (i := 0) (S := []) (t_X1_next l X hN w) (by decide) ⟨me_X1_next, mi_X1_next, mv_X1_next, lk_X1_35⟩ rfl (by decide +kernel) rfl (by omega) (by decide) (Nat.le_of_ble_eq_true rfl) (fun r5 _ => ?_)
        refine GE_run (flG_T hN) (pc1 := 38) (L1 := [some (.inr (.inr (some (1, 0)))), some (.inl x1), some (.inl x2)]) (S1 := [.inl x1, .inr (.inr (some (1, 0)))]) (w1 := r5) (P := True) [(.aload_n 0, 0, 0, 0, 0), (.iload_n 1, 0, 0, 0, 0)] (by decide +kernel) rfl trivial ?_
        refine GE_callSI (As := [.inr (.inr (some (1, 0))), .inl x1]) (S := []) (hrc2 x1 r5) ⟨me_X1_readsNot, ms_X1_readsNot, lk_X1_55⟩ (by decide +kernel) rfl (by omega) (by decide) (Nat.le_of_ble_eq_true rfl) (fun r6 _ => ?_)
        refine GE_ifN (k := .ne) (off := 5) (tgt := 46) (by decide +kernel) (by decide) (cnd_ne _ _) (fun c7 => ?_) (fun c7 => ?_)
        · refine GE_run (flG_T hN) (pc1 := 49) (L1 := [some (.inr (.inr (some (1, 0)))), some (.inl x1), some (.inl x2)]) (S1 := [.inl (-8), .inr (.inr (some (1, 0)))]) (w1 := r6.2) (P := True) [(.aload_n 0, 0, 0, 0, 0), (.bipush (-8), 0, 0, -8, 0)] (by decide +kernel) rfl trivial ?_
          refine GE_callVV (As := [.inl (-8)]) (k := 1) (i := 0) (S := []) (t_X1_write l X hN (-8) r6.2) (by decide) ⟨me_X1_write, mi_X1_write, mv_X1_write, lk_X1_51⟩ rfl (by decide +kernel) rfl (by omega) (by decide) (Nat.le_of_ble_eq_true rfl) (fun r8 _ => ?_)
          refine GE_run (flG_T hN) (pc1 := 16) (L1 := [some (.inr (.inr (some (1, 0)))), some (.inl x1), some (.inl (x2 + 1))]) (S1 := []) (w1 := r8) (P := True) [(.iinc 2 1, 0, 0, 1, 0), (.goto (-39), 0, 0, 0, 0)] (by decide +kernel) rfl trivial ?_
          exact GE_weak [true, true, true] (ih (x2 + 1) r8)
        · refine GE_run (flG_T hN) (pc1 := 45) (L1 := [some (.inr (.inr (some (1, 0)))), some (.inl x1), some (.inl x2)]) (S1 := [.inl 0]) (w1 := r6.2) (P := True) [(.iconst 0, 0, 0, 0, 0)] (by decide +kernel) rfl trivial ?_
          exact GE_zret (ty := .boolean) rfl (by decide +kernel) (by decide +kernel)
noncomputable def f_X1_readsAnd (rc : Nat → Int32 → Mem → Option (Int32 × Mem)) (a2 : Int32) (w : Mem) : Option (Int32 × Mem) := Option.bind (rc 2 a2 w) (fun r1 => if r1.1 = 0 then (some (0, r1.2)) else (h_X1_readsAnd_16 rc a2 (fun w9 => some (1, w9)) FU 0 r1.2))
set_option maxRecDepth 100000 in
theorem t_X1_readsAnd (l : Launch) (X : XC) {N9 : Nat} (hN : 39 ≤ N9)  (rc : Nat → Int32 → Mem → Option (Int32 × Mem)) (a2 : Int32) (m : Nat) (hrc0 : ∀ (a : Int32) (w : Mem), Ct l X (m + 6) yX1_readsE cX1_readsE 3 (some .boolean) emI [.inr (.inr (some (1, 0))), .inl a] N9 flT w (rc 0 a w)) (hrc1 : ∀ (a : Int32) (w : Mem), Ct l X (m + 6) yX1_readsAnd cX1_readsAnd 3 (some .boolean) emI [.inr (.inr (some (1, 0))), .inl a] N9 flT w (rc 1 a w)) (hrc2 : ∀ (a : Int32) (w : Mem), Ct l X (m + 6) yX1_readsNot cX1_readsNot 3 (some .boolean) emI [.inr (.inr (some (1, 0))), .inl a] N9 flT w (rc 2 a w)) (hrc3 : ∀ (a : Int32) (w : Mem), Ct l X (m + 6) yX1_readsSum cX1_readsSum 4 (some .boolean) emI [.inr (.inr (some (1, 0))), .inl a] N9 flT w (rc 3 a w)) (hrc4 : ∀ (a : Int32) (w : Mem), Ct l X (m + 6) yX1_readsTerm cX1_readsTerm 3 (some .boolean) emI [.inr (.inr (some (1, 0))), .inl a] N9 flT w (rc 4 a w)) (hrc5 : ∀ (a : Int32) (w : Mem), Ct l X (m + 6) yX1_readsOne cX1_readsOne 3 (some .boolean) emI [.inr (.inr (some (1, 0))), .inl a] N9 flT w (rc 5 a w)) (w : Mem) : Ct l X (m + 7) yX1_readsAnd cX1_readsAnd 3 (some .boolean) emI [.inr (.inr (some (1, 0))), .inl a2] N9 flT w (f_X1_readsAnd rc a2 w) := by
  refine Ct_of (mi := mm_X1_readsAnd) (mik_X1 _ _ _) me_X1_readsAnd rfl (okAs_cons (okMV hN (by decide)) (okAs_cons rfl okAs_nil)) (Nat.le_of_ble_eq_true rfl) ?_
  unfold f_X1_readsAnd
  refine GE_run (flG_T hN) (pc1 := 1) (L1 := [some (.inr (.inr (some (1, 0)))), some (.inl a2), none]) (S1 := [.inr (.inr (some (1, 0)))]) (w1 := w) (P := True) [(.aload_n 0, 0, 0, 0, 0)] (by decide +kernel) rfl trivial ?_
  refine GE_null1 (off := 11) (by decide +kernel) ?_
  refine GE_run (flG_T hN) (pc1 := 6) (L1 := [some (.inr (.inr (some (1, 0)))), some (.inl a2), none]) (S1 := [.inl a2, .inr (.inr (some (1, 0)))]) (w1 := w) (P := True) [(.aload_n 0, 0, 0, 0, 0), (.iload_n 1, 0, 0, 0, 0)] (by decide +kernel) rfl trivial ?_
  refine GE_callSI (As := [.inr (.inr (some (1, 0))), .inl a2]) (S := []) (hrc2 a2 w) ⟨me_X1_readsNot, ms_X1_readsNot, lk_X1_55⟩ (by decide +kernel) rfl (by omega) (by decide) (Nat.le_of_ble_eq_true rfl) (fun r1 _ => ?_)
  refine GE_ifN (k := .ne) (off := 5) (tgt := 14) (by decide +kernel) (by decide) (cnd_ne _ _) (fun c2 => ?_) (fun c2 => ?_)
  · refine GE_run (flG_T hN) (pc1 := 16) (L1 := [some (.inr (.inr (some (1, 0)))), some (.inl a2), some (.inl 0)]) (S1 := []) (w1 := r1.2) (P := True) [(.iconst 0, 0, 0, 0, 0), (.istore_n 2, 0, 0, 0, 0)] (by decide +kernel) rfl trivial ?_
    refine GE_weak [true, true, true] (h_X1_readsAnd_16_ok l X hN rc a2 _ m hrc0 hrc1 hrc2 hrc3 hrc4 hrc5 ?_ FU 0 r1.2)
    · intro w9
      refine GE_run (flG_T hN) (pc1 := 59) (L1 := [none, none, none]) (S1 := [.inl 1]) (w1 := w9) (P := True) [(.iconst 1, 0, 0, 1, 0)] (by decide +kernel) rfl trivial ?_
      exact GE_zret (ty := .boolean) rfl (by decide +kernel) (by decide +kernel)
  · refine GE_run (flG_T hN) (pc1 := 13) (L1 := [some (.inr (.inr (some (1, 0)))), some (.inl a2), none]) (S1 := [.inl 0]) (w1 := r1.2) (P := True) [(.iconst 0, 0, 0, 0, 0)] (by decide +kernel) rfl trivial ?_
    exact GE_zret (ty := .boolean) rfl (by decide +kernel) (by decide +kernel)
abbrev mm_X1_readsNot : MI := (RX1, cX1_readsNot, 3, (some .boolean), ftp_X1.map (fun q => q.1), ctp_X1.map (fun q => q.1), clp_X1.map (fun q => q.1))
noncomputable def j_X1_readsNot_80 (rc : Nat → Int32 → Mem → Option (Int32 × Mem))  (x1 : Int32) (x2 : Int32) (w : Mem) : Option (Int32 × Mem) := Option.bind (f_X1_next  w) (fun r11 => Option.bind (rc 3 x1 r11) (fun r12 => if r12.1 = 0 then (some (0, r12.2)) else (if x2 = 60 then (Option.bind (f_X1_write (-10) r12.2) (fun r15 => some (1, r15))) else (Option.bind (f_X1_write (-11) r12.2) (fun r16 => some (1, r16))))))
set_option maxRecDepth 100000 in
theorem j_X1_readsNot_80_ok (l : Launch) (X : XC) {N9 : Nat} (hN : 39 ≤ N9) (rc : Nat → Int32 → Mem → Option (Int32 × Mem))  (x1 : Int32) (x2 : Int32) (m : Nat) (hrc0 : ∀ (a : Int32) (w : Mem), Ct l X (m + 6) yX1_readsE cX1_readsE 3 (some .boolean) emI [.inr (.inr (some (1, 0))), .inl a] N9 flT w (rc 0 a w)) (hrc1 : ∀ (a : Int32) (w : Mem), Ct l X (m + 6) yX1_readsAnd cX1_readsAnd 3 (some .boolean) emI [.inr (.inr (some (1, 0))), .inl a] N9 flT w (rc 1 a w)) (hrc2 : ∀ (a : Int32) (w : Mem), Ct l X (m + 6) yX1_readsNot cX1_readsNot 3 (some .boolean) emI [.inr (.inr (some (1, 0))), .inl a] N9 flT w (rc 2 a w)) (hrc3 : ∀ (a : Int32) (w : Mem), Ct l X (m + 6) yX1_readsSum cX1_readsSum 4 (some .boolean) emI [.inr (.inr (some (1, 0))), .inl a] N9 flT w (rc 3 a w)) (hrc4 : ∀ (a : Int32) (w : Mem), Ct l X (m + 6) yX1_readsTerm cX1_readsTerm 3 (some .boolean) emI [.inr (.inr (some (1, 0))), .inl a] N9 flT w (rc 4 a w)) (hrc5 : ∀ (a : Int32) (w : Mem), Ct l X (m + 6) yX1_readsOne cX1_readsOne 3 (some .boolean) emI [.inr (.inr (some (1, 0))), .inl a] N9 flT w (rc 5 a w))  (w : Mem) : GE l X mm_X1_readsNot (m + 7) emI N9 flT (j_X1_readsNot_80 rc x1 x2 w) 80 [some (.inr (.inr (some (1, 0)))), some (.inl x1), some (.inl x2)] [] w := by
  unfold j_X1_readsNot_80
  refine GE_run (flG_T hN) (pc1 := 81) (L1 := [some (.inr (.inr (some (1, 0)))), some (.inl x1), some (.inl x2)]) (S1 := [.inr (.inr (some (1, 0)))]) (w1 := w) (P := True) [(.aload_n 0, 0, 0, 0, 0)] (by decide +kernel) rfl trivial ?_
  refine GE_callVV (As := []) (k := 1) (i := 0) (S := []) (t_X1_next l X hN w) (by decide) ⟨me_X1_next, mi_X1_next, mv_X1_next, lk_X1_35⟩ rfl (by decide +kernel) rfl (by omega) (by decide) (Nat.le_of_ble_eq_true rfl) (fun r11 _ => ?_)
  refine GE_run (flG_T hN) (pc1 := 86) (L1 := [some (.inr (.inr (some (1, 0)))), some (.inl x1), some (.inl x2)]) (S1 := [.inl x1, .inr (.inr (some (1, 0)))]) (w1 := r11) (P := True) [(.aload_n 0, 0, 0, 0, 0), (.iload_n 1, 0, 0, 0, 0)] (by decide +kernel) rfl trivial ?_
  refine GE_callSI (As := [.inr (.inr (some (1, 0))), .inl x1]) (S := []) (hrc3 x1 r11) ⟨me_X1_readsSum, ms_X1_readsSum, lk_X1_58⟩ (by decide +kernel) rfl (by omega) (by decide) (Nat.le_of_ble_eq_true rfl) (fun r12 _ => ?_)
  refine GE_ifN (k := .ne) (off := 5) (tgt := 94) (by decide +kernel) (by decide) (cnd_ne _ _) (fun c13 => ?_) (fun c13 => ?_)
  · refine GE_run (flG_T hN) (pc1 := 98) (L1 := [some (.inr (.inr (some (1, 0)))), some (.inl x1), some (.inl x2)]) (S1 := [.inl 60, .inl x2, .inr (.inr (some (1, 0)))]) (w1 := r12.2) (P := True) [(.aload_n 0, 0, 0, 0, 0), (.iload_n 2, 0, 0, 0, 0), (.bipush 60, 0, 0, 60, 0)] (by decide +kernel) rfl trivial ?_
    refine GE_icmpN (k := .ne) (off := 8) (tgt := 106) (by decide +kernel) (by decide) (cnd_ne _ _) (fun c14 => ?_) (fun c14 => ?_)
    · refine GE_run (flG_T hN) (pc1 := 108) (L1 := [some (.inr (.inr (some (1, 0)))), some (.inl x1), some (.inl x2)]) (S1 := [.inl (-11), .inr (.inr (some (1, 0)))]) (w1 := r12.2) (P := True) [(.bipush (-11), 0, 0, -11, 0)] (by decide +kernel) rfl trivial ?_
      refine GE_callVV (As := [.inl (-11)]) (k := 1) (i := 0) (S := []) (t_X1_write l X hN (-11) r12.2) (by decide) ⟨me_X1_write, mi_X1_write, mv_X1_write, lk_X1_51⟩ rfl (by decide +kernel) rfl (by omega) (by decide) (Nat.le_of_ble_eq_true rfl) (fun r16 _ => ?_)
      refine GE_run (flG_T hN) (pc1 := 112) (L1 := [some (.inr (.inr (some (1, 0)))), some (.inl x1), some (.inl x2)]) (S1 := [.inl 1]) (w1 := r16) (P := True) [(.iconst 1, 0, 0, 1, 0)] (by decide +kernel) rfl trivial ?_
      exact GE_zret (ty := .boolean) rfl (by decide +kernel) (by decide +kernel)
    · refine GE_run (flG_T hN) (pc1 := 108) (L1 := [some (.inr (.inr (some (1, 0)))), some (.inl x1), some (.inl x2)]) (S1 := [.inl (-10), .inr (.inr (some (1, 0)))]) (w1 := r12.2) (P := True) [(.bipush (-10), 0, 0, -10, 0), (.goto 5, 0, 0, 0, 0)] (by decide +kernel) rfl trivial ?_
      refine GE_callVV (As := [.inl (-10)]) (k := 1) (i := 0) (S := []) (t_X1_write l X hN (-10) r12.2) (by decide) ⟨me_X1_write, mi_X1_write, mv_X1_write, lk_X1_51⟩ rfl (by decide +kernel) rfl (by omega) (by decide) (Nat.le_of_ble_eq_true rfl) (fun r15 _ => ?_)
      refine GE_run (flG_T hN) (pc1 := 112) (L1 := [some (.inr (.inr (some (1, 0)))), some (.inl x1), some (.inl x2)]) (S1 := [.inl 1]) (w1 := r15) (P := True) [(.iconst 1, 0, 0, 1, 0)] (by decide +kernel) rfl trivial ?_
      exact GE_zret (ty := .boolean) rfl (by decide +kernel) (by decide +kernel)
  · refine GE_run (flG_T hN) (pc1 := 93) (L1 := [some (.inr (.inr (some (1, 0)))), some (.inl x1), some (.inl x2)]) (S1 := [.inl 0]) (w1 := r12.2) (P := True) [(.iconst 0, 0, 0, 0, 0)] (by decide +kernel) rfl trivial ?_
    exact GE_zret (ty := .boolean) rfl (by decide +kernel) (by decide +kernel)
noncomputable def j_X1_readsNot_20 (rc : Nat → Int32 → Mem → Option (Int32 × Mem))  (x1 : Int32) (w : Mem) : Option (Int32 × Mem) := if (w 1 0 5) = 8 then (Option.bind (f_X1_next  w) (fun r4 => Option.bind (rc 2 (x1 + 1) r4) (fun r5 => if r5.1 = 0 then (some (0, r5.2)) else (Option.bind (f_X1_write (-9) r5.2) (fun r7 => some (1, r7)))))) else (Option.bind (rc 3 x1 w) (fun r8 => if r8.1 = 0 then (some (0, r8.2)) else (if (r8.2 1 0 5) = 60 then (j_X1_readsNot_80 rc x1 (r8.2 1 0 5) r8.2) else (if (r8.2 1 0 5) = 61 then (j_X1_readsNot_80 rc x1 (r8.2 1 0 5) r8.2) else (some (1, r8.2))))))
set_option maxRecDepth 100000 in
theorem j_X1_readsNot_20_ok (l : Launch) (X : XC) {N9 : Nat} (hN : 39 ≤ N9) (rc : Nat → Int32 → Mem → Option (Int32 × Mem))  (x1 : Int32) (m : Nat) (hrc0 : ∀ (a : Int32) (w : Mem), Ct l X (m + 6) yX1_readsE cX1_readsE 3 (some .boolean) emI [.inr (.inr (some (1, 0))), .inl a] N9 flT w (rc 0 a w)) (hrc1 : ∀ (a : Int32) (w : Mem), Ct l X (m + 6) yX1_readsAnd cX1_readsAnd 3 (some .boolean) emI [.inr (.inr (some (1, 0))), .inl a] N9 flT w (rc 1 a w)) (hrc2 : ∀ (a : Int32) (w : Mem), Ct l X (m + 6) yX1_readsNot cX1_readsNot 3 (some .boolean) emI [.inr (.inr (some (1, 0))), .inl a] N9 flT w (rc 2 a w)) (hrc3 : ∀ (a : Int32) (w : Mem), Ct l X (m + 6) yX1_readsSum cX1_readsSum 4 (some .boolean) emI [.inr (.inr (some (1, 0))), .inl a] N9 flT w (rc 3 a w)) (hrc4 : ∀ (a : Int32) (w : Mem), Ct l X (m + 6) yX1_readsTerm cX1_readsTerm 3 (some .boolean) emI [.inr (.inr (some (1, 0))), .inl a] N9 flT w (rc 4 a w)) (hrc5 : ∀ (a : Int32) (w : Mem), Ct l X (m + 6) yX1_readsOne cX1_readsOne 3 (some .boolean) emI [.inr (.inr (some (1, 0))), .inl a] N9 flT w (rc 5 a w))  (w : Mem) : GE l X mm_X1_readsNot (m + 7) emI N9 flT (j_X1_readsNot_20 rc x1 w) 20 [some (.inr (.inr (some (1, 0)))), some (.inl x1), none] [] w := by
  unfold j_X1_readsNot_20
  refine GE_run (flG_T hN) (pc1 := 26) (L1 := [some (.inr (.inr (some (1, 0)))), some (.inl x1), none]) (S1 := [.inl 8, .inl (w 1 0 5)]) (w1 := w) (P := True) [(.aload_n 0, 0, 0, 0, 0), (.getfield 38, 1, 5, 0, 0), (.bipush 8, 0, 0, 8, 0)] (by decide +kernel) rfl trivial ?_
  refine GE_icmpN (k := .ne) (off := 27) (tgt := 53) (by decide +kernel) (by decide) (cnd_ne _ _) (fun c3 => ?_) (fun c3 => ?_)
  · refine GE_run (flG_T hN) (pc1 := 55) (L1 := [some (.inr (.inr (some (1, 0)))), some (.inl x1), none]) (S1 := [.inl x1, .inr (.inr (some (1, 0)))]) (w1 := w) (P := True) [(.aload_n 0, 0, 0, 0, 0), (.iload_n 1, 0, 0, 0, 0)] (by decide +kernel) rfl trivial ?_
    refine GE_callSI (As := [.inr (.inr (some (1, 0))), .inl x1]) (S := []) (hrc3 x1 w) ⟨me_X1_readsSum, ms_X1_readsSum, lk_X1_58⟩ (by decide +kernel) rfl (by omega) (by decide) (Nat.le_of_ble_eq_true rfl) (fun r8 _ => ?_)
    refine GE_ifN (k := .ne) (off := 5) (tgt := 63) (by decide +kernel) (by decide) (cnd_ne _ _) (fun c9 => ?_) (fun c9 => ?_)
    · refine GE_run (flG_T hN) (pc1 := 71) (L1 := [some (.inr (.inr (some (1, 0)))), some (.inl x1), some (.inl (r8.2 1 0 5))]) (S1 := [.inl 60, .inl (r8.2 1 0 5)]) (w1 := r8.2) (P := True) [(.aload_n 0, 0, 0, 0, 0), (.getfield 38, 1, 5, 0, 0), (.istore_n 2, 0, 0, 0, 0), (.iload_n 2, 0, 0, 0, 0), (.bipush 60, 0, 0, 60, 0)] (by decide +kernel) rfl trivial ?_
      refine GE_icmp (k := .eq) (off := 9) (tgt := 80) (by decide +kernel) (by decide) (cnd_eq _ _) (fun c10 => ?_) (fun c10 => ?_)
      · exact GE_weak [true, true, true] (j_X1_readsNot_80_ok l X hN rc x1 (r8.2 1 0 5) m hrc0 hrc1 hrc2 hrc3 hrc4 hrc5 r8.2)
      · refine GE_run (flG_T hN) (pc1 := 77) (L1 := [some (.inr (.inr (some (1, 0)))), some (.inl x1), some (.inl (r8.2 1 0 5))]) (S1 := [.inl 61, .inl (r8.2 1 0 5)]) (w1 := r8.2) (P := True) [(.iload_n 2, 0, 0, 0, 0), (.bipush 61, 0, 0, 61, 0)] (by decide +kernel) rfl trivial ?_
        refine GE_icmpN (k := .ne) (off := 34) (tgt := 111) (by decide +kernel) (by decide) (cnd_ne _ _) (fun c17 => ?_) (fun c17 => ?_)
        · refine GE_run (flG_T hN) (pc1 := 112) (L1 := [some (.inr (.inr (some (1, 0)))), some (.inl x1), some (.inl (r8.2 1 0 5))]) (S1 := [.inl 1]) (w1 := r8.2) (P := True) [(.iconst 1, 0, 0, 1, 0)] (by decide +kernel) rfl trivial ?_
          exact GE_zret (ty := .boolean) rfl (by decide +kernel) (by decide +kernel)
        · exact GE_weak [true, true, true] (j_X1_readsNot_80_ok l X hN rc x1 (r8.2 1 0 5) m hrc0 hrc1 hrc2 hrc3 hrc4 hrc5 r8.2)
    · refine GE_run (flG_T hN) (pc1 := 62) (L1 := [some (.inr (.inr (some (1, 0)))), some (.inl x1), none]) (S1 := [.inl 0]) (w1 := r8.2) (P := True) [(.iconst 0, 0, 0, 0, 0)] (by decide +kernel) rfl trivial ?_
      exact GE_zret (ty := .boolean) rfl (by decide +kernel) (by decide +kernel)
  · refine GE_run (flG_T hN) (pc1 := 30) (L1 := [some (.inr (.inr (some (1, 0)))), some (.inl x1), none]) (S1 := [.inr (.inr (some (1, 0)))]) (w1 := w) (P := True) [(.aload_n 0, 0, 0, 0, 0)] (by decide +kernel) rfl trivial ?_
    refine GE_callVV (As := []) (k := 1) (i := 0) (S := []) (t_X1_next l X hN w) (by decide) ⟨me_X1_next, mi_X1_next, mv_X1_next, lk_X1_35⟩ rfl (by decide +kernel) rfl (by omega) (by decide) (Nat.le_of_ble_eq_true rfl) (fun r4 _ => ?_)
    refine GE_run (flG_T hN) (pc1 := 37) (L1 := [some (.inr (.inr (some (1, 0)))), some (.inl x1), none]) (S1 := [.inl (x1 + 1), .inr (.inr (some (1, 0)))]) (w1 := r4) (P := True) [(.aload_n 0, 0, 0, 0, 0), (.iload_n 1, 0, 0, 0, 0), (.iconst 1, 0, 0, 1, 0), (.iadd, 0, 0, 0, 0)] (by decide +kernel) rfl trivial ?_
    refine GE_callSI (As := [.inr (.inr (some (1, 0))), .inl (x1 + 1)]) (S := []) (hrc2 (x1 + 1) r4) ⟨me_X1_readsNot, ms_X1_readsNot, lk_X1_55⟩ (by decide +kernel) rfl (by omega) (by decide) (Nat.le_of_ble_eq_true rfl) (fun r5 _ => ?_)
    refine GE_ifN (k := .ne) (off := 5) (tgt := 45) (by decide +kernel) (by decide) (cnd_ne _ _) (fun c6 => ?_) (fun c6 => ?_)
    · refine GE_run (flG_T hN) (pc1 := 48) (L1 := [some (.inr (.inr (some (1, 0)))), some (.inl x1), none]) (S1 := [.inl (-9), .inr (.inr (some (1, 0)))]) (w1 := r5.2) (P := True) [(.aload_n 0, 0, 0, 0, 0), (.bipush (-9), 0, 0, -9, 0)] (by decide +kernel) rfl trivial ?_
      refine GE_callVV (As := [.inl (-9)]) (k := 1) (i := 0) (S := []) (t_X1_write l X hN (-9) r5.2) (by decide) ⟨me_X1_write, mi_X1_write, mv_X1_write, lk_X1_51⟩ rfl (by decide +kernel) rfl (by omega) (by decide) (Nat.le_of_ble_eq_true rfl) (fun r7 _ => ?_)
      refine GE_run (flG_T hN) (pc1 := 52) (L1 := [some (.inr (.inr (some (1, 0)))), some (.inl x1), none]) (S1 := [.inl 1]) (w1 := r7) (P := True) [(.iconst 1, 0, 0, 1, 0)] (by decide +kernel) rfl trivial ?_
      exact GE_zret (ty := .boolean) rfl (by decide +kernel) (by decide +kernel)
    · refine GE_run (flG_T hN) (pc1 := 44) (L1 := [some (.inr (.inr (some (1, 0)))), some (.inl x1), none]) (S1 := [.inl 0]) (w1 := r5.2) (P := True) [(.iconst 0, 0, 0, 0, 0)] (by decide +kernel) rfl trivial ?_
      exact GE_zret (ty := .boolean) rfl (by decide +kernel) (by decide +kernel)
noncomputable def f_X1_readsNot (rc : Nat → Int32 → Mem → Option (Int32 × Mem)) (a2 : Int32) (w : Mem) : Option (Int32 × Mem) := if (w 1 0 5) = 8 then (if a2 < 5 then (j_X1_readsNot_20 rc a2 w) else (some (0, w))) else (j_X1_readsNot_20 rc a2 w)
set_option maxRecDepth 100000 in
theorem t_X1_readsNot (l : Launch) (X : XC) {N9 : Nat} (hN : 39 ≤ N9)  (rc : Nat → Int32 → Mem → Option (Int32 × Mem)) (a2 : Int32) (m : Nat) (hrc0 : ∀ (a : Int32) (w : Mem), Ct l X (m + 6) yX1_readsE cX1_readsE 3 (some .boolean) emI [.inr (.inr (some (1, 0))), .inl a] N9 flT w (rc 0 a w)) (hrc1 : ∀ (a : Int32) (w : Mem), Ct l X (m + 6) yX1_readsAnd cX1_readsAnd 3 (some .boolean) emI [.inr (.inr (some (1, 0))), .inl a] N9 flT w (rc 1 a w)) (hrc2 : ∀ (a : Int32) (w : Mem), Ct l X (m + 6) yX1_readsNot cX1_readsNot 3 (some .boolean) emI [.inr (.inr (some (1, 0))), .inl a] N9 flT w (rc 2 a w)) (hrc3 : ∀ (a : Int32) (w : Mem), Ct l X (m + 6) yX1_readsSum cX1_readsSum 4 (some .boolean) emI [.inr (.inr (some (1, 0))), .inl a] N9 flT w (rc 3 a w)) (hrc4 : ∀ (a : Int32) (w : Mem), Ct l X (m + 6) yX1_readsTerm cX1_readsTerm 3 (some .boolean) emI [.inr (.inr (some (1, 0))), .inl a] N9 flT w (rc 4 a w)) (hrc5 : ∀ (a : Int32) (w : Mem), Ct l X (m + 6) yX1_readsOne cX1_readsOne 3 (some .boolean) emI [.inr (.inr (some (1, 0))), .inl a] N9 flT w (rc 5 a w)) (w : Mem) : Ct l X (m + 7) yX1_readsNot cX1_readsNot 3 (some .boolean) emI [.inr (.inr (some (1, 0))), .inl a2] N9 flT w (f_X1_readsNot rc a2 w) := by
  refine Ct_of (mi := mm_X1_readsNot) (mik_X1 _ _ _) me_X1_readsNot rfl (okAs_cons (okMV hN (by decide)) (okAs_cons rfl okAs_nil)) (Nat.le_of_ble_eq_true rfl) ?_
  unfold f_X1_readsNot
  refine GE_run (flG_T hN) (pc1 := 1) (L1 := [some (.inr (.inr (some (1, 0)))), some (.inl a2), none]) (S1 := [.inr (.inr (some (1, 0)))]) (w1 := w) (P := True) [(.aload_n 0, 0, 0, 0, 0)] (by decide +kernel) rfl trivial ?_
  refine GE_null1 (off := 17) (by decide +kernel) ?_
  refine GE_run (flG_T hN) (pc1 := 10) (L1 := [some (.inr (.inr (some (1, 0)))), some (.inl a2), none]) (S1 := [.inl 8, .inl (w 1 0 5)]) (w1 := w) (P := True) [(.aload_n 0, 0, 0, 0, 0), (.getfield 38, 1, 5, 0, 0), (.bipush 8, 0, 0, 8, 0)] (by decide +kernel) rfl trivial ?_
  refine GE_icmpN (k := .ne) (off := 10) (tgt := 20) (by decide +kernel) (by decide) (cnd_ne _ _) (fun c1 => ?_) (fun c1 => ?_)
  · exact GE_weak [true, true, false] (j_X1_readsNot_20_ok l X hN rc a2 m hrc0 hrc1 hrc2 hrc3 hrc4 hrc5 w)
  · refine GE_run (flG_T hN) (pc1 := 15) (L1 := [some (.inr (.inr (some (1, 0)))), some (.inl a2), none]) (S1 := [.inl 5, .inl a2]) (w1 := w) (P := True) [(.iload_n 1, 0, 0, 0, 0), (.iconst 5, 0, 0, 5, 0)] (by decide +kernel) rfl trivial ?_
    refine GE_icmp (k := .lt) (off := 5) (tgt := 20) (by decide +kernel) (by decide) (cnd_lt _ _) (fun c2 => ?_) (fun c2 => ?_)
    · exact GE_weak [true, true, false] (j_X1_readsNot_20_ok l X hN rc a2 m hrc0 hrc1 hrc2 hrc3 hrc4 hrc5 w)
    · refine GE_run (flG_T hN) (pc1 := 19) (L1 := [some (.inr (.inr (some (1, 0)))), some (.inl a2), none]) (S1 := [.inl 0]) (w1 := w) (P := True) [(.iconst 0, 0, 0, 0, 0)] (by decide +kernel) rfl trivial ?_
      exact GE_zret (ty := .boolean) rfl (by decide +kernel) (by decide +kernel)
abbrev mm_X1_readsSum : MI := (RX1, cX1_readsSum, 4, (some .boolean), ftp_X1.map (fun q => q.1), ctp_X1.map (fun q => q.1), clp_X1.map (fun q => q.1))
noncomputable def j_X1_readsSum_41 (rc : Nat → Int32 → Mem → Option (Int32 × Mem)) (kl16 : Int32 → Mem → Option (Int32 × Mem)) (x1 : Int32) (x2 : Int32) (w : Mem) : Option (Int32 × Mem) := Option.bind (f_X1_next  w) (fun r5 => Option.bind (rc 4 x1 r5) (fun r6 => if r6.1 = 0 then (some (0, r6.2)) else (if (w 1 0 5) = 43 then (Option.bind (f_X1_write (-12) r6.2) (fun r9 => kl16 (x2 + 1) r9)) else (Option.bind (f_X1_write (-13) r6.2) (fun r10 => kl16 (x2 + 1) r10)))))
set_option maxRecDepth 100000 in
theorem j_X1_readsSum_41_ok (l : Launch) (X : XC) {N9 : Nat} (hN : 39 ≤ N9) (rc : Nat → Int32 → Mem → Option (Int32 × Mem)) (kl16 : Int32 → Mem → Option (Int32 × Mem)) (x1 : Int32) (x2 : Int32) (m : Nat) (hrc0 : ∀ (a : Int32) (w : Mem), Ct l X (m + 6) yX1_readsE cX1_readsE 3 (some .boolean) emI [.inr (.inr (some (1, 0))), .inl a] N9 flT w (rc 0 a w)) (hrc1 : ∀ (a : Int32) (w : Mem), Ct l X (m + 6) yX1_readsAnd cX1_readsAnd 3 (some .boolean) emI [.inr (.inr (some (1, 0))), .inl a] N9 flT w (rc 1 a w)) (hrc2 : ∀ (a : Int32) (w : Mem), Ct l X (m + 6) yX1_readsNot cX1_readsNot 3 (some .boolean) emI [.inr (.inr (some (1, 0))), .inl a] N9 flT w (rc 2 a w)) (hrc3 : ∀ (a : Int32) (w : Mem), Ct l X (m + 6) yX1_readsSum cX1_readsSum 4 (some .boolean) emI [.inr (.inr (some (1, 0))), .inl a] N9 flT w (rc 3 a w)) (hrc4 : ∀ (a : Int32) (w : Mem), Ct l X (m + 6) yX1_readsTerm cX1_readsTerm 3 (some .boolean) emI [.inr (.inr (some (1, 0))), .inl a] N9 flT w (rc 4 a w)) (hrc5 : ∀ (a : Int32) (w : Mem), Ct l X (m + 6) yX1_readsOne cX1_readsOne 3 (some .boolean) emI [.inr (.inr (some (1, 0))), .inl a] N9 flT w (rc 5 a w)) (ih : ∀ (x2 : Int32) (w : Mem), GE l X mm_X1_readsSum (m + 7) emI N9 flT (kl16 x2 w) 16 [some (.inr (.inr (some (1, 0)))), some (.inl x1), some (.inl x2), none] [] w) (w : Mem) : GE l X mm_X1_readsSum (m + 7) emI N9 flT (j_X1_readsSum_41 rc kl16 x1 x2 w) 41 [some (.inr (.inr (some (1, 0)))), some (.inl x1), some (.inl x2), none] [] w := by
  unfold j_X1_readsSum_41
  refine GE_run (flG_T hN) (pc1 := 47) (L1 := [some (.inr (.inr (some (1, 0)))), some (.inl x1), some (.inl x2), some (.inl (w 1 0 5))]) (S1 := [.inr (.inr (some (1, 0)))]) (w1 := w) (P := True) [(.aload_n 0, 0, 0, 0, 0), (.getfield 38, 1, 5, 0, 0), (.istore_n 3, 0, 0, 0, 0), (.aload_n 0, 0, 0, 0, 0)] (by decide +kernel) rfl trivial ?_
  refine GE_callVV (As := []) (k := 1) (i := 0) (S := []) (t_X1_next l X hN w) (by decide) ⟨me_X1_next, mi_X1_next, mv_X1_next, lk_X1_35⟩ rfl (by decide +kernel) rfl (by omega) (by decide) (Nat.le_of_ble_eq_true rfl) (fun r5 _ => ?_)
  refine GE_run (flG_T hN) (pc1 := 52) (L1 := [some (.inr (.inr (some (1, 0)))), some (.inl x1), some (.inl x2), some (.inl (w 1 0 5))]) (S1 := [.inl x1, .inr (.inr (some (1, 0)))]) (w1 := r5) (P := True) [(.aload_n 0, 0, 0, 0, 0), (.iload_n 1, 0, 0, 0, 0)] (by decide +kernel) rfl trivial ?_
  refine GE_callSI (As := [.inr (.inr (some (1, 0))), .inl x1]) (S := []) (hrc4 x1 r5) ⟨me_X1_readsTerm, ms_X1_readsTerm, lk_X1_61⟩ (by decide +kernel) rfl (by omega) (by decide) (Nat.le_of_ble_eq_true rfl) (fun r6 _ => ?_)
  refine GE_ifN (k := .ne) (off := 5) (tgt := 60) (by decide +kernel) (by decide) (cnd_ne _ _) (fun c7 => ?_) (fun c7 => ?_)
  · refine GE_run (flG_T hN) (pc1 := 64) (L1 := [some (.inr (.inr (some (1, 0)))), some (.inl x1), some (.inl x2), some (.inl (w 1 0 5))]) (S1 := [.inl 43, .inl (w 1 0 5), .inr (.inr (some (1, 0)))]) (w1 := r6.2) (P := True) [(.aload_n 0, 0, 0, 0, 0), (.iload_n 3, 0, 0, 0, 0), (.bipush 43, 0, 0, 43, 0)] (by decide +kernel) rfl trivial ?_
    refine GE_icmpN (k := .ne) (off := 8) (tgt := 72) (by decide +kernel) (by decide) (cnd_ne _ _) (fun c8 => ?_) (fun c8 => ?_)
    · refine GE_run (flG_T hN) (pc1 := 74) (L1 := [some (.inr (.inr (some (1, 0)))), some (.inl x1), some (.inl x2), some (.inl (w 1 0 5))]) (S1 := [.inl (-13), .inr (.inr (some (1, 0)))]) (w1 := r6.2) (P := True) [(.bipush (-13), 0, 0, -13, 0)] (by decide +kernel) rfl trivial ?_
      refine GE_callVV (As := [.inl (-13)]) (k := 1) (i := 0) (S := []) (t_X1_write l X hN (-13) r6.2) (by decide) ⟨me_X1_write, mi_X1_write, mv_X1_write, lk_X1_51⟩ rfl (by decide +kernel) rfl (by omega) (by decide) (Nat.le_of_ble_eq_true rfl) (fun r10 _ => ?_)
      refine GE_run (flG_T hN) (pc1 := 16) (L1 := [some (.inr (.inr (some (1, 0)))), some (.inl x1), some (.inl (x2 + 1)), some (.inl (w 1 0 5))]) (S1 := []) (w1 := r10) (P := True) [(.iinc 2 1, 0, 0, 1, 0), (.goto (-64), 0, 0, 0, 0)] (by decide +kernel) rfl trivial ?_
      exact GE_weak [true, true, true, false] (ih (x2 + 1) r10)
    · refine GE_run (flG_T hN) (pc1 := 74) (L1 := [some (.inr (.inr (some (1, 0)))), some (.inl x1), some (.inl x2), some (.inl (w 1 0 5))]) (S1 := [.inl (-12), .inr (.inr (some (1, 0)))]) (w1 := r6.2) (P := True) [(.bipush (-12), 0, 0, -12, 0), (.goto 5, 0, 0, 0, 0)] (by decide +kernel) rfl trivial ?_
      refine GE_callVV (As := [.inl (-12)]) (k := 1) (i := 0) (S := []) (t_X1_write l X hN (-12) r6.2) (by decide) ⟨me_X1_write, mi_X1_write, mv_X1_write, lk_X1_51⟩ rfl (by decide +kernel) rfl (by omega) (by decide) (Nat.le_of_ble_eq_true rfl) (fun r9 _ => ?_)
      refine GE_run (flG_T hN) (pc1 := 16) (L1 := [some (.inr (.inr (some (1, 0)))), some (.inl x1), some (.inl (x2 + 1)), some (.inl (w 1 0 5))]) (S1 := []) (w1 := r9) (P := True) [(.iinc 2 1, 0, 0, 1, 0), (.goto (-64), 0, 0, 0, 0)] (by decide +kernel) rfl trivial ?_
      exact GE_weak [true, true, true, false] (ih (x2 + 1) r9)
  · refine GE_run (flG_T hN) (pc1 := 59) (L1 := [some (.inr (.inr (some (1, 0)))), some (.inl x1), some (.inl x2), some (.inl (w 1 0 5))]) (S1 := [.inl 0]) (w1 := r6.2) (P := True) [(.iconst 0, 0, 0, 0, 0)] (by decide +kernel) rfl trivial ?_
    exact GE_zret (ty := .boolean) rfl (by decide +kernel) (by decide +kernel)
noncomputable def h_X1_readsSum_16 (rc : Nat → Int32 → Mem → Option (Int32 × Mem)) (x1 : Int32) (k83 : Mem → Option (Int32 × Mem)) : Nat → Int32 → Mem → Option (Int32 × Mem)
  | 0, _, _ => none
  | n + 1, x2, w => if x2 < 160 then (if (w 1 0 5) = 43 then (j_X1_readsSum_41 rc (h_X1_readsSum_16 rc x1 k83 n) x1 x2 w) else (if (w 1 0 5) = 45 then (j_X1_readsSum_41 rc (h_X1_readsSum_16 rc x1 k83 n) x1 x2 w) else (k83 w))) else (k83 w)
set_option maxRecDepth 100000 in
theorem h_X1_readsSum_16_ok (l : Launch) (X : XC) {N9 : Nat} (hN : 39 ≤ N9) (rc : Nat → Int32 → Mem → Option (Int32 × Mem)) (x1 : Int32) (k83 : Mem → Option (Int32 × Mem)) (m : Nat) (hrc0 : ∀ (a : Int32) (w : Mem), Ct l X (m + 6) yX1_readsE cX1_readsE 3 (some .boolean) emI [.inr (.inr (some (1, 0))), .inl a] N9 flT w (rc 0 a w)) (hrc1 : ∀ (a : Int32) (w : Mem), Ct l X (m + 6) yX1_readsAnd cX1_readsAnd 3 (some .boolean) emI [.inr (.inr (some (1, 0))), .inl a] N9 flT w (rc 1 a w)) (hrc2 : ∀ (a : Int32) (w : Mem), Ct l X (m + 6) yX1_readsNot cX1_readsNot 3 (some .boolean) emI [.inr (.inr (some (1, 0))), .inl a] N9 flT w (rc 2 a w)) (hrc3 : ∀ (a : Int32) (w : Mem), Ct l X (m + 6) yX1_readsSum cX1_readsSum 4 (some .boolean) emI [.inr (.inr (some (1, 0))), .inl a] N9 flT w (rc 3 a w)) (hrc4 : ∀ (a : Int32) (w : Mem), Ct l X (m + 6) yX1_readsTerm cX1_readsTerm 3 (some .boolean) emI [.inr (.inr (some (1, 0))), .inl a] N9 flT w (rc 4 a w)) (hrc5 : ∀ (a : Int32) (w : Mem), Ct l X (m + 6) yX1_readsOne cX1_readsOne 3 (some .boolean) emI [.inr (.inr (some (1, 0))), .inl a] N9 flT w (rc 5 a w)) (hk83 : ∀  (w : Mem), GE l X mm_X1_readsSum (m + 7) emI N9 flT (k83 w) 83 [none, none, none, none] [] w) : ∀ (n : Nat) (x2 : Int32) (w : Mem), GE l X mm_X1_readsSum (m + 7) emI N9 flT ((h_X1_readsSum_16 rc x1 k83 n) x2 w) 16 [some (.inr (.inr (some (1, 0)))), some (.inl x1), some (.inl x2), none] [] w := by
  intro n
  induction n with
  | zero => intro x2 w; exact GE_none
  | succ n ih =>
    intro x2 w
    unfold h_X1_readsSum_16
    refine GE_run (flG_T hN) (pc1 := 20) (L1 := [some (.inr (.inr (some (1, 0)))), some (.inl x1), some (.inl x2), none]) (S1 := [.inl 160, .inl x2]) (w1 := w) (P := True) [(.iload_n 2, 0, 0, 0, 0), (.sipush 160, 0, 0, 160, 0)] (by decide +kernel) rfl trivial ?_
    refine GE_icmpN (k := .ge) (off := 63) (tgt := 83) (by decide +kernel) (by decide) (cnd_ge _ _) (fun c3 => ?_) (fun c3 => ?_)
    · exact GE_weak [false, false, false, false] (hk83 w)
    · refine GE_run (flG_T hN) (pc1 := 29) (L1 := [some (.inr (.inr (some (1, 0)))), some (.inl x1), some (.inl x2), none]) (S1 := [.inl 43, .inl (w 1 0 5)]) (w1 := w) (P := True) [(.aload_n 0, 0, 0, 0, 0), (.getfield 38, 1, 5, 0, 0), (.bipush 43, 0, 0, 43, 0)] (by decide +kernel) rfl trivial ?_
      refine GE_icmp (k := .eq) (off := 12) (tgt := 41) (by decide +kernel) (by decide) (cnd_eq _ _) (fun c4 => ?_) (fun c4 => ?_)
      · exact GE_weak [true, true, true, false] (j_X1_readsSum_41_ok l X hN rc (h_X1_readsSum_16 rc x1 k83 n) x1 x2 m hrc0 hrc1 hrc2 hrc3 hrc4 hrc5 ih w)
      · refine GE_run (flG_T hN) (pc1 := 38) (L1 := [some (.inr (.inr (some (1, 0)))), some (.inl x1), some (.inl x2), none]) (S1 := [.inl 45, .inl (w 1 0 5)]) (w1 := w) (P := True) [(.aload_n 0, 0, 0, 0, 0), (.getfield 38, 1, 5, 0, 0), (.bipush 45, 0, 0, 45, 0)] (by decide +kernel) rfl trivial ?_
        refine GE_icmpN (k := .ne) (off := 45) (tgt := 83) (by decide +kernel) (by decide) (cnd_ne _ _) (fun c11 => ?_) (fun c11 => ?_)
        · exact GE_weak [false, false, false, false] (hk83 w)
        · exact GE_weak [true, true, true, false] (j_X1_readsSum_41_ok l X hN rc (h_X1_readsSum_16 rc x1 k83 n) x1 x2 m hrc0 hrc1 hrc2 hrc3 hrc4 hrc5 ih w)
noncomputable def f_X1_readsSum (rc : Nat → Int32 → Mem → Option (Int32 × Mem)) (a2 : Int32) (w : Mem) : Option (Int32 × Mem) := Option.bind (rc 4 a2 w) (fun r1 => if r1.1 = 0 then (some (0, r1.2)) else (h_X1_readsSum_16 rc a2 (fun w12 => some (1, w12)) FU 0 r1.2))
set_option maxRecDepth 100000 in
theorem t_X1_readsSum (l : Launch) (X : XC) {N9 : Nat} (hN : 39 ≤ N9)  (rc : Nat → Int32 → Mem → Option (Int32 × Mem)) (a2 : Int32) (m : Nat) (hrc0 : ∀ (a : Int32) (w : Mem), Ct l X (m + 6) yX1_readsE cX1_readsE 3 (some .boolean) emI [.inr (.inr (some (1, 0))), .inl a] N9 flT w (rc 0 a w)) (hrc1 : ∀ (a : Int32) (w : Mem), Ct l X (m + 6) yX1_readsAnd cX1_readsAnd 3 (some .boolean) emI [.inr (.inr (some (1, 0))), .inl a] N9 flT w (rc 1 a w)) (hrc2 : ∀ (a : Int32) (w : Mem), Ct l X (m + 6) yX1_readsNot cX1_readsNot 3 (some .boolean) emI [.inr (.inr (some (1, 0))), .inl a] N9 flT w (rc 2 a w)) (hrc3 : ∀ (a : Int32) (w : Mem), Ct l X (m + 6) yX1_readsSum cX1_readsSum 4 (some .boolean) emI [.inr (.inr (some (1, 0))), .inl a] N9 flT w (rc 3 a w)) (hrc4 : ∀ (a : Int32) (w : Mem), Ct l X (m + 6) yX1_readsTerm cX1_readsTerm 3 (some .boolean) emI [.inr (.inr (some (1, 0))), .inl a] N9 flT w (rc 4 a w)) (hrc5 : ∀ (a : Int32) (w : Mem), Ct l X (m + 6) yX1_readsOne cX1_readsOne 3 (some .boolean) emI [.inr (.inr (some (1, 0))), .inl a] N9 flT w (rc 5 a w)) (w : Mem) : Ct l X (m + 7) yX1_readsSum cX1_readsSum 4 (some .boolean) emI [.inr (.inr (some (1, 0))), .inl a2] N9 flT w (f_X1_readsSum rc a2 w) := by
  refine Ct_of (mi := mm_X1_readsSum) (mik_X1 _ _ _) me_X1_readsSum rfl (okAs_cons (okMV hN (by decide)) (okAs_cons rfl okAs_nil)) (Nat.le_of_ble_eq_true rfl) ?_
  unfold f_X1_readsSum
  refine GE_run (flG_T hN) (pc1 := 1) (L1 := [some (.inr (.inr (some (1, 0)))), some (.inl a2), none, none]) (S1 := [.inr (.inr (some (1, 0)))]) (w1 := w) (P := True) [(.aload_n 0, 0, 0, 0, 0)] (by decide +kernel) rfl trivial ?_
  refine GE_null1 (off := 11) (by decide +kernel) ?_
  refine GE_run (flG_T hN) (pc1 := 6) (L1 := [some (.inr (.inr (some (1, 0)))), some (.inl a2), none, none]) (S1 := [.inl a2, .inr (.inr (some (1, 0)))]) (w1 := w) (P := True) [(.aload_n 0, 0, 0, 0, 0), (.iload_n 1, 0, 0, 0, 0)] (by decide +kernel) rfl trivial ?_
  refine GE_callSI (As := [.inr (.inr (some (1, 0))), .inl a2]) (S := []) (hrc4 a2 w) ⟨me_X1_readsTerm, ms_X1_readsTerm, lk_X1_61⟩ (by decide +kernel) rfl (by omega) (by decide) (Nat.le_of_ble_eq_true rfl) (fun r1 _ => ?_)
  refine GE_ifN (k := .ne) (off := 5) (tgt := 14) (by decide +kernel) (by decide) (cnd_ne _ _) (fun c2 => ?_) (fun c2 => ?_)
  · refine GE_run (flG_T hN) (pc1 := 16) (L1 := [some (.inr (.inr (some (1, 0)))), some (.inl a2), some (.inl 0), none]) (S1 := []) (w1 := r1.2) (P := True) [(.iconst 0, 0, 0, 0, 0), (.istore_n 2, 0, 0, 0, 0)] (by decide +kernel) rfl trivial ?_
    refine GE_weak [true, true, true, false] (h_X1_readsSum_16_ok l X hN rc a2 _ m hrc0 hrc1 hrc2 hrc3 hrc4 hrc5 ?_ FU 0 r1.2)
    · intro w12
      refine GE_run (flG_T hN) (pc1 := 84) (L1 := [none, none, none, none]) (S1 := [.inl 1]) (w1 := w12) (P := True) [(.iconst 1, 0, 0, 1, 0)] (by decide +kernel) rfl trivial ?_
      exact GE_zret (ty := .boolean) rfl (by decide +kernel) (by decide +kernel)
  · refine GE_run (flG_T hN) (pc1 := 13) (L1 := [some (.inr (.inr (some (1, 0)))), some (.inl a2), none, none]) (S1 := [.inl 0]) (w1 := r1.2) (P := True) [(.iconst 0, 0, 0, 0, 0)] (by decide +kernel) rfl trivial ?_
    exact GE_zret (ty := .boolean) rfl (by decide +kernel) (by decide +kernel)
abbrev mm_X1_readsTerm : MI := (RX1, cX1_readsTerm, 3, (some .boolean), ftp_X1.map (fun q => q.1), ctp_X1.map (fun q => q.1), clp_X1.map (fun q => q.1))
noncomputable def h_X1_readsTerm_16 (rc : Nat → Int32 → Mem → Option (Int32 × Mem)) (x1 : Int32) (k58 : Mem → Option (Int32 × Mem)) : Nat → Int32 → Mem → Option (Int32 × Mem)
  | 0, _, _ => none
  | n + 1, x2, w => if x2 < 160 then (if (w 1 0 5) = 42 then (Option.bind (f_X1_next  w) (fun r5 => Option.bind (rc 5 x1 r5) (fun r6 => if r6.1 = 0 then (some (0, r6.2)) else (Option.bind (f_X1_write (-14) r6.2) (fun r8 => (h_X1_readsTerm_16 rc x1 k58 n) (x2 + 1) r8))))) else (k58 w)) else (k58 w)
set_option maxRecDepth 100000 in
theorem h_X1_readsTerm_16_ok (l : Launch) (X : XC) {N9 : Nat} (hN : 39 ≤ N9) (rc : Nat → Int32 → Mem → Option (Int32 × Mem)) (x1 : Int32) (k58 : Mem → Option (Int32 × Mem)) (m : Nat) (hrc0 : ∀ (a : Int32) (w : Mem), Ct l X (m + 6) yX1_readsE cX1_readsE 3 (some .boolean) emI [.inr (.inr (some (1, 0))), .inl a] N9 flT w (rc 0 a w)) (hrc1 : ∀ (a : Int32) (w : Mem), Ct l X (m + 6) yX1_readsAnd cX1_readsAnd 3 (some .boolean) emI [.inr (.inr (some (1, 0))), .inl a] N9 flT w (rc 1 a w)) (hrc2 : ∀ (a : Int32) (w : Mem), Ct l X (m + 6) yX1_readsNot cX1_readsNot 3 (some .boolean) emI [.inr (.inr (some (1, 0))), .inl a] N9 flT w (rc 2 a w)) (hrc3 : ∀ (a : Int32) (w : Mem), Ct l X (m + 6) yX1_readsSum cX1_readsSum 4 (some .boolean) emI [.inr (.inr (some (1, 0))), .inl a] N9 flT w (rc 3 a w)) (hrc4 : ∀ (a : Int32) (w : Mem), Ct l X (m + 6) yX1_readsTerm cX1_readsTerm 3 (some .boolean) emI [.inr (.inr (some (1, 0))), .inl a] N9 flT w (rc 4 a w)) (hrc5 : ∀ (a : Int32) (w : Mem), Ct l X (m + 6) yX1_readsOne cX1_readsOne 3 (some .boolean) emI [.inr (.inr (some (1, 0))), .inl a] N9 flT w (rc 5 a w)) (hk58 : ∀  (w : Mem), GE l X mm_X1_readsTerm (m + 7) emI N9 flT (k58 w) 58 [none, none, none] [] w) : ∀ (n : Nat) (x2 : Int32) (w : Mem), GE l X mm_X1_readsTerm (m + 7) emI N9 flT ((h_X1_readsTerm_16 rc x1 k58 n) x2 w) 16 [some (.inr (.inr (some (1, 0)))), some (.inl x1), some (.inl x2)] [] w := by
  intro n
  induction n with
  | zero => intro x2 w; exact GE_none
  | succ n ih =>
    intro x2 w
    unfold h_X1_readsTerm_16
    refine GE_run (flG_T hN) (pc1 := 20) (L1 := [some (.inr (.inr (some (1, 0)))), some (.inl x1), some (.inl x2)]) (S1 := [.inl 160, .inl x2]) (w1 := w) (P := True) [(.iload_n 2, 0, 0, 0, 0), (.sipush 160, 0, 0, 160, 0)] (by decide +kernel) rfl trivial ?_
    refine GE_icmpN (k := .ge) (off := 38) (tgt := 58) (by decide +kernel) (by decide) (cnd_ge _ _) (fun c3 => ?_) (fun c3 => ?_)
    · exact GE_weak [false, false, false] (hk58 w)
    · refine GE_run (flG_T hN) (pc1 := 29) (L1 := [some (.inr (.inr (some (1, 0)))), some (.inl x1), some (.inl x2)]) (S1 := [.inl 42, .inl (w 1 0 5)]) (w1 := w) (P := True) [(.aload_n 0, 0, 0, 0, 0), (.getfield 38, 1, 5, 0, 0), (.bipush 42, 0, 0, 42, 0)] (by decide +kernel) rfl trivial ?_
      refine GE_icmpN (k := .ne) (off := 29) (tgt := 58) (by decide +kernel) (by decide) (cnd_ne _ _) (fun c4 => ?_) (fun c4 => ?_)
      · exact GE_weak [false, false, false] (hk58 w)
      · refine GE_run (flG_T hN) (pc1 := 33) (L1 := [some (.inr (.inr (some (1, 0)))), some (.inl x1), some (.inl x2)]) (S1 := [.inr (.inr (some (1, 0)))]) (w1 := w) (P := True) [(.aload_n 0, 0, 0, 0, 0)] (by decide +kernel) rfl trivial ?_
        refine GE_callVV (As := []) (k := 1) (i := 0) (S := []) (t_X1_next l X hN w) (by decide) ⟨me_X1_next, mi_X1_next, mv_X1_next, lk_X1_35⟩ rfl (by decide +kernel) rfl (by omega) (by decide) (Nat.le_of_ble_eq_true rfl) (fun r5 _ => ?_)
        refine GE_run (flG_T hN) (pc1 := 38) (L1 := [some (.inr (.inr (some (1, 0)))), some (.inl x1), some (.inl x2)]) (S1 := [.inl x1, .inr (.inr (some (1, 0)))]) (w1 := r5) (P := True) [(.aload_n 0, 0, 0, 0, 0), (.iload_n 1, 0, 0, 0, 0)] (by decide +kernel) rfl trivial ?_
        refine GE_callSI (As := [.inr (.inr (some (1, 0))), .inl x1]) (S := []) (hrc5 x1 r5) ⟨me_X1_readsOne, ms_X1_readsOne, lk_X1_64⟩ (by decide +kernel) rfl (by omega) (by decide) (Nat.le_of_ble_eq_true rfl) (fun r6 _ => ?_)
        refine GE_ifN (k := .ne) (off := 5) (tgt := 46) (by decide +kernel) (by decide) (cnd_ne _ _) (fun c7 => ?_) (fun c7 => ?_)
        · refine GE_run (flG_T hN) (pc1 := 49) (L1 := [some (.inr (.inr (some (1, 0)))), some (.inl x1), some (.inl x2)]) (S1 := [.inl (-14), .inr (.inr (some (1, 0)))]) (w1 := r6.2) (P := True) [(.aload_n 0, 0, 0, 0, 0), (.bipush (-14), 0, 0, -14, 0)] (by decide +kernel) rfl trivial ?_
          refine GE_callVV (As := [.inl (-14)]) (k := 1) (i := 0) (S := []) (t_X1_write l X hN (-14) r6.2) (by decide) ⟨me_X1_write, mi_X1_write, mv_X1_write, lk_X1_51⟩ rfl (by decide +kernel) rfl (by omega) (by decide) (Nat.le_of_ble_eq_true rfl) (fun r8 _ => ?_)
          refine GE_run (flG_T hN) (pc1 := 16) (L1 := [some (.inr (.inr (some (1, 0)))), some (.inl x1), some (.inl (x2 + 1))]) (S1 := []) (w1 := r8) (P := True) [(.iinc 2 1, 0, 0, 1, 0), (.goto (-39), 0, 0, 0, 0)] (by decide +kernel) rfl trivial ?_
          exact GE_weak [true, true, true] (ih (x2 + 1) r8)
        · refine GE_run (flG_T hN) (pc1 := 45) (L1 := [some (.inr (.inr (some (1, 0)))), some (.inl x1), some (.inl x2)]) (S1 := [.inl 0]) (w1 := r6.2) (P := True) [(.iconst 0, 0, 0, 0, 0)] (by decide +kernel) rfl trivial ?_
          exact GE_zret (ty := .boolean) rfl (by decide +kernel) (by decide +kernel)
noncomputable def f_X1_readsTerm (rc : Nat → Int32 → Mem → Option (Int32 × Mem)) (a2 : Int32) (w : Mem) : Option (Int32 × Mem) := Option.bind (rc 5 a2 w) (fun r1 => if r1.1 = 0 then (some (0, r1.2)) else (h_X1_readsTerm_16 rc a2 (fun w9 => some (1, w9)) FU 0 r1.2))
set_option maxRecDepth 100000 in
theorem t_X1_readsTerm (l : Launch) (X : XC) {N9 : Nat} (hN : 39 ≤ N9)  (rc : Nat → Int32 → Mem → Option (Int32 × Mem)) (a2 : Int32) (m : Nat) (hrc0 : ∀ (a : Int32) (w : Mem), Ct l X (m + 6) yX1_readsE cX1_readsE 3 (some .boolean) emI [.inr (.inr (some (1, 0))), .inl a] N9 flT w (rc 0 a w)) (hrc1 : ∀ (a : Int32) (w : Mem), Ct l X (m + 6) yX1_readsAnd cX1_readsAnd 3 (some .boolean) emI [.inr (.inr (some (1, 0))), .inl a] N9 flT w (rc 1 a w)) (hrc2 : ∀ (a : Int32) (w : Mem), Ct l X (m + 6) yX1_readsNot cX1_readsNot 3 (some .boolean) emI [.inr (.inr (some (1, 0))), .inl a] N9 flT w (rc 2 a w)) (hrc3 : ∀ (a : Int32) (w : Mem), Ct l X (m + 6) yX1_readsSum cX1_readsSum 4 (some .boolean) emI [.inr (.inr (some (1, 0))), .inl a] N9 flT w (rc 3 a w)) (hrc4 : ∀ (a : Int32) (w : Mem), Ct l X (m + 6) yX1_readsTerm cX1_readsTerm 3 (some .boolean) emI [.inr (.inr (some (1, 0))), .inl a] N9 flT w (rc 4 a w)) (hrc5 : ∀ (a : Int32) (w : Mem), Ct l X (m + 6) yX1_readsOne cX1_readsOne 3 (some .boolean) emI [.inr (.inr (some (1, 0))), .inl a] N9 flT w (rc 5 a w)) (w : Mem) : Ct l X (m + 7) yX1_readsTerm cX1_readsTerm 3 (some .boolean) emI [.inr (.inr (some (1, 0))), .inl a2] N9 flT w (f_X1_readsTerm rc a2 w) := by
  refine Ct_of (mi := mm_X1_readsTerm) (mik_X1 _ _ _) me_X1_readsTerm rfl (okAs_cons (okMV hN (by decide)) (okAs_cons rfl okAs_nil)) (Nat.le_of_ble_eq_true rfl) ?_
  unfold f_X1_readsTerm
  refine GE_run (flG_T hN) (pc1 := 1) (L1 := [some (.inr (.inr (some (1, 0)))), some (.inl a2), none]) (S1 := [.inr (.inr (some (1, 0)))]) (w1 := w) (P := True) [(.aload_n 0, 0, 0, 0, 0)] (by decide +kernel) rfl trivial ?_
  refine GE_null1 (off := 11) (by decide +kernel) ?_
  refine GE_run (flG_T hN) (pc1 := 6) (L1 := [some (.inr (.inr (some (1, 0)))), some (.inl a2), none]) (S1 := [.inl a2, .inr (.inr (some (1, 0)))]) (w1 := w) (P := True) [(.aload_n 0, 0, 0, 0, 0), (.iload_n 1, 0, 0, 0, 0)] (by decide +kernel) rfl trivial ?_
  refine GE_callSI (As := [.inr (.inr (some (1, 0))), .inl a2]) (S := []) (hrc5 a2 w) ⟨me_X1_readsOne, ms_X1_readsOne, lk_X1_64⟩ (by decide +kernel) rfl (by omega) (by decide) (Nat.le_of_ble_eq_true rfl) (fun r1 _ => ?_)
  refine GE_ifN (k := .ne) (off := 5) (tgt := 14) (by decide +kernel) (by decide) (cnd_ne _ _) (fun c2 => ?_) (fun c2 => ?_)
  · refine GE_run (flG_T hN) (pc1 := 16) (L1 := [some (.inr (.inr (some (1, 0)))), some (.inl a2), some (.inl 0)]) (S1 := []) (w1 := r1.2) (P := True) [(.iconst 0, 0, 0, 0, 0), (.istore_n 2, 0, 0, 0, 0)] (by decide +kernel) rfl trivial ?_
    refine GE_weak [true, true, true] (h_X1_readsTerm_16_ok l X hN rc a2 _ m hrc0 hrc1 hrc2 hrc3 hrc4 hrc5 ?_ FU 0 r1.2)
    · intro w9
      refine GE_run (flG_T hN) (pc1 := 59) (L1 := [none, none, none]) (S1 := [.inl 1]) (w1 := w9) (P := True) [(.iconst 1, 0, 0, 1, 0)] (by decide +kernel) rfl trivial ?_
      exact GE_zret (ty := .boolean) rfl (by decide +kernel) (by decide +kernel)
  · refine GE_run (flG_T hN) (pc1 := 13) (L1 := [some (.inr (.inr (some (1, 0)))), some (.inl a2), none]) (S1 := [.inl 0]) (w1 := r1.2) (P := True) [(.iconst 0, 0, 0, 0, 0)] (by decide +kernel) rfl trivial ?_
    exact GE_zret (ty := .boolean) rfl (by decide +kernel) (by decide +kernel)
abbrev mm_X1_readsOne : MI := (RX1, cX1_readsOne, 3, (some .boolean), ftp_X1.map (fun q => q.1), ctp_X1.map (fun q => q.1), clp_X1.map (fun q => q.1))
noncomputable def j_X1_readsOne_40 (rc : Nat → Int32 → Mem → Option (Int32 × Mem))  (s0 : Int32) (w : Mem) : Option (Int32 × Mem) := Option.bind (f_X1_write s0 w) (fun r3 => Option.bind (f_X1_next  r3) (fun r4 => some (1, r4)))
set_option maxRecDepth 100000 in
theorem j_X1_readsOne_40_ok (l : Launch) (X : XC) {N9 : Nat} (hN : 39 ≤ N9) (rc : Nat → Int32 → Mem → Option (Int32 × Mem))  (s0 : Int32) (m : Nat) (hrc0 : ∀ (a : Int32) (w : Mem), Ct l X (m + 6) yX1_readsE cX1_readsE 3 (some .boolean) emI [.inr (.inr (some (1, 0))), .inl a] N9 flT w (rc 0 a w)) (hrc1 : ∀ (a : Int32) (w : Mem), Ct l X (m + 6) yX1_readsAnd cX1_readsAnd 3 (some .boolean) emI [.inr (.inr (some (1, 0))), .inl a] N9 flT w (rc 1 a w)) (hrc2 : ∀ (a : Int32) (w : Mem), Ct l X (m + 6) yX1_readsNot cX1_readsNot 3 (some .boolean) emI [.inr (.inr (some (1, 0))), .inl a] N9 flT w (rc 2 a w)) (hrc3 : ∀ (a : Int32) (w : Mem), Ct l X (m + 6) yX1_readsSum cX1_readsSum 4 (some .boolean) emI [.inr (.inr (some (1, 0))), .inl a] N9 flT w (rc 3 a w)) (hrc4 : ∀ (a : Int32) (w : Mem), Ct l X (m + 6) yX1_readsTerm cX1_readsTerm 3 (some .boolean) emI [.inr (.inr (some (1, 0))), .inl a] N9 flT w (rc 4 a w)) (hrc5 : ∀ (a : Int32) (w : Mem), Ct l X (m + 6) yX1_readsOne cX1_readsOne 3 (some .boolean) emI [.inr (.inr (some (1, 0))), .inl a] N9 flT w (rc 5 a w))  (w : Mem) : GE l X mm_X1_readsOne (m + 7) emI N9 flT (j_X1_readsOne_40 rc s0 w) 40 [some (.inr (.inr (some (1, 0)))), none, none] [.inl s0, .inr (.inr (some (1, 0)))] w := by
  unfold j_X1_readsOne_40
  refine GE_callVV (As := [.inl s0]) (k := 1) (i := 0) (S := []) (t_X1_write l X hN s0 w) (by decide) ⟨me_X1_write, mi_X1_write, mv_X1_write, lk_X1_51⟩ rfl (by decide +kernel) rfl (by omega) (by decide) (Nat.le_of_ble_eq_true rfl) (fun r3 _ => ?_)
  refine GE_run (flG_T hN) (pc1 := 44) (L1 := [some (.inr (.inr (some (1, 0)))), none, none]) (S1 := [.inr (.inr (some (1, 0)))]) (w1 := r3) (P := True) [(.aload_n 0, 0, 0, 0, 0)] (by decide +kernel) rfl trivial ?_
  refine GE_callVV (As := []) (k := 1) (i := 0) (S := []) (t_X1_next l X hN r3) (by decide) ⟨me_X1_next, mi_X1_next, mv_X1_next, lk_X1_35⟩ rfl (by decide +kernel) rfl (by omega) (by decide) (Nat.le_of_ble_eq_true rfl) (fun r4 _ => ?_)
  refine GE_run (flG_T hN) (pc1 := 48) (L1 := [some (.inr (.inr (some (1, 0)))), none, none]) (S1 := [.inl 1]) (w1 := r4) (P := True) [(.iconst 1, 0, 0, 1, 0)] (by decide +kernel) rfl trivial ?_
  exact GE_zret (ty := .boolean) rfl (by decide +kernel) (by decide +kernel)
noncomputable def j_X1_readsOne_21 (rc : Nat → Int32 → Mem → Option (Int32 × Mem))   (w : Mem) : Option (Int32 × Mem) := if (w 1 0 5) < 0 then (j_X1_readsOne_40 rc (w 1 0 5) w) else (j_X1_readsOne_40 rc (w 1 0 8) w)
set_option maxRecDepth 100000 in
theorem j_X1_readsOne_21_ok (l : Launch) (X : XC) {N9 : Nat} (hN : 39 ≤ N9) (rc : Nat → Int32 → Mem → Option (Int32 × Mem))   (m : Nat) (hrc0 : ∀ (a : Int32) (w : Mem), Ct l X (m + 6) yX1_readsE cX1_readsE 3 (some .boolean) emI [.inr (.inr (some (1, 0))), .inl a] N9 flT w (rc 0 a w)) (hrc1 : ∀ (a : Int32) (w : Mem), Ct l X (m + 6) yX1_readsAnd cX1_readsAnd 3 (some .boolean) emI [.inr (.inr (some (1, 0))), .inl a] N9 flT w (rc 1 a w)) (hrc2 : ∀ (a : Int32) (w : Mem), Ct l X (m + 6) yX1_readsNot cX1_readsNot 3 (some .boolean) emI [.inr (.inr (some (1, 0))), .inl a] N9 flT w (rc 2 a w)) (hrc3 : ∀ (a : Int32) (w : Mem), Ct l X (m + 6) yX1_readsSum cX1_readsSum 4 (some .boolean) emI [.inr (.inr (some (1, 0))), .inl a] N9 flT w (rc 3 a w)) (hrc4 : ∀ (a : Int32) (w : Mem), Ct l X (m + 6) yX1_readsTerm cX1_readsTerm 3 (some .boolean) emI [.inr (.inr (some (1, 0))), .inl a] N9 flT w (rc 4 a w)) (hrc5 : ∀ (a : Int32) (w : Mem), Ct l X (m + 6) yX1_readsOne cX1_readsOne 3 (some .boolean) emI [.inr (.inr (some (1, 0))), .inl a] N9 flT w (rc 5 a w))  (w : Mem) : GE l X mm_X1_readsOne (m + 7) emI N9 flT (j_X1_readsOne_21 rc w) 21 [some (.inr (.inr (some (1, 0)))), none, none] [] w := by
  unfold j_X1_readsOne_21
  refine GE_run (flG_T hN) (pc1 := 26) (L1 := [some (.inr (.inr (some (1, 0)))), none, none]) (S1 := [.inl (w 1 0 5), .inr (.inr (some (1, 0)))]) (w1 := w) (P := True) [(.aload_n 0, 0, 0, 0, 0), (.aload_n 0, 0, 0, 0, 0), (.getfield 38, 1, 5, 0, 0)] (by decide +kernel) rfl trivial ?_
  refine GE_ifN (k := .ge) (off := 10) (tgt := 36) (by decide +kernel) (by decide) (cnd_ge _ _) (fun c2 => ?_) (fun c2 => ?_)
  · refine GE_run (flG_T hN) (pc1 := 40) (L1 := [some (.inr (.inr (some (1, 0)))), none, none]) (S1 := [.inl (w 1 0 8), .inr (.inr (some (1, 0)))]) (w1 := w) (P := True) [(.aload_n 0, 0, 0, 0, 0), (.getfield 67, 1, 8, 0, 0)] (by decide +kernel) rfl trivial ?_
    exact GE_weak [true, false, false] (j_X1_readsOne_40_ok l X hN rc (w 1 0 8) m hrc0 hrc1 hrc2 hrc3 hrc4 hrc5 w)
  · refine GE_run (flG_T hN) (pc1 := 40) (L1 := [some (.inr (.inr (some (1, 0)))), none, none]) (S1 := [.inl (w 1 0 5), .inr (.inr (some (1, 0)))]) (w1 := w) (P := True) [(.aload_n 0, 0, 0, 0, 0), (.getfield 38, 1, 5, 0, 0), (.goto 7, 0, 0, 0, 0)] (by decide +kernel) rfl trivial ?_
    exact GE_weak [true, false, false] (j_X1_readsOne_40_ok l X hN rc (w 1 0 5) m hrc0 hrc1 hrc2 hrc3 hrc4 hrc5 w)
noncomputable def j_X1_readsOne_88 (rc : Nat → Int32 → Mem → Option (Int32 × Mem))  (x1 : Int32) (s0 : Int32) (w : Mem) : Option (Int32 × Mem) := Option.bind (f_X1_next  w) (fun r9 => if s0 = 0 then (Option.bind (rc 0 (x1 + 1) r9) (fun r11 => if r11.1 = 0 then (some (0, r11.2)) else (if (r11.2 1 0 5) = 41 then (Option.bind (f_X1_next  r11.2) (fun r14 => some (1, r14))) else (some (0, r11.2))))) else (Option.bind (rc 5 (x1 + 1) r9) (fun r15 => if r15.1 = 0 then (some (0, r15.2)) else (Option.bind (f_X1_write (-15) r15.2) (fun r17 => some (1, r17))))))
set_option maxRecDepth 100000 in
theorem j_X1_readsOne_88_ok (l : Launch) (X : XC) {N9 : Nat} (hN : 39 ≤ N9) (rc : Nat → Int32 → Mem → Option (Int32 × Mem))  (x1 : Int32) (s0 : Int32) (m : Nat) (hrc0 : ∀ (a : Int32) (w : Mem), Ct l X (m + 6) yX1_readsE cX1_readsE 3 (some .boolean) emI [.inr (.inr (some (1, 0))), .inl a] N9 flT w (rc 0 a w)) (hrc1 : ∀ (a : Int32) (w : Mem), Ct l X (m + 6) yX1_readsAnd cX1_readsAnd 3 (some .boolean) emI [.inr (.inr (some (1, 0))), .inl a] N9 flT w (rc 1 a w)) (hrc2 : ∀ (a : Int32) (w : Mem), Ct l X (m + 6) yX1_readsNot cX1_readsNot 3 (some .boolean) emI [.inr (.inr (some (1, 0))), .inl a] N9 flT w (rc 2 a w)) (hrc3 : ∀ (a : Int32) (w : Mem), Ct l X (m + 6) yX1_readsSum cX1_readsSum 4 (some .boolean) emI [.inr (.inr (some (1, 0))), .inl a] N9 flT w (rc 3 a w)) (hrc4 : ∀ (a : Int32) (w : Mem), Ct l X (m + 6) yX1_readsTerm cX1_readsTerm 3 (some .boolean) emI [.inr (.inr (some (1, 0))), .inl a] N9 flT w (rc 4 a w)) (hrc5 : ∀ (a : Int32) (w : Mem), Ct l X (m + 6) yX1_readsOne cX1_readsOne 3 (some .boolean) emI [.inr (.inr (some (1, 0))), .inl a] N9 flT w (rc 5 a w))  (w : Mem) : GE l X mm_X1_readsOne (m + 7) emI N9 flT (j_X1_readsOne_88 rc x1 s0 w) 88 [some (.inr (.inr (some (1, 0)))), some (.inl x1), none] [.inl s0] w := by
  unfold j_X1_readsOne_88
  refine GE_run (flG_T hN) (pc1 := 90) (L1 := [some (.inr (.inr (some (1, 0)))), some (.inl x1), some (.inl s0)]) (S1 := [.inr (.inr (some (1, 0)))]) (w1 := w) (P := True) [(.istore_n 2, 0, 0, 0, 0), (.aload_n 0, 0, 0, 0, 0)] (by decide +kernel) rfl trivial ?_
  refine GE_callVV (As := []) (k := 1) (i := 0) (S := []) (t_X1_next l X hN w) (by decide) ⟨me_X1_next, mi_X1_next, mv_X1_next, lk_X1_35⟩ rfl (by decide +kernel) rfl (by omega) (by decide) (Nat.le_of_ble_eq_true rfl) (fun r9 _ => ?_)
  refine GE_run (flG_T hN) (pc1 := 94) (L1 := [some (.inr (.inr (some (1, 0)))), some (.inl x1), some (.inl s0)]) (S1 := [.inl s0]) (w1 := r9) (P := True) [(.iload_n 2, 0, 0, 0, 0)] (by decide +kernel) rfl trivial ?_
  refine GE_if (k := .eq) (off := 23) (tgt := 117) (by decide +kernel) (by decide) (cnd_eq _ _) (fun c10 => ?_) (fun c10 => ?_)
  · refine GE_run (flG_T hN) (pc1 := 121) (L1 := [some (.inr (.inr (some (1, 0)))), some (.inl x1), some (.inl s0)]) (S1 := [.inl (x1 + 1), .inr (.inr (some (1, 0)))]) (w1 := r9) (P := True) [(.aload_n 0, 0, 0, 0, 0), (.iload_n 1, 0, 0, 0, 0), (.iconst 1, 0, 0, 1, 0), (.iadd, 0, 0, 0, 0)] (by decide +kernel) rfl trivial ?_
    refine GE_callSI (As := [.inr (.inr (some (1, 0))), .inl (x1 + 1)]) (S := []) (hrc0 (x1 + 1) r9) ⟨me_X1_readsE, ms_X1_readsE, lk_X1_44⟩ (by decide +kernel) rfl (by omega) (by decide) (Nat.le_of_ble_eq_true rfl) (fun r11 _ => ?_)
    refine GE_if (k := .eq) (off := 12) (tgt := 136) (by decide +kernel) (by decide) (cnd_eq _ _) (fun c12 => ?_) (fun c12 => ?_)
    · refine GE_run (flG_T hN) (pc1 := 137) (L1 := [some (.inr (.inr (some (1, 0)))), some (.inl x1), some (.inl s0)]) (S1 := [.inl 0]) (w1 := r11.2) (P := True) [(.iconst 0, 0, 0, 0, 0)] (by decide +kernel) rfl trivial ?_
      exact GE_zret (ty := .boolean) rfl (by decide +kernel) (by decide +kernel)
    · refine GE_run (flG_T hN) (pc1 := 133) (L1 := [some (.inr (.inr (some (1, 0)))), some (.inl x1), some (.inl s0)]) (S1 := [.inl 41, .inl (r11.2 1 0 5)]) (w1 := r11.2) (P := True) [(.aload_n 0, 0, 0, 0, 0), (.getfield 38, 1, 5, 0, 0), (.bipush 41, 0, 0, 41, 0)] (by decide +kernel) rfl trivial ?_
      refine GE_icmp (k := .eq) (off := 5) (tgt := 138) (by decide +kernel) (by decide) (cnd_eq _ _) (fun c13 => ?_) (fun c13 => ?_)
      · refine GE_run (flG_T hN) (pc1 := 139) (L1 := [some (.inr (.inr (some (1, 0)))), some (.inl x1), some (.inl s0)]) (S1 := [.inr (.inr (some (1, 0)))]) (w1 := r11.2) (P := True) [(.aload_n 0, 0, 0, 0, 0)] (by decide +kernel) rfl trivial ?_
        refine GE_callVV (As := []) (k := 1) (i := 0) (S := []) (t_X1_next l X hN r11.2) (by decide) ⟨me_X1_next, mi_X1_next, mv_X1_next, lk_X1_35⟩ rfl (by decide +kernel) rfl (by omega) (by decide) (Nat.le_of_ble_eq_true rfl) (fun r14 _ => ?_)
        refine GE_run (flG_T hN) (pc1 := 143) (L1 := [some (.inr (.inr (some (1, 0)))), some (.inl x1), some (.inl s0)]) (S1 := [.inl 1]) (w1 := r14) (P := True) [(.iconst 1, 0, 0, 1, 0)] (by decide +kernel) rfl trivial ?_
        exact GE_zret (ty := .boolean) rfl (by decide +kernel) (by decide +kernel)
      · refine GE_run (flG_T hN) (pc1 := 137) (L1 := [some (.inr (.inr (some (1, 0)))), some (.inl x1), some (.inl s0)]) (S1 := [.inl 0]) (w1 := r11.2) (P := True) [(.iconst 0, 0, 0, 0, 0)] (by decide +kernel) rfl trivial ?_
        exact GE_zret (ty := .boolean) rfl (by decide +kernel) (by decide +kernel)
  · refine GE_run (flG_T hN) (pc1 := 101) (L1 := [some (.inr (.inr (some (1, 0)))), some (.inl x1), some (.inl s0)]) (S1 := [.inl (x1 + 1), .inr (.inr (some (1, 0)))]) (w1 := r9) (P := True) [(.aload_n 0, 0, 0, 0, 0), (.iload_n 1, 0, 0, 0, 0), (.iconst 1, 0, 0, 1, 0), (.iadd, 0, 0, 0, 0)] (by decide +kernel) rfl trivial ?_
    refine GE_callSI (As := [.inr (.inr (some (1, 0))), .inl (x1 + 1)]) (S := []) (hrc5 (x1 + 1) r9) ⟨me_X1_readsOne, ms_X1_readsOne, lk_X1_64⟩ (by decide +kernel) rfl (by omega) (by decide) (Nat.le_of_ble_eq_true rfl) (fun r15 _ => ?_)
    refine GE_ifN (k := .ne) (off := 5) (tgt := 109) (by decide +kernel) (by decide) (cnd_ne _ _) (fun c16 => ?_) (fun c16 => ?_)
    · refine GE_run (flG_T hN) (pc1 := 112) (L1 := [some (.inr (.inr (some (1, 0)))), some (.inl x1), some (.inl s0)]) (S1 := [.inl (-15), .inr (.inr (some (1, 0)))]) (w1 := r15.2) (P := True) [(.aload_n 0, 0, 0, 0, 0), (.bipush (-15), 0, 0, -15, 0)] (by decide +kernel) rfl trivial ?_
      refine GE_callVV (As := [.inl (-15)]) (k := 1) (i := 0) (S := []) (t_X1_write l X hN (-15) r15.2) (by decide) ⟨me_X1_write, mi_X1_write, mv_X1_write, lk_X1_51⟩ rfl (by decide +kernel) rfl (by omega) (by decide) (Nat.le_of_ble_eq_true rfl) (fun r17 _ => ?_)
      refine GE_run (flG_T hN) (pc1 := 116) (L1 := [some (.inr (.inr (some (1, 0)))), some (.inl x1), some (.inl s0)]) (S1 := [.inl 1]) (w1 := r17) (P := True) [(.iconst 1, 0, 0, 1, 0)] (by decide +kernel) rfl trivial ?_
      exact GE_zret (ty := .boolean) rfl (by decide +kernel) (by decide +kernel)
    · refine GE_run (flG_T hN) (pc1 := 108) (L1 := [some (.inr (.inr (some (1, 0)))), some (.inl x1), some (.inl s0)]) (S1 := [.inl 0]) (w1 := r15.2) (P := True) [(.iconst 0, 0, 0, 0, 0)] (by decide +kernel) rfl trivial ?_
      exact GE_zret (ty := .boolean) rfl (by decide +kernel) (by decide +kernel)
noncomputable def j_X1_readsOne_67 (rc : Nat → Int32 → Mem → Option (Int32 × Mem))  (x1 : Int32) (w : Mem) : Option (Int32 × Mem) := if x1 < 5 then (if (w 1 0 5) = 45 then (j_X1_readsOne_88 rc x1 1 w) else (j_X1_readsOne_88 rc x1 0 w)) else (some (0, w))
set_option maxRecDepth 100000 in
theorem j_X1_readsOne_67_ok (l : Launch) (X : XC) {N9 : Nat} (hN : 39 ≤ N9) (rc : Nat → Int32 → Mem → Option (Int32 × Mem))  (x1 : Int32) (m : Nat) (hrc0 : ∀ (a : Int32) (w : Mem), Ct l X (m + 6) yX1_readsE cX1_readsE 3 (some .boolean) emI [.inr (.inr (some (1, 0))), .inl a] N9 flT w (rc 0 a w)) (hrc1 : ∀ (a : Int32) (w : Mem), Ct l X (m + 6) yX1_readsAnd cX1_readsAnd 3 (some .boolean) emI [.inr (.inr (some (1, 0))), .inl a] N9 flT w (rc 1 a w)) (hrc2 : ∀ (a : Int32) (w : Mem), Ct l X (m + 6) yX1_readsNot cX1_readsNot 3 (some .boolean) emI [.inr (.inr (some (1, 0))), .inl a] N9 flT w (rc 2 a w)) (hrc3 : ∀ (a : Int32) (w : Mem), Ct l X (m + 6) yX1_readsSum cX1_readsSum 4 (some .boolean) emI [.inr (.inr (some (1, 0))), .inl a] N9 flT w (rc 3 a w)) (hrc4 : ∀ (a : Int32) (w : Mem), Ct l X (m + 6) yX1_readsTerm cX1_readsTerm 3 (some .boolean) emI [.inr (.inr (some (1, 0))), .inl a] N9 flT w (rc 4 a w)) (hrc5 : ∀ (a : Int32) (w : Mem), Ct l X (m + 6) yX1_readsOne cX1_readsOne 3 (some .boolean) emI [.inr (.inr (some (1, 0))), .inl a] N9 flT w (rc 5 a w))  (w : Mem) : GE l X mm_X1_readsOne (m + 7) emI N9 flT (j_X1_readsOne_67 rc x1 w) 67 [some (.inr (.inr (some (1, 0)))), some (.inl x1), none] [] w := by
  unfold j_X1_readsOne_67
  refine GE_run (flG_T hN) (pc1 := 69) (L1 := [some (.inr (.inr (some (1, 0)))), some (.inl x1), none]) (S1 := [.inl 5, .inl x1]) (w1 := w) (P := True) [(.iload_n 1, 0, 0, 0, 0), (.iconst 5, 0, 0, 5, 0)] (by decide +kernel) rfl trivial ?_
  refine GE_icmp (k := .lt) (off := 5) (tgt := 74) (by decide +kernel) (by decide) (cnd_lt _ _) (fun c7 => ?_) (fun c7 => ?_)
  · refine GE_run (flG_T hN) (pc1 := 80) (L1 := [some (.inr (.inr (some (1, 0)))), some (.inl x1), none]) (S1 := [.inl 45, .inl (w 1 0 5)]) (w1 := w) (P := True) [(.aload_n 0, 0, 0, 0, 0), (.getfield 38, 1, 5, 0, 0), (.bipush 45, 0, 0, 45, 0)] (by decide +kernel) rfl trivial ?_
    refine GE_icmpN (k := .ne) (off := 7) (tgt := 87) (by decide +kernel) (by decide) (cnd_ne _ _) (fun c8 => ?_) (fun c8 => ?_)
    · refine GE_run (flG_T hN) (pc1 := 88) (L1 := [some (.inr (.inr (some (1, 0)))), some (.inl x1), none]) (S1 := [.inl 0]) (w1 := w) (P := True) [(.iconst 0, 0, 0, 0, 0)] (by decide +kernel) rfl trivial ?_
      exact GE_weak [true, true, false] (j_X1_readsOne_88_ok l X hN rc x1 0 m hrc0 hrc1 hrc2 hrc3 hrc4 hrc5 w)
    · refine GE_run (flG_T hN) (pc1 := 88) (L1 := [some (.inr (.inr (some (1, 0)))), some (.inl x1), none]) (S1 := [.inl 1]) (w1 := w) (P := True) [(.iconst 1, 0, 0, 1, 0), (.goto 4, 0, 0, 0, 0)] (by decide +kernel) rfl trivial ?_
      exact GE_weak [true, true, false] (j_X1_readsOne_88_ok l X hN rc x1 1 m hrc0 hrc1 hrc2 hrc3 hrc4 hrc5 w)
  · refine GE_run (flG_T hN) (pc1 := 73) (L1 := [some (.inr (.inr (some (1, 0)))), some (.inl x1), none]) (S1 := [.inl 0]) (w1 := w) (P := True) [(.iconst 0, 0, 0, 0, 0)] (by decide +kernel) rfl trivial ?_
    exact GE_zret (ty := .boolean) rfl (by decide +kernel) (by decide +kernel)
noncomputable def f_X1_readsOne (rc : Nat → Int32 → Mem → Option (Int32 × Mem)) (a2 : Int32) (w : Mem) : Option (Int32 × Mem) := if (w 1 0 5) = 2 then (j_X1_readsOne_21 rc w) else (if (w 1 0 5) < 0 then (j_X1_readsOne_21 rc w) else (if (w 1 0 5) = 45 then (j_X1_readsOne_67 rc a2 w) else (if (w 1 0 5) = 40 then (j_X1_readsOne_67 rc a2 w) else (some (0, w)))))
set_option maxRecDepth 100000 in
theorem t_X1_readsOne (l : Launch) (X : XC) {N9 : Nat} (hN : 39 ≤ N9)  (rc : Nat → Int32 → Mem → Option (Int32 × Mem)) (a2 : Int32) (m : Nat) (hrc0 : ∀ (a : Int32) (w : Mem), Ct l X (m + 6) yX1_readsE cX1_readsE 3 (some .boolean) emI [.inr (.inr (some (1, 0))), .inl a] N9 flT w (rc 0 a w)) (hrc1 : ∀ (a : Int32) (w : Mem), Ct l X (m + 6) yX1_readsAnd cX1_readsAnd 3 (some .boolean) emI [.inr (.inr (some (1, 0))), .inl a] N9 flT w (rc 1 a w)) (hrc2 : ∀ (a : Int32) (w : Mem), Ct l X (m + 6) yX1_readsNot cX1_readsNot 3 (some .boolean) emI [.inr (.inr (some (1, 0))), .inl a] N9 flT w (rc 2 a w)) (hrc3 : ∀ (a : Int32) (w : Mem), Ct l X (m + 6) yX1_readsSum cX1_readsSum 4 (some .boolean) emI [.inr (.inr (some (1, 0))), .inl a] N9 flT w (rc 3 a w)) (hrc4 : ∀ (a : Int32) (w : Mem), Ct l X (m + 6) yX1_readsTerm cX1_readsTerm 3 (some .boolean) emI [.inr (.inr (some (1, 0))), .inl a] N9 flT w (rc 4 a w)) (hrc5 : ∀ (a : Int32) (w : Mem), Ct l X (m + 6) yX1_readsOne cX1_readsOne 3 (some .boolean) emI [.inr (.inr (some (1, 0))), .inl a] N9 flT w (rc 5 a w)) (w : Mem) : Ct l X (m + 7) yX1_readsOne cX1_readsOne 3 (some .boolean) emI [.inr (.inr (some (1, 0))), .inl a2] N9 flT w (f_X1_readsOne rc a2 w) := by
  refine Ct_of (mi := mm_X1_readsOne) (mik_X1 _ _ _) me_X1_readsOne rfl (okAs_cons (okMV hN (by decide)) (okAs_cons rfl okAs_nil)) (Nat.le_of_ble_eq_true rfl) ?_
  unfold f_X1_readsOne
  refine GE_run (flG_T hN) (pc1 := 1) (L1 := [some (.inr (.inr (some (1, 0)))), some (.inl a2), none]) (S1 := [.inr (.inr (some (1, 0)))]) (w1 := w) (P := True) [(.aload_n 0, 0, 0, 0, 0)] (by decide +kernel) rfl trivial ?_
  refine GE_nonnull1 (off := 5) (tgt := 6) (by decide +kernel) (by decide) ?_
  refine GE_run (flG_T hN) (pc1 := 11) (L1 := [some (.inr (.inr (some (1, 0)))), some (.inl a2), none]) (S1 := [.inl 2, .inl (w 1 0 5)]) (w1 := w) (P := True) [(.aload_n 0, 0, 0, 0, 0), (.getfield 38, 1, 5, 0, 0), (.iconst 2, 0, 0, 2, 0)] (by decide +kernel) rfl trivial ?_
  refine GE_icmp (k := .eq) (off := 10) (tgt := 21) (by decide +kernel) (by decide) (cnd_eq _ _) (fun c1 => ?_) (fun c1 => ?_)
  · exact GE_weak [true, false, false] (j_X1_readsOne_21_ok l X hN rc m hrc0 hrc1 hrc2 hrc3 hrc4 hrc5 w)
  · refine GE_run (flG_T hN) (pc1 := 18) (L1 := [some (.inr (.inr (some (1, 0)))), some (.inl a2), none]) (S1 := [.inl (w 1 0 5)]) (w1 := w) (P := True) [(.aload_n 0, 0, 0, 0, 0), (.getfield 38, 1, 5, 0, 0)] (by decide +kernel) rfl trivial ?_
    refine GE_ifN (k := .ge) (off := 31) (tgt := 49) (by decide +kernel) (by decide) (cnd_ge _ _) (fun c5 => ?_) (fun c5 => ?_)
    · refine GE_run (flG_T hN) (pc1 := 55) (L1 := [some (.inr (.inr (some (1, 0)))), some (.inl a2), none]) (S1 := [.inl 45, .inl (w 1 0 5)]) (w1 := w) (P := True) [(.aload_n 0, 0, 0, 0, 0), (.getfield 38, 1, 5, 0, 0), (.bipush 45, 0, 0, 45, 0)] (by decide +kernel) rfl trivial ?_
      refine GE_icmp (k := .eq) (off := 12) (tgt := 67) (by decide +kernel) (by decide) (cnd_eq _ _) (fun c6 => ?_) (fun c6 => ?_)
      · exact GE_weak [true, true, false] (j_X1_readsOne_67_ok l X hN rc a2 m hrc0 hrc1 hrc2 hrc3 hrc4 hrc5 w)
      · refine GE_run (flG_T hN) (pc1 := 64) (L1 := [some (.inr (.inr (some (1, 0)))), some (.inl a2), none]) (S1 := [.inl 40, .inl (w 1 0 5)]) (w1 := w) (P := True) [(.aload_n 0, 0, 0, 0, 0), (.getfield 38, 1, 5, 0, 0), (.bipush 40, 0, 0, 40, 0)] (by decide +kernel) rfl trivial ?_
        refine GE_icmpN (k := .ne) (off := 8) (tgt := 72) (by decide +kernel) (by decide) (cnd_ne _ _) (fun c18 => ?_) (fun c18 => ?_)
        · refine GE_run (flG_T hN) (pc1 := 73) (L1 := [some (.inr (.inr (some (1, 0)))), some (.inl a2), none]) (S1 := [.inl 0]) (w1 := w) (P := True) [(.iconst 0, 0, 0, 0, 0)] (by decide +kernel) rfl trivial ?_
          exact GE_zret (ty := .boolean) rfl (by decide +kernel) (by decide +kernel)
        · exact GE_weak [true, true, false] (j_X1_readsOne_67_ok l X hN rc a2 m hrc0 hrc1 hrc2 hrc3 hrc4 hrc5 w)
    · exact GE_weak [true, false, false] (j_X1_readsOne_21_ok l X hN rc m hrc0 hrc1 hrc2 hrc3 hrc4 hrc5 w)
noncomputable def rd : Nat → Nat → Int32 → Mem → Option (Int32 × Mem)
  | 0, _, _, _ => none
  | m + 1, k, a, w => match k with
    | 0 => f_X1_readsE (rd m) a w
    | 1 => f_X1_readsAnd (rd m) a w
    | 2 => f_X1_readsNot (rd m) a w
    | 3 => f_X1_readsSum (rd m) a w
    | 4 => f_X1_readsTerm (rd m) a w
    | _ => f_X1_readsOne (rd m) a w
theorem rd_ok (l : Launch) (X : XC) {N9 : Nat} (hN : 39 ≤ N9) : ∀ m : Nat, (∀ (a : Int32) (w : Mem), Ct l X (m + 6) yX1_readsE cX1_readsE 3 (some .boolean) emI [.inr (.inr (some (1, 0))), .inl a] N9 flT w (rd m 0 a w)) ∧ (∀ (a : Int32) (w : Mem), Ct l X (m + 6) yX1_readsAnd cX1_readsAnd 3 (some .boolean) emI [.inr (.inr (some (1, 0))), .inl a] N9 flT w (rd m 1 a w)) ∧ (∀ (a : Int32) (w : Mem), Ct l X (m + 6) yX1_readsNot cX1_readsNot 3 (some .boolean) emI [.inr (.inr (some (1, 0))), .inl a] N9 flT w (rd m 2 a w)) ∧ (∀ (a : Int32) (w : Mem), Ct l X (m + 6) yX1_readsSum cX1_readsSum 4 (some .boolean) emI [.inr (.inr (some (1, 0))), .inl a] N9 flT w (rd m 3 a w)) ∧ (∀ (a : Int32) (w : Mem), Ct l X (m + 6) yX1_readsTerm cX1_readsTerm 3 (some .boolean) emI [.inr (.inr (some (1, 0))), .inl a] N9 flT w (rd m 4 a w)) ∧ (∀ (a : Int32) (w : Mem), Ct l X (m + 6) yX1_readsOne cX1_readsOne 3 (some .boolean) emI [.inr (.inr (some (1, 0))), .inl a] N9 flT w (rd m 5 a w)) := by
  intro m
  induction m with
  | zero => exact ⟨fun _ _ => Ct_none, fun _ _ => Ct_none, fun _ _ => Ct_none, fun _ _ => Ct_none, fun _ _ => Ct_none, fun _ _ => Ct_none⟩
  | succ m ih =>
    obtain ⟨h0, h1, h2, h3, h4, h5⟩ := ih
    exact ⟨fun a w => t_X1_readsE l X hN (rd m) a m h0 h1 h2 h3 h4 h5 w, fun a w => t_X1_readsAnd l X hN (rd m) a m h0 h1 h2 h3 h4 h5 w, fun a w => t_X1_readsNot l X hN (rd m) a m h0 h1 h2 h3 h4 h5 w, fun a w => t_X1_readsSum l X hN (rd m) a m h0 h1 h2 h3 h4 h5 w, fun a w => t_X1_readsTerm l X hN (rd m) a m h0 h1 h2 h3 h4 h5 w, fun a w => t_X1_readsOne l X hN (rd m) a m h0 h1 h2 h3 h4 h5 w⟩
end
section
/-! the reader's whole text; lessons -/
abbrev mm_X1_faultOf : MI := (RX1, cX1_faultOf, 2, (some .int), ftp_X1.map (fun q => q.1), ctp_X1.map (fun q => q.1), clp_X1.map (fun q => q.1))
noncomputable def h_X1_faultOf_16  (k84 : Mem → Option (Int32 × Mem)) : Nat → Int32 → Mem → Option (Int32 × Mem)
  | 0, _, _ => none
  | n + 1, x1, w => if x1 < 3 then (if (w 1 0 5) = (3 + x1) then (Option.bind (f_X1_next  w) (fun r4 => Option.bind (rd 40 0 0 r4) (fun r5 => if r5.1 = 0 then (some (r5.2 1 0 6, r5.2)) else (if (r5.2 1 0 5) = 59 then (Option.bind (f_X1_next  (setV r5.2 11 0 x1 (r5.2 1 0 3))) (fun r8 => (h_X1_faultOf_16 k84 n) (x1 + 1) r8)) else (some (r5.2 1 0 6, r5.2)))))) else (some (w 1 0 6, w))) else (k84 w)
set_option maxRecDepth 100000 in
theorem h_X1_faultOf_16_ok (l : Launch) (X : XC) {N9 : Nat} (hN : 39 ≤ N9)  (k84 : Mem → Option (Int32 × Mem))  (hk84 : ∀  (w : Mem), GE l X mm_X1_faultOf 47 emI N9 flT (k84 w) 84 [some (.inr (.inr (some (1, 0)))), none] [] w) : ∀ (n : Nat) (x1 : Int32) (w : Mem), GE l X mm_X1_faultOf 47 emI N9 flT ((h_X1_faultOf_16 k84 n) x1 w) 16 [some (.inr (.inr (some (1, 0)))), some (.inl x1)] [] w := by
  intro n
  induction n with
  | zero => intro x1 w; exact GE_none
  | succ n ih =>
    intro x1 w
    unfold h_X1_faultOf_16
    refine GE_run (flG_T hN) (pc1 := 18) (L1 := [some (.inr (.inr (some (1, 0)))), some (.inl x1)]) (S1 := [.inl 3, .inl x1]) (w1 := w) (P := True) [(.iload_n 1, 0, 0, 0, 0), (.iconst 3, 0, 0, 3, 0)] (by decide +kernel) rfl trivial ?_
    refine GE_icmpN (k := .ge) (off := 66) (tgt := 84) (by decide +kernel) (by decide) (cnd_ge _ _) (fun c2 => ?_) (fun c2 => ?_)
    · exact GE_weak [true, false] (hk84 w)
    · refine GE_run (flG_T hN) (pc1 := 28) (L1 := [some (.inr (.inr (some (1, 0)))), some (.inl x1)]) (S1 := [.inl (3 + x1), .inl (w 1 0 5)]) (w1 := w) (P := True) [(.aload_n 0, 0, 0, 0, 0), (.getfield 38, 1, 5, 0, 0), (.iconst 3, 0, 0, 3, 0), (.iload_n 1, 0, 0, 0, 0), (.iadd, 0, 0, 0, 0)] (by decide +kernel) rfl trivial ?_
      refine GE_icmp (k := .eq) (off := 8) (tgt := 36) (by decide +kernel) (by decide) (cnd_eq _ _) (fun c3 => ?_) (fun c3 => ?_)
      · refine GE_run (flG_T hN) (pc1 := 37) (L1 := [some (.inr (.inr (some (1, 0)))), some (.inl x1)]) (S1 := [.inr (.inr (some (1, 0)))]) (w1 := w) (P := True) [(.aload_n 0, 0, 0, 0, 0)] (by decide +kernel) rfl trivial ?_
        refine GE_callVV (As := []) (k := 1) (i := 0) (S := []) (t_X1_next l X hN w) (by decide) ⟨me_X1_next, mi_X1_next, mv_X1_next, lk_X1_35⟩ rfl (by decide +kernel) rfl (by decide) (by decide) (Nat.le_of_ble_eq_true rfl) (fun r4 _ => ?_)
        refine GE_run (flG_T hN) (pc1 := 42) (L1 := [some (.inr (.inr (some (1, 0)))), some (.inl x1)]) (S1 := [.inl 0, .inr (.inr (some (1, 0)))]) (w1 := r4) (P := True) [(.aload_n 0, 0, 0, 0, 0), (.iconst 0, 0, 0, 0, 0)] (by decide +kernel) rfl trivial ?_
        refine GE_callSI (As := [.inr (.inr (some (1, 0))), .inl 0]) (S := []) ((fun (l : Launch) (X : XC) (hN : 39 ≤ N9) => (rd_ok l X hN 40).1) l X hN 0 r4) ⟨me_X1_readsE, ms_X1_readsE, lk_X1_44⟩ (by decide +kernel) rfl (by decide) (by decide) (Nat.le_of_ble_eq_true rfl) (fun r5 _ => ?_)
        refine GE_if (k := .eq) (off := 12) (tgt := 57) (by decide +kernel) (by decide) (cnd_eq _ _) (fun c6 => ?_) (fun c6 => ?_)
        · refine GE_run (flG_T hN) (pc1 := 61) (L1 := [some (.inr (.inr (some (1, 0)))), some (.inl x1)]) (S1 := [.inl (r5.2 1 0 6)]) (w1 := r5.2) (P := True) [(.aload_n 0, 0, 0, 0, 0), (.getfield 41, 1, 6, 0, 0)] (by decide +kernel) rfl trivial ?_
          exact GE_iret rfl (by decide +kernel)
        · refine GE_run (flG_T hN) (pc1 := 54) (L1 := [some (.inr (.inr (some (1, 0)))), some (.inl x1)]) (S1 := [.inl 59, .inl (r5.2 1 0 5)]) (w1 := r5.2) (P := True) [(.aload_n 0, 0, 0, 0, 0), (.getfield 38, 1, 5, 0, 0), (.bipush 59, 0, 0, 59, 0)] (by decide +kernel) rfl trivial ?_
          refine GE_icmp (k := .eq) (off := 8) (tgt := 62) (by decide +kernel) (by decide) (cnd_eq _ _) (fun c7 => ?_) (fun c7 => ?_)
          · refine GE_run (flG_T hN) (pc1 := 71) (L1 := [some (.inr (.inr (some (1, 0)))), some (.inl x1)]) (S1 := [.inl (r5.2 1 0 3), .inl x1, .inr (.inr (some (11, 0)))]) (w1 := r5.2) (P := True) [(.aload_n 0, 0, 0, 0, 0), (.getfield 18, 1, 4, 0, 0), (.iload_n 1, 0, 0, 0, 0), (.aload_n 0, 0, 0, 0, 0), (.getfield 29, 1, 3, 0, 0)] (by decide +kernel) rfl trivial ?_
            refine GE_callNVp (As := [.inr (.inr (some (11, 0))), .inl x1, .inl (r5.2 1 0 3)]) (S := []) (p_X4_set l X hN 11 0 x1 (r5.2 1 0 3) (by decide) (okM hN (by decide)) r5.2) ⟨me_X4_set, ms_X4_set, ln_X1_25⟩ (by decide +kernel) rfl (by decide) (by decide) (Nat.le_of_ble_eq_true rfl) ?_
            refine GE_run (flG_T hN) (pc1 := 75) (L1 := [some (.inr (.inr (some (1, 0)))), some (.inl x1)]) (S1 := [.inr (.inr (some (1, 0)))]) (w1 := setV r5.2 11 0 x1 (r5.2 1 0 3)) (P := True) [(.aload_n 0, 0, 0, 0, 0)] (by decide +kernel) rfl trivial ?_
            refine GE_callVV (As := []) (k := 1) (i := 0) (S := []) (t_X1_next l X hN (setV r5.2 11 0 x1 (r5.2 1 0 3))) (by decide) ⟨me_X1_next, mi_X1_next, mv_X1_next, lk_X1_35⟩ rfl (by decide +kernel) rfl (by decide) (by decide) (Nat.le_of_ble_eq_true rfl) (fun r8 _ => ?_)
            refine GE_run (flG_T hN) (pc1 := 16) (L1 := [some (.inr (.inr (some (1, 0)))), some (.inl (x1 + 1))]) (S1 := []) (w1 := r8) (P := True) [(.iinc 1 1, 0, 0, 1, 0), (.goto (-65), 0, 0, 0, 0)] (by decide +kernel) rfl trivial ?_
            exact GE_weak [true, true] (ih (x1 + 1) r8)
          · refine GE_run (flG_T hN) (pc1 := 61) (L1 := [some (.inr (.inr (some (1, 0)))), some (.inl x1)]) (S1 := [.inl (r5.2 1 0 6)]) (w1 := r5.2) (P := True) [(.aload_n 0, 0, 0, 0, 0), (.getfield 41, 1, 6, 0, 0)] (by decide +kernel) rfl trivial ?_
            exact GE_iret rfl (by decide +kernel)
      · refine GE_run (flG_T hN) (pc1 := 35) (L1 := [some (.inr (.inr (some (1, 0)))), some (.inl x1)]) (S1 := [.inl (w 1 0 6)]) (w1 := w) (P := True) [(.aload_n 0, 0, 0, 0, 0), (.getfield 41, 1, 6, 0, 0)] (by decide +kernel) rfl trivial ?_
        exact GE_iret rfl (by decide +kernel)
noncomputable def f_X1_faultOf  (w : Mem) : Option (Int32 × Mem) := Option.bind (f_X1_next  (up (up w 1 0 3 0) 1 0 7 0)) (fun r1 => h_X1_faultOf_16 (fun w9 => if (w9 1 0 5) = 0 then (some ((-1), w9)) else (some (w9 1 0 6, w9))) FU 0 r1)
set_option maxRecDepth 100000 in
theorem t_X1_faultOf (l : Launch) (X : XC) {N9 : Nat} (hN : 39 ≤ N9)   (w : Mem) : Ct l X 47 yX1_faultOf cX1_faultOf 2 (some .int) emI [.inr (.inr (some (1, 0)))] N9 flT w (f_X1_faultOf  w) := by
  refine Ct_of (mi := mm_X1_faultOf) (mik_X1 _ _ _) me_X1_faultOf rfl (okAs_cons (okMV hN (by decide)) okAs_nil) (Nat.le_of_ble_eq_true rfl) ?_
  unfold f_X1_faultOf
  refine GE_run (flG_T hN) (pc1 := 11) (L1 := [some (.inr (.inr (some (1, 0)))), none]) (S1 := [.inr (.inr (some (1, 0)))]) (w1 := up (up w 1 0 3 0) 1 0 7 0) (P := True) [(.aload_n 0, 0, 0, 0, 0), (.iconst 0, 0, 0, 0, 0), (.putfield 29, 1, 3, 0, 0), (.aload_n 0, 0, 0, 0, 0), (.iconst 0, 0, 0, 0, 0), (.putfield 32, 1, 7, 0, 0), (.aload_n 0, 0, 0, 0, 0)] (by decide +kernel) rfl trivial ?_
  refine GE_callVV (As := []) (k := 1) (i := 0) (S := []) (t_X1_next l X hN (up (up w 1 0 3 0) 1 0 7 0)) (by decide) ⟨me_X1_next, mi_X1_next, mv_X1_next, lk_X1_35⟩ rfl (by decide +kernel) rfl (by decide) (by decide) (Nat.le_of_ble_eq_true rfl) (fun r1 _ => ?_)
  refine GE_run (flG_T hN) (pc1 := 16) (L1 := [some (.inr (.inr (some (1, 0)))), some (.inl 0)]) (S1 := []) (w1 := r1) (P := True) [(.iconst 0, 0, 0, 0, 0), (.istore_n 1, 0, 0, 0, 0)] (by decide +kernel) rfl trivial ?_
  refine GE_weak [true, true] (h_X1_faultOf_16_ok l X hN _ ?_ FU 0 r1)
  · intro w9
    refine GE_run (flG_T hN) (pc1 := 88) (L1 := [some (.inr (.inr (some (1, 0)))), none]) (S1 := [.inl (w9 1 0 5)]) (w1 := w9) (P := True) [(.aload_n 0, 0, 0, 0, 0), (.getfield 38, 1, 5, 0, 0)] (by decide +kernel) rfl trivial ?_
    refine GE_ifN (k := .ne) (off := 7) (tgt := 95) (by decide +kernel) (by decide) (cnd_ne _ _) (fun c10 => ?_) (fun c10 => ?_)
    · refine GE_run (flG_T hN) (pc1 := 99) (L1 := [some (.inr (.inr (some (1, 0)))), none]) (S1 := [.inl (w9 1 0 6)]) (w1 := w9) (P := True) [(.aload_n 0, 0, 0, 0, 0), (.getfield 41, 1, 6, 0, 0)] (by decide +kernel) rfl trivial ?_
      exact GE_iret rfl (by decide +kernel)
    · refine GE_run (flG_T hN) (pc1 := 99) (L1 := [some (.inr (.inr (some (1, 0)))), none]) (S1 := [.inl (-1)]) (w1 := w9) (P := True) [(.iconst (-1), 0, 0, -1, 0), (.goto 7, 0, 0, 0, 0)] (by decide +kernel) rfl trivial ?_
      exact GE_iret rfl (by decide +kernel)
abbrev mm_X4_text : MI := (RX4, cX4_text, 2, (some .int), ftp_X4.map (fun q => q.1), ctp_X4.map (fun q => q.1), clp_X4.map (fun q => q.1))
noncomputable def f_X4_text  (w : Mem) : Option (Int32 × Mem) := if (w 3 0 0) < 6 then (Option.bind (f_X1_faultOf  w) (fun r2 => if r2.1 < 0 then (Option.bind (f_X3_add  (up r2.2 1 0 1 0)) (fun r4 => some (r4.1, r4.2))) else (some ((-100) - r2.1, up r2.2 1 0 1 0)))) else (some ((-4), w))
set_option maxRecDepth 100000 in
theorem t_X4_text (l : Launch) (X : XC) {N9 : Nat} (hN : 39 ≤ N9)   (w : Mem) : Ct l X 48 yX4_text cX4_text 2 (some .int) emI [.inr (.inr (some (4, 0)))] N9 flT w (f_X4_text  w) := by
  refine Ct_of (mi := mm_X4_text) (mik_X4 _ _ _) me_X4_text rfl (okAs_cons (okMV hN (by decide)) okAs_nil) (Nat.le_of_ble_eq_true rfl) ?_
  unfold f_X4_text
  refine GE_run (flG_T hN) (pc1 := 9) (L1 := [some (.inr (.inr (some (4, 0)))), none]) (S1 := [.inl 6, .inl (w 3 0 0)]) (w1 := w) (P := True) [(.aload_n 0, 0, 0, 0, 0), (.getfield 10, 4, 0, 0, 0), (.getfield 61, 3, 0, 0, 0), (.bipush 6, 0, 0, 6, 0)] (by decide +kernel) rfl trivial ?_
  refine GE_icmp (k := .lt) (off := 6) (tgt := 15) (by decide +kernel) (by decide) (cnd_lt _ _) (fun c1 => ?_) (fun c1 => ?_)
  · refine GE_run (flG_T hN) (pc1 := 19) (L1 := [some (.inr (.inr (some (4, 0)))), none]) (S1 := [.inr (.inr (some (1, 0)))]) (w1 := w) (P := True) [(.aload_n 0, 0, 0, 0, 0), (.getfield 19, 4, 1, 0, 0)] (by decide +kernel) rfl trivial ?_
    refine GE_callVI (As := []) (k := 1) (i := 0) (S := []) (t_X1_faultOf l X hN w) (by decide) ⟨me_X1_faultOf, mi_X1_faultOf, mv_X1_faultOf, lk_X4_81⟩ rfl (by decide +kernel) rfl (by decide) (by decide) (Nat.le_of_ble_eq_true rfl) (fun r2 _ => ?_)
    refine GE_run (flG_T hN) (pc1 := 32) (L1 := [some (.inr (.inr (some (4, 0)))), some (.inl r2.1)]) (S1 := [.inl r2.1]) (w1 := up r2.2 1 0 1 0) (P := True) [(.istore_n 1, 0, 0, 0, 0), (.aload_n 0, 0, 0, 0, 0), (.getfield 19, 4, 1, 0, 0), (.iconst 0, 0, 0, 0, 0), (.putfield 67, 1, 1, 0, 0), (.iload_n 1, 0, 0, 0, 0)] (by decide +kernel) rfl trivial ?_
    refine GE_if (k := .lt) (off := 8) (tgt := 40) (by decide +kernel) (by decide) (cnd_lt _ _) (fun c3 => ?_) (fun c3 => ?_)
    · refine GE_run (flG_T hN) (pc1 := 58) (L1 := [some (.inr (.inr (some (4, 0)))), some (.inl r2.1)]) (S1 := [.inr (.inr (some (11, 0))), .inr (.inr (some (10, 0))), .inr (.inr (some (3, 0)))]) (w1 := up r2.2 1 0 1 0) (P := True) [(.aload_n 0, 0, 0, 0, 0), (.getfield 10, 4, 0, 0, 0), (.aload_n 0, 0, 0, 0, 0), (.getfield 19, 4, 1, 0, 0), (.getfield 85, 1, 2, 0, 0), (.aload_n 0, 0, 0, 0, 0), (.getfield 19, 4, 1, 0, 0), (.getfield 89, 1, 4, 0, 0)] (by decide +kernel) rfl trivial ?_
      refine GE_callVI (As := [.inr (.inr (some (10, 0))), .inr (.inr (some (11, 0)))]) (k := 3) (i := 0) (S := []) (t_X3_add l X hN (up r2.2 1 0 1 0)) (by decide) ⟨me_X3_add, mi_X3_add, mv_X3_add, lk_X4_92⟩ rfl (by decide +kernel) rfl (by decide) (by decide) (Nat.le_of_ble_eq_true rfl) (fun r4 _ => ?_)
      exact GE_iret rfl (by decide +kernel)
    · refine GE_run (flG_T hN) (pc1 := 39) (L1 := [some (.inr (.inr (some (4, 0)))), some (.inl r2.1)]) (S1 := [.inl ((-100) - r2.1)]) (w1 := up r2.2 1 0 1 0) (P := True) [(.bipush (-100), 0, 0, -100, 0), (.iload_n 1, 0, 0, 0, 0), (.isub, 0, 0, 0, 0)] (by decide +kernel) rfl trivial ?_
      exact GE_iret rfl (by decide +kernel)
  · refine GE_run (flG_T hN) (pc1 := 14) (L1 := [some (.inr (.inr (some (4, 0)))), none]) (S1 := [.inl (-4)]) (w1 := w) (P := True) [(.bipush (-4), 0, 0, -4, 0)] (by decide +kernel) rfl trivial ?_
    exact GE_iret rfl (by decide +kernel)
abbrev mm_X4_feed : MI := (RX4, cX4_feed, 7, (some .int), ftp_X4.map (fun q => q.1), ctp_X4.map (fun q => q.1), clp_X4.map (fun q => q.1))
noncomputable def j_X4_feed_118   (x1 : Int32) (x6 : Int32) (w : Mem) : Option (Int32 × Mem) := if x1 ≤ 4 then (some (w 1 0 1, w)) else (Option.bind (f_X1_add x6 w) (fun r14 => some (r14 1 0 1, r14)))
set_option maxRecDepth 100000 in
theorem j_X4_feed_118_ok (l : Launch) (X : XC) {N9 : Nat} (hN : 39 ≤ N9)   (x1 : Int32) (x6 : Int32)   (w : Mem) : GE l X mm_X4_feed 2 emI N9 flT (j_X4_feed_118 x1 x6 w) 118 [some (.inr (.inr (some (4, 0)))), some (.inl x1), none, none, none, none, some (.inl x6)] [] w := by
  unfold j_X4_feed_118
  refine GE_run (flG_T hN) (pc1 := 120) (L1 := [some (.inr (.inr (some (4, 0)))), some (.inl x1), none, none, none, none, some (.inl x6)]) (S1 := [.inl 4, .inl x1]) (w1 := w) (P := True) [(.iload_n 1, 0, 0, 0, 0), (.iconst 4, 0, 0, 4, 0)] (by decide +kernel) rfl trivial ?_
  refine GE_icmp (k := .le) (off := 12) (tgt := 132) (by decide +kernel) (by decide) (cnd_le _ _) (fun c13 => ?_) (fun c13 => ?_)
  · refine GE_run (flG_T hN) (pc1 := 139) (L1 := [some (.inr (.inr (some (4, 0)))), some (.inl x1), none, none, none, none, some (.inl x6)]) (S1 := [.inl (w 1 0 1)]) (w1 := w) (P := True) [(.aload_n 0, 0, 0, 0, 0), (.getfield 19, 4, 1, 0, 0), (.getfield 67, 1, 1, 0, 0)] (by decide +kernel) rfl trivial ?_
    exact GE_iret rfl (by decide +kernel)
  · refine GE_run (flG_T hN) (pc1 := 129) (L1 := [some (.inr (.inr (some (4, 0)))), some (.inl x1), none, none, none, none, some (.inl x6)]) (S1 := [.inl x6, .inr (.inr (some (1, 0)))]) (w1 := w) (P := True) [(.aload_n 0, 0, 0, 0, 0), (.getfield 19, 4, 1, 0, 0), (.iload 6, 0, 0, 0, 0)] (by decide +kernel) rfl trivial ?_
    refine GE_callVV (As := [.inl x6]) (k := 1) (i := 0) (S := []) (t_X1_add l X hN x6 w) (by decide) ⟨me_X1_add, mi_X1_add, mv_X1_add, lk_X4_77⟩ rfl (by decide +kernel) rfl (by decide) (by decide) (Nat.le_of_ble_eq_true rfl) (fun r14 _ => ?_)
    refine GE_run (flG_T hN) (pc1 := 139) (L1 := [some (.inr (.inr (some (4, 0)))), some (.inl x1), none, none, none, none, some (.inl x6)]) (S1 := [.inl (r14 1 0 1)]) (w1 := r14) (P := True) [(.aload_n 0, 0, 0, 0, 0), (.getfield 19, 4, 1, 0, 0), (.getfield 67, 1, 1, 0, 0)] (by decide +kernel) rfl trivial ?_
    exact GE_iret rfl (by decide +kernel)
noncomputable def j_X4_feed_104   (x1 : Int32) (x5 : Int32) (x6 : Int32) (w : Mem) : Option (Int32 × Mem) := if x1 ≤ 3 then (j_X4_feed_118 x1 x6 w) else (Option.bind (f_X1_add x5 w) (fun r15 => j_X4_feed_118 x1 x6 r15))
set_option maxRecDepth 100000 in
theorem j_X4_feed_104_ok (l : Launch) (X : XC) {N9 : Nat} (hN : 39 ≤ N9)   (x1 : Int32) (x5 : Int32) (x6 : Int32)   (w : Mem) : GE l X mm_X4_feed 2 emI N9 flT (j_X4_feed_104 x1 x5 x6 w) 104 [some (.inr (.inr (some (4, 0)))), some (.inl x1), none, none, none, some (.inl x5), some (.inl x6)] [] w := by
  unfold j_X4_feed_104
  refine GE_run (flG_T hN) (pc1 := 106) (L1 := [some (.inr (.inr (some (4, 0)))), some (.inl x1), none, none, none, some (.inl x5), some (.inl x6)]) (S1 := [.inl 3, .inl x1]) (w1 := w) (P := True) [(.iload_n 1, 0, 0, 0, 0), (.iconst 3, 0, 0, 3, 0)] (by decide +kernel) rfl trivial ?_
  refine GE_icmp (k := .le) (off := 12) (tgt := 118) (by decide +kernel) (by decide) (cnd_le _ _) (fun c12 => ?_) (fun c12 => ?_)
  · exact GE_weak [true, true, false, false, false, false, true] (j_X4_feed_118_ok l X hN x1 x6 w)
  · refine GE_run (flG_T hN) (pc1 := 115) (L1 := [some (.inr (.inr (some (4, 0)))), some (.inl x1), none, none, none, some (.inl x5), some (.inl x6)]) (S1 := [.inl x5, .inr (.inr (some (1, 0)))]) (w1 := w) (P := True) [(.aload_n 0, 0, 0, 0, 0), (.getfield 19, 4, 1, 0, 0), (.iload 5, 0, 0, 0, 0)] (by decide +kernel) rfl trivial ?_
    refine GE_callVV (As := [.inl x5]) (k := 1) (i := 0) (S := []) (t_X1_add l X hN x5 w) (by decide) ⟨me_X1_add, mi_X1_add, mv_X1_add, lk_X4_77⟩ rfl (by decide +kernel) rfl (by decide) (by decide) (Nat.le_of_ble_eq_true rfl) (fun r15 _ => ?_)
    exact GE_weak [true, true, false, false, false, false, true] (j_X4_feed_118_ok l X hN x1 x6 r15)
noncomputable def j_X4_feed_90   (x1 : Int32) (x4 : Int32) (x5 : Int32) (x6 : Int32) (w : Mem) : Option (Int32 × Mem) := if x1 ≤ 2 then (j_X4_feed_104 x1 x5 x6 w) else (Option.bind (f_X1_add x4 w) (fun r16 => j_X4_feed_104 x1 x5 x6 r16))
set_option maxRecDepth 100000 in
theorem j_X4_feed_90_ok (l : Launch) (X : XC) {N9 : Nat} (hN : 39 ≤ N9)   (x1 : Int32) (x4 : Int32) (x5 : Int32) (x6 : Int32)   (w : Mem) : GE l X mm_X4_feed 2 emI N9 flT (j_X4_feed_90 x1 x4 x5 x6 w) 90 [some (.inr (.inr (some (4, 0)))), some (.inl x1), none, none, some (.inl x4), some (.inl x5), some (.inl x6)] [] w := by
  unfold j_X4_feed_90
  refine GE_run (flG_T hN) (pc1 := 92) (L1 := [some (.inr (.inr (some (4, 0)))), some (.inl x1), none, none, some (.inl x4), some (.inl x5), some (.inl x6)]) (S1 := [.inl 2, .inl x1]) (w1 := w) (P := True) [(.iload_n 1, 0, 0, 0, 0), (.iconst 2, 0, 0, 2, 0)] (by decide +kernel) rfl trivial ?_
  refine GE_icmp (k := .le) (off := 12) (tgt := 104) (by decide +kernel) (by decide) (cnd_le _ _) (fun c11 => ?_) (fun c11 => ?_)
  · exact GE_weak [true, true, false, false, false, true, true] (j_X4_feed_104_ok l X hN x1 x5 x6 w)
  · refine GE_run (flG_T hN) (pc1 := 101) (L1 := [some (.inr (.inr (some (4, 0)))), some (.inl x1), none, none, some (.inl x4), some (.inl x5), some (.inl x6)]) (S1 := [.inl x4, .inr (.inr (some (1, 0)))]) (w1 := w) (P := True) [(.aload_n 0, 0, 0, 0, 0), (.getfield 19, 4, 1, 0, 0), (.iload 4, 0, 0, 0, 0)] (by decide +kernel) rfl trivial ?_
    refine GE_callVV (As := [.inl x4]) (k := 1) (i := 0) (S := []) (t_X1_add l X hN x4 w) (by decide) ⟨me_X1_add, mi_X1_add, mv_X1_add, lk_X4_77⟩ rfl (by decide +kernel) rfl (by decide) (by decide) (Nat.le_of_ble_eq_true rfl) (fun r16 _ => ?_)
    exact GE_weak [true, true, false, false, false, true, true] (j_X4_feed_104_ok l X hN x1 x5 x6 r16)
noncomputable def f_X4_feed (a1 : Int32) (a2 : Int32) (a3 : Int32) (a4 : Int32) (a5 : Int32) (a6 : Int32) (w : Mem) : Option (Int32 × Mem) := if a1 < 1 then (some ((-2), w)) else (if a1 ≤ 5 then (if (rng a2 0 255) = 0 then (some ((-2), w)) else (if (rng a3 0 255) = 0 then (some ((-2), w)) else (if (rng a4 0 255) = 0 then (some ((-2), w)) else (if (rng a5 0 255) = 0 then (some ((-2), w)) else (if (rng a6 0 255) = 0 then (some ((-2), w)) else (if ((w 1 0 1) + a1) ≤ 160 then (Option.bind (f_X1_add a2 w) (fun r9 => if a1 ≤ 1 then (j_X4_feed_90 a1 a4 a5 a6 r9) else (Option.bind (f_X1_add a3 r9) (fun r17 => j_X4_feed_90 a1 a4 a5 a6 r17)))) else (some ((-4), w)))))))) else (some ((-2), w)))
set_option maxRecDepth 100000 in
theorem t_X4_feed (l : Launch) (X : XC) {N9 : Nat} (hN : 39 ≤ N9)  (a1 : Int32) (a2 : Int32) (a3 : Int32) (a4 : Int32) (a5 : Int32) (a6 : Int32) (w : Mem) : Ct l X 2 yX4_feed cX4_feed 7 (some .int) emI [.inr (.inr (some (4, 0))), .inl a1, .inl a2, .inl a3, .inl a4, .inl a5, .inl a6] N9 flT w (f_X4_feed a1 a2 a3 a4 a5 a6 w) := by
  refine Ct_of (mi := mm_X4_feed) (mik_X4 _ _ _) me_X4_feed rfl (okAs_cons (okMV hN (by decide)) (okAs_cons rfl (okAs_cons rfl (okAs_cons rfl (okAs_cons rfl (okAs_cons rfl (okAs_cons rfl okAs_nil))))))) (Nat.le_of_ble_eq_true rfl) ?_
  unfold f_X4_feed
  refine GE_run (flG_T hN) (pc1 := 2) (L1 := [some (.inr (.inr (some (4, 0)))), some (.inl a1), some (.inl a2), some (.inl a3), some (.inl a4), some (.inl a5), some (.inl a6)]) (S1 := [.inl 1, .inl a1]) (w1 := w) (P := True) [(.iload_n 1, 0, 0, 0, 0), (.iconst 1, 0, 0, 1, 0)] (by decide +kernel) rfl trivial ?_
  refine GE_icmp (k := .lt) (off := 46) (tgt := 48) (by decide +kernel) (by decide) (cnd_lt _ _) (fun c1 => ?_) (fun c1 => ?_)
  · refine GE_run (flG_T hN) (pc1 := 50) (L1 := [some (.inr (.inr (some (4, 0)))), some (.inl a1), some (.inl a2), some (.inl a3), some (.inl a4), some (.inl a5), some (.inl a6)]) (S1 := [.inl (-2)]) (w1 := w) (P := True) [(.bipush (-2), 0, 0, -2, 0)] (by decide +kernel) rfl trivial ?_
    exact GE_iret rfl (by decide +kernel)
  · refine GE_run (flG_T hN) (pc1 := 7) (L1 := [some (.inr (.inr (some (4, 0)))), some (.inl a1), some (.inl a2), some (.inl a3), some (.inl a4), some (.inl a5), some (.inl a6)]) (S1 := [.inl 5, .inl a1]) (w1 := w) (P := True) [(.iload_n 1, 0, 0, 0, 0), (.iconst 5, 0, 0, 5, 0)] (by decide +kernel) rfl trivial ?_
    refine GE_icmpN (k := .gt) (off := 41) (tgt := 48) (by decide +kernel) (by decide) (cnd_gt _ _) (fun c2 => ?_) (fun c2 => ?_)
    · refine GE_run (flG_T hN) (pc1 := 50) (L1 := [some (.inr (.inr (some (4, 0)))), some (.inl a1), some (.inl a2), some (.inl a3), some (.inl a4), some (.inl a5), some (.inl a6)]) (S1 := [.inl (-2)]) (w1 := w) (P := True) [(.bipush (-2), 0, 0, -2, 0)] (by decide +kernel) rfl trivial ?_
      exact GE_iret rfl (by decide +kernel)
    · refine GE_run (flG_T hN) (pc1 := 11) (L1 := [some (.inr (.inr (some (4, 0)))), some (.inl a1), some (.inl a2), some (.inl a3), some (.inl a4), some (.inl a5), some (.inl a6)]) (S1 := [.inl a2]) (w1 := w) (P := True) [(.iload_n 2, 0, 0, 0, 0)] (by decide +kernel) rfl trivial ?_
      refine GE_callSIp (As := [.inl a2]) (S := []) (p_X4_isByte l X hN a2 w) ⟨me_X4_isByte, ms_X4_isByte, lk_X4_74⟩ (by decide +kernel) rfl (by decide) (by decide) (Nat.le_of_ble_eq_true rfl) ?_
      refine GE_if (k := .eq) (off := 34) (tgt := 48) (by decide +kernel) (by decide) (cnd_eq _ _) (fun c3 => ?_) (fun c3 => ?_)
      · refine GE_run (flG_T hN) (pc1 := 50) (L1 := [some (.inr (.inr (some (4, 0)))), some (.inl a1), some (.inl a2), some (.inl a3), some (.inl a4), some (.inl a5), some (.inl a6)]) (S1 := [.inl (-2)]) (w1 := w) (P := True) [(.bipush (-2), 0, 0, -2, 0)] (by decide +kernel) rfl trivial ?_
        exact GE_iret rfl (by decide +kernel)
      · refine GE_run (flG_T hN) (pc1 := 18) (L1 := [some (.inr (.inr (some (4, 0)))), some (.inl a1), some (.inl a2), some (.inl a3), some (.inl a4), some (.inl a5), some (.inl a6)]) (S1 := [.inl a3]) (w1 := w) (P := True) [(.iload_n 3, 0, 0, 0, 0)] (by decide +kernel) rfl trivial ?_
        refine GE_callSIp (As := [.inl a3]) (S := []) (p_X4_isByte l X hN a3 w) ⟨me_X4_isByte, ms_X4_isByte, lk_X4_74⟩ (by decide +kernel) rfl (by decide) (by decide) (Nat.le_of_ble_eq_true rfl) ?_
        refine GE_if (k := .eq) (off := 27) (tgt := 48) (by decide +kernel) (by decide) (cnd_eq _ _) (fun c4 => ?_) (fun c4 => ?_)
        · refine GE_run (flG_T hN) (pc1 := 50) (L1 := [some (.inr (.inr (some (4, 0)))), some (.inl a1), some (.inl a2), some (.inl a3), some (.inl a4), some (.inl a5), some (.inl a6)]) (S1 := [.inl (-2)]) (w1 := w) (P := True) [(.bipush (-2), 0, 0, -2, 0)] (by decide +kernel) rfl trivial ?_
          exact GE_iret rfl (by decide +kernel)
        · refine GE_run (flG_T hN) (pc1 := 26) (L1 := [some (.inr (.inr (some (4, 0)))), some (.inl a1), some (.inl a2), some (.inl a3), some (.inl a4), some (.inl a5), some (.inl a6)]) (S1 := [.inl a4]) (w1 := w) (P := True) [(.iload 4, 0, 0, 0, 0)] (by decide +kernel) rfl trivial ?_
          refine GE_callSIp (As := [.inl a4]) (S := []) (p_X4_isByte l X hN a4 w) ⟨me_X4_isByte, ms_X4_isByte, lk_X4_74⟩ (by decide +kernel) rfl (by decide) (by decide) (Nat.le_of_ble_eq_true rfl) ?_
          refine GE_if (k := .eq) (off := 19) (tgt := 48) (by decide +kernel) (by decide) (cnd_eq _ _) (fun c5 => ?_) (fun c5 => ?_)
          · refine GE_run (flG_T hN) (pc1 := 50) (L1 := [some (.inr (.inr (some (4, 0)))), some (.inl a1), some (.inl a2), some (.inl a3), some (.inl a4), some (.inl a5), some (.inl a6)]) (S1 := [.inl (-2)]) (w1 := w) (P := True) [(.bipush (-2), 0, 0, -2, 0)] (by decide +kernel) rfl trivial ?_
            exact GE_iret rfl (by decide +kernel)
          · refine GE_run (flG_T hN) (pc1 := 34) (L1 := [some (.inr (.inr (some (4, 0)))), some (.inl a1), some (.inl a2), some (.inl a3), some (.inl a4), some (.inl a5), some (.inl a6)]) (S1 := [.inl a5]) (w1 := w) (P := True) [(.iload 5, 0, 0, 0, 0)] (by decide +kernel) rfl trivial ?_
            refine GE_callSIp (As := [.inl a5]) (S := []) (p_X4_isByte l X hN a5 w) ⟨me_X4_isByte, ms_X4_isByte, lk_X4_74⟩ (by decide +kernel) rfl (by decide) (by decide) (Nat.le_of_ble_eq_true rfl) ?_
            refine GE_if (k := .eq) (off := 11) (tgt := 48) (by decide +kernel) (by decide) (cnd_eq _ _) (fun c6 => ?_) (fun c6 => ?_)
            · refine GE_run (flG_T hN) (pc1 := 50) (L1 := [some (.inr (.inr (some (4, 0)))), some (.inl a1), some (.inl a2), some (.inl a3), some (.inl a4), some (.inl a5), some (.inl a6)]) (S1 := [.inl (-2)]) (w1 := w) (P := True) [(.bipush (-2), 0, 0, -2, 0)] (by decide +kernel) rfl trivial ?_
              exact GE_iret rfl (by decide +kernel)
            · refine GE_run (flG_T hN) (pc1 := 42) (L1 := [some (.inr (.inr (some (4, 0)))), some (.inl a1), some (.inl a2), some (.inl a3), some (.inl a4), some (.inl a5), some (.inl a6)]) (S1 := [.inl a6]) (w1 := w) (P := True) [(.iload 6, 0, 0, 0, 0)] (by decide +kernel) rfl trivial ?_
              refine GE_callSIp (As := [.inl a6]) (S := []) (p_X4_isByte l X hN a6 w) ⟨me_X4_isByte, ms_X4_isByte, lk_X4_74⟩ (by decide +kernel) rfl (by decide) (by decide) (Nat.le_of_ble_eq_true rfl) ?_
              refine GE_ifN (k := .ne) (off := 6) (tgt := 51) (by decide +kernel) (by decide) (cnd_ne _ _) (fun c7 => ?_) (fun c7 => ?_)
              · refine GE_run (flG_T hN) (pc1 := 63) (L1 := [some (.inr (.inr (some (4, 0)))), some (.inl a1), some (.inl a2), some (.inl a3), some (.inl a4), some (.inl a5), some (.inl a6)]) (S1 := [.inl 160, .inl ((w 1 0 1) + a1)]) (w1 := w) (P := True) [(.aload_n 0, 0, 0, 0, 0), (.getfield 19, 4, 1, 0, 0), (.getfield 67, 1, 1, 0, 0), (.iload_n 1, 0, 0, 0, 0), (.iadd, 0, 0, 0, 0), (.sipush 160, 0, 0, 160, 0)] (by decide +kernel) rfl trivial ?_
                refine GE_icmp (k := .le) (off := 6) (tgt := 69) (by decide +kernel) (by decide) (cnd_le _ _) (fun c8 => ?_) (fun c8 => ?_)
                · refine GE_run (flG_T hN) (pc1 := 74) (L1 := [some (.inr (.inr (some (4, 0)))), some (.inl a1), some (.inl a2), some (.inl a3), some (.inl a4), some (.inl a5), some (.inl a6)]) (S1 := [.inl a2, .inr (.inr (some (1, 0)))]) (w1 := w) (P := True) [(.aload_n 0, 0, 0, 0, 0), (.getfield 19, 4, 1, 0, 0), (.iload_n 2, 0, 0, 0, 0)] (by decide +kernel) rfl trivial ?_
                  refine GE_callVV (As := [.inl a2]) (k := 1) (i := 0) (S := []) (t_X1_add l X hN a2 w) (by decide) ⟨me_X1_add, mi_X1_add, mv_X1_add, lk_X4_77⟩ rfl (by decide +kernel) rfl (by decide) (by decide) (Nat.le_of_ble_eq_true rfl) (fun r9 _ => ?_)
                  refine GE_run (flG_T hN) (pc1 := 79) (L1 := [some (.inr (.inr (some (4, 0)))), some (.inl a1), some (.inl a2), some (.inl a3), some (.inl a4), some (.inl a5), some (.inl a6)]) (S1 := [.inl 1, .inl a1]) (w1 := r9) (P := True) [(.iload_n 1, 0, 0, 0, 0), (.iconst 1, 0, 0, 1, 0)] (by decide +kernel) rfl trivial ?_
                  refine GE_icmp (k := .le) (off := 11) (tgt := 90) (by decide +kernel) (by decide) (cnd_le _ _) (fun c10 => ?_) (fun c10 => ?_)
                  · exact GE_weak [true, true, false, false, true, true, true] (j_X4_feed_90_ok l X hN a1 a4 a5 a6 r9)
                  · refine GE_run (flG_T hN) (pc1 := 87) (L1 := [some (.inr (.inr (some (4, 0)))), some (.inl a1), some (.inl a2), some (.inl a3), some (.inl a4), some (.inl a5), some (.inl a6)]) (S1 := [.inl a3, .inr (.inr (some (1, 0)))]) (w1 := r9) (P := True) [(.aload_n 0, 0, 0, 0, 0), (.getfield 19, 4, 1, 0, 0), (.iload_n 3, 0, 0, 0, 0)] (by decide +kernel) rfl trivial ?_
                    refine GE_callVV (As := [.inl a3]) (k := 1) (i := 0) (S := []) (t_X1_add l X hN a3 r9) (by decide) ⟨me_X1_add, mi_X1_add, mv_X1_add, lk_X4_77⟩ rfl (by decide +kernel) rfl (by decide) (by decide) (Nat.le_of_ble_eq_true rfl) (fun r17 _ => ?_)
                    exact GE_weak [true, true, false, false, true, true, true] (j_X4_feed_90_ok l X hN a1 a4 a5 a6 r17)
                · refine GE_run (flG_T hN) (pc1 := 68) (L1 := [some (.inr (.inr (some (4, 0)))), some (.inl a1), some (.inl a2), some (.inl a3), some (.inl a4), some (.inl a5), some (.inl a6)]) (S1 := [.inl (-4)]) (w1 := w) (P := True) [(.bipush (-4), 0, 0, -4, 0)] (by decide +kernel) rfl trivial ?_
                  exact GE_iret rfl (by decide +kernel)
              · refine GE_run (flG_T hN) (pc1 := 50) (L1 := [some (.inr (.inr (some (4, 0)))), some (.inl a1), some (.inl a2), some (.inl a3), some (.inl a4), some (.inl a5), some (.inl a6)]) (S1 := [.inl (-2)]) (w1 := w) (P := True) [(.bipush (-2), 0, 0, -2, 0)] (by decide +kernel) rfl trivial ?_
                exact GE_iret rfl (by decide +kernel)
abbrev mm_X4_lessonsTo : MI := (RX4, cX4_lessonsTo, 7, (some .int), ftp_X4.map (fun q => q.1), ctp_X4.map (fun q => q.1), clp_X4.map (fun q => q.1))
noncomputable def h_X4_lessonsTo_31 (rc : Nat → Nat → Int32 → Int32 → Int32 → Int32 → Mem → Option (Int32 × Mem)) (i1 : Nat) (x1 : Int32) (x2 : Int32) (x3 : Int32) (x4 : Int32) (k71 : Mem → Option (Int32 × Mem)) : Nat → Int32 → Mem → Option (Int32 × Mem)
  | 0, _, _ => none
  | n + 1, x5, w => if x5 < (w 0 i1 2) then (Option.bind (rc 1 i1 ((10 * x4) + x5) x1 x2 x3 w) (fun r5 => if r5.1 ≤ 0 then ((h_X4_lessonsTo_31 rc i1 x1 x2 x3 x4 k71 n) (x5 + 1) r5.2) else (some (r5.1, r5.2)))) else (k71 w)
set_option maxRecDepth 100000 in
theorem h_X4_lessonsTo_31_ok (l : Launch) (X : XC) {N9 : Nat} (hN : 39 ≤ N9) (rc : Nat → Nat → Int32 → Int32 → Int32 → Int32 → Mem → Option (Int32 × Mem)) (i1 : Nat) (x1 : Int32) (x2 : Int32) (x3 : Int32) (x4 : Int32) (k71 : Mem → Option (Int32 × Mem)) (m : Nat) (hrc0 : ∀ (i : Nat) (a b c : Int32) (h : i < 3) (w : Mem), Ct l X (m + 4) yX4_lessonsTo cX4_lessonsTo 7 (some .int) emI [.inr (.inr (some (0, i))), .inl a, .inl b, .inl c] N9 flT w (rc 0 i a b c 0 w)) (hrc1 : ∀ (i : Nat) (a b c d : Int32) (h : i < 3) (w : Mem), Ct l X (m + 4) yX4_lessonsFrom cX4_lessonsFrom 10 (some .int) emI [.inr (.inr (some (0, i))), .inl a, .inl b, .inl c, .inl d] N9 flT w (rc 1 i a b c d w)) (hi1 : i1 < 3) (hk71 : ∀  (w : Mem), GE l X mm_X4_lessonsTo (m + 5) emI N9 flT (k71 w) 71 [some (.inr (.inr (some (0, i1)))), some (.inl x1), some (.inl x2), some (.inl x3), some (.inl x4), none, none] [] w) : ∀ (n : Nat) (x5 : Int32) (w : Mem), GE l X mm_X4_lessonsTo (m + 5) emI N9 flT ((h_X4_lessonsTo_31 rc i1 x1 x2 x3 x4 k71 n) x5 w) 31 [some (.inr (.inr (some (0, i1)))), some (.inl x1), some (.inl x2), some (.inl x3), some (.inl x4), some (.inl x5), none] [] w := by
  intro n
  induction n with
  | zero => intro x5 w; exact GE_none
  | succ n ih =>
    intro x5 w
    unfold h_X4_lessonsTo_31
    refine GE_run (flG_T hN) (pc1 := 37) (L1 := [some (.inr (.inr (some (0, i1)))), some (.inl x1), some (.inl x2), some (.inl x3), some (.inl x4), some (.inl x5), none]) (S1 := [.inl (w 0 i1 2), .inl x5]) (w1 := w) (P := True) [(.iload 5, 0, 0, 0, 0), (.aload_n 0, 0, 0, 0, 0), (.getfield 45, 0, 2, 0, 0)] (by decide +kernel) rfl trivial ?_
    refine GE_icmpN (k := .ge) (off := 34) (tgt := 71) (by decide +kernel) (by decide) (cnd_ge _ _) (fun c4 => ?_) (fun c4 => ?_)
    · exact GE_weak [true, true, true, true, true, false, false] (hk71 w)
    · refine GE_run (flG_T hN) (pc1 := 52) (L1 := [some (.inr (.inr (some (0, i1)))), some (.inl x1), some (.inl x2), some (.inl x3), some (.inl x4), some (.inl x5), none]) (S1 := [.inl x3, .inl x2, .inl x1, .inl ((10 * x4) + x5), .inr (.inr (some (0, i1)))]) (w1 := w) (P := True) [(.aload_n 0, 0, 0, 0, 0), (.bipush 10, 0, 0, 10, 0), (.iload 4, 0, 0, 0, 0), (.imul, 0, 0, 0, 0), (.iload 5, 0, 0, 0, 0), (.iadd, 0, 0, 0, 0), (.iload_n 1, 0, 0, 0, 0), (.iload_n 2, 0, 0, 0, 0), (.iload_n 3, 0, 0, 0, 0)] (by decide +kernel) rfl trivial ?_
      refine GE_callSI (As := [.inr (.inr (some (0, i1))), .inl ((10 * x4) + x5), .inl x1, .inl x2, .inl x3]) (S := []) (hrc1 i1 ((10 * x4) + x5) x1 x2 x3 hi1 w) ⟨me_X4_lessonsFrom, ms_X4_lessonsFrom, lk_X4_200⟩ (by decide +kernel) rfl (by omega) (by decide) (Nat.le_of_ble_eq_true rfl) (fun r5 _ => ?_)
      refine GE_run (flG_T hN) (pc1 := 59) (L1 := [some (.inr (.inr (some (0, i1)))), some (.inl x1), some (.inl x2), some (.inl x3), some (.inl x4), some (.inl x5), some (.inl r5.1)]) (S1 := [.inl r5.1]) (w1 := r5.2) (P := True) [(.istore 6, 0, 0, 0, 0), (.iload 6, 0, 0, 0, 0)] (by decide +kernel) rfl trivial ?_
      refine GE_if (k := .le) (off := 6) (tgt := 65) (by decide +kernel) (by decide) (cnd_le _ _) (fun c6 => ?_) (fun c6 => ?_)
      · refine GE_run (flG_T hN) (pc1 := 31) (L1 := [some (.inr (.inr (some (0, i1)))), some (.inl x1), some (.inl x2), some (.inl x3), some (.inl x4), some (.inl (x5 + 1)), some (.inl r5.1)]) (S1 := []) (w1 := r5.2) (P := True) [(.iinc 5 1, 0, 0, 1, 0), (.goto (-37), 0, 0, 0, 0)] (by decide +kernel) rfl trivial ?_
        exact GE_weak [true, true, true, true, true, true, false] (ih (x5 + 1) r5.2)
      · refine GE_run (flG_T hN) (pc1 := 64) (L1 := [some (.inr (.inr (some (0, i1)))), some (.inl x1), some (.inl x2), some (.inl x3), some (.inl x4), some (.inl x5), some (.inl r5.1)]) (S1 := [.inl r5.1]) (w1 := r5.2) (P := True) [(.iload 6, 0, 0, 0, 0)] (by decide +kernel) rfl trivial ?_
        exact GE_iret rfl (by decide +kernel)
noncomputable def h_X4_lessonsTo_19 (rc : Nat → Nat → Int32 → Int32 → Int32 → Int32 → Mem → Option (Int32 × Mem)) (i1 : Nat) (x1 : Int32) (x2 : Int32) (x3 : Int32) (k77 : Mem → Option (Int32 × Mem)) : Nat → Int32 → Mem → Option (Int32 × Mem)
  | 0, _, _ => none
  | n + 1, x4, w => if x4 < (w 0 i1 2) then (h_X4_lessonsTo_31 rc i1 x1 x2 x3 x4 (fun w7 => (h_X4_lessonsTo_19 rc i1 x1 x2 x3 k77 n) (x4 + 1) w7) FU 0 w) else (k77 w)
set_option maxRecDepth 100000 in
theorem h_X4_lessonsTo_19_ok (l : Launch) (X : XC) {N9 : Nat} (hN : 39 ≤ N9) (rc : Nat → Nat → Int32 → Int32 → Int32 → Int32 → Mem → Option (Int32 × Mem)) (i1 : Nat) (x1 : Int32) (x2 : Int32) (x3 : Int32) (k77 : Mem → Option (Int32 × Mem)) (m : Nat) (hrc0 : ∀ (i : Nat) (a b c : Int32) (h : i < 3) (w : Mem), Ct l X (m + 4) yX4_lessonsTo cX4_lessonsTo 7 (some .int) emI [.inr (.inr (some (0, i))), .inl a, .inl b, .inl c] N9 flT w (rc 0 i a b c 0 w)) (hrc1 : ∀ (i : Nat) (a b c d : Int32) (h : i < 3) (w : Mem), Ct l X (m + 4) yX4_lessonsFrom cX4_lessonsFrom 10 (some .int) emI [.inr (.inr (some (0, i))), .inl a, .inl b, .inl c, .inl d] N9 flT w (rc 1 i a b c d w)) (hi1 : i1 < 3) (hk77 : ∀  (w : Mem), GE l X mm_X4_lessonsTo (m + 5) emI N9 flT (k77 w) 77 [none, none, none, none, none, none, none] [] w) : ∀ (n : Nat) (x4 : Int32) (w : Mem), GE l X mm_X4_lessonsTo (m + 5) emI N9 flT ((h_X4_lessonsTo_19 rc i1 x1 x2 x3 k77 n) x4 w) 19 [some (.inr (.inr (some (0, i1)))), some (.inl x1), some (.inl x2), some (.inl x3), some (.inl x4), none, none] [] w := by
  intro n
  induction n with
  | zero => intro x4 w; exact GE_none
  | succ n ih =>
    intro x4 w
    unfold h_X4_lessonsTo_19
    refine GE_run (flG_T hN) (pc1 := 25) (L1 := [some (.inr (.inr (some (0, i1)))), some (.inl x1), some (.inl x2), some (.inl x3), some (.inl x4), none, none]) (S1 := [.inl (w 0 i1 2), .inl x4]) (w1 := w) (P := True) [(.iload 4, 0, 0, 0, 0), (.aload_n 0, 0, 0, 0, 0), (.getfield 45, 0, 2, 0, 0)] (by decide +kernel) rfl trivial ?_
    refine GE_icmpN (k := .ge) (off := 52) (tgt := 77) (by decide +kernel) (by decide) (cnd_ge _ _) (fun c3 => ?_) (fun c3 => ?_)
    · exact GE_weak [false, false, false, false, false, false, false] (hk77 w)
    · refine GE_run (flG_T hN) (pc1 := 31) (L1 := [some (.inr (.inr (some (0, i1)))), some (.inl x1), some (.inl x2), some (.inl x3), some (.inl x4), some (.inl 0), none]) (S1 := []) (w1 := w) (P := True) [(.iconst 0, 0, 0, 0, 0), (.istore 5, 0, 0, 0, 0)] (by decide +kernel) rfl trivial ?_
      refine GE_weak [true, true, true, true, true, true, false] (h_X4_lessonsTo_31_ok l X hN rc i1 x1 x2 x3 x4 _ m hrc0 hrc1 hi1 ?_ FU 0 w)
      · intro w7
        refine GE_run (flG_T hN) (pc1 := 19) (L1 := [some (.inr (.inr (some (0, i1)))), some (.inl x1), some (.inl x2), some (.inl x3), some (.inl (x4 + 1)), none, none]) (S1 := []) (w1 := w7) (P := True) [(.iinc 4 1, 0, 0, 1, 0), (.goto (-55), 0, 0, 0, 0)] (by decide +kernel) rfl trivial ?_
        exact GE_weak [true, true, true, true, true, false, false] (ih (x4 + 1) w7)
noncomputable def f_X4_lessonsTo (rc : Nat → Nat → Int32 → Int32 → Int32 → Int32 → Mem → Option (Int32 × Mem)) (i1 : Nat) (a2 : Int32) (a3 : Int32) (a4 : Int32) (w : Mem) : Option (Int32 × Mem) := if a4 < 1 then (some (0, w)) else (if a4 ≤ 3 then (h_X4_lessonsTo_19 rc i1 a2 a3 a4 (fun w8 => some (0, w8)) FU 0 w) else (some (0, w)))
set_option maxRecDepth 100000 in
theorem t_X4_lessonsTo (l : Launch) (X : XC) {N9 : Nat} (hN : 39 ≤ N9)  (rc : Nat → Nat → Int32 → Int32 → Int32 → Int32 → Mem → Option (Int32 × Mem)) (i1 : Nat) (a2 : Int32) (a3 : Int32) (a4 : Int32) (m : Nat) (hrc0 : ∀ (i : Nat) (a b c : Int32) (h : i < 3) (w : Mem), Ct l X (m + 4) yX4_lessonsTo cX4_lessonsTo 7 (some .int) emI [.inr (.inr (some (0, i))), .inl a, .inl b, .inl c] N9 flT w (rc 0 i a b c 0 w)) (hrc1 : ∀ (i : Nat) (a b c d : Int32) (h : i < 3) (w : Mem), Ct l X (m + 4) yX4_lessonsFrom cX4_lessonsFrom 10 (some .int) emI [.inr (.inr (some (0, i))), .inl a, .inl b, .inl c, .inl d] N9 flT w (rc 1 i a b c d w)) (hi1 : i1 < 3) (w : Mem) : Ct l X (m + 5) yX4_lessonsTo cX4_lessonsTo 7 (some .int) emI [.inr (.inr (some (0, i1))), .inl a2, .inl a3, .inl a4] N9 flT w (f_X4_lessonsTo rc i1 a2 a3 a4 w) := by
  refine Ct_of (mi := mm_X4_lessonsTo) (mik_X4 _ _ _) me_X4_lessonsTo rfl (okAs_cons (ok_coast_0 hN hi1) (okAs_cons rfl (okAs_cons rfl (okAs_cons rfl okAs_nil)))) (Nat.le_of_ble_eq_true rfl) ?_
  unfold f_X4_lessonsTo
  refine GE_run (flG_T hN) (pc1 := 1) (L1 := [some (.inr (.inr (some (0, i1)))), some (.inl a2), some (.inl a3), some (.inl a4), none, none, none]) (S1 := [.inr (.inr (some (0, i1)))]) (w1 := w) (P := True) [(.aload_n 0, 0, 0, 0, 0)] (by decide +kernel) rfl trivial ?_
  refine GE_null1 (off := 13) (by decide +kernel) ?_
  refine GE_run (flG_T hN) (pc1 := 6) (L1 := [some (.inr (.inr (some (0, i1)))), some (.inl a2), some (.inl a3), some (.inl a4), none, none, none]) (S1 := [.inl 1, .inl a4]) (w1 := w) (P := True) [(.iload_n 3, 0, 0, 0, 0), (.iconst 1, 0, 0, 1, 0)] (by decide +kernel) rfl trivial ?_
  refine GE_icmp (k := .lt) (off := 8) (tgt := 14) (by decide +kernel) (by decide) (cnd_lt _ _) (fun c1 => ?_) (fun c1 => ?_)
  · refine GE_run (flG_T hN) (pc1 := 15) (L1 := [some (.inr (.inr (some (0, i1)))), some (.inl a2), some (.inl a3), some (.inl a4), none, none, none]) (S1 := [.inl 0]) (w1 := w) (P := True) [(.iconst 0, 0, 0, 0, 0)] (by decide +kernel) rfl trivial ?_
    exact GE_iret rfl (by decide +kernel)
  · refine GE_run (flG_T hN) (pc1 := 11) (L1 := [some (.inr (.inr (some (0, i1)))), some (.inl a2), some (.inl a3), some (.inl a4), none, none, none]) (S1 := [.inl 3, .inl a4]) (w1 := w) (P := True) [(.iload_n 3, 0, 0, 0, 0), (.iconst 3, 0, 0, 3, 0)] (by decide +kernel) rfl trivial ?_
    refine GE_icmp (k := .le) (off := 5) (tgt := 16) (by decide +kernel) (by decide) (cnd_le _ _) (fun c2 => ?_) (fun c2 => ?_)
    · refine GE_run (flG_T hN) (pc1 := 19) (L1 := [some (.inr (.inr (some (0, i1)))), some (.inl a2), some (.inl a3), some (.inl a4), some (.inl 0), none, none]) (S1 := []) (w1 := w) (P := True) [(.iconst 0, 0, 0, 0, 0), (.istore 4, 0, 0, 0, 0)] (by decide +kernel) rfl trivial ?_
      refine GE_weak [true, true, true, true, true, false, false] (h_X4_lessonsTo_19_ok l X hN rc i1 a2 a3 a4 _ m hrc0 hrc1 hi1 ?_ FU 0 w)
      · intro w8
        refine GE_run (flG_T hN) (pc1 := 78) (L1 := [none, none, none, none, none, none, none]) (S1 := [.inl 0]) (w1 := w8) (P := True) [(.iconst 0, 0, 0, 0, 0)] (by decide +kernel) rfl trivial ?_
        exact GE_iret rfl (by decide +kernel)
    · refine GE_run (flG_T hN) (pc1 := 15) (L1 := [some (.inr (.inr (some (0, i1)))), some (.inl a2), some (.inl a3), some (.inl a4), none, none, none]) (S1 := [.inl 0]) (w1 := w) (P := True) [(.iconst 0, 0, 0, 0, 0)] (by decide +kernel) rfl trivial ?_
      exact GE_iret rfl (by decide +kernel)
abbrev mm_X4_lessonsFrom : MI := (RX4, cX4_lessonsFrom, 10, (some .int), ftp_X4.map (fun q => q.1), ctp_X4.map (fun q => q.1), clp_X4.map (fun q => q.1))
noncomputable def j_X4_lessonsFrom_53 (rc : Nat → Nat → Int32 → Int32 → Int32 → Int32 → Mem → Option (Int32 × Mem)) (i1 : Nat)  (x1 : Int32) (x2 : Int32) (x3 : Int32) (x4 : Int32) (x5 : Int32) (x6 : Int32) (w : Mem) : Option (Int32 × Mem) := Option.bind (f_X0_learns i1 x5 x6 w) (fun r7 => if x4 = 1 then (if (holdsF r7.1 x3) = 0 then (some (0, r7.2)) else (some (x1 + 1, r7.2))) else (if r7.1 = 0 then (some (0, r7.2)) else (Option.bind (rc 0 i1 x2 x3 (x4 - 1) 0 (setV r7.2 15 i1 x6 ((atV r7.2 15 i1 x6) ||| r7.1))) (fun r11 => if r11.1 = 0 then (some (0, setV r11.2 15 i1 x6 (atV r7.2 15 i1 x6))) else (if x4 = 2 then (some (((x1 + 1) * 100) + r11.1, setV r11.2 15 i1 x6 (atV r7.2 15 i1 x6))) else (some (((x1 + 1) * 10000) + r11.1, setV r11.2 15 i1 x6 (atV r7.2 15 i1 x6))))))))
set_option maxRecDepth 100000 in
theorem j_X4_lessonsFrom_53_ok (l : Launch) (X : XC) {N9 : Nat} (hN : 39 ≤ N9) (rc : Nat → Nat → Int32 → Int32 → Int32 → Int32 → Mem → Option (Int32 × Mem)) (i1 : Nat)  (x1 : Int32) (x2 : Int32) (x3 : Int32) (x4 : Int32) (x5 : Int32) (x6 : Int32) (m : Nat) (hrc0 : ∀ (i : Nat) (a b c : Int32) (h : i < 3) (w : Mem), Ct l X (m + 4) yX4_lessonsTo cX4_lessonsTo 7 (some .int) emI [.inr (.inr (some (0, i))), .inl a, .inl b, .inl c] N9 flT w (rc 0 i a b c 0 w)) (hrc1 : ∀ (i : Nat) (a b c d : Int32) (h : i < 3) (w : Mem), Ct l X (m + 4) yX4_lessonsFrom cX4_lessonsFrom 10 (some .int) emI [.inr (.inr (some (0, i))), .inl a, .inl b, .inl c, .inl d] N9 flT w (rc 1 i a b c d w)) (hi1 : i1 < 3)  (w : Mem) : GE l X mm_X4_lessonsFrom (m + 5) emI N9 flT (j_X4_lessonsFrom_53 rc i1 x1 x2 x3 x4 x5 x6 w) 53 [some (.inr (.inr (some (0, i1)))), some (.inl x1), some (.inl x2), some (.inl x3), some (.inl x4), some (.inl x5), some (.inl x6), none, none, none] [] w := by
  unfold j_X4_lessonsFrom_53
  refine GE_run (flG_T hN) (pc1 := 58) (L1 := [some (.inr (.inr (some (0, i1)))), some (.inl x1), some (.inl x2), some (.inl x3), some (.inl x4), some (.inl x5), some (.inl x6), none, none, none]) (S1 := [.inl x6, .inl x5, .inr (.inr (some (0, i1)))]) (w1 := w) (P := True) [(.aload_n 0, 0, 0, 0, 0), (.iload 5, 0, 0, 0, 0), (.iload 6, 0, 0, 0, 0)] (by decide +kernel) rfl trivial ?_
  refine GE_callVI (As := [.inl x5, .inl x6]) (k := 0) (i := i1) (S := []) (t_X0_learns l X hN i1 x5 x6 hi1 w) (by decide) ⟨me_X0_learns, mi_X0_learns, mv_X0_learns, lk_X4_146⟩ rfl (by decide +kernel) rfl (by omega) (by decide) (Nat.le_of_ble_eq_true rfl) (fun r7 _ => ?_)
  refine GE_run (flG_T hN) (pc1 := 66) (L1 := [some (.inr (.inr (some (0, i1)))), some (.inl x1), some (.inl x2), some (.inl x3), some (.inl x4), some (.inl x5), some (.inl x6), some (.inl r7.1), none, none]) (S1 := [.inl 1, .inl x4]) (w1 := r7.2) (P := True) [(.istore 7, 0, 0, 0, 0), (.iload 4, 0, 0, 0, 0), (.iconst 1, 0, 0, 1, 0)] (by decide +kernel) rfl trivial ?_
  refine GE_icmpN (k := .ne) (off := 20) (tgt := 86) (by decide +kernel) (by decide) (cnd_ne _ _) (fun c8 => ?_) (fun c8 => ?_)
  · refine GE_run (flG_T hN) (pc1 := 88) (L1 := [some (.inr (.inr (some (0, i1)))), some (.inl x1), some (.inl x2), some (.inl x3), some (.inl x4), some (.inl x5), some (.inl x6), some (.inl r7.1), none, none]) (S1 := [.inl r7.1]) (w1 := r7.2) (P := True) [(.iload 7, 0, 0, 0, 0)] (by decide +kernel) rfl trivial ?_
    refine GE_ifN (k := .ne) (off := 5) (tgt := 93) (by decide +kernel) (by decide) (cnd_ne _ _) (fun c10 => ?_) (fun c10 => ?_)
    · refine GE_run (flG_T hN) (pc1 := 105) (L1 := [some (.inr (.inr (some (0, i1)))), some (.inl x1), some (.inl x2), some (.inl x3), some (.inl x4), some (.inl x5), some (.inl x6), some (.inl r7.1), none, none]) (S1 := [.inl x6, .inr (.inr (some (15, i1))), .inl x6, .inr (.inr (some (15, i1)))]) (w1 := r7.2) (P := True) [(.aload_n 0, 0, 0, 0, 0), (.getfield 108, 0, 8, 0, 0), (.iload 6, 0, 0, 0, 0), (.aload_n 0, 0, 0, 0, 0), (.getfield 108, 0, 8, 0, 0), (.iload 6, 0, 0, 0, 0)] (by decide +kernel) rfl trivial ?_
      refine GE_callSIp (As := [.inr (.inr (some (15, i1))), .inl x6]) (S := [.inl x6, .inr (.inr (some (15, i1)))]) (p_X4_at l X hN 15 i1 x6 (by decide) (ok_coast_15 hN hi1) r7.2) ⟨me_X4_at, ms_X4_at, lk_X4_120⟩ (by decide +kernel) rfl (by omega) (by decide) (Nat.le_of_ble_eq_true rfl) ?_
      refine GE_run (flG_T hN) (pc1 := 111) (L1 := [some (.inr (.inr (some (0, i1)))), some (.inl x1), some (.inl x2), some (.inl x3), some (.inl x4), some (.inl x5), some (.inl x6), some (.inl r7.1), none, none]) (S1 := [.inl ((atV r7.2 15 i1 x6) ||| r7.1), .inl x6, .inr (.inr (some (15, i1)))]) (w1 := r7.2) (P := True) [(.iload 7, 0, 0, 0, 0), (.ior, 0, 0, 0, 0)] (by decide +kernel) rfl trivial ?_
      refine GE_callSIp (As := [.inr (.inr (some (15, i1))), .inl x6, .inl ((atV r7.2 15 i1 x6) ||| r7.1)]) (S := []) (p_X4_swap l X hN 15 i1 x6 ((atV r7.2 15 i1 x6) ||| r7.1) (by decide) (ok_coast_15 hN hi1) r7.2) ⟨me_X4_swap, ms_X4_swap, lk_X4_111⟩ (by decide +kernel) rfl (by omega) (by decide) (Nat.le_of_ble_eq_true rfl) ?_
      refine GE_run (flG_T hN) (pc1 := 123) (L1 := [some (.inr (.inr (some (0, i1)))), some (.inl x1), some (.inl x2), some (.inl x3), some (.inl x4), some (.inl x5), some (.inl x6), some (.inl r7.1), some (.inl (atV r7.2 15 i1 x6)), none]) (S1 := [.inl (x4 - 1), .inl x3, .inl x2, .inr (.inr (some (0, i1)))]) (w1 := setV r7.2 15 i1 x6 ((atV r7.2 15 i1 x6) ||| r7.1)) (P := True) [(.istore 8, 0, 0, 0, 0), (.aload_n 0, 0, 0, 0, 0), (.iload_n 2, 0, 0, 0, 0), (.iload_n 3, 0, 0, 0, 0), (.iload 4, 0, 0, 0, 0), (.iconst 1, 0, 0, 1, 0), (.isub, 0, 0, 0, 0)] (by decide +kernel) rfl trivial ?_
      refine GE_callSI (As := [.inr (.inr (some (0, i1))), .inl x2, .inl x3, .inl (x4 - 1)]) (S := []) (hrc0 i1 x2 x3 (x4 - 1) hi1 (setV r7.2 15 i1 x6 ((atV r7.2 15 i1 x6) ||| r7.1))) ⟨me_X4_lessonsTo, ms_X4_lessonsTo, lk_X4_196⟩ (by decide +kernel) rfl (by omega) (by decide) (Nat.le_of_ble_eq_true rfl) (fun r11 _ => ?_)
      refine GE_run (flG_T hN) (pc1 := 136) (L1 := [some (.inr (.inr (some (0, i1)))), some (.inl x1), some (.inl x2), some (.inl x3), some (.inl x4), some (.inl x5), some (.inl x6), some (.inl r7.1), some (.inl (atV r7.2 15 i1 x6)), some (.inl r11.1)]) (S1 := [.inl (atV r7.2 15 i1 x6), .inl x6, .inr (.inr (some (15, i1)))]) (w1 := r11.2) (P := True) [(.istore 9, 0, 0, 0, 0), (.aload_n 0, 0, 0, 0, 0), (.getfield 108, 0, 8, 0, 0), (.iload 6, 0, 0, 0, 0), (.iload 8, 0, 0, 0, 0)] (by decide +kernel) rfl trivial ?_
      refine GE_callSVp (As := [.inr (.inr (some (15, i1))), .inl x6, .inl (atV r7.2 15 i1 x6)]) (S := []) (p_X4_set l X hN 15 i1 x6 (atV r7.2 15 i1 x6) (by decide) (ok_coast_15 hN hi1) r11.2) ⟨me_X4_set, ms_X4_set, lk_X4_204⟩ (by decide +kernel) rfl (by omega) (by decide) (Nat.le_of_ble_eq_true rfl) ?_
      refine GE_run (flG_T hN) (pc1 := 141) (L1 := [some (.inr (.inr (some (0, i1)))), some (.inl x1), some (.inl x2), some (.inl x3), some (.inl x4), some (.inl x5), some (.inl x6), some (.inl r7.1), some (.inl (atV r7.2 15 i1 x6)), some (.inl r11.1)]) (S1 := [.inl r11.1]) (w1 := setV r11.2 15 i1 x6 (atV r7.2 15 i1 x6)) (P := True) [(.iload 9, 0, 0, 0, 0)] (by decide +kernel) rfl trivial ?_
      refine GE_ifN (k := .ne) (off := 5) (tgt := 146) (by decide +kernel) (by decide) (cnd_ne _ _) (fun c12 => ?_) (fun c12 => ?_)
      · refine GE_run (flG_T hN) (pc1 := 152) (L1 := [some (.inr (.inr (some (0, i1)))), some (.inl x1), some (.inl x2), some (.inl x3), some (.inl x4), some (.inl x5), some (.inl x6), some (.inl r7.1), some (.inl (atV r7.2 15 i1 x6)), some (.inl r11.1)]) (S1 := [.inl 2, .inl x4, .inl (x1 + 1)]) (w1 := setV r11.2 15 i1 x6 (atV r7.2 15 i1 x6)) (P := True) [(.iload_n 1, 0, 0, 0, 0), (.iconst 1, 0, 0, 1, 0), (.iadd, 0, 0, 0, 0), (.iload 4, 0, 0, 0, 0), (.iconst 2, 0, 0, 2, 0)] (by decide +kernel) rfl trivial ?_
        refine GE_icmpN (k := .ne) (off := 8) (tgt := 160) (by decide +kernel) (by decide) (cnd_ne _ _) (fun c13 => ?_) (fun c13 => ?_)
        · refine GE_run (flG_T hN) (pc1 := 167) (L1 := [some (.inr (.inr (some (0, i1)))), some (.inl x1), some (.inl x2), some (.inl x3), some (.inl x4), some (.inl x5), some (.inl x6), some (.inl r7.1), some (.inl (atV r7.2 15 i1 x6)), some (.inl r11.1)]) (S1 := [.inl (((x1 + 1) * 10000) + r11.1)]) (w1 := setV r11.2 15 i1 x6 (atV r7.2 15 i1 x6)) (P := True) [(.sipush 10000, 0, 0, 10000, 0), (.imul, 0, 0, 0, 0), (.iload 9, 0, 0, 0, 0), (.iadd, 0, 0, 0, 0)] (by decide +kernel) rfl trivial ?_
          exact GE_iret rfl (by decide +kernel)
        · refine GE_run (flG_T hN) (pc1 := 167) (L1 := [some (.inr (.inr (some (0, i1)))), some (.inl x1), some (.inl x2), some (.inl x3), some (.inl x4), some (.inl x5), some (.inl x6), some (.inl r7.1), some (.inl (atV r7.2 15 i1 x6)), some (.inl r11.1)]) (S1 := [.inl (((x1 + 1) * 100) + r11.1)]) (w1 := setV r11.2 15 i1 x6 (atV r7.2 15 i1 x6)) (P := True) [(.bipush 100, 0, 0, 100, 0), (.goto 6, 0, 0, 0, 0), (.imul, 0, 0, 0, 0), (.iload 9, 0, 0, 0, 0), (.iadd, 0, 0, 0, 0)] (by decide +kernel) rfl trivial ?_
          exact GE_iret rfl (by decide +kernel)
      · refine GE_run (flG_T hN) (pc1 := 145) (L1 := [some (.inr (.inr (some (0, i1)))), some (.inl x1), some (.inl x2), some (.inl x3), some (.inl x4), some (.inl x5), some (.inl x6), some (.inl r7.1), some (.inl (atV r7.2 15 i1 x6)), some (.inl r11.1)]) (S1 := [.inl 0]) (w1 := setV r11.2 15 i1 x6 (atV r7.2 15 i1 x6)) (P := True) [(.iconst 0, 0, 0, 0, 0)] (by decide +kernel) rfl trivial ?_
        exact GE_iret rfl (by decide +kernel)
    · refine GE_run (flG_T hN) (pc1 := 92) (L1 := [some (.inr (.inr (some (0, i1)))), some (.inl x1), some (.inl x2), some (.inl x3), some (.inl x4), some (.inl x5), some (.inl x6), some (.inl r7.1), none, none]) (S1 := [.inl 0]) (w1 := r7.2) (P := True) [(.iconst 0, 0, 0, 0, 0)] (by decide +kernel) rfl trivial ?_
      exact GE_iret rfl (by decide +kernel)
  · refine GE_run (flG_T hN) (pc1 := 72) (L1 := [some (.inr (.inr (some (0, i1)))), some (.inl x1), some (.inl x2), some (.inl x3), some (.inl x4), some (.inl x5), some (.inl x6), some (.inl r7.1), none, none]) (S1 := [.inl x3, .inl r7.1]) (w1 := r7.2) (P := True) [(.iload 7, 0, 0, 0, 0), (.iload_n 3, 0, 0, 0, 0)] (by decide +kernel) rfl trivial ?_
    refine GE_callSIp (As := [.inl r7.1, .inl x3]) (S := []) (p_X4_holds l X hN r7.1 x3 r7.2) ⟨me_X4_holds, ms_X4_holds, lk_X4_157⟩ (by decide +kernel) rfl (by omega) (by decide) (Nat.le_of_ble_eq_true rfl) ?_
    refine GE_if (k := .eq) (off := 9) (tgt := 84) (by decide +kernel) (by decide) (cnd_eq _ _) (fun c9 => ?_) (fun c9 => ?_)
    · refine GE_run (flG_T hN) (pc1 := 85) (L1 := [some (.inr (.inr (some (0, i1)))), some (.inl x1), some (.inl x2), some (.inl x3), some (.inl x4), some (.inl x5), some (.inl x6), some (.inl r7.1), none, none]) (S1 := [.inl 0]) (w1 := r7.2) (P := True) [(.iconst 0, 0, 0, 0, 0)] (by decide +kernel) rfl trivial ?_
      exact GE_iret rfl (by decide +kernel)
    · refine GE_run (flG_T hN) (pc1 := 85) (L1 := [some (.inr (.inr (some (0, i1)))), some (.inl x1), some (.inl x2), some (.inl x3), some (.inl x4), some (.inl x5), some (.inl x6), some (.inl r7.1), none, none]) (S1 := [.inl (x1 + 1)]) (w1 := r7.2) (P := True) [(.iload_n 1, 0, 0, 0, 0), (.iconst 1, 0, 0, 1, 0), (.iadd, 0, 0, 0, 0), (.goto 4, 0, 0, 0, 0)] (by decide +kernel) rfl trivial ?_
      exact GE_iret rfl (by decide +kernel)
noncomputable def f_X4_lessonsFrom (rc : Nat → Nat → Int32 → Int32 → Int32 → Int32 → Mem → Option (Int32 × Mem)) (i1 : Nat) (a2 : Int32) (a3 : Int32) (a4 : Int32) (a5 : Int32) (w : Mem) : Option (Int32 × Mem) := if ¬ (10 : Int32) = 0 then (if ¬ (10 : Int32) = 0 then (if (a2 / 10) = (rmI a2 10) then (some (0, w)) else (if a5 = 1 then (if (rmI a2 10) = a3 then (if (holdsF (atV w 15 i1 (a2 / 10)) a4) = 0 then (some (0, w)) else (j_X4_lessonsFrom_53 rc i1 a2 a3 a4 a5 (a2 / 10) (rmI a2 10) w)) else (some (0, w))) else (j_X4_lessonsFrom_53 rc i1 a2 a3 a4 a5 (a2 / 10) (rmI a2 10) w))) else none) else none
set_option maxRecDepth 100000 in
theorem t_X4_lessonsFrom (l : Launch) (X : XC) {N9 : Nat} (hN : 39 ≤ N9)  (rc : Nat → Nat → Int32 → Int32 → Int32 → Int32 → Mem → Option (Int32 × Mem)) (i1 : Nat) (a2 : Int32) (a3 : Int32) (a4 : Int32) (a5 : Int32) (m : Nat) (hrc0 : ∀ (i : Nat) (a b c : Int32) (h : i < 3) (w : Mem), Ct l X (m + 4) yX4_lessonsTo cX4_lessonsTo 7 (some .int) emI [.inr (.inr (some (0, i))), .inl a, .inl b, .inl c] N9 flT w (rc 0 i a b c 0 w)) (hrc1 : ∀ (i : Nat) (a b c d : Int32) (h : i < 3) (w : Mem), Ct l X (m + 4) yX4_lessonsFrom cX4_lessonsFrom 10 (some .int) emI [.inr (.inr (some (0, i))), .inl a, .inl b, .inl c, .inl d] N9 flT w (rc 1 i a b c d w)) (hi1 : i1 < 3) (w : Mem) : Ct l X (m + 5) yX4_lessonsFrom cX4_lessonsFrom 10 (some .int) emI [.inr (.inr (some (0, i1))), .inl a2, .inl a3, .inl a4, .inl a5] N9 flT w (f_X4_lessonsFrom rc i1 a2 a3 a4 a5 w) := by
  refine Ct_of (mi := mm_X4_lessonsFrom) (mik_X4 _ _ _) me_X4_lessonsFrom rfl (okAs_cons (ok_coast_0 hN hi1) (okAs_cons rfl (okAs_cons rfl (okAs_cons rfl (okAs_cons rfl okAs_nil))))) (Nat.le_of_ble_eq_true rfl) ?_
  unfold f_X4_lessonsFrom
  refine GE_chk (fun h1 => ?_)
  refine GE_chk (fun h2 => ?_)
  refine GE_run (flG_T hN) (pc1 := 13) (L1 := [some (.inr (.inr (some (0, i1)))), some (.inl a2), some (.inl a3), some (.inl a4), some (.inl a5), some (.inl (a2 / 10)), some (.inl (rmI a2 10)), none, none, none]) (S1 := [.inr (.inr (some (0, i1)))]) (w1 := w) (P := (¬ (10 : Int32) = 0) ∧ (¬ (10 : Int32) = 0) ∧ True) [(.iload_n 1, 0, 0, 0, 0), (.bipush 10, 0, 0, 10, 0), (.idiv, 0, 0, 0, 0), (.istore 5, 0, 0, 0, 0), (.iload_n 1, 0, 0, 0, 0), (.bipush 10, 0, 0, 10, 0), (.irem, 0, 0, 0, 0), (.istore 6, 0, 0, 0, 0), (.aload_n 0, 0, 0, 0, 0)] (by decide +kernel) rfl ⟨h1, h2, trivial⟩ ?_
  refine GE_null1 (off := 38) (by decide +kernel) ?_
  refine GE_run (flG_T hN) (pc1 := 20) (L1 := [some (.inr (.inr (some (0, i1)))), some (.inl a2), some (.inl a3), some (.inl a4), some (.inl a5), some (.inl (a2 / 10)), some (.inl (rmI a2 10)), none, none, none]) (S1 := [.inl (rmI a2 10), .inl (a2 / 10)]) (w1 := w) (P := True) [(.iload 5, 0, 0, 0, 0), (.iload 6, 0, 0, 0, 0)] (by decide +kernel) rfl trivial ?_
  refine GE_icmp (k := .eq) (off := 31) (tgt := 51) (by decide +kernel) (by decide) (cnd_eq _ _) (fun c3 => ?_) (fun c3 => ?_)
  · refine GE_run (flG_T hN) (pc1 := 52) (L1 := [some (.inr (.inr (some (0, i1)))), some (.inl a2), some (.inl a3), some (.inl a4), some (.inl a5), some (.inl (a2 / 10)), some (.inl (rmI a2 10)), none, none, none]) (S1 := [.inl 0]) (w1 := w) (P := True) [(.iconst 0, 0, 0, 0, 0)] (by decide +kernel) rfl trivial ?_
    exact GE_iret rfl (by decide +kernel)
  · refine GE_run (flG_T hN) (pc1 := 26) (L1 := [some (.inr (.inr (some (0, i1)))), some (.inl a2), some (.inl a3), some (.inl a4), some (.inl a5), some (.inl (a2 / 10)), some (.inl (rmI a2 10)), none, none, none]) (S1 := [.inl 1, .inl a5]) (w1 := w) (P := True) [(.iload 4, 0, 0, 0, 0), (.iconst 1, 0, 0, 1, 0)] (by decide +kernel) rfl trivial ?_
    refine GE_icmpN (k := .ne) (off := 27) (tgt := 53) (by decide +kernel) (by decide) (cnd_ne _ _) (fun c4 => ?_) (fun c4 => ?_)
    · exact GE_weak [true, true, true, true, true, true, true, false, false, false] (j_X4_lessonsFrom_53_ok l X hN rc i1 a2 a3 a4 a5 (a2 / 10) (rmI a2 10) m hrc0 hrc1 hi1 w)
    · refine GE_run (flG_T hN) (pc1 := 32) (L1 := [some (.inr (.inr (some (0, i1)))), some (.inl a2), some (.inl a3), some (.inl a4), some (.inl a5), some (.inl (a2 / 10)), some (.inl (rmI a2 10)), none, none, none]) (S1 := [.inl a3, .inl (rmI a2 10)]) (w1 := w) (P := True) [(.iload 6, 0, 0, 0, 0), (.iload_n 2, 0, 0, 0, 0)] (by decide +kernel) rfl trivial ?_
      refine GE_icmpN (k := .ne) (off := 19) (tgt := 51) (by decide +kernel) (by decide) (cnd_ne _ _) (fun c5 => ?_) (fun c5 => ?_)
      · refine GE_run (flG_T hN) (pc1 := 52) (L1 := [some (.inr (.inr (some (0, i1)))), some (.inl a2), some (.inl a3), some (.inl a4), some (.inl a5), some (.inl (a2 / 10)), some (.inl (rmI a2 10)), none, none, none]) (S1 := [.inl 0]) (w1 := w) (P := True) [(.iconst 0, 0, 0, 0, 0)] (by decide +kernel) rfl trivial ?_
        exact GE_iret rfl (by decide +kernel)
      · refine GE_run (flG_T hN) (pc1 := 41) (L1 := [some (.inr (.inr (some (0, i1)))), some (.inl a2), some (.inl a3), some (.inl a4), some (.inl a5), some (.inl (a2 / 10)), some (.inl (rmI a2 10)), none, none, none]) (S1 := [.inl (a2 / 10), .inr (.inr (some (15, i1)))]) (w1 := w) (P := True) [(.aload_n 0, 0, 0, 0, 0), (.getfield 108, 0, 8, 0, 0), (.iload 5, 0, 0, 0, 0)] (by decide +kernel) rfl trivial ?_
        refine GE_callSIp (As := [.inr (.inr (some (15, i1))), .inl (a2 / 10)]) (S := []) (p_X4_at l X hN 15 i1 (a2 / 10) (by decide) (ok_coast_15 hN hi1) w) ⟨me_X4_at, ms_X4_at, lk_X4_120⟩ (by decide +kernel) rfl (by omega) (by decide) (Nat.le_of_ble_eq_true rfl) ?_
        refine GE_run (flG_T hN) (pc1 := 45) (L1 := [some (.inr (.inr (some (0, i1)))), some (.inl a2), some (.inl a3), some (.inl a4), some (.inl a5), some (.inl (a2 / 10)), some (.inl (rmI a2 10)), none, none, none]) (S1 := [.inl a4, .inl (atV w 15 i1 (a2 / 10))]) (w1 := w) (P := True) [(.iload_n 3, 0, 0, 0, 0)] (by decide +kernel) rfl trivial ?_
        refine GE_callSIp (As := [.inl (atV w 15 i1 (a2 / 10)), .inl a4]) (S := []) (p_X4_holds l X hN (atV w 15 i1 (a2 / 10)) a4 w) ⟨me_X4_holds, ms_X4_holds, lk_X4_157⟩ (by decide +kernel) rfl (by omega) (by decide) (Nat.le_of_ble_eq_true rfl) ?_
        refine GE_ifN (k := .ne) (off := 5) (tgt := 53) (by decide +kernel) (by decide) (cnd_ne _ _) (fun c6 => ?_) (fun c6 => ?_)
        · exact GE_weak [true, true, true, true, true, true, true, false, false, false] (j_X4_lessonsFrom_53_ok l X hN rc i1 a2 a3 a4 a5 (a2 / 10) (rmI a2 10) m hrc0 hrc1 hi1 w)
        · refine GE_run (flG_T hN) (pc1 := 52) (L1 := [some (.inr (.inr (some (0, i1)))), some (.inl a2), some (.inl a3), some (.inl a4), some (.inl a5), some (.inl (a2 / 10)), some (.inl (rmI a2 10)), none, none, none]) (S1 := [.inl 0]) (w1 := w) (P := True) [(.iconst 0, 0, 0, 0, 0)] (by decide +kernel) rfl trivial ?_
          exact GE_iret rfl (by decide +kernel)
noncomputable def ld : Nat → Nat → Nat → Int32 → Int32 → Int32 → Int32 → Mem → Option (Int32 × Mem)
  | 0, _, _, _, _, _, _, _ => none
  | m + 1, k, i, a, b, c, d, w => match k with
    | 0 => f_X4_lessonsTo (ld m) i a b c w
    | _ => f_X4_lessonsFrom (ld m) i a b c d w
theorem ld_ok (l : Launch) (X : XC) {N9 : Nat} (hN : 39 ≤ N9) : ∀ m : Nat, (∀ (i : Nat) (a b c : Int32) (h : i < 3) (w : Mem), Ct l X (m + 4) yX4_lessonsTo cX4_lessonsTo 7 (some .int) emI [.inr (.inr (some (0, i))), .inl a, .inl b, .inl c] N9 flT w (ld m 0 i a b c 0 w)) ∧ (∀ (i : Nat) (a b c d : Int32) (h : i < 3) (w : Mem), Ct l X (m + 4) yX4_lessonsFrom cX4_lessonsFrom 10 (some .int) emI [.inr (.inr (some (0, i))), .inl a, .inl b, .inl c, .inl d] N9 flT w (ld m 1 i a b c d w)) := by
  intro m
  induction m with
  | zero => exact ⟨fun _ _ _ _ _ _ => Ct_none, fun _ _ _ _ _ _ _ => Ct_none⟩
  | succ m ih =>
    obtain ⟨h0, h1⟩ := ih
    exact ⟨fun i a b c h w => t_X4_lessonsTo l X hN (ld m) i a b c m h0 h1 h w, fun i a b c d h w => t_X4_lessonsFrom l X hN (ld m) i a b c d m h0 h1 h w⟩
abbrev mm_X4_lessons : MI := (RX4, cX4_lessons, 6, (some .int), ftp_X4.map (fun q => q.1), ctp_X4.map (fun q => q.1), clp_X4.map (fun q => q.1))
noncomputable def h_X4_lessons_67 (x1 : Int32) (x2 : Int32) (x3 : Int32) (k109 : Mem → Option (Int32 × Mem)) : Nat → Int32 → Mem → Option (Int32 × Mem)
  | 0, _, _ => none
  | n + 1, x4, w => if x4 ≤ 3 then (Option.bind (ld 8 0 1 x1 x2 x4 0 w) (fun r7 => if r7.1 ≤ 0 then ((h_X4_lessons_67 x1 x2 x3 k109 n) (x4 + 1) r7.2) else (if x3 = 0 then (some (x4, r7.2)) else (some (r7.1, r7.2))))) else (k109 w)
set_option maxRecDepth 100000 in
theorem h_X4_lessons_67_ok (l : Launch) (X : XC) {N9 : Nat} (hN : 39 ≤ N9) (x1 : Int32) (x2 : Int32) (x3 : Int32) (k109 : Mem → Option (Int32 × Mem))  (hk109 : ∀  (w : Mem), GE l X mm_X4_lessons 13 emI N9 flT (k109 w) 109 [none, none, none, none, none, none] [] w) : ∀ (n : Nat) (x4 : Int32) (w : Mem), GE l X mm_X4_lessons 13 emI N9 flT ((h_X4_lessons_67 x1 x2 x3 k109 n) x4 w) 67 [some (.inr (.inr (some (4, 0)))), some (.inl x1), some (.inl x2), some (.inl x3), some (.inl x4), none] [] w := by
  intro n
  induction n with
  | zero => intro x4 w; exact GE_none
  | succ n ih =>
    intro x4 w
    unfold h_X4_lessons_67
    refine GE_run (flG_T hN) (pc1 := 70) (L1 := [some (.inr (.inr (some (4, 0)))), some (.inl x1), some (.inl x2), some (.inl x3), some (.inl x4), none]) (S1 := [.inl 3, .inl x4]) (w1 := w) (P := True) [(.iload 4, 0, 0, 0, 0), (.iconst 3, 0, 0, 3, 0)] (by decide +kernel) rfl trivial ?_
    refine GE_icmpN (k := .gt) (off := 39) (tgt := 109) (by decide +kernel) (by decide) (cnd_gt _ _) (fun c6 => ?_) (fun c6 => ?_)
    · exact GE_weak [false, false, false, false, false, false] (hk109 w)
    · refine GE_run (flG_T hN) (pc1 := 81) (L1 := [some (.inr (.inr (some (4, 0)))), some (.inl x1), some (.inl x2), some (.inl x3), some (.inl x4), none]) (S1 := [.inl x4, .inl x2, .inl x1, .inr (.inr (some (0, 1)))]) (w1 := w) (P := True) [(.aload_n 0, 0, 0, 0, 0), (.getfield 32, 4, 3, 0, 0), (.iload_n 1, 0, 0, 0, 0), (.iload_n 2, 0, 0, 0, 0), (.iload 4, 0, 0, 0, 0)] (by decide +kernel) rfl trivial ?_
      refine GE_callSI (As := [.inr (.inr (some (0, 1))), .inl x1, .inl x2, .inl x4]) (S := []) ((fun (l : Launch) (X : XC) (hN : 39 ≤ N9) i a b c => (ld_ok l X hN 8).1 i a b c) l X hN 1 x1 x2 x4 (by decide) w) ⟨me_X4_lessonsTo, ms_X4_lessonsTo, lk_X4_196⟩ (by decide +kernel) rfl (by decide) (by decide) (Nat.le_of_ble_eq_true rfl) (fun r7 _ => ?_)
      refine GE_run (flG_T hN) (pc1 := 88) (L1 := [some (.inr (.inr (some (4, 0)))), some (.inl x1), some (.inl x2), some (.inl x3), some (.inl x4), some (.inl r7.1)]) (S1 := [.inl r7.1]) (w1 := r7.2) (P := True) [(.istore 5, 0, 0, 0, 0), (.iload 5, 0, 0, 0, 0)] (by decide +kernel) rfl trivial ?_
      refine GE_if (k := .le) (off := 15) (tgt := 103) (by decide +kernel) (by decide) (cnd_le _ _) (fun c8 => ?_) (fun c8 => ?_)
      · refine GE_run (flG_T hN) (pc1 := 67) (L1 := [some (.inr (.inr (some (4, 0)))), some (.inl x1), some (.inl x2), some (.inl x3), some (.inl (x4 + 1)), some (.inl r7.1)]) (S1 := []) (w1 := r7.2) (P := True) [(.iinc 4 1, 0, 0, 1, 0), (.goto (-39), 0, 0, 0, 0)] (by decide +kernel) rfl trivial ?_
        exact GE_weak [true, true, true, true, true, false] (ih (x4 + 1) r7.2)
      · refine GE_run (flG_T hN) (pc1 := 92) (L1 := [some (.inr (.inr (some (4, 0)))), some (.inl x1), some (.inl x2), some (.inl x3), some (.inl x4), some (.inl r7.1)]) (S1 := [.inl x3]) (w1 := r7.2) (P := True) [(.iload_n 3, 0, 0, 0, 0)] (by decide +kernel) rfl trivial ?_
        refine GE_ifN (k := .ne) (off := 8) (tgt := 100) (by decide +kernel) (by decide) (cnd_ne _ _) (fun c9 => ?_) (fun c9 => ?_)
        · refine GE_run (flG_T hN) (pc1 := 102) (L1 := [some (.inr (.inr (some (4, 0)))), some (.inl x1), some (.inl x2), some (.inl x3), some (.inl x4), some (.inl r7.1)]) (S1 := [.inl r7.1]) (w1 := r7.2) (P := True) [(.iload 5, 0, 0, 0, 0)] (by decide +kernel) rfl trivial ?_
          exact GE_iret rfl (by decide +kernel)
        · refine GE_run (flG_T hN) (pc1 := 102) (L1 := [some (.inr (.inr (some (4, 0)))), some (.inl x1), some (.inl x2), some (.inl x3), some (.inl x4), some (.inl r7.1)]) (S1 := [.inl x4]) (w1 := r7.2) (P := True) [(.iload 4, 0, 0, 0, 0), (.goto 5, 0, 0, 0, 0)] (by decide +kernel) rfl trivial ?_
          exact GE_iret rfl (by decide +kernel)
noncomputable def j_X4_lessons_33   (x1 : Int32) (x2 : Int32) (x3 : Int32) (w : Mem) : Option (Int32 × Mem) := if (holdsF (atV w 15 0 x1) x2) = 0 then (Option.bind (f_X0_become 1 0 w) (fun r5 => h_X4_lessons_67 x1 x2 x3 (fun w10 => some ((-1), w10)) FU 1 r5)) else (some (0, w))
set_option maxRecDepth 100000 in
theorem j_X4_lessons_33_ok (l : Launch) (X : XC) {N9 : Nat} (hN : 39 ≤ N9)   (x1 : Int32) (x2 : Int32) (x3 : Int32)   (w : Mem) : GE l X mm_X4_lessons 13 emI N9 flT (j_X4_lessons_33 x1 x2 x3 w) 33 [some (.inr (.inr (some (4, 0)))), some (.inl x1), some (.inl x2), some (.inl x3), none, none] [] w := by
  unfold j_X4_lessons_33
  refine GE_run (flG_T hN) (pc1 := 41) (L1 := [some (.inr (.inr (some (4, 0)))), some (.inl x1), some (.inl x2), some (.inl x3), none, none]) (S1 := [.inl x1, .inr (.inr (some (15, 0)))]) (w1 := w) (P := True) [(.aload_n 0, 0, 0, 0, 0), (.getfield 28, 4, 2, 0, 0), (.getfield 108, 0, 8, 0, 0), (.iload_n 1, 0, 0, 0, 0)] (by decide +kernel) rfl trivial ?_
  refine GE_callSIp (As := [.inr (.inr (some (15, 0))), .inl x1]) (S := []) (p_X4_at l X hN 15 0 x1 (by decide) (okM hN (by decide)) w) ⟨me_X4_at, ms_X4_at, lk_X4_120⟩ (by decide +kernel) rfl (by decide) (by decide) (Nat.le_of_ble_eq_true rfl) ?_
  refine GE_run (flG_T hN) (pc1 := 45) (L1 := [some (.inr (.inr (some (4, 0)))), some (.inl x1), some (.inl x2), some (.inl x3), none, none]) (S1 := [.inl x2, .inl (atV w 15 0 x1)]) (w1 := w) (P := True) [(.iload_n 2, 0, 0, 0, 0)] (by decide +kernel) rfl trivial ?_
  refine GE_callSIp (As := [.inl (atV w 15 0 x1), .inl x2]) (S := []) (p_X4_holds l X hN (atV w 15 0 x1) x2 w) ⟨me_X4_holds, ms_X4_holds, lk_X4_157⟩ (by decide +kernel) rfl (by decide) (by decide) (Nat.le_of_ble_eq_true rfl) ?_
  refine GE_if (k := .eq) (off := 5) (tgt := 53) (by decide +kernel) (by decide) (cnd_eq _ _) (fun c4 => ?_) (fun c4 => ?_)
  · refine GE_run (flG_T hN) (pc1 := 61) (L1 := [some (.inr (.inr (some (4, 0)))), some (.inl x1), some (.inl x2), some (.inl x3), none, none]) (S1 := [.inr (.inr (some (0, 0))), .inr (.inr (some (0, 1)))]) (w1 := w) (P := True) [(.aload_n 0, 0, 0, 0, 0), (.getfield 32, 4, 3, 0, 0), (.aload_n 0, 0, 0, 0, 0), (.getfield 28, 4, 2, 0, 0)] (by decide +kernel) rfl trivial ?_
    refine GE_callVV (As := [.inr (.inr (some (0, 0)))]) (k := 0) (i := 1) (S := []) (t_X0_become l X hN 1 0 (by decide) (by decide) w) (by decide) ⟨me_X0_become, mi_X0_become, mv_X0_become, lk_X4_164⟩ rfl (by decide +kernel) rfl (by decide) (by decide) (Nat.le_of_ble_eq_true rfl) (fun r5 _ => ?_)
    refine GE_run (flG_T hN) (pc1 := 67) (L1 := [some (.inr (.inr (some (4, 0)))), some (.inl x1), some (.inl x2), some (.inl x3), some (.inl 1), none]) (S1 := []) (w1 := r5) (P := True) [(.iconst 1, 0, 0, 1, 0), (.istore 4, 0, 0, 0, 0)] (by decide +kernel) rfl trivial ?_
    refine GE_weak [true, true, true, true, true, false] (h_X4_lessons_67_ok l X hN x1 x2 x3 _ ?_ FU 1 r5)
    · intro w10
      refine GE_run (flG_T hN) (pc1 := 110) (L1 := [none, none, none, none, none, none]) (S1 := [.inl (-1)]) (w1 := w10) (P := True) [(.iconst (-1), 0, 0, -1, 0)] (by decide +kernel) rfl trivial ?_
      exact GE_iret rfl (by decide +kernel)
  · refine GE_run (flG_T hN) (pc1 := 52) (L1 := [some (.inr (.inr (some (4, 0)))), some (.inl x1), some (.inl x2), some (.inl x3), none, none]) (S1 := [.inl 0]) (w1 := w) (P := True) [(.iconst 0, 0, 0, 0, 0)] (by decide +kernel) rfl trivial ?_
    exact GE_iret rfl (by decide +kernel)
noncomputable def f_X4_lessons (a1 : Int32) (a2 : Int32) (a3 : Int32) (w : Mem) : Option (Int32 × Mem) := if (hasF a1 (w 0 0 2)) = 0 then (some ((-5), w)) else (if (rng a2 0 15) = 0 then (some ((-7), w)) else (if a3 = 0 then (j_X4_lessons_33 a1 a2 a3 w) else (if a3 = 1 then (j_X4_lessons_33 a1 a2 a3 w) else (some ((-7), w)))))
set_option maxRecDepth 100000 in
theorem t_X4_lessons (l : Launch) (X : XC) {N9 : Nat} (hN : 39 ≤ N9)  (a1 : Int32) (a2 : Int32) (a3 : Int32) (w : Mem) : Ct l X 13 yX4_lessons cX4_lessons 6 (some .int) emI [.inr (.inr (some (4, 0))), .inl a1, .inl a2, .inl a3] N9 flT w (f_X4_lessons a1 a2 a3 w) := by
  refine Ct_of (mi := mm_X4_lessons) (mik_X4 _ _ _) me_X4_lessons rfl (okAs_cons (okMV hN (by decide)) (okAs_cons rfl (okAs_cons rfl (okAs_cons rfl okAs_nil)))) (Nat.le_of_ble_eq_true rfl) ?_
  unfold f_X4_lessons
  refine GE_run (flG_T hN) (pc1 := 5) (L1 := [some (.inr (.inr (some (4, 0)))), some (.inl a1), some (.inl a2), some (.inl a3), none, none]) (S1 := [.inl a1, .inr (.inr (some (0, 0)))]) (w1 := w) (P := True) [(.aload_n 0, 0, 0, 0, 0), (.getfield 28, 4, 2, 0, 0), (.iload_n 1, 0, 0, 0, 0)] (by decide +kernel) rfl trivial ?_
  refine GE_callVIp (As := [.inl a1]) (k := 0) (i := 0) (S := []) (p_X0_has l X hN 0 a1 (by decide) w) (by decide) ⟨me_X0_has, mi_X0_has, mv_X0_has, lk_X4_95⟩ rfl (by decide +kernel) rfl (by decide) (by decide) (Nat.le_of_ble_eq_true rfl) ?_
  refine GE_ifN (k := .ne) (off := 6) (tgt := 14) (by decide +kernel) (by decide) (cnd_ne _ _) (fun c1 => ?_) (fun c1 => ?_)
  · refine GE_run (flG_T hN) (pc1 := 15) (L1 := [some (.inr (.inr (some (4, 0)))), some (.inl a1), some (.inl a2), some (.inl a3), none, none]) (S1 := [.inl a2]) (w1 := w) (P := True) [(.iload_n 2, 0, 0, 0, 0)] (by decide +kernel) rfl trivial ?_
    refine GE_callSIp (As := [.inl a2]) (S := []) (p_X4_isThing l X hN a2 w) ⟨me_X4_isThing, ms_X4_isThing, lk_X4_98⟩ (by decide +kernel) rfl (by decide) (by decide) (Nat.le_of_ble_eq_true rfl) ?_
    refine GE_if (k := .eq) (off := 12) (tgt := 30) (by decide +kernel) (by decide) (cnd_eq _ _) (fun c2 => ?_) (fun c2 => ?_)
    · refine GE_run (flG_T hN) (pc1 := 32) (L1 := [some (.inr (.inr (some (4, 0)))), some (.inl a1), some (.inl a2), some (.inl a3), none, none]) (S1 := [.inl (-7)]) (w1 := w) (P := True) [(.bipush (-7), 0, 0, -7, 0)] (by decide +kernel) rfl trivial ?_
      exact GE_iret rfl (by decide +kernel)
    · refine GE_run (flG_T hN) (pc1 := 22) (L1 := [some (.inr (.inr (some (4, 0)))), some (.inl a1), some (.inl a2), some (.inl a3), none, none]) (S1 := [.inl a3]) (w1 := w) (P := True) [(.iload_n 3, 0, 0, 0, 0)] (by decide +kernel) rfl trivial ?_
      refine GE_if (k := .eq) (off := 11) (tgt := 33) (by decide +kernel) (by decide) (cnd_eq _ _) (fun c3 => ?_) (fun c3 => ?_)
      · exact GE_weak [true, true, true, true, false, false] (j_X4_lessons_33_ok l X hN a1 a2 a3 w)
      · refine GE_run (flG_T hN) (pc1 := 27) (L1 := [some (.inr (.inr (some (4, 0)))), some (.inl a1), some (.inl a2), some (.inl a3), none, none]) (S1 := [.inl 1, .inl a3]) (w1 := w) (P := True) [(.iload_n 3, 0, 0, 0, 0), (.iconst 1, 0, 0, 1, 0)] (by decide +kernel) rfl trivial ?_
        refine GE_icmp (k := .eq) (off := 6) (tgt := 33) (by decide +kernel) (by decide) (cnd_eq _ _) (fun c11 => ?_) (fun c11 => ?_)
        · exact GE_weak [true, true, true, true, false, false] (j_X4_lessons_33_ok l X hN a1 a2 a3 w)
        · refine GE_run (flG_T hN) (pc1 := 32) (L1 := [some (.inr (.inr (some (4, 0)))), some (.inl a1), some (.inl a2), some (.inl a3), none, none]) (S1 := [.inl (-7)]) (w1 := w) (P := True) [(.bipush (-7), 0, 0, -7, 0)] (by decide +kernel) rfl trivial ?_
          exact GE_iret rfl (by decide +kernel)
  · refine GE_run (flG_T hN) (pc1 := 13) (L1 := [some (.inr (.inr (some (4, 0)))), some (.inl a1), some (.inl a2), some (.inl a3), none, none]) (S1 := [.inl (-5)]) (w1 := w) (P := True) [(.bipush (-5), 0, 0, -5, 0)] (by decide +kernel) rfl trivial ?_
    exact GE_iret rfl (by decide +kernel)
end
section
/-! the making of cells: what the constructors need -/
def clr (w : Mem) (k i : Nat) : Mem := fun a b c => if a = k ∧ b = i then 0 else w a b c
def flL (l : List (Nat × Nat × Nat)) : Fl := fun k i j => decide (k = 18 ∧ 4 ≤ j) || decide ((k, i, j) ∈ l)
theorem flL_up (l : List (Nat × Nat × Nat)) (k i j : Nat) : upF (flL l) k i j = flL ((k, i, j) :: l) := by
  funext a b c
  unfold upF flL
  by_cases h : a = k ∧ b = i ∧ c = j
  · obtain ⟨rfl, rfl, rfl⟩ := h
    simp
  · rw [if_neg h]
    have h2 : ((a, b, c) ∈ (k, i, j) :: l) ↔ ((a, b, c) ∈ l) := by
      rw [List.mem_cons]
      refine ⟨fun z => ?_, Or.inr⟩
      rcases z with z | z
      · exact absurd (by simpa [Prod.mk.injEq] using z) h
      · exact z
    rw [decide_eq_decide.mpr h2]
def flK (n : Nat) (l : List (Nat × Nat × Nat)) : Bool := l.all fun q => (!(okc n q.1 q.2.1) || (!(decide (q.1 < 6)) || (match fdD q.1 q.2.2 with | none => true | some t => okR n (t.1, t.2.getD q.2.1)))) && (!(decide (q.1 = 18 ∧ q.2.1 = 0 ∧ q.2.2 < 4)) || okc n 2 q.2.2)
theorem flG_L {n : Nat} {l : List (Nat × Nat × Nat)} (h : flK n l = true) : flG n (flL l) := by
  have h0 := List.all_eq_true.mp h
  refine ⟨?_, ?_⟩
  · intro k i j hok hk t ht hf
    have hm : (k, i, j) ∈ l := by
      simp only [flL, Bool.or_eq_true, decide_eq_true_eq] at hf
      rcases hf with hf | hf
      · omega
      · exact hf
    have h1 := h0 _ hm
    simp only [Bool.and_eq_true] at h1
    have h2 := h1.1
    rw [hok, ht] at h2
    simpa [hk] using h2
  · intro j hj hf
    have hm : (18, 0, j) ∈ l := by
      simp only [flL, Bool.or_eq_true, decide_eq_true_eq] at hf
      rcases hf with hf | hf
      · omega
      · exact hf
    have h1 := h0 _ hm
    simp only [Bool.and_eq_true] at h1
    simpa [hj] using h1.2
theorem ref_ty : ∀ k, k < 6 → ∀ j, j < (cC k).2.2 → fdD k j ≠ none → (tyC k j).isReference = true := by decide +kernel
theorem int_ty : ∀ k, k < 6 → ∀ j, j < (cC k).2.2 → fdD k j = none → tyC k j = .int ∨ tyC k j = .boolean := by decide +kernel
theorem ref_fits {ty : FieldType} (h : ty.isReference = true) (a : Nat) : narrow ty (.ref a) = .ref a ∧ fits ty (.ref a) = true := by
  cases ty <;> first | exact ⟨rfl, rfl⟩ | exact absurd h (by decide)
theorem ref_def {ty : FieldType} (h : ty.isReference = true) : defaultValue ty = .null := by
  cases ty <;> first | rfl | exact absurd h (by decide)
theorem fvs_def {X : XC} {fl : Fl} {w : Mem} {k i : Nat} (hk : k < 6) (hfl : ∀ j, j < (cC k).2.2 → fdD k j ≠ none → fl k i j = false) : ∀ j, j < (cC k).2.2 → defaultValue (tyC k j) = vp_V (fvs X fl (clr w k i) k i) j := by
  intro j hj
  unfold vp_V
  rw [List.getD_eq_getElem?_getD, fvs_get hj]
  show _ = fv X fl (clr w k i) k i j
  unfold fv
  by_cases hf : fdD k j = none
  · rw [hf]
    show _ = Value.int (clr w k i k i j)
    rw [show clr w k i k i j = 0 by simp [clr]]
    rcases int_ty k hk j hj hf with h | h <;> rw [h] <;> rfl
  · rw [ref_def (ref_ty k hk j hj hf)]
    obtain ⟨t, ht⟩ := Option.ne_none_iff_exists'.mp hf
    rw [ht, hfl j hj hf]
    rfl
section MAKE
variable {l : Launch} {X : XC} {mi : MI} {p : Program} {e : Env} {R : Room} {s : State} {m : MethodId} {args : Array Value} {below : List Frame} {meth : Method} {c : Code} {ce sl : Nat} {Q : State → Prop} {n : Nat} {fl fl' : Fl} {pc pc1 : Nat} {L L1 : LL} {S S1 : List AV} {w w' : Mem}
theorem ad_sz {H : Heap} (hW : Wd X n fl w H) (hn : n < 39) : H.size = ad X n := by
  have h := (hW.2.2.1.2.1 hn).2
  rw [h]; unfold ad; rw [if_neg (by omega)]
theorem Wd.push {H H1 : Heap} {k i : Nat} (hW : Wd X n fl w H) (hn : n < 39) (hal : al n = (k, i)) (hsz : H1.size = H.size + 1) (ho : ∀ q, q < H.size → H1[q]? = H[q]?) (hf : ∀ a b c, ¬ (a = k ∧ b = i) → fl' a b c = fl a b c) (hw : ∀ a b c, ¬ (a = k ∧ b = i) → w' a b c = w a b c) (hat : va_at X.1 classes (ad X n, ent X fl' w' (k, i)) H1) : Wd X (n + 1) fl' w' H1 := by
  have e1 : wl X (n + 1) fl' w' = wl X n fl w ++ [(ad X n, ent X fl' w' (k, i))] := by
    unfold wl
    rw [List.range_succ, List.map_append]
    congr 1
    · refine List.map_congr_left (fun q hq => ?_)
      have hq2 : q < n := List.mem_range.mp hq
      have hne : ¬ ((al q).1 = k ∧ (al q).2 = i) := by
        rintro ⟨h1, h2⟩
        have h3 := al_ord q (by omega)
        have h4 := al_ord n (by omega)
        rw [hal] at h4
        rw [h1, h2] at h3
        dsimp only at h4
        omega
      rw [ent_n (fun j => hf _ _ j hne) (fun j => hw _ _ j hne)]
    · rw [List.map_singleton, hal]
  have hs := ad_sz hW hn
  obtain ⟨z1, z2, z3⟩ := hW.2.2.1
  obtain ⟨z4, z5⟩ := z2 hn
  refine ⟨?_, ?_, ⟨by omega, fun h => ⟨z4, by omega⟩, fun h => by omega⟩, by omega, fun q hq => ?_⟩
  · rw [e1]
    refine (hW.1.kept (fun k2 x hx => ho _ ((hW.1 k2 x hx).lt))).app (fun k2 x hx => ?_)
    have hz : k2 < 1 := (List.getElem?_eq_some_iff.mp hx).1
    rw [show k2 = 0 by omega] at hx
    cases hx
    exact hat
  · rw [e1]
    exact hW.2.1.push hW.1 hs.symm (Or.inr (by rw [← hs]; exact z1))
  · have h9 : ¬ xb X ≤ q := fun z => hq (Or.inr z)
    rw [ho q (by omega)]; exact hW.2.2.2.2 q hq
theorem al_adr {k i : Nat} (hn : n < 39) (hal : al n = (k, i)) : adr X k i = ad X n := by
  have h1 := al_lt n (by omega)
  have h2 := al_ord n (by omega)
  rw [hal] at h1 h2
  rw [adr_own X h1, h2]
theorem al_okc {k i : Nat} (hn : n < 39) (hal : al n = (k, i)) : okc (n + 1) k i = true := by
  have h2 := al_ord n (by omega)
  rw [hal] at h2
  dsimp only at h2
  unfold okc
  rw [h2, hal]
  simp
theorem al_okV {k i : Nat} (hn : n < 39) (hal : al n = (k, i)) : okV (n + 1) (.inr (.inr (some (k, i)))) = true := by
  show okR (n + 1) (k, i) = true
  have h1 := al_lt n (by omega)
  rw [hal] at h1
  rw [okR_own h1]; exact al_okc hn hal
theorem S_push {H H1 : Heap} {locs : List Loc} (hS : va_S (AA X) s.heap H locs) (hsz : H1.size = H.size + 1) (ho : ∀ q, q < H.size → H1[q]? = H[q]?) : va_S (AA X) s.heap H1 locs := ⟨Nat.le_trans hS.1 (by omega), fun x h1 h2 => (ho x (Nat.lt_of_lt_of_le h1 hS.1)).trans (hS.2.1 x h1 h2), hS.2.2⟩
theorem clr_o {k i : Nat} : ∀ a b c, ¬ (a = k ∧ b = i) → clr w k i a b c = w a b c := fun a b c h => if_neg h
theorem G_new (B : Bd X mi p s m args meth c) {idx k i : Nat} (hk : k < 6) (hal : al n = (k, i)) (hn : n < 39) (hl : Cond.classLink mi.1 idx (cC k).1 ∈ lw_tbl) (hi : Cond.instantiable (cC k).1 (cC k).2.2 ∈ lw_tbl) (hini : Cond.initialized (cC k).1 ∈ lw_tbl) (hfl : ∀ j, j < (cC k).2.2 → fdD k j ≠ none → fl k i j = false) (hd : decode mi.2.1 pc = .ok (.new idx, 3)) (hce : ce + 1 ≤ R.cells) (hsl : sl + (cC k).2.2 ≤ R.slots)
    (kk : G l X mi p e R s m args below meth c (ce + 1) (sl + (cC k).2.2) Q (n + 1) fl (pc + 3) L (.inr (.inr (some (k, i))) :: S) (clr w k i)) : G l X mi p e R s m args below meth c ce sl Q n fl pc L S w := by
  intro H locs ls hW hS hls hL oL oS
  have hKn := B.hK.1 k _ (cC_get k hk)
  refine W.newcK B.1 B.2.1 B.2.2.2.1 (B.hw hl rfl) (B.hw hi rfl) (B.hw hini rfl) rfl hd hce hsl hKn.2.1 rfl fun H1 kC hkC e1 z1 o1 => ?_
  have hs := ad_sz hW hn
  have hW1 : Wd X (n + 1) fl (clr w k i) H1 := hW.push hn hal z1 o1 (fun _ _ _ _ => rfl) clr_o (by
    rw [ent_o hk, ← hs]
    exact ⟨_, cC_get k hk, (u_born (tyC k) B.2.2.2.2.1 (B.lay hk) hKn hkC e1 (cC_ty k hk)).to (fvs_def hk hfl)⟩)
  have h1 := kk H1 locs ls hW1 (S_push hS z1 o1) hls hL (fun u hu => okV_mono (Nat.le_succ n) (oL u hu)) (List.forall_mem_cons.mpr ⟨al_okV hn hal, fun u hu => okV_mono (Nat.le_succ n) (oS u hu)⟩)
  rw [List.map_cons] at h1
  rw [show cv X (.inr (.inr (some (k, i)))) = .ref H.size by show Value.ref (adr X k i) = _; rw [al_adr hn hal, hs]] at h1
  exact h1
theorem G_newa (B : Bd X mi p s m args meth c) {at0 : ArrayType} {k i : Nat} {x : Int32} (hk : isA k = true) (hat : newarray.typeOf at0 = .int) (hal : al n = (k, i)) (hn : n < 39) (hl : Cond.arrayClass .int ∈ lw_tbl) (hx0 : ¬ x < 0) (hx : x.toNatClampNeg = lenK k) (hb : lenK k ≤ 2000) (hd : decode mi.2.1 pc = .ok (.newarray at0, 2)) (hce : ce + 1 ≤ R.cells) (hsl : sl + lenK k ≤ R.slots)
    (kk : G l X mi p e R s m args below meth c (ce + 1) (sl + lenK k) Q (n + 1) fl (pc + 2) L (.inr (.inr (some (k, i))) :: S) (clr w k i)) : G l X mi p e R s m args below meth c ce sl Q n fl pc L (.inl x :: S) w := by
  intro H locs ls hW hS hls hL oL oS
  have hs := ad_sz hW hn
  refine va_newaK (atype := at0) B.1 B.2.1 (by rw [hat]; exact B.hw hl rfl) rfl hd rfl hx0 hx (by rw [hat]; show lenK k * 4 ≤ _; omega) hce hsl rfl fun H1 cA e1 z1 o1 hAr hNm => ?_
  rw [hat] at e1 hNm
  have hc : cA = X.2.1.1 := Option.some.inj (hNm.symm.trans (B.hK.2 0 _ rfl).2)
  subst hc
  have hW1 : Wd X (n + 1) fl (clr w k i) H1 := hW.push hn hal z1 o1 (fun _ _ _ _ => rfl) clr_o (by
    rw [ent_a hk, ← hs]
    show H1[H.size]? = some (vp_cell _ _)
    rw [e1, vp_cell_i]
    congr 2
    funext j
    rw [show clr w k i k i j = 0 by simp [clr]]
    rfl)
  have h1 := kk H1 locs ls hW1 (S_push hS z1 o1) hls hL (fun u hu => okV_mono (Nat.le_succ n) (oL u hu)) (List.forall_mem_cons.mpr ⟨al_okV hn hal, fun u hu => okV_mono (Nat.le_succ n) ((List.forall_mem_cons.mp oS).2 u hu)⟩)
  rw [List.map_cons] at h1
  rw [show cv X (.inr (.inr (some (k, i)))) = .ref H.size by show Value.ref (adr X k i) = _; rw [al_adr hn hal, hs]] at h1
  exact h1
theorem arrV_cong (cI : ClassId) (N : Nat) {f g : Nat → Value} (h : ∀ j, j < N → f j = g j) : arrV cI N f = arrV cI N g := by
  unfold arrV
  congr 1
  refine Array.ext (by simp) (fun j h1 h2 => ?_)
  simp only [Array.getElem_ofFn]
  exact h j (by simpa using h1)
theorem G_newq (B : Bd X mi p s m args meth c) {idx : Nat} {x : Int32} (hal : al n = (18, 0)) (hn : n < 39) (hl : Cond.classLink mi.1 idx "NameThrownBack$Sheet" ∈ lw_tbl) (ho : va_AO "NameThrownBack$Sheet" X.2.2.1) (hx0 : ¬ x < 0) (hx : x.toNatClampNeg = 4) (hfl : ∀ j, j < 4 → fl 18 0 j = false) (hd : decode mi.2.1 pc = .ok (.anewarray idx, 3)) (hce : ce + 1 ≤ R.cells) (hsl : sl + 4 ≤ R.slots)
    (kk : G l X mi p e R s m args below meth c (ce + 1) (sl + 4) Q (n + 1) fl (pc + 3) L (.inr (.inr (some (18, 0))) :: S) w) : G l X mi p e R s m args below meth c ce sl Q n fl pc L (.inl x :: S) w := by
  intro H locs ls hW hS hls hL oL oS
  have hs := ad_sz hW hn
  refine W.anew B.1 B.2.1 B.2.2.2.1 (B.hw hl rfl) (va_AO.use (ho.moved B.2.2.2.2.2.2.2.1)) rfl hd rfl hx0 (by rw [hx]; decide) hce (by rw [hx]; exact hsl) fun cA kA comp f1 f2 f3 f4 => ?_
  rw [hx]
  obtain ⟨kA', comp', g1, g2, g3, g4⟩ := (B.hK.2 1 _ rfl).2
  have hc : cA = X.2.1.2 := Option.some.inj (f1.symm.trans g4)
  subst hc
  generalize hH1 : H.push ({ cls := X.2.1.2, slots := Array.replicate 4 .null, vm := .none } : Cell) = H1
  have z1 : H1.size = H.size + 1 := by rw [← hH1, Array.size_push]
  have e1 : H1[H.size]? = some (arrV X.2.1.2 4 (fun _ => .null)) := by rw [← hH1, Array.getElem?_push_size, ← arrV_new]
  have o1 : ∀ q : Nat, q < H.size → H1[q]? = H[q]? := fun q hq => by rw [← hH1, Array.getElem?_push, if_neg (Nat.ne_of_lt hq)]
  have hW1 : Wd X (n + 1) fl w H1 := hW.push hn hal z1 o1 (fun _ _ _ _ => rfl) (fun _ _ _ _ => rfl) (by
    rw [ent_q, ← hs]
    show H1[H.size]? = some (vp_cell _ _)
    rw [e1, vp_cell_q]
    congr 1
    refine arrV_cong _ _ (fun j hj => ?_)
    rw [hfl j hj]; rfl)
  have h1 := kk H1 locs ls hW1 (S_push hS z1 o1) hls hL (fun u hu => okV_mono (Nat.le_succ n) (oL u hu)) (List.forall_mem_cons.mpr ⟨al_okV hn hal, fun u hu => okV_mono (Nat.le_succ n) ((List.forall_mem_cons.mp oS).2 u hu)⟩)
  rw [List.map_cons] at h1
  rw [show cv X (.inr (.inr (some (18, 0)))) = .ref H.size by show Value.ref (adr X 18 0) = _; rw [al_adr hn hal, hs]] at h1
  exact h1
theorem fvs_upF {k i j : Nat} {t : Nat × Option Nat} (hj : j < (cC k).2.2) (hfd : fdD k j = some t) : (fvs X fl w k i).set j (.ref (adr X t.1 (t.2.getD i))) = fvs X (upF fl k i j) w k i := by
  refine List.ext_getElem? (fun q => ?_)
  by_cases hq : q < (cC k).2.2
  · by_cases hqj : q = j
    · subst hqj
      rw [List.getElem?_set_self (by rw [fvs_len]; exact hq), fvs_get hq]
      unfold fv; rw [hfd, show upF fl k i q k i q = true by simp [upF]]
      rfl
    · rw [List.getElem?_set_ne (Ne.symm hqj), fvs_get hq, fvs_get hq]
      unfold fv; rw [show upF fl k i j k i q = fl k i q by simp [upF, hqj]]
  · rw [List.getElem?_eq_none (by rw [List.length_set, fvs_len]; omega), List.getElem?_eq_none (by rw [fvs_len]; omega)]
theorem G_putF (B : Bd X mi p s m args meth c) {idx k i j : Nat} {t : Nat × Option Nat} (hk : k < 6) (hj : j < (cC k).2.2) (hf : (idx, k, j) ∈ mi.2.2.2.2.1) (hfin : ((cC k).2.1 j).2.2.2 = true) (hfd : fdD k j = some t) (hin2 : meth.name = "<init>") (hdecl : (cC k).1 = mi.1) (hd : decode mi.2.1 pc = .ok (.putfield idx, 3))
    (kk : G l X mi p e R s m args below meth c ce sl Q n (upF fl k i j) (pc + 3) L S w) : G l X mi p e R s m args below meth c ce sl Q n fl pc L (.inr (.inr (some (t.1, t.2.getD i))) :: .inr (.inr (some (k, i))) :: S) w := by
  intro H locs ls hW hS0 hls hL oL oS
  have hlink : (Cond.fieldLink mi.1 idx (cC k).1 ((cC k).2.1 j).2.1 ((cC k).2.1 j).2.2.1).before args s = true := B.hw (B.2.2.2.2.2.2.2.2.2.1.1 _ hf) rfl
  have hts := B.2.2.2.2.1
  have hin := B.lay hk
  have hc := cC_get k hk
  have hap := va_apart (own := mi.1) hts hin (tyC k) (cC_ty k hk) (cC_nm k hk) B.hK hc
  have o1 := List.forall_mem_cons.mp (List.forall_mem_cons.mp oS).2
  have hok := own_ref (by omega) o1.1
  have he := (wl_get (X := X) (fl := fl) (w := w) hW.2.2.2.1 hok).trans (by rw [ent_o hk])
  obtain ⟨r, h1, cell, q1, q2, q3, q4⟩ := hW.1 _ _ he
  have hr : r = cC k := Option.some.inj (h1.symm.trans hc)
  subst hr
  obtain ⟨hS, hfc, kC, hkC, hkind⟩ := B.hK.1 k _ hc
  obtain ⟨cf, kf, fi, f, hi, hsl⟩ := hS j hj
  have hlay := hts _ (hin _ (u_in_lay hj))
  unfold u_lay at hlay
  rw [if_pos hfin] at hlay
  have hst := (u_facts hfc hkC (u_lays hts hin hj) hi).1
  have hcf : m.cls = cf := by
    obtain ⟨_, _, c', _, _, _, -, -, hf', -, -, -, hown2, -⟩ := Cond.laysFinal_spec hlay
    have e1 : c' = cf := by have := hi.symm.trans hf'; simp at this; exact this.1.symm
    rw [cC_own k hk j hj, hdecl] at hown2
    rw [← e1]; exact Option.some.inj (B.2.2.2.1.symm.trans hown2)
  have hnf := ref_fits (ref_ty k hk j hj (by rw [hfd]; exact fun z => nomatch z)) (adr X t.1 (t.2.getD i))
  have h6 := u_fits hfc hkC hkind (Or.inr hlay) hi (cC_ty k hk j hj) hnf.1 hnf.2
  refine W.putFinK B.1 B.2.1 B.2.2.2.1 hlink (by rw [cC_own k hk j hj] at hi; exact hi) hst hcf hin2 (by rw [q2]; exact h6) q1 q3 (by rw [hsl]; exact k2_hasslot (q4 j hj)) rfl rfl hd fun H' e1 e2 e3 => ?_
  rw [hsl] at e1 ⊢
  have hS1 : va_S (AA X) s.heap H' (locs ++ [⟨adr X k i, X.1.2 k j⟩]) := hS0.put e2 e3 (hW.2.1.2 _ _ he)
  refine kk H' _ ls (hW.put B.2.2.2.2.2.2.2.2.2.2.1 hS0 hS1 hok e2 (hW.1.set (e := .inr (k, (fvs X fl w k i).set j (.ref (adr X t.1 (t.2.getD i))))) hW.2.1 he ⟨_, hc, t_OB.to (V := updV (vp_V (fvs X fl w k i)) j (.ref (adr X t.1 (t.2.getD i)))) ⟨_, e1, q2, q3, t_set q4 hap hj _⟩ (fun j' _ => vp_updV_set (by rw [fvs_len]; exact hj) _ j')⟩ e3) (hW.2.1.set he) (by rw [ent_o hk]; exact congrArg (fun z => Sum.inr (k, z)) (fvs_upF hj hfd)) (fun a b c h => by unfold upF; rw [if_neg (fun z => h ⟨z.1, z.2.1⟩)]) (fun _ _ _ _ => rfl)) hS1 hls hL oL o1.2
theorem G_aast (B : Bd X mi p s m args meth c) {j : Nat} {x : Int32} (hx : vp_in x 4) (hj : x.toNatClampNeg = j) (hd : decode mi.2.1 pc = .ok (.aastore, 1))
    (kk : G l X mi p e R s m args below meth c ce sl Q n (upF fl 18 0 j) (pc + 1) L S w) : G l X mi p e R s m args below meth c ce sl Q n fl pc L (.inr (.inr (some (2, j))) :: .inl x :: .inr (.inr (some (18, 0))) :: S) w := by
  intro H locs ls hW hS hls hL oL oS
  have o0 := List.forall_mem_cons.mp oS
  have o1 := List.forall_mem_cons.mp (List.forall_mem_cons.mp o0.2).2
  have hokq := own_ref (by omega) o1.1
  have hokv := own_ref (by omega) o0.1
  have ha := (wl_get (X := X) (fl := fl) (w := w) hW.2.2.2.1 hokq).trans (by rw [ent_q])
  have hv := (wl_get (X := X) (fl := fl) (w := w) hW.2.2.2.1 hokv).trans (by rw [ent_o (by decide)])
  have hlt : x.toNatClampNeg < 4 := Nat.not_le.mp fun q => hx (Or.inr q)
  have h0 : ¬ x < 0 := fun q => hx (Or.inl q)
  obtain ⟨r', hr', cellV, g1, g2, g3, -⟩ := hW.1 _ _ hv
  have hcls := (B.hK.1 2 _ (cC_get 2 (by decide))).2
  obtain ⟨kA, comp, k1, k2, k3, -⟩ := (B.hK.2 1 _ rfl).2
  have hcomp : comp = X.1.1 2 := Option.some.inj (k3.symm.trans hcls.1)
  subst hcomp
  obtain ⟨kC, hkC, -⟩ := hcls.2
  refine W.aast B.1 B.2.1 (hW.1 _ _ ha) (fun q h => by cases h) (fun h => by cases h) k1 k2 rfl hkC ⟨h0, by show _ < (arrV _ _ _).slots.size; rw [arrV_size]; exact hlt⟩ g1 (fun q h => by rw [g3] at h; cases h) (by rw [g2]; exact hkC) (by rw [g2]; exact va_assign hcls) rfl rfl hd fun H1 e z oq => ?_
  have hS1 : va_S (AA X) s.heap H1 (locs ++ [⟨adr X 18 0, x.toNatClampNeg⟩]) := hS.put z oq (hW.2.1.2 _ _ ha)
  refine kk H1 _ ls (hW.put B.2.2.2.2.2.2.2.2.2.2.1 hS hS1 hokq z (hW.1.set (e := ent X (upF fl 18 0 j) w (18, 0)) hW.2.1 ha ?_ oq) (hW.2.1.set ha) rfl (fun a b c h => by unfold upF; rw [if_neg (fun z => h ⟨z.1, z.2.1⟩)]) (fun _ _ _ _ => rfl)) hS1 hls hL oL o1.2
  rw [ent_q]
  show H1[adr X 18 0]? = some (vp_cell _ _)
  rw [e]
  rw [vp_cell_q, vp_cell_q, arrV_store]
  refine congrArg some (arrV_cong _ _ (fun q hq => ?_))
  by_cases hqj : q = x.toNatClampNeg
  · subst hqj
    subst hj
    rw [show upF fl 18 0 x.toNatClampNeg 18 0 x.toNatClampNeg = true by simp [upF]]
    simp [updV, va_rf]
  · rw [show upF fl 18 0 j 18 0 q = fl 18 0 q by unfold upF; rw [if_neg (by omega)]]
    simp [updV, hqj]
theorem G_obj (B : Bd X mi p s m args meth c) {idx : Nat} {q : Nat × Nat} (hlk : Cond.methodLink mi.1 idx Lib.objectInit ∈ lw_tbl) (hin : Cond.instanceMethod Lib.objectInit ∈ lw_tbl) (hcd : Cond.code Lib.objectInit ⟨#[0xb1]⟩ 1 none ∈ lw_tbl) (hd : decode mi.2.1 pc = .ok (.invokespecial idx, 3)) (hfr : 1 ≤ R.frames) (hlo : 12 ≤ R.locals)
    (kk : G l X mi p e R s m args below meth c ce sl Q n fl (pc + 3) L [] w) : G l X mi p e R s m args below meth c ce sl Q n fl pc L [.inr (.inr (some q))] w := by
  intro H locs ls hW hS hls hL oL oS
  exact W.objInit B.1 B.2.1 B.2.2.2.1 (B.hw hlk rfl) (B.hw hin rfl) (B.hw hcd rfl) rfl (by rw [B.2.2.1]; exact hls.1) rfl hd hfr hlo (kk H locs ls hW hS hls hL oL (fun v hv => by cases hv))
theorem W.fl_eq {H : Heap} (hW : Wd X n fl w H) (h : wl X n fl' w = wl X n fl w) : Wd X n fl' w H := by
  unfold Wd; rw [h]; exact hW
theorem flT_wl {ll : List (Nat × Nat × Nat)} (h : ((List.range 39).all fun q => if (al q).1 < 6 then (List.range (cC (al q).1).2.2).all (fun j => (fdD (al q).1 j).isNone || decide (((al q).1, (al q).2, j) ∈ ll)) else (!(decide ((al q).1 = 18)) || (List.range 4).all (fun j => decide ((18, (al q).2, j) ∈ ll)))) = true) (w : Mem) : wl X 39 flT w = wl X 39 (flL ll) w := by
  unfold wl
  refine List.map_congr_left (fun q hq => ?_)
  have h1 := List.all_eq_true.mp h q hq
  refine congrArg (fun z => (ad X q, z)) ?_
  generalize al q = a at h1
  obtain ⟨k, i⟩ := a
  dsimp only at h1
  by_cases hk : k < 6
  · rw [if_pos hk] at h1
    rw [ent_o hk, ent_o hk]
    refine congrArg (fun z => Sum.inr (k, z)) ?_
    unfold fvs
    refine List.map_congr_left (fun j hj => ?_)
    have h2 := List.all_eq_true.mp h1 j hj
    unfold fv
    cases hfd : fdD k j with
    | none => rfl
    | some t =>
      rw [hfd] at h2
      have h3 : (k, i, j) ∈ ll := by simpa using h2
      rw [show flL ll k i j = true by simp [flL, h3]]
      rfl
  · rw [if_neg hk] at h1
    by_cases h18 : k = 18
    · subst h18
      rw [ent_q, ent_q]
      have h4 : (fun j => if flT 18 i j = true then some (adr X 2 j) else none) = (fun j => if flL ll 18 i j = true then some (adr X 2 j) else none) := by
        funext j
        have : flL ll 18 i j = true := by
          by_cases hj : j < 4
          · have h2 := List.all_eq_true.mp (by simpa using h1 : (List.range 4).all (fun j => decide ((18, i, j) ∈ ll)) = true) j (List.mem_range.mpr hj)
            simp only [flL, Bool.or_eq_true]; exact Or.inr h2
          · simp only [flL, Bool.or_eq_true, decide_eq_true_eq]; exact Or.inl ⟨trivial, by omega⟩
        rw [this]; rfl
      rw [h4]
    · unfold ent
      rw [if_neg hk, if_neg h18, if_neg hk, if_neg h18]
theorem G_flT {ll : List (Nat × Nat × Nat)} (h : ((List.range 39).all fun q => if (al q).1 < 6 then (List.range (cC (al q).1).2.2).all (fun j => (fdD (al q).1 j).isNone || decide (((al q).1, (al q).2, j) ∈ ll)) else (!(decide ((al q).1 = 18)) || (List.range 4).all (fun j => decide ((18, (al q).2, j) ∈ ll)))) = true)
    (kk : G l X mi p e R s m args below meth c ce sl Q 39 flT pc L S w) : G l X mi p e R s m args below meth c ce sl Q 39 (flL ll) pc L S w :=
  fun H locs ls hW hS hls hL oL oS => kk H locs ls (W.fl_eq hW (flT_wl h w)) hS hls hL oL oS
end MAKE
end
section
/-! the constructors -/
def w_X3_0 (w : Mem) : Mem := up (setV0 (setV0 (setV0 (setV0 (setV0 (setV0 (clr (clr (clr w 6 0) 7 0) 8 0) 6 0 0 (-1)) 6 0 1 5) 6 0 2 2) 7 0 0 (0 + 1)) 7 0 1 (1 + 1)) 7 0 2 (2 + 1)) 3 0 0 1
set_option maxRecDepth 100000 in
theorem c_X3_0 (l : Launch) (X : XC) (hX : XOK X) (w : Mem) : Mt l X 1 yX3_init cX3_init 2 none [.inr (.inr (some (3, 0)))] 3 1018 2 (flL []) w (fun v n1 fl1 w1 => v = none ∧ n1 = 5 ∧ fl1 = (flL [(3, 0, 3), (3, 0, 2), (3, 0, 1)]) ∧ w1 = w_X3_0 w) := by
  refine Mt_of (mi := ⟨RX3, cX3_init, 2, none, ftp_X3.map (fun q => q.1), ctp_X3.map (fun q => q.1), clp_X3.map (fun q => q.1)⟩) hX (mik_X3 _ _ _) me_X3_init rfl (okAs_cons (by decide +kernel) okAs_nil) (Nat.le_of_ble_eq_true rfl) (fun p e s m args below meth c B hin => ?_)
  refine G_run B (flG_L (l := []) (by decide +kernel)) (pc1 := 1) (L1 := [some (.inr (.inr (some (3, 0)))), none]) (S1 := [.inr (.inr (some (3, 0)))]) (w1 := w) (P := True) [(.aload_n 0, 0, 0, 0, 0)] (by decide +kernel) rfl (by trivial) ?_
  refine G_obj B (idx := 3) (List.mem_of_getElem? (i := 203) (by decide +kernel)) (List.mem_of_getElem? (i := 196) (by decide +kernel)) (List.mem_of_getElem? (i := 197) (by decide +kernel)) (by decide +kernel) (by decide) (by decide) ?_
  refine G_run B (flG_L (l := []) (by decide +kernel)) (pc1 := 8) (L1 := [some (.inr (.inr (some (3, 0)))), none]) (S1 := [.inl 960, .inr (.inr (some (3, 0)))]) (w1 := w) (P := True) [(.aload_n 0, 0, 0, 0, 0), (.sipush 960, 0, 0, 960, 0)] (by decide +kernel) rfl (by trivial) ?_
  refine G_newa B (at0 := .int) (k := 6) (i := 0) (by decide) rfl (by decide +kernel) (by decide) (List.mem_of_getElem? (i := 218) (by decide +kernel)) (by decide) (by decide +kernel) (by decide) (by decide +kernel) (by decide) (by decide) ?_
  refine G_putF B (idx := 9) (k := 3) (i := 0) (j := 1) (t := (6, none)) (by decide) (by decide +kernel) (by decide +kernel) (by decide +kernel) (by decide +kernel) hin (by decide +kernel) (by decide +kernel) ?_
  rw [flL_up]
  refine G_run B (flG_L (l := [(3, 0, 1)]) (by decide +kernel)) (pc1 := 16) (L1 := [some (.inr (.inr (some (3, 0)))), none]) (S1 := [.inl 18, .inr (.inr (some (3, 0)))]) (w1 := clr w 6 0) (P := True) [(.aload_n 0, 0, 0, 0, 0), (.bipush 18, 0, 0, 18, 0)] (by decide +kernel) rfl (by trivial) ?_
  refine G_newa B (at0 := .int) (k := 7) (i := 0) (by decide) rfl (by decide +kernel) (by decide) (List.mem_of_getElem? (i := 218) (by decide +kernel)) (by decide) (by decide +kernel) (by decide) (by decide +kernel) (by decide) (by decide) ?_
  refine G_putF B (idx := 15) (k := 3) (i := 0) (j := 2) (t := (7, none)) (by decide) (by decide +kernel) (by decide +kernel) (by decide +kernel) (by decide +kernel) hin (by decide +kernel) (by decide +kernel) ?_
  rw [flL_up]
  refine G_run B (flG_L (l := [(3, 0, 2), (3, 0, 1)]) (by decide +kernel)) (pc1 := 24) (L1 := [some (.inr (.inr (some (3, 0)))), none]) (S1 := [.inl 40, .inr (.inr (some (3, 0)))]) (w1 := clr (clr w 6 0) 7 0) (P := True) [(.aload_n 0, 0, 0, 0, 0), (.bipush 40, 0, 0, 40, 0)] (by decide +kernel) rfl (by trivial) ?_
  refine G_newa B (at0 := .int) (k := 8) (i := 0) (by decide) rfl (by decide +kernel) (by decide) (List.mem_of_getElem? (i := 218) (by decide +kernel)) (by decide) (by decide +kernel) (by decide) (by decide +kernel) (by decide) (by decide) ?_
  refine G_putF B (idx := 18) (k := 3) (i := 0) (j := 3) (t := (8, none)) (by decide) (by decide +kernel) (by decide +kernel) (by decide +kernel) (by decide +kernel) hin (by decide +kernel) (by decide +kernel) ?_
  rw [flL_up]
  refine G_run B (flG_L (l := [(3, 0, 3), (3, 0, 2), (3, 0, 1)]) (by decide +kernel)) (pc1 := 35) (L1 := [some (.inr (.inr (some (3, 0)))), none]) (S1 := [.inl (-1), .inl 0, .inr (.inr (some (6, 0)))]) (w1 := clr (clr (clr w 6 0) 7 0) 8 0) (P := True) [(.aload_n 0, 0, 0, 0, 0), (.getfield 9, 3, 1, 0, 0), (.iconst 0, 0, 0, 0, 0), (.iconst (-1), 0, 0, -1, 0)] (by decide +kernel) rfl (by trivial) ?_
  refine G_callSN B (As := [.inr (.inr (some (6, 0))), .inl 0, .inl (-1)]) (S := []) (g_X4_set l X (flG_L (l := [(3, 0, 3), (3, 0, 2), (3, 0, 1)]) (by decide +kernel)) 6 0 0 (-1) (by decide) (by decide +kernel) (clr (clr (clr w 6 0) 7 0) 8 0) hX _ rfl) me_X4_set ms_X4_set ln_X3_21 (by decide +kernel) rfl (room_d (by decide) (by decide)) (by decide) (Nat.le_of_ble_eq_true rfl) (fun _ _ _ _ h => Nat.le_of_eq h.1.symm) ?_
  rintro v n1 fl1 w1 ⟨rfl, rfl, hv⟩
  cases hv
  show G _ _ _ _ _ _ _ _ _ _ _ _ 3 1018 _ 5 (flL [(3, 0, 3), (3, 0, 2), (3, 0, 1)]) 38 [some (.inr (.inr (some (3, 0)))), none] [] (setV0 (clr (clr (clr w 6 0) 7 0) 8 0) 6 0 0 (-1))
  refine G_run B (flG_L (l := [(3, 0, 3), (3, 0, 2), (3, 0, 1)]) (by decide +kernel)) (pc1 := 44) (L1 := [some (.inr (.inr (some (3, 0)))), none]) (S1 := [.inl 5, .inl 1, .inr (.inr (some (6, 0)))]) (w1 := setV0 (clr (clr (clr w 6 0) 7 0) 8 0) 6 0 0 (-1)) (P := True) [(.aload_n 0, 0, 0, 0, 0), (.getfield 9, 3, 1, 0, 0), (.iconst 1, 0, 0, 1, 0), (.iconst 5, 0, 0, 5, 0)] (by decide +kernel) rfl (by trivial) ?_
  refine G_callSN B (As := [.inr (.inr (some (6, 0))), .inl 1, .inl 5]) (S := []) (g_X4_set l X (flG_L (l := [(3, 0, 3), (3, 0, 2), (3, 0, 1)]) (by decide +kernel)) 6 0 1 5 (by decide) (by decide +kernel) (setV0 (clr (clr (clr w 6 0) 7 0) 8 0) 6 0 0 (-1)) hX _ rfl) me_X4_set ms_X4_set ln_X3_21 (by decide +kernel) rfl (room_d (by decide) (by decide)) (by decide) (Nat.le_of_ble_eq_true rfl) (fun _ _ _ _ h => Nat.le_of_eq h.1.symm) ?_
  rintro v n1 fl1 w1 ⟨rfl, rfl, hv⟩
  cases hv
  show G _ _ _ _ _ _ _ _ _ _ _ _ 3 1018 _ 5 (flL [(3, 0, 3), (3, 0, 2), (3, 0, 1)]) 47 [some (.inr (.inr (some (3, 0)))), none] [] (setV0 (setV0 (clr (clr (clr w 6 0) 7 0) 8 0) 6 0 0 (-1)) 6 0 1 5)
  refine G_run B (flG_L (l := [(3, 0, 3), (3, 0, 2), (3, 0, 1)]) (by decide +kernel)) (pc1 := 53) (L1 := [some (.inr (.inr (some (3, 0)))), none]) (S1 := [.inl 2, .inl 2, .inr (.inr (some (6, 0)))]) (w1 := setV0 (setV0 (clr (clr (clr w 6 0) 7 0) 8 0) 6 0 0 (-1)) 6 0 1 5) (P := True) [(.aload_n 0, 0, 0, 0, 0), (.getfield 9, 3, 1, 0, 0), (.iconst 2, 0, 0, 2, 0), (.iconst 2, 0, 0, 2, 0)] (by decide +kernel) rfl (by trivial) ?_
  refine G_callSN B (As := [.inr (.inr (some (6, 0))), .inl 2, .inl 2]) (S := []) (g_X4_set l X (flG_L (l := [(3, 0, 3), (3, 0, 2), (3, 0, 1)]) (by decide +kernel)) 6 0 2 2 (by decide) (by decide +kernel) (setV0 (setV0 (clr (clr (clr w 6 0) 7 0) 8 0) 6 0 0 (-1)) 6 0 1 5) hX _ rfl) me_X4_set ms_X4_set ln_X3_21 (by decide +kernel) rfl (room_d (by decide) (by decide)) (by decide) (Nat.le_of_ble_eq_true rfl) (fun _ _ _ _ h => Nat.le_of_eq h.1.symm) ?_
  rintro v n1 fl1 w1 ⟨rfl, rfl, hv⟩
  cases hv
  show G _ _ _ _ _ _ _ _ _ _ _ _ 3 1018 _ 5 (flL [(3, 0, 3), (3, 0, 2), (3, 0, 1)]) 56 [some (.inr (.inr (some (3, 0)))), none] [] (setV0 (setV0 (setV0 (clr (clr (clr w 6 0) 7 0) 8 0) 6 0 0 (-1)) 6 0 1 5) 6 0 2 2)
  refine G_run B (flG_L (l := [(3, 0, 3), (3, 0, 2), (3, 0, 1)]) (by decide +kernel)) (pc1 := 58) (L1 := [some (.inr (.inr (some (3, 0)))), some (.inl 0)]) (S1 := []) (w1 := setV0 (setV0 (setV0 (clr (clr (clr w 6 0) 7 0) 8 0) 6 0 0 (-1)) 6 0 1 5) 6 0 2 2) (P := True) [(.iconst 0, 0, 0, 0, 0), (.istore_n 1, 0, 0, 0, 0)] (by decide +kernel) rfl (by trivial) ?_
  refine G_run B (flG_L (l := [(3, 0, 3), (3, 0, 2), (3, 0, 1)]) (by decide +kernel)) (pc1 := 60) (L1 := [some (.inr (.inr (some (3, 0)))), some (.inl 0)]) (S1 := [.inl 3, .inl 0]) (w1 := setV0 (setV0 (setV0 (clr (clr (clr w 6 0) 7 0) 8 0) 6 0 0 (-1)) 6 0 1 5) 6 0 2 2) (P := True) [(.iload_n 1, 0, 0, 0, 0), (.iconst 3, 0, 0, 3, 0)] (by decide +kernel) rfl (by trivial) ?_
  refine G_icmp B (k := .ge) (off := 20) (tgt := 80) (by decide +kernel) (by decide) (fun h => absurd ((cnd_ge _ _).mp h) (by decide)) (fun _ => ?_)
  refine G_run B (flG_L (l := [(3, 0, 3), (3, 0, 2), (3, 0, 1)]) (by decide +kernel)) (pc1 := 71) (L1 := [some (.inr (.inr (some (3, 0)))), some (.inl 0)]) (S1 := [.inl (0 + 1), .inl 0, .inr (.inr (some (7, 0)))]) (w1 := setV0 (setV0 (setV0 (clr (clr (clr w 6 0) 7 0) 8 0) 6 0 0 (-1)) 6 0 1 5) 6 0 2 2) (P := True) [(.aload_n 0, 0, 0, 0, 0), (.getfield 15, 3, 2, 0, 0), (.iload_n 1, 0, 0, 0, 0), (.iload_n 1, 0, 0, 0, 0), (.iconst 1, 0, 0, 1, 0), (.iadd, 0, 0, 0, 0)] (by decide +kernel) rfl (by trivial) ?_
  refine G_callSN B (As := [.inr (.inr (some (7, 0))), .inl 0, .inl (0 + 1)]) (S := []) (g_X4_set l X (flG_L (l := [(3, 0, 3), (3, 0, 2), (3, 0, 1)]) (by decide +kernel)) 7 0 0 (0 + 1) (by decide) (by decide +kernel) (setV0 (setV0 (setV0 (clr (clr (clr w 6 0) 7 0) 8 0) 6 0 0 (-1)) 6 0 1 5) 6 0 2 2) hX _ rfl) me_X4_set ms_X4_set ln_X3_21 (by decide +kernel) rfl (room_d (by decide) (by decide)) (by decide) (Nat.le_of_ble_eq_true rfl) (fun _ _ _ _ h => Nat.le_of_eq h.1.symm) ?_
  rintro v n1 fl1 w1 ⟨rfl, rfl, hv⟩
  cases hv
  show G _ _ _ _ _ _ _ _ _ _ _ _ 3 1018 _ 5 (flL [(3, 0, 3), (3, 0, 2), (3, 0, 1)]) 74 [some (.inr (.inr (some (3, 0)))), some (.inl 0)] [] (setV0 (setV0 (setV0 (setV0 (clr (clr (clr w 6 0) 7 0) 8 0) 6 0 0 (-1)) 6 0 1 5) 6 0 2 2) 7 0 0 (0 + 1))
  refine G_run B (flG_L (l := [(3, 0, 3), (3, 0, 2), (3, 0, 1)]) (by decide +kernel)) (pc1 := 77) (L1 := [some (.inr (.inr (some (3, 0)))), some (.inl (0 + 1))]) (S1 := []) (w1 := setV0 (setV0 (setV0 (setV0 (clr (clr (clr w 6 0) 7 0) 8 0) 6 0 0 (-1)) 6 0 1 5) 6 0 2 2) 7 0 0 (0 + 1)) (P := True) [(.iinc 1 1, 0, 0, 1, 0)] (by decide +kernel) rfl (by trivial) ?_
  rw [show (0 + 1 : Int32) = 1 from rfl]
  refine G_run B (flG_L (l := [(3, 0, 3), (3, 0, 2), (3, 0, 1)]) (by decide +kernel)) (pc1 := 58) (L1 := [some (.inr (.inr (some (3, 0)))), some (.inl 1)]) (S1 := []) (w1 := setV0 (setV0 (setV0 (setV0 (clr (clr (clr w 6 0) 7 0) 8 0) 6 0 0 (-1)) 6 0 1 5) 6 0 2 2) 7 0 0 (0 + 1)) (P := True) [(.goto (-19), 0, 0, 0, 0)] (by decide +kernel) rfl (by trivial) ?_
  refine G_run B (flG_L (l := [(3, 0, 3), (3, 0, 2), (3, 0, 1)]) (by decide +kernel)) (pc1 := 60) (L1 := [some (.inr (.inr (some (3, 0)))), some (.inl 1)]) (S1 := [.inl 3, .inl 1]) (w1 := setV0 (setV0 (setV0 (setV0 (clr (clr (clr w 6 0) 7 0) 8 0) 6 0 0 (-1)) 6 0 1 5) 6 0 2 2) 7 0 0 (0 + 1)) (P := True) [(.iload_n 1, 0, 0, 0, 0), (.iconst 3, 0, 0, 3, 0)] (by decide +kernel) rfl (by trivial) ?_
  refine G_icmp B (k := .ge) (off := 20) (tgt := 80) (by decide +kernel) (by decide) (fun h => absurd ((cnd_ge _ _).mp h) (by decide)) (fun _ => ?_)
  refine G_run B (flG_L (l := [(3, 0, 3), (3, 0, 2), (3, 0, 1)]) (by decide +kernel)) (pc1 := 71) (L1 := [some (.inr (.inr (some (3, 0)))), some (.inl 1)]) (S1 := [.inl (1 + 1), .inl 1, .inr (.inr (some (7, 0)))]) (w1 := setV0 (setV0 (setV0 (setV0 (clr (clr (clr w 6 0) 7 0) 8 0) 6 0 0 (-1)) 6 0 1 5) 6 0 2 2) 7 0 0 (0 + 1)) (P := True) [(.aload_n 0, 0, 0, 0, 0), (.getfield 15, 3, 2, 0, 0), (.iload_n 1, 0, 0, 0, 0), (.iload_n 1, 0, 0, 0, 0), (.iconst 1, 0, 0, 1, 0), (.iadd, 0, 0, 0, 0)] (by decide +kernel) rfl (by trivial) ?_
  refine G_callSN B (As := [.inr (.inr (some (7, 0))), .inl 1, .inl (1 + 1)]) (S := []) (g_X4_set l X (flG_L (l := [(3, 0, 3), (3, 0, 2), (3, 0, 1)]) (by decide +kernel)) 7 0 1 (1 + 1) (by decide) (by decide +kernel) (setV0 (setV0 (setV0 (setV0 (clr (clr (clr w 6 0) 7 0) 8 0) 6 0 0 (-1)) 6 0 1 5) 6 0 2 2) 7 0 0 (0 + 1)) hX _ rfl) me_X4_set ms_X4_set ln_X3_21 (by decide +kernel) rfl (room_d (by decide) (by decide)) (by decide) (Nat.le_of_ble_eq_true rfl) (fun _ _ _ _ h => Nat.le_of_eq h.1.symm) ?_
  rintro v n1 fl1 w1 ⟨rfl, rfl, hv⟩
  cases hv
  show G _ _ _ _ _ _ _ _ _ _ _ _ 3 1018 _ 5 (flL [(3, 0, 3), (3, 0, 2), (3, 0, 1)]) 74 [some (.inr (.inr (some (3, 0)))), some (.inl 1)] [] (setV0 (setV0 (setV0 (setV0 (setV0 (clr (clr (clr w 6 0) 7 0) 8 0) 6 0 0 (-1)) 6 0 1 5) 6 0 2 2) 7 0 0 (0 + 1)) 7 0 1 (1 + 1))
  refine G_run B (flG_L (l := [(3, 0, 3), (3, 0, 2), (3, 0, 1)]) (by decide +kernel)) (pc1 := 77) (L1 := [some (.inr (.inr (some (3, 0)))), some (.inl (1 + 1))]) (S1 := []) (w1 := setV0 (setV0 (setV0 (setV0 (setV0 (clr (clr (clr w 6 0) 7 0) 8 0) 6 0 0 (-1)) 6 0 1 5) 6 0 2 2) 7 0 0 (0 + 1)) 7 0 1 (1 + 1)) (P := True) [(.iinc 1 1, 0, 0, 1, 0)] (by decide +kernel) rfl (by trivial) ?_
  rw [show (1 + 1 : Int32) = 2 from rfl]
  refine G_run B (flG_L (l := [(3, 0, 3), (3, 0, 2), (3, 0, 1)]) (by decide +kernel)) (pc1 := 58) (L1 := [some (.inr (.inr (some (3, 0)))), some (.inl 2)]) (S1 := []) (w1 := setV0 (setV0 (setV0 (setV0 (setV0 (clr (clr (clr w 6 0) 7 0) 8 0) 6 0 0 (-1)) 6 0 1 5) 6 0 2 2) 7 0 0 (0 + 1)) 7 0 1 (1 + 1)) (P := True) [(.goto (-19), 0, 0, 0, 0)] (by decide +kernel) rfl (by trivial) ?_
  refine G_run B (flG_L (l := [(3, 0, 3), (3, 0, 2), (3, 0, 1)]) (by decide +kernel)) (pc1 := 60) (L1 := [some (.inr (.inr (some (3, 0)))), some (.inl 2)]) (S1 := [.inl 3, .inl 2]) (w1 := setV0 (setV0 (setV0 (setV0 (setV0 (clr (clr (clr w 6 0) 7 0) 8 0) 6 0 0 (-1)) 6 0 1 5) 6 0 2 2) 7 0 0 (0 + 1)) 7 0 1 (1 + 1)) (P := True) [(.iload_n 1, 0, 0, 0, 0), (.iconst 3, 0, 0, 3, 0)] (by decide +kernel) rfl (by trivial) ?_
  refine G_icmp B (k := .ge) (off := 20) (tgt := 80) (by decide +kernel) (by decide) (fun h => absurd ((cnd_ge _ _).mp h) (by decide)) (fun _ => ?_)
  refine G_run B (flG_L (l := [(3, 0, 3), (3, 0, 2), (3, 0, 1)]) (by decide +kernel)) (pc1 := 71) (L1 := [some (.inr (.inr (some (3, 0)))), some (.inl 2)]) (S1 := [.inl (2 + 1), .inl 2, .inr (.inr (some (7, 0)))]) (w1 := setV0 (setV0 (setV0 (setV0 (setV0 (clr (clr (clr w 6 0) 7 0) 8 0) 6 0 0 (-1)) 6 0 1 5) 6 0 2 2) 7 0 0 (0 + 1)) 7 0 1 (1 + 1)) (P := True) [(.aload_n 0, 0, 0, 0, 0), (.getfield 15, 3, 2, 0, 0), (.iload_n 1, 0, 0, 0, 0), (.iload_n 1, 0, 0, 0, 0), (.iconst 1, 0, 0, 1, 0), (.iadd, 0, 0, 0, 0)] (by decide +kernel) rfl (by trivial) ?_
  refine G_callSN B (As := [.inr (.inr (some (7, 0))), .inl 2, .inl (2 + 1)]) (S := []) (g_X4_set l X (flG_L (l := [(3, 0, 3), (3, 0, 2), (3, 0, 1)]) (by decide +kernel)) 7 0 2 (2 + 1) (by decide) (by decide +kernel) (setV0 (setV0 (setV0 (setV0 (setV0 (clr (clr (clr w 6 0) 7 0) 8 0) 6 0 0 (-1)) 6 0 1 5) 6 0 2 2) 7 0 0 (0 + 1)) 7 0 1 (1 + 1)) hX _ rfl) me_X4_set ms_X4_set ln_X3_21 (by decide +kernel) rfl (room_d (by decide) (by decide)) (by decide) (Nat.le_of_ble_eq_true rfl) (fun _ _ _ _ h => Nat.le_of_eq h.1.symm) ?_
  rintro v n1 fl1 w1 ⟨rfl, rfl, hv⟩
  cases hv
  show G _ _ _ _ _ _ _ _ _ _ _ _ 3 1018 _ 5 (flL [(3, 0, 3), (3, 0, 2), (3, 0, 1)]) 74 [some (.inr (.inr (some (3, 0)))), some (.inl 2)] [] (setV0 (setV0 (setV0 (setV0 (setV0 (setV0 (clr (clr (clr w 6 0) 7 0) 8 0) 6 0 0 (-1)) 6 0 1 5) 6 0 2 2) 7 0 0 (0 + 1)) 7 0 1 (1 + 1)) 7 0 2 (2 + 1))
  refine G_run B (flG_L (l := [(3, 0, 3), (3, 0, 2), (3, 0, 1)]) (by decide +kernel)) (pc1 := 77) (L1 := [some (.inr (.inr (some (3, 0)))), some (.inl (2 + 1))]) (S1 := []) (w1 := setV0 (setV0 (setV0 (setV0 (setV0 (setV0 (clr (clr (clr w 6 0) 7 0) 8 0) 6 0 0 (-1)) 6 0 1 5) 6 0 2 2) 7 0 0 (0 + 1)) 7 0 1 (1 + 1)) 7 0 2 (2 + 1)) (P := True) [(.iinc 1 1, 0, 0, 1, 0)] (by decide +kernel) rfl (by trivial) ?_
  rw [show (2 + 1 : Int32) = 3 from rfl]
  refine G_run B (flG_L (l := [(3, 0, 3), (3, 0, 2), (3, 0, 1)]) (by decide +kernel)) (pc1 := 58) (L1 := [some (.inr (.inr (some (3, 0)))), some (.inl 3)]) (S1 := []) (w1 := setV0 (setV0 (setV0 (setV0 (setV0 (setV0 (clr (clr (clr w 6 0) 7 0) 8 0) 6 0 0 (-1)) 6 0 1 5) 6 0 2 2) 7 0 0 (0 + 1)) 7 0 1 (1 + 1)) 7 0 2 (2 + 1)) (P := True) [(.goto (-19), 0, 0, 0, 0)] (by decide +kernel) rfl (by trivial) ?_
  refine G_run B (flG_L (l := [(3, 0, 3), (3, 0, 2), (3, 0, 1)]) (by decide +kernel)) (pc1 := 60) (L1 := [some (.inr (.inr (some (3, 0)))), some (.inl 3)]) (S1 := [.inl 3, .inl 3]) (w1 := setV0 (setV0 (setV0 (setV0 (setV0 (setV0 (clr (clr (clr w 6 0) 7 0) 8 0) 6 0 0 (-1)) 6 0 1 5) 6 0 2 2) 7 0 0 (0 + 1)) 7 0 1 (1 + 1)) 7 0 2 (2 + 1)) (P := True) [(.iload_n 1, 0, 0, 0, 0), (.iconst 3, 0, 0, 3, 0)] (by decide +kernel) rfl (by trivial) ?_
  refine G_icmp B (k := .ge) (off := 20) (tgt := 80) (by decide +kernel) (by decide) (fun _ => ?_) (fun h => absurd ((cnd_ge _ _).mpr (by decide)) h)
  refine G_run B (flG_L (l := [(3, 0, 3), (3, 0, 2), (3, 0, 1)]) (by decide +kernel)) (pc1 := 85) (L1 := [some (.inr (.inr (some (3, 0)))), some (.inl 3)]) (S1 := []) (w1 := up (setV0 (setV0 (setV0 (setV0 (setV0 (setV0 (clr (clr (clr w 6 0) 7 0) 8 0) 6 0 0 (-1)) 6 0 1 5) 6 0 2 2) 7 0 0 (0 + 1)) 7 0 1 (1 + 1)) 7 0 2 (2 + 1)) 3 0 0 1) (P := True) [(.aload_n 0, 0, 0, 0, 0), (.iconst 1, 0, 0, 1, 0), (.putfield 25, 3, 0, 0, 0)] (by decide +kernel) rfl (by trivial) ?_
  exact G_vret B rfl (by decide +kernel) ⟨rfl, rfl, rfl, rfl⟩
def w_X1_0 (w : Mem) : Mem := clr (clr (clr w 9 0) 10 0) 11 0
set_option maxRecDepth 100000 in
theorem c_X1_0 (l : Launch) (X : XC) (hX : XOK X) (w : Mem) : Mt l X 1 yX1_init cX1_init 1 none [.inr (.inr (some (1, 0)))] 3 323 6 (flL [(4, 0, 0), (3, 0, 3), (3, 0, 2), (3, 0, 1)]) w (fun v n1 fl1 w1 => v = none ∧ n1 = 9 ∧ fl1 = (flL [(1, 0, 4), (1, 0, 2), (1, 0, 0), (4, 0, 0), (3, 0, 3), (3, 0, 2), (3, 0, 1)]) ∧ w1 = w_X1_0 w) := by
  refine Mt_of (mi := ⟨RX1, cX1_init, 1, none, ftp_X1.map (fun q => q.1), ctp_X1.map (fun q => q.1), clp_X1.map (fun q => q.1)⟩) hX (mik_X1 _ _ _) me_X1_init rfl (okAs_cons (by decide +kernel) okAs_nil) (Nat.le_of_ble_eq_true rfl) (fun p e s m args below meth c B hin => ?_)
  refine G_run B (flG_L (l := [(4, 0, 0), (3, 0, 3), (3, 0, 2), (3, 0, 1)]) (by decide +kernel)) (pc1 := 1) (L1 := [some (.inr (.inr (some (1, 0))))]) (S1 := [.inr (.inr (some (1, 0)))]) (w1 := w) (P := True) [(.aload_n 0, 0, 0, 0, 0)] (by decide +kernel) rfl (by trivial) ?_
  refine G_obj B (idx := 3) (List.mem_of_getElem? (i := 224) (by decide +kernel)) (List.mem_of_getElem? (i := 196) (by decide +kernel)) (List.mem_of_getElem? (i := 197) (by decide +kernel)) (by decide +kernel) (by decide) (by decide) ?_
  refine G_run B (flG_L (l := [(4, 0, 0), (3, 0, 3), (3, 0, 2), (3, 0, 1)]) (by decide +kernel)) (pc1 := 8) (L1 := [some (.inr (.inr (some (1, 0))))]) (S1 := [.inl 160, .inr (.inr (some (1, 0)))]) (w1 := w) (P := True) [(.aload_n 0, 0, 0, 0, 0), (.sipush 160, 0, 0, 160, 0)] (by decide +kernel) rfl (by trivial) ?_
  refine G_newa B (at0 := .int) (k := 9) (i := 0) (by decide) rfl (by decide +kernel) (by decide) (List.mem_of_getElem? (i := 218) (by decide +kernel)) (by decide) (by decide +kernel) (by decide) (by decide +kernel) (by decide) (by decide) ?_
  refine G_putF B (idx := 9) (k := 1) (i := 0) (j := 0) (t := (9, none)) (by decide) (by decide +kernel) (by decide +kernel) (by decide +kernel) (by decide +kernel) hin (by decide +kernel) (by decide +kernel) ?_
  rw [flL_up]
  refine G_run B (flG_L (l := [(1, 0, 0), (4, 0, 0), (3, 0, 3), (3, 0, 2), (3, 0, 1)]) (by decide +kernel)) (pc1 := 17) (L1 := [some (.inr (.inr (some (1, 0))))]) (S1 := [.inl 160, .inr (.inr (some (1, 0)))]) (w1 := clr w 9 0) (P := True) [(.aload_n 0, 0, 0, 0, 0), (.sipush 160, 0, 0, 160, 0)] (by decide +kernel) rfl (by trivial) ?_
  refine G_newa B (at0 := .int) (k := 10) (i := 0) (by decide) rfl (by decide +kernel) (by decide) (List.mem_of_getElem? (i := 218) (by decide +kernel)) (by decide) (by decide +kernel) (by decide) (by decide +kernel) (by decide) (by decide) ?_
  refine G_putF B (idx := 15) (k := 1) (i := 0) (j := 2) (t := (10, none)) (by decide) (by decide +kernel) (by decide +kernel) (by decide +kernel) (by decide +kernel) hin (by decide +kernel) (by decide +kernel) ?_
  rw [flL_up]
  refine G_run B (flG_L (l := [(1, 0, 2), (1, 0, 0), (4, 0, 0), (3, 0, 3), (3, 0, 2), (3, 0, 1)]) (by decide +kernel)) (pc1 := 24) (L1 := [some (.inr (.inr (some (1, 0))))]) (S1 := [.inl 3, .inr (.inr (some (1, 0)))]) (w1 := clr (clr w 9 0) 10 0) (P := True) [(.aload_n 0, 0, 0, 0, 0), (.iconst 3, 0, 0, 3, 0)] (by decide +kernel) rfl (by trivial) ?_
  refine G_newa B (at0 := .int) (k := 11) (i := 0) (by decide) rfl (by decide +kernel) (by decide) (List.mem_of_getElem? (i := 218) (by decide +kernel)) (by decide) (by decide +kernel) (by decide) (by decide +kernel) (by decide) (by decide) ?_
  refine G_putF B (idx := 18) (k := 1) (i := 0) (j := 4) (t := (11, none)) (by decide) (by decide +kernel) (by decide +kernel) (by decide +kernel) (by decide +kernel) hin (by decide +kernel) (by decide +kernel) ?_
  rw [flL_up]
  exact G_vret B rfl (by decide +kernel) ⟨rfl, rfl, rfl, rfl⟩
def w_X0_0 (w : Mem) : Mem := clr (clr (clr (clr (clr (clr w 12 0) 13 0) 14 0) 15 0) 16 0) 17 0
set_option maxRecDepth 100000 in
theorem c_X0_0 (l : Launch) (X : XC) (hX : XOK X) (w : Mem) : Mt l X 1 yX0_init cX0_init 2 none [.inr (.inr (some (0, 0))), .inr (.inr (some (3, 0)))] 6 36 10 (flL [(4, 0, 1), (1, 0, 4), (1, 0, 2), (1, 0, 0), (4, 0, 0), (3, 0, 3), (3, 0, 2), (3, 0, 1)]) w (fun v n1 fl1 w1 => v = none ∧ n1 = 16 ∧ fl1 = (flL [(0, 0, 0), (0, 0, 10), (0, 0, 9), (0, 0, 8), (0, 0, 7), (0, 0, 6), (0, 0, 1), (4, 0, 1), (1, 0, 4), (1, 0, 2), (1, 0, 0), (4, 0, 0), (3, 0, 3), (3, 0, 2), (3, 0, 1)]) ∧ w1 = w_X0_0 w) := by
  refine Mt_of (mi := ⟨RX0, cX0_init, 2, none, ftp_X0.map (fun q => q.1), ctp_X0.map (fun q => q.1), clp_X0.map (fun q => q.1)⟩) hX (mik_X0 _ _ _) me_X0_init rfl (okAs_cons (by decide +kernel) (okAs_cons (by decide +kernel) okAs_nil)) (Nat.le_of_ble_eq_true rfl) (fun p e s m args below meth c B hin => ?_)
  refine G_run B (flG_L (l := [(4, 0, 1), (1, 0, 4), (1, 0, 2), (1, 0, 0), (4, 0, 0), (3, 0, 3), (3, 0, 2), (3, 0, 1)]) (by decide +kernel)) (pc1 := 1) (L1 := [some (.inr (.inr (some (0, 0)))), some (.inr (.inr (some (3, 0))))]) (S1 := [.inr (.inr (some (0, 0)))]) (w1 := w) (P := True) [(.aload_n 0, 0, 0, 0, 0)] (by decide +kernel) rfl (by trivial) ?_
  refine G_obj B (idx := 3) (List.mem_of_getElem? (i := 261) (by decide +kernel)) (List.mem_of_getElem? (i := 196) (by decide +kernel)) (List.mem_of_getElem? (i := 197) (by decide +kernel)) (by decide +kernel) (by decide) (by decide) ?_
  refine G_run B (flG_L (l := [(4, 0, 1), (1, 0, 4), (1, 0, 2), (1, 0, 0), (4, 0, 0), (3, 0, 3), (3, 0, 2), (3, 0, 1)]) (by decide +kernel)) (pc1 := 7) (L1 := [some (.inr (.inr (some (0, 0)))), some (.inr (.inr (some (3, 0))))]) (S1 := [.inl 6, .inr (.inr (some (0, 0)))]) (w1 := w) (P := True) [(.aload_n 0, 0, 0, 0, 0), (.bipush 6, 0, 0, 6, 0)] (by decide +kernel) rfl (by trivial) ?_
  refine G_newa B (at0 := .int) (k := 12) (i := 0) (by decide) rfl (by decide +kernel) (by decide) (List.mem_of_getElem? (i := 218) (by decide +kernel)) (by decide) (by decide +kernel) (by decide) (by decide +kernel) (by decide) (by decide) ?_
  refine G_putF B (idx := 9) (k := 0) (i := 0) (j := 1) (t := (12, none)) (by decide) (by decide +kernel) (by decide +kernel) (by decide +kernel) (by decide +kernel) hin (by decide +kernel) (by decide +kernel) ?_
  rw [flL_up]
  refine G_run B (flG_L (l := [(0, 0, 1), (4, 0, 1), (1, 0, 4), (1, 0, 2), (1, 0, 0), (4, 0, 0), (3, 0, 3), (3, 0, 2), (3, 0, 1)]) (by decide +kernel)) (pc1 := 15) (L1 := [some (.inr (.inr (some (0, 0)))), some (.inr (.inr (some (3, 0))))]) (S1 := [.inl 6, .inr (.inr (some (0, 0)))]) (w1 := clr w 12 0) (P := True) [(.aload_n 0, 0, 0, 0, 0), (.bipush 6, 0, 0, 6, 0)] (by decide +kernel) rfl (by trivial) ?_
  refine G_newa B (at0 := .int) (k := 13) (i := 0) (by decide) rfl (by decide +kernel) (by decide) (List.mem_of_getElem? (i := 218) (by decide +kernel)) (by decide) (by decide +kernel) (by decide) (by decide +kernel) (by decide) (by decide) ?_
  refine G_putF B (idx := 15) (k := 0) (i := 0) (j := 6) (t := (13, none)) (by decide) (by decide +kernel) (by decide +kernel) (by decide +kernel) (by decide +kernel) hin (by decide +kernel) (by decide +kernel) ?_
  rw [flL_up]
  refine G_run B (flG_L (l := [(0, 0, 6), (0, 0, 1), (4, 0, 1), (1, 0, 4), (1, 0, 2), (1, 0, 0), (4, 0, 0), (3, 0, 3), (3, 0, 2), (3, 0, 1)]) (by decide +kernel)) (pc1 := 23) (L1 := [some (.inr (.inr (some (0, 0)))), some (.inr (.inr (some (3, 0))))]) (S1 := [.inl 6, .inr (.inr (some (0, 0)))]) (w1 := clr (clr w 12 0) 13 0) (P := True) [(.aload_n 0, 0, 0, 0, 0), (.bipush 6, 0, 0, 6, 0)] (by decide +kernel) rfl (by trivial) ?_
  refine G_newa B (at0 := .int) (k := 14) (i := 0) (by decide) rfl (by decide +kernel) (by decide) (List.mem_of_getElem? (i := 218) (by decide +kernel)) (by decide) (by decide +kernel) (by decide) (by decide +kernel) (by decide) (by decide) ?_
  refine G_putF B (idx := 18) (k := 0) (i := 0) (j := 7) (t := (14, none)) (by decide) (by decide +kernel) (by decide +kernel) (by decide +kernel) (by decide +kernel) hin (by decide +kernel) (by decide +kernel) ?_
  rw [flL_up]
  refine G_run B (flG_L (l := [(0, 0, 7), (0, 0, 6), (0, 0, 1), (4, 0, 1), (1, 0, 4), (1, 0, 2), (1, 0, 0), (4, 0, 0), (3, 0, 3), (3, 0, 2), (3, 0, 1)]) (by decide +kernel)) (pc1 := 31) (L1 := [some (.inr (.inr (some (0, 0)))), some (.inr (.inr (some (3, 0))))]) (S1 := [.inl 6, .inr (.inr (some (0, 0)))]) (w1 := clr (clr (clr w 12 0) 13 0) 14 0) (P := True) [(.aload_n 0, 0, 0, 0, 0), (.bipush 6, 0, 0, 6, 0)] (by decide +kernel) rfl (by trivial) ?_
  refine G_newa B (at0 := .int) (k := 15) (i := 0) (by decide) rfl (by decide +kernel) (by decide) (List.mem_of_getElem? (i := 218) (by decide +kernel)) (by decide) (by decide +kernel) (by decide) (by decide +kernel) (by decide) (by decide) ?_
  refine G_putF B (idx := 21) (k := 0) (i := 0) (j := 8) (t := (15, none)) (by decide) (by decide +kernel) (by decide +kernel) (by decide +kernel) (by decide +kernel) hin (by decide +kernel) (by decide +kernel) ?_
  rw [flL_up]
  refine G_run B (flG_L (l := [(0, 0, 8), (0, 0, 7), (0, 0, 6), (0, 0, 1), (4, 0, 1), (1, 0, 4), (1, 0, 2), (1, 0, 0), (4, 0, 0), (3, 0, 3), (3, 0, 2), (3, 0, 1)]) (by decide +kernel)) (pc1 := 39) (L1 := [some (.inr (.inr (some (0, 0)))), some (.inr (.inr (some (3, 0))))]) (S1 := [.inl 6, .inr (.inr (some (0, 0)))]) (w1 := clr (clr (clr (clr w 12 0) 13 0) 14 0) 15 0) (P := True) [(.aload_n 0, 0, 0, 0, 0), (.bipush 6, 0, 0, 6, 0)] (by decide +kernel) rfl (by trivial) ?_
  refine G_newa B (at0 := .int) (k := 16) (i := 0) (by decide) rfl (by decide +kernel) (by decide) (List.mem_of_getElem? (i := 218) (by decide +kernel)) (by decide) (by decide +kernel) (by decide) (by decide +kernel) (by decide) (by decide) ?_
  refine G_putF B (idx := 24) (k := 0) (i := 0) (j := 9) (t := (16, none)) (by decide) (by decide +kernel) (by decide +kernel) (by decide +kernel) (by decide +kernel) hin (by decide +kernel) (by decide +kernel) ?_
  rw [flL_up]
  refine G_run B (flG_L (l := [(0, 0, 9), (0, 0, 8), (0, 0, 7), (0, 0, 6), (0, 0, 1), (4, 0, 1), (1, 0, 4), (1, 0, 2), (1, 0, 0), (4, 0, 0), (3, 0, 3), (3, 0, 2), (3, 0, 1)]) (by decide +kernel)) (pc1 := 47) (L1 := [some (.inr (.inr (some (0, 0)))), some (.inr (.inr (some (3, 0))))]) (S1 := [.inl 6, .inr (.inr (some (0, 0)))]) (w1 := clr (clr (clr (clr (clr w 12 0) 13 0) 14 0) 15 0) 16 0) (P := True) [(.aload_n 0, 0, 0, 0, 0), (.bipush 6, 0, 0, 6, 0)] (by decide +kernel) rfl (by trivial) ?_
  refine G_newa B (at0 := .int) (k := 17) (i := 0) (by decide) rfl (by decide +kernel) (by decide) (List.mem_of_getElem? (i := 218) (by decide +kernel)) (by decide) (by decide +kernel) (by decide) (by decide +kernel) (by decide) (by decide) ?_
  refine G_putF B (idx := 27) (k := 0) (i := 0) (j := 10) (t := (17, none)) (by decide) (by decide +kernel) (by decide +kernel) (by decide +kernel) (by decide +kernel) hin (by decide +kernel) (by decide +kernel) ?_
  rw [flL_up]
  refine G_run B (flG_L (l := [(0, 0, 10), (0, 0, 9), (0, 0, 8), (0, 0, 7), (0, 0, 6), (0, 0, 1), (4, 0, 1), (1, 0, 4), (1, 0, 2), (1, 0, 0), (4, 0, 0), (3, 0, 3), (3, 0, 2), (3, 0, 1)]) (by decide +kernel)) (pc1 := 54) (L1 := [some (.inr (.inr (some (0, 0)))), some (.inr (.inr (some (3, 0))))]) (S1 := [.inr (.inr (some (3, 0))), .inr (.inr (some (0, 0)))]) (w1 := clr (clr (clr (clr (clr (clr w 12 0) 13 0) 14 0) 15 0) 16 0) 17 0) (P := True) [(.aload_n 0, 0, 0, 0, 0), (.aload_n 1, 0, 0, 0, 0)] (by decide +kernel) rfl (by trivial) ?_
  refine G_putF B (idx := 30) (k := 0) (i := 0) (j := 0) (t := (3, some 0)) (by decide) (by decide +kernel) (by decide +kernel) (by decide +kernel) (by decide +kernel) hin (by decide +kernel) (by decide +kernel) ?_
  rw [flL_up]
  exact G_vret B rfl (by decide +kernel) ⟨rfl, rfl, rfl, rfl⟩
def w_X0_1 (w : Mem) : Mem := clr (clr (clr (clr (clr (clr w 12 1) 13 1) 14 1) 15 1) 16 1) 17 1
set_option maxRecDepth 100000 in
theorem c_X0_1 (l : Launch) (X : XC) (hX : XOK X) (w : Mem) : Mt l X 1 yX0_init cX0_init 2 none [.inr (.inr (some (0, 1))), .inr (.inr (some (3, 0)))] 6 36 17 (flL [(4, 0, 2), (0, 0, 0), (0, 0, 10), (0, 0, 9), (0, 0, 8), (0, 0, 7), (0, 0, 6), (0, 0, 1), (4, 0, 1), (1, 0, 4), (1, 0, 2), (1, 0, 0), (4, 0, 0), (3, 0, 3), (3, 0, 2), (3, 0, 1)]) w (fun v n1 fl1 w1 => v = none ∧ n1 = 23 ∧ fl1 = (flL [(0, 1, 0), (0, 1, 10), (0, 1, 9), (0, 1, 8), (0, 1, 7), (0, 1, 6), (0, 1, 1), (4, 0, 2), (0, 0, 0), (0, 0, 10), (0, 0, 9), (0, 0, 8), (0, 0, 7), (0, 0, 6), (0, 0, 1), (4, 0, 1), (1, 0, 4), (1, 0, 2), (1, 0, 0), (4, 0, 0), (3, 0, 3), (3, 0, 2), (3, 0, 1)]) ∧ w1 = w_X0_1 w) := by
  refine Mt_of (mi := ⟨RX0, cX0_init, 2, none, ftp_X0.map (fun q => q.1), ctp_X0.map (fun q => q.1), clp_X0.map (fun q => q.1)⟩) hX (mik_X0 _ _ _) me_X0_init rfl (okAs_cons (by decide +kernel) (okAs_cons (by decide +kernel) okAs_nil)) (Nat.le_of_ble_eq_true rfl) (fun p e s m args below meth c B hin => ?_)
  refine G_run B (flG_L (l := [(4, 0, 2), (0, 0, 0), (0, 0, 10), (0, 0, 9), (0, 0, 8), (0, 0, 7), (0, 0, 6), (0, 0, 1), (4, 0, 1), (1, 0, 4), (1, 0, 2), (1, 0, 0), (4, 0, 0), (3, 0, 3), (3, 0, 2), (3, 0, 1)]) (by decide +kernel)) (pc1 := 1) (L1 := [some (.inr (.inr (some (0, 1)))), some (.inr (.inr (some (3, 0))))]) (S1 := [.inr (.inr (some (0, 1)))]) (w1 := w) (P := True) [(.aload_n 0, 0, 0, 0, 0)] (by decide +kernel) rfl (by trivial) ?_
  refine G_obj B (idx := 3) (List.mem_of_getElem? (i := 261) (by decide +kernel)) (List.mem_of_getElem? (i := 196) (by decide +kernel)) (List.mem_of_getElem? (i := 197) (by decide +kernel)) (by decide +kernel) (by decide) (by decide) ?_
  refine G_run B (flG_L (l := [(4, 0, 2), (0, 0, 0), (0, 0, 10), (0, 0, 9), (0, 0, 8), (0, 0, 7), (0, 0, 6), (0, 0, 1), (4, 0, 1), (1, 0, 4), (1, 0, 2), (1, 0, 0), (4, 0, 0), (3, 0, 3), (3, 0, 2), (3, 0, 1)]) (by decide +kernel)) (pc1 := 7) (L1 := [some (.inr (.inr (some (0, 1)))), some (.inr (.inr (some (3, 0))))]) (S1 := [.inl 6, .inr (.inr (some (0, 1)))]) (w1 := w) (P := True) [(.aload_n 0, 0, 0, 0, 0), (.bipush 6, 0, 0, 6, 0)] (by decide +kernel) rfl (by trivial) ?_
  refine G_newa B (at0 := .int) (k := 12) (i := 1) (by decide) rfl (by decide +kernel) (by decide) (List.mem_of_getElem? (i := 218) (by decide +kernel)) (by decide) (by decide +kernel) (by decide) (by decide +kernel) (by decide) (by decide) ?_
  refine G_putF B (idx := 9) (k := 0) (i := 1) (j := 1) (t := (12, none)) (by decide) (by decide +kernel) (by decide +kernel) (by decide +kernel) (by decide +kernel) hin (by decide +kernel) (by decide +kernel) ?_
  rw [flL_up]
  refine G_run B (flG_L (l := [(0, 1, 1), (4, 0, 2), (0, 0, 0), (0, 0, 10), (0, 0, 9), (0, 0, 8), (0, 0, 7), (0, 0, 6), (0, 0, 1), (4, 0, 1), (1, 0, 4), (1, 0, 2), (1, 0, 0), (4, 0, 0), (3, 0, 3), (3, 0, 2), (3, 0, 1)]) (by decide +kernel)) (pc1 := 15) (L1 := [some (.inr (.inr (some (0, 1)))), some (.inr (.inr (some (3, 0))))]) (S1 := [.inl 6, .inr (.inr (some (0, 1)))]) (w1 := clr w 12 1) (P := True) [(.aload_n 0, 0, 0, 0, 0), (.bipush 6, 0, 0, 6, 0)] (by decide +kernel) rfl (by trivial) ?_
  refine G_newa B (at0 := .int) (k := 13) (i := 1) (by decide) rfl (by decide +kernel) (by decide) (List.mem_of_getElem? (i := 218) (by decide +kernel)) (by decide) (by decide +kernel) (by decide) (by decide +kernel) (by decide) (by decide) ?_
  refine G_putF B (idx := 15) (k := 0) (i := 1) (j := 6) (t := (13, none)) (by decide) (by decide +kernel) (by decide +kernel) (by decide +kernel) (by decide +kernel) hin (by decide +kernel) (by decide +kernel) ?_
  rw [flL_up]
  refine G_run B (flG_L (l := [(0, 1, 6), (0, 1, 1), (4, 0, 2), (0, 0, 0), (0, 0, 10), (0, 0, 9), (0, 0, 8), (0, 0, 7), (0, 0, 6), (0, 0, 1), (4, 0, 1), (1, 0, 4), (1, 0, 2), (1, 0, 0), (4, 0, 0), (3, 0, 3), (3, 0, 2), (3, 0, 1)]) (by decide +kernel)) (pc1 := 23) (L1 := [some (.inr (.inr (some (0, 1)))), some (.inr (.inr (some (3, 0))))]) (S1 := [.inl 6, .inr (.inr (some (0, 1)))]) (w1 := clr (clr w 12 1) 13 1) (P := True) [(.aload_n 0, 0, 0, 0, 0), (.bipush 6, 0, 0, 6, 0)] (by decide +kernel) rfl (by trivial) ?_
  refine G_newa B (at0 := .int) (k := 14) (i := 1) (by decide) rfl (by decide +kernel) (by decide) (List.mem_of_getElem? (i := 218) (by decide +kernel)) (by decide) (by decide +kernel) (by decide) (by decide +kernel) (by decide) (by decide) ?_
  refine G_putF B (idx := 18) (k := 0) (i := 1) (j := 7) (t := (14, none)) (by decide) (by decide +kernel) (by decide +kernel) (by decide +kernel) (by decide +kernel) hin (by decide +kernel) (by decide +kernel) ?_
  rw [flL_up]
  refine G_run B (flG_L (l := [(0, 1, 7), (0, 1, 6), (0, 1, 1), (4, 0, 2), (0, 0, 0), (0, 0, 10), (0, 0, 9), (0, 0, 8), (0, 0, 7), (0, 0, 6), (0, 0, 1), (4, 0, 1), (1, 0, 4), (1, 0, 2), (1, 0, 0), (4, 0, 0), (3, 0, 3), (3, 0, 2), (3, 0, 1)]) (by decide +kernel)) (pc1 := 31) (L1 := [some (.inr (.inr (some (0, 1)))), some (.inr (.inr (some (3, 0))))]) (S1 := [.inl 6, .inr (.inr (some (0, 1)))]) (w1 := clr (clr (clr w 12 1) 13 1) 14 1) (P := True) [(.aload_n 0, 0, 0, 0, 0), (.bipush 6, 0, 0, 6, 0)] (by decide +kernel) rfl (by trivial) ?_
  refine G_newa B (at0 := .int) (k := 15) (i := 1) (by decide) rfl (by decide +kernel) (by decide) (List.mem_of_getElem? (i := 218) (by decide +kernel)) (by decide) (by decide +kernel) (by decide) (by decide +kernel) (by decide) (by decide) ?_
  refine G_putF B (idx := 21) (k := 0) (i := 1) (j := 8) (t := (15, none)) (by decide) (by decide +kernel) (by decide +kernel) (by decide +kernel) (by decide +kernel) hin (by decide +kernel) (by decide +kernel) ?_
  rw [flL_up]
  refine G_run B (flG_L (l := [(0, 1, 8), (0, 1, 7), (0, 1, 6), (0, 1, 1), (4, 0, 2), (0, 0, 0), (0, 0, 10), (0, 0, 9), (0, 0, 8), (0, 0, 7), (0, 0, 6), (0, 0, 1), (4, 0, 1), (1, 0, 4), (1, 0, 2), (1, 0, 0), (4, 0, 0), (3, 0, 3), (3, 0, 2), (3, 0, 1)]) (by decide +kernel)) (pc1 := 39) (L1 := [some (.inr (.inr (some (0, 1)))), some (.inr (.inr (some (3, 0))))]) (S1 := [.inl 6, .inr (.inr (some (0, 1)))]) (w1 := clr (clr (clr (clr w 12 1) 13 1) 14 1) 15 1) (P := True) [(.aload_n 0, 0, 0, 0, 0), (.bipush 6, 0, 0, 6, 0)] (by decide +kernel) rfl (by trivial) ?_
  refine G_newa B (at0 := .int) (k := 16) (i := 1) (by decide) rfl (by decide +kernel) (by decide) (List.mem_of_getElem? (i := 218) (by decide +kernel)) (by decide) (by decide +kernel) (by decide) (by decide +kernel) (by decide) (by decide) ?_
  refine G_putF B (idx := 24) (k := 0) (i := 1) (j := 9) (t := (16, none)) (by decide) (by decide +kernel) (by decide +kernel) (by decide +kernel) (by decide +kernel) hin (by decide +kernel) (by decide +kernel) ?_
  rw [flL_up]
  refine G_run B (flG_L (l := [(0, 1, 9), (0, 1, 8), (0, 1, 7), (0, 1, 6), (0, 1, 1), (4, 0, 2), (0, 0, 0), (0, 0, 10), (0, 0, 9), (0, 0, 8), (0, 0, 7), (0, 0, 6), (0, 0, 1), (4, 0, 1), (1, 0, 4), (1, 0, 2), (1, 0, 0), (4, 0, 0), (3, 0, 3), (3, 0, 2), (3, 0, 1)]) (by decide +kernel)) (pc1 := 47) (L1 := [some (.inr (.inr (some (0, 1)))), some (.inr (.inr (some (3, 0))))]) (S1 := [.inl 6, .inr (.inr (some (0, 1)))]) (w1 := clr (clr (clr (clr (clr w 12 1) 13 1) 14 1) 15 1) 16 1) (P := True) [(.aload_n 0, 0, 0, 0, 0), (.bipush 6, 0, 0, 6, 0)] (by decide +kernel) rfl (by trivial) ?_
  refine G_newa B (at0 := .int) (k := 17) (i := 1) (by decide) rfl (by decide +kernel) (by decide) (List.mem_of_getElem? (i := 218) (by decide +kernel)) (by decide) (by decide +kernel) (by decide) (by decide +kernel) (by decide) (by decide) ?_
  refine G_putF B (idx := 27) (k := 0) (i := 1) (j := 10) (t := (17, none)) (by decide) (by decide +kernel) (by decide +kernel) (by decide +kernel) (by decide +kernel) hin (by decide +kernel) (by decide +kernel) ?_
  rw [flL_up]
  refine G_run B (flG_L (l := [(0, 1, 10), (0, 1, 9), (0, 1, 8), (0, 1, 7), (0, 1, 6), (0, 1, 1), (4, 0, 2), (0, 0, 0), (0, 0, 10), (0, 0, 9), (0, 0, 8), (0, 0, 7), (0, 0, 6), (0, 0, 1), (4, 0, 1), (1, 0, 4), (1, 0, 2), (1, 0, 0), (4, 0, 0), (3, 0, 3), (3, 0, 2), (3, 0, 1)]) (by decide +kernel)) (pc1 := 54) (L1 := [some (.inr (.inr (some (0, 1)))), some (.inr (.inr (some (3, 0))))]) (S1 := [.inr (.inr (some (3, 0))), .inr (.inr (some (0, 1)))]) (w1 := clr (clr (clr (clr (clr (clr w 12 1) 13 1) 14 1) 15 1) 16 1) 17 1) (P := True) [(.aload_n 0, 0, 0, 0, 0), (.aload_n 1, 0, 0, 0, 0)] (by decide +kernel) rfl (by trivial) ?_
  refine G_putF B (idx := 30) (k := 0) (i := 1) (j := 0) (t := (3, some 0)) (by decide) (by decide +kernel) (by decide +kernel) (by decide +kernel) (by decide +kernel) hin (by decide +kernel) (by decide +kernel) ?_
  rw [flL_up]
  exact G_vret B rfl (by decide +kernel) ⟨rfl, rfl, rfl, rfl⟩
def w_X0_2 (w : Mem) : Mem := clr (clr (clr (clr (clr (clr w 12 2) 13 2) 14 2) 15 2) 16 2) 17 2
set_option maxRecDepth 100000 in
theorem c_X0_2 (l : Launch) (X : XC) (hX : XOK X) (w : Mem) : Mt l X 1 yX0_init cX0_init 2 none [.inr (.inr (some (0, 2))), .inr (.inr (some (3, 0)))] 6 36 24 (flL [(4, 0, 3), (0, 1, 0), (0, 1, 10), (0, 1, 9), (0, 1, 8), (0, 1, 7), (0, 1, 6), (0, 1, 1), (4, 0, 2), (0, 0, 0), (0, 0, 10), (0, 0, 9), (0, 0, 8), (0, 0, 7), (0, 0, 6), (0, 0, 1), (4, 0, 1), (1, 0, 4), (1, 0, 2), (1, 0, 0), (4, 0, 0), (3, 0, 3), (3, 0, 2), (3, 0, 1)]) w (fun v n1 fl1 w1 => v = none ∧ n1 = 30 ∧ fl1 = (flL [(0, 2, 0), (0, 2, 10), (0, 2, 9), (0, 2, 8), (0, 2, 7), (0, 2, 6), (0, 2, 1), (4, 0, 3), (0, 1, 0), (0, 1, 10), (0, 1, 9), (0, 1, 8), (0, 1, 7), (0, 1, 6), (0, 1, 1), (4, 0, 2), (0, 0, 0), (0, 0, 10), (0, 0, 9), (0, 0, 8), (0, 0, 7), (0, 0, 6), (0, 0, 1), (4, 0, 1), (1, 0, 4), (1, 0, 2), (1, 0, 0), (4, 0, 0), (3, 0, 3), (3, 0, 2), (3, 0, 1)]) ∧ w1 = w_X0_2 w) := by
  refine Mt_of (mi := ⟨RX0, cX0_init, 2, none, ftp_X0.map (fun q => q.1), ctp_X0.map (fun q => q.1), clp_X0.map (fun q => q.1)⟩) hX (mik_X0 _ _ _) me_X0_init rfl (okAs_cons (by decide +kernel) (okAs_cons (by decide +kernel) okAs_nil)) (Nat.le_of_ble_eq_true rfl) (fun p e s m args below meth c B hin => ?_)
  refine G_run B (flG_L (l := [(4, 0, 3), (0, 1, 0), (0, 1, 10), (0, 1, 9), (0, 1, 8), (0, 1, 7), (0, 1, 6), (0, 1, 1), (4, 0, 2), (0, 0, 0), (0, 0, 10), (0, 0, 9), (0, 0, 8), (0, 0, 7), (0, 0, 6), (0, 0, 1), (4, 0, 1), (1, 0, 4), (1, 0, 2), (1, 0, 0), (4, 0, 0), (3, 0, 3), (3, 0, 2), (3, 0, 1)]) (by decide +kernel)) (pc1 := 1) (L1 := [some (.inr (.inr (some (0, 2)))), some (.inr (.inr (some (3, 0))))]) (S1 := [.inr (.inr (some (0, 2)))]) (w1 := w) (P := True) [(.aload_n 0, 0, 0, 0, 0)] (by decide +kernel) rfl (by trivial) ?_
  refine G_obj B (idx := 3) (List.mem_of_getElem? (i := 261) (by decide +kernel)) (List.mem_of_getElem? (i := 196) (by decide +kernel)) (List.mem_of_getElem? (i := 197) (by decide +kernel)) (by decide +kernel) (by decide) (by decide) ?_
  refine G_run B (flG_L (l := [(4, 0, 3), (0, 1, 0), (0, 1, 10), (0, 1, 9), (0, 1, 8), (0, 1, 7), (0, 1, 6), (0, 1, 1), (4, 0, 2), (0, 0, 0), (0, 0, 10), (0, 0, 9), (0, 0, 8), (0, 0, 7), (0, 0, 6), (0, 0, 1), (4, 0, 1), (1, 0, 4), (1, 0, 2), (1, 0, 0), (4, 0, 0), (3, 0, 3), (3, 0, 2), (3, 0, 1)]) (by decide +kernel)) (pc1 := 7) (L1 := [some (.inr (.inr (some (0, 2)))), some (.inr (.inr (some (3, 0))))]) (S1 := [.inl 6, .inr (.inr (some (0, 2)))]) (w1 := w) (P := True) [(.aload_n 0, 0, 0, 0, 0), (.bipush 6, 0, 0, 6, 0)] (by decide +kernel) rfl (by trivial) ?_
  refine G_newa B (at0 := .int) (k := 12) (i := 2) (by decide) rfl (by decide +kernel) (by decide) (List.mem_of_getElem? (i := 218) (by decide +kernel)) (by decide) (by decide +kernel) (by decide) (by decide +kernel) (by decide) (by decide) ?_
  refine G_putF B (idx := 9) (k := 0) (i := 2) (j := 1) (t := (12, none)) (by decide) (by decide +kernel) (by decide +kernel) (by decide +kernel) (by decide +kernel) hin (by decide +kernel) (by decide +kernel) ?_
  rw [flL_up]
  refine G_run B (flG_L (l := [(0, 2, 1), (4, 0, 3), (0, 1, 0), (0, 1, 10), (0, 1, 9), (0, 1, 8), (0, 1, 7), (0, 1, 6), (0, 1, 1), (4, 0, 2), (0, 0, 0), (0, 0, 10), (0, 0, 9), (0, 0, 8), (0, 0, 7), (0, 0, 6), (0, 0, 1), (4, 0, 1), (1, 0, 4), (1, 0, 2), (1, 0, 0), (4, 0, 0), (3, 0, 3), (3, 0, 2), (3, 0, 1)]) (by decide +kernel)) (pc1 := 15) (L1 := [some (.inr (.inr (some (0, 2)))), some (.inr (.inr (some (3, 0))))]) (S1 := [.inl 6, .inr (.inr (some (0, 2)))]) (w1 := clr w 12 2) (P := True) [(.aload_n 0, 0, 0, 0, 0), (.bipush 6, 0, 0, 6, 0)] (by decide +kernel) rfl (by trivial) ?_
  refine G_newa B (at0 := .int) (k := 13) (i := 2) (by decide) rfl (by decide +kernel) (by decide) (List.mem_of_getElem? (i := 218) (by decide +kernel)) (by decide) (by decide +kernel) (by decide) (by decide +kernel) (by decide) (by decide) ?_
  refine G_putF B (idx := 15) (k := 0) (i := 2) (j := 6) (t := (13, none)) (by decide) (by decide +kernel) (by decide +kernel) (by decide +kernel) (by decide +kernel) hin (by decide +kernel) (by decide +kernel) ?_
  rw [flL_up]
  refine G_run B (flG_L (l := [(0, 2, 6), (0, 2, 1), (4, 0, 3), (0, 1, 0), (0, 1, 10), (0, 1, 9), (0, 1, 8), (0, 1, 7), (0, 1, 6), (0, 1, 1), (4, 0, 2), (0, 0, 0), (0, 0, 10), (0, 0, 9), (0, 0, 8), (0, 0, 7), (0, 0, 6), (0, 0, 1), (4, 0, 1), (1, 0, 4), (1, 0, 2), (1, 0, 0), (4, 0, 0), (3, 0, 3), (3, 0, 2), (3, 0, 1)]) (by decide +kernel)) (pc1 := 23) (L1 := [some (.inr (.inr (some (0, 2)))), some (.inr (.inr (some (3, 0))))]) (S1 := [.inl 6, .inr (.inr (some (0, 2)))]) (w1 := clr (clr w 12 2) 13 2) (P := True) [(.aload_n 0, 0, 0, 0, 0), (.bipush 6, 0, 0, 6, 0)] (by decide +kernel) rfl (by trivial) ?_
  refine G_newa B (at0 := .int) (k := 14) (i := 2) (by decide) rfl (by decide +kernel) (by decide) (List.mem_of_getElem? (i := 218) (by decide +kernel)) (by decide) (by decide +kernel) (by decide) (by decide +kernel) (by decide) (by decide) ?_
  refine G_putF B (idx := 18) (k := 0) (i := 2) (j := 7) (t := (14, none)) (by decide) (by decide +kernel) (by decide +kernel) (by decide +kernel) (by decide +kernel) hin (by decide +kernel) (by decide +kernel) ?_
  rw [flL_up]
  refine G_run B (flG_L (l := [(0, 2, 7), (0, 2, 6), (0, 2, 1), (4, 0, 3), (0, 1, 0), (0, 1, 10), (0, 1, 9), (0, 1, 8), (0, 1, 7), (0, 1, 6), (0, 1, 1), (4, 0, 2), (0, 0, 0), (0, 0, 10), (0, 0, 9), (0, 0, 8), (0, 0, 7), (0, 0, 6), (0, 0, 1), (4, 0, 1), (1, 0, 4), (1, 0, 2), (1, 0, 0), (4, 0, 0), (3, 0, 3), (3, 0, 2), (3, 0, 1)]) (by decide +kernel)) (pc1 := 31) (L1 := [some (.inr (.inr (some (0, 2)))), some (.inr (.inr (some (3, 0))))]) (S1 := [.inl 6, .inr (.inr (some (0, 2)))]) (w1 := clr (clr (clr w 12 2) 13 2) 14 2) (P := True) [(.aload_n 0, 0, 0, 0, 0), (.bipush 6, 0, 0, 6, 0)] (by decide +kernel) rfl (by trivial) ?_
  refine G_newa B (at0 := .int) (k := 15) (i := 2) (by decide) rfl (by decide +kernel) (by decide) (List.mem_of_getElem? (i := 218) (by decide +kernel)) (by decide) (by decide +kernel) (by decide) (by decide +kernel) (by decide) (by decide) ?_
  refine G_putF B (idx := 21) (k := 0) (i := 2) (j := 8) (t := (15, none)) (by decide) (by decide +kernel) (by decide +kernel) (by decide +kernel) (by decide +kernel) hin (by decide +kernel) (by decide +kernel) ?_
  rw [flL_up]
  refine G_run B (flG_L (l := [(0, 2, 8), (0, 2, 7), (0, 2, 6), (0, 2, 1), (4, 0, 3), (0, 1, 0), (0, 1, 10), (0, 1, 9), (0, 1, 8), (0, 1, 7), (0, 1, 6), (0, 1, 1), (4, 0, 2), (0, 0, 0), (0, 0, 10), (0, 0, 9), (0, 0, 8), (0, 0, 7), (0, 0, 6), (0, 0, 1), (4, 0, 1), (1, 0, 4), (1, 0, 2), (1, 0, 0), (4, 0, 0), (3, 0, 3), (3, 0, 2), (3, 0, 1)]) (by decide +kernel)) (pc1 := 39) (L1 := [some (.inr (.inr (some (0, 2)))), some (.inr (.inr (some (3, 0))))]) (S1 := [.inl 6, .inr (.inr (some (0, 2)))]) (w1 := clr (clr (clr (clr w 12 2) 13 2) 14 2) 15 2) (P := True) [(.aload_n 0, 0, 0, 0, 0), (.bipush 6, 0, 0, 6, 0)] (by decide +kernel) rfl (by trivial) ?_
  refine G_newa B (at0 := .int) (k := 16) (i := 2) (by decide) rfl (by decide +kernel) (by decide) (List.mem_of_getElem? (i := 218) (by decide +kernel)) (by decide) (by decide +kernel) (by decide) (by decide +kernel) (by decide) (by decide) ?_
  refine G_putF B (idx := 24) (k := 0) (i := 2) (j := 9) (t := (16, none)) (by decide) (by decide +kernel) (by decide +kernel) (by decide +kernel) (by decide +kernel) hin (by decide +kernel) (by decide +kernel) ?_
  rw [flL_up]
  refine G_run B (flG_L (l := [(0, 2, 9), (0, 2, 8), (0, 2, 7), (0, 2, 6), (0, 2, 1), (4, 0, 3), (0, 1, 0), (0, 1, 10), (0, 1, 9), (0, 1, 8), (0, 1, 7), (0, 1, 6), (0, 1, 1), (4, 0, 2), (0, 0, 0), (0, 0, 10), (0, 0, 9), (0, 0, 8), (0, 0, 7), (0, 0, 6), (0, 0, 1), (4, 0, 1), (1, 0, 4), (1, 0, 2), (1, 0, 0), (4, 0, 0), (3, 0, 3), (3, 0, 2), (3, 0, 1)]) (by decide +kernel)) (pc1 := 47) (L1 := [some (.inr (.inr (some (0, 2)))), some (.inr (.inr (some (3, 0))))]) (S1 := [.inl 6, .inr (.inr (some (0, 2)))]) (w1 := clr (clr (clr (clr (clr w 12 2) 13 2) 14 2) 15 2) 16 2) (P := True) [(.aload_n 0, 0, 0, 0, 0), (.bipush 6, 0, 0, 6, 0)] (by decide +kernel) rfl (by trivial) ?_
  refine G_newa B (at0 := .int) (k := 17) (i := 2) (by decide) rfl (by decide +kernel) (by decide) (List.mem_of_getElem? (i := 218) (by decide +kernel)) (by decide) (by decide +kernel) (by decide) (by decide +kernel) (by decide) (by decide) ?_
  refine G_putF B (idx := 27) (k := 0) (i := 2) (j := 10) (t := (17, none)) (by decide) (by decide +kernel) (by decide +kernel) (by decide +kernel) (by decide +kernel) hin (by decide +kernel) (by decide +kernel) ?_
  rw [flL_up]
  refine G_run B (flG_L (l := [(0, 2, 10), (0, 2, 9), (0, 2, 8), (0, 2, 7), (0, 2, 6), (0, 2, 1), (4, 0, 3), (0, 1, 0), (0, 1, 10), (0, 1, 9), (0, 1, 8), (0, 1, 7), (0, 1, 6), (0, 1, 1), (4, 0, 2), (0, 0, 0), (0, 0, 10), (0, 0, 9), (0, 0, 8), (0, 0, 7), (0, 0, 6), (0, 0, 1), (4, 0, 1), (1, 0, 4), (1, 0, 2), (1, 0, 0), (4, 0, 0), (3, 0, 3), (3, 0, 2), (3, 0, 1)]) (by decide +kernel)) (pc1 := 54) (L1 := [some (.inr (.inr (some (0, 2)))), some (.inr (.inr (some (3, 0))))]) (S1 := [.inr (.inr (some (3, 0))), .inr (.inr (some (0, 2)))]) (w1 := clr (clr (clr (clr (clr (clr w 12 2) 13 2) 14 2) 15 2) 16 2) 17 2) (P := True) [(.aload_n 0, 0, 0, 0, 0), (.aload_n 1, 0, 0, 0, 0)] (by decide +kernel) rfl (by trivial) ?_
  refine G_putF B (idx := 30) (k := 0) (i := 2) (j := 0) (t := (3, some 0)) (by decide) (by decide +kernel) (by decide +kernel) (by decide +kernel) (by decide +kernel) hin (by decide +kernel) (by decide +kernel) ?_
  rw [flL_up]
  exact G_vret B rfl (by decide +kernel) ⟨rfl, rfl, rfl, rfl⟩
def w_X2_0 (w : Mem) : Mem := clr (up w 2 0 0 (-1)) 19 0
set_option maxRecDepth 100000 in
theorem c_X2_0 (l : Launch) (X : XC) (hX : XOK X) (w : Mem) : Mt l X 1 yX2_init cX2_init 1 none [.inr (.inr (some (2, 0)))] 1 40 32 (flL [(4, 0, 6), (4, 0, 4), (0, 2, 0), (0, 2, 10), (0, 2, 9), (0, 2, 8), (0, 2, 7), (0, 2, 6), (0, 2, 1), (4, 0, 3), (0, 1, 0), (0, 1, 10), (0, 1, 9), (0, 1, 8), (0, 1, 7), (0, 1, 6), (0, 1, 1), (4, 0, 2), (0, 0, 0), (0, 0, 10), (0, 0, 9), (0, 0, 8), (0, 0, 7), (0, 0, 6), (0, 0, 1), (4, 0, 1), (1, 0, 4), (1, 0, 2), (1, 0, 0), (4, 0, 0), (3, 0, 3), (3, 0, 2), (3, 0, 1)]) w (fun v n1 fl1 w1 => v = none ∧ n1 = 33 ∧ fl1 = (flL [(2, 0, 2), (4, 0, 6), (4, 0, 4), (0, 2, 0), (0, 2, 10), (0, 2, 9), (0, 2, 8), (0, 2, 7), (0, 2, 6), (0, 2, 1), (4, 0, 3), (0, 1, 0), (0, 1, 10), (0, 1, 9), (0, 1, 8), (0, 1, 7), (0, 1, 6), (0, 1, 1), (4, 0, 2), (0, 0, 0), (0, 0, 10), (0, 0, 9), (0, 0, 8), (0, 0, 7), (0, 0, 6), (0, 0, 1), (4, 0, 1), (1, 0, 4), (1, 0, 2), (1, 0, 0), (4, 0, 0), (3, 0, 3), (3, 0, 2), (3, 0, 1)]) ∧ w1 = w_X2_0 w) := by
  refine Mt_of (mi := ⟨RX2, cX2_init, 1, none, ftp_X2.map (fun q => q.1), ctp_X2.map (fun q => q.1), clp_X2.map (fun q => q.1)⟩) hX (mik_X2 _ _ _) me_X2_init rfl (okAs_cons (by decide +kernel) okAs_nil) (Nat.le_of_ble_eq_true rfl) (fun p e s m args below meth c B hin => ?_)
  refine G_run B (flG_L (l := [(4, 0, 6), (4, 0, 4), (0, 2, 0), (0, 2, 10), (0, 2, 9), (0, 2, 8), (0, 2, 7), (0, 2, 6), (0, 2, 1), (4, 0, 3), (0, 1, 0), (0, 1, 10), (0, 1, 9), (0, 1, 8), (0, 1, 7), (0, 1, 6), (0, 1, 1), (4, 0, 2), (0, 0, 0), (0, 0, 10), (0, 0, 9), (0, 0, 8), (0, 0, 7), (0, 0, 6), (0, 0, 1), (4, 0, 1), (1, 0, 4), (1, 0, 2), (1, 0, 0), (4, 0, 0), (3, 0, 3), (3, 0, 2), (3, 0, 1)]) (by decide +kernel)) (pc1 := 1) (L1 := [some (.inr (.inr (some (2, 0))))]) (S1 := [.inr (.inr (some (2, 0)))]) (w1 := w) (P := True) [(.aload_n 0, 0, 0, 0, 0)] (by decide +kernel) rfl (by trivial) ?_
  refine G_obj B (idx := 3) (List.mem_of_getElem? (i := 311) (by decide +kernel)) (List.mem_of_getElem? (i := 196) (by decide +kernel)) (List.mem_of_getElem? (i := 197) (by decide +kernel)) (by decide +kernel) (by decide) (by decide) ?_
  refine G_run B (flG_L (l := [(4, 0, 6), (4, 0, 4), (0, 2, 0), (0, 2, 10), (0, 2, 9), (0, 2, 8), (0, 2, 7), (0, 2, 6), (0, 2, 1), (4, 0, 3), (0, 1, 0), (0, 1, 10), (0, 1, 9), (0, 1, 8), (0, 1, 7), (0, 1, 6), (0, 1, 1), (4, 0, 2), (0, 0, 0), (0, 0, 10), (0, 0, 9), (0, 0, 8), (0, 0, 7), (0, 0, 6), (0, 0, 1), (4, 0, 1), (1, 0, 4), (1, 0, 2), (1, 0, 0), (4, 0, 0), (3, 0, 3), (3, 0, 2), (3, 0, 1)]) (by decide +kernel)) (pc1 := 12) (L1 := [some (.inr (.inr (some (2, 0))))]) (S1 := [.inl 40, .inr (.inr (some (2, 0)))]) (w1 := up w 2 0 0 (-1)) (P := True) [(.aload_n 0, 0, 0, 0, 0), (.iconst (-1), 0, 0, -1, 0), (.putfield 9, 2, 0, 0, 0), (.aload_n 0, 0, 0, 0, 0), (.bipush 40, 0, 0, 40, 0)] (by decide +kernel) rfl (by trivial) ?_
  refine G_newa B (at0 := .int) (k := 19) (i := 0) (by decide) rfl (by decide +kernel) (by decide) (List.mem_of_getElem? (i := 218) (by decide +kernel)) (by decide) (by decide +kernel) (by decide) (by decide +kernel) (by decide) (by decide) ?_
  refine G_putF B (idx := 15) (k := 2) (i := 0) (j := 2) (t := (19, none)) (by decide) (by decide +kernel) (by decide +kernel) (by decide +kernel) (by decide +kernel) hin (by decide +kernel) (by decide +kernel) ?_
  rw [flL_up]
  exact G_vret B rfl (by decide +kernel) ⟨rfl, rfl, rfl, rfl⟩
def w_X2_1 (w : Mem) : Mem := clr (up w 2 1 0 (-1)) 19 1
set_option maxRecDepth 100000 in
theorem c_X2_1 (l : Launch) (X : XC) (hX : XOK X) (w : Mem) : Mt l X 1 yX2_init cX2_init 1 none [.inr (.inr (some (2, 1)))] 1 40 34 (flL [(18, 0, 0), (2, 0, 2), (4, 0, 6), (4, 0, 4), (0, 2, 0), (0, 2, 10), (0, 2, 9), (0, 2, 8), (0, 2, 7), (0, 2, 6), (0, 2, 1), (4, 0, 3), (0, 1, 0), (0, 1, 10), (0, 1, 9), (0, 1, 8), (0, 1, 7), (0, 1, 6), (0, 1, 1), (4, 0, 2), (0, 0, 0), (0, 0, 10), (0, 0, 9), (0, 0, 8), (0, 0, 7), (0, 0, 6), (0, 0, 1), (4, 0, 1), (1, 0, 4), (1, 0, 2), (1, 0, 0), (4, 0, 0), (3, 0, 3), (3, 0, 2), (3, 0, 1)]) w (fun v n1 fl1 w1 => v = none ∧ n1 = 35 ∧ fl1 = (flL [(2, 1, 2), (18, 0, 0), (2, 0, 2), (4, 0, 6), (4, 0, 4), (0, 2, 0), (0, 2, 10), (0, 2, 9), (0, 2, 8), (0, 2, 7), (0, 2, 6), (0, 2, 1), (4, 0, 3), (0, 1, 0), (0, 1, 10), (0, 1, 9), (0, 1, 8), (0, 1, 7), (0, 1, 6), (0, 1, 1), (4, 0, 2), (0, 0, 0), (0, 0, 10), (0, 0, 9), (0, 0, 8), (0, 0, 7), (0, 0, 6), (0, 0, 1), (4, 0, 1), (1, 0, 4), (1, 0, 2), (1, 0, 0), (4, 0, 0), (3, 0, 3), (3, 0, 2), (3, 0, 1)]) ∧ w1 = w_X2_1 w) := by
  refine Mt_of (mi := ⟨RX2, cX2_init, 1, none, ftp_X2.map (fun q => q.1), ctp_X2.map (fun q => q.1), clp_X2.map (fun q => q.1)⟩) hX (mik_X2 _ _ _) me_X2_init rfl (okAs_cons (by decide +kernel) okAs_nil) (Nat.le_of_ble_eq_true rfl) (fun p e s m args below meth c B hin => ?_)
  refine G_run B (flG_L (l := [(18, 0, 0), (2, 0, 2), (4, 0, 6), (4, 0, 4), (0, 2, 0), (0, 2, 10), (0, 2, 9), (0, 2, 8), (0, 2, 7), (0, 2, 6), (0, 2, 1), (4, 0, 3), (0, 1, 0), (0, 1, 10), (0, 1, 9), (0, 1, 8), (0, 1, 7), (0, 1, 6), (0, 1, 1), (4, 0, 2), (0, 0, 0), (0, 0, 10), (0, 0, 9), (0, 0, 8), (0, 0, 7), (0, 0, 6), (0, 0, 1), (4, 0, 1), (1, 0, 4), (1, 0, 2), (1, 0, 0), (4, 0, 0), (3, 0, 3), (3, 0, 2), (3, 0, 1)]) (by decide +kernel)) (pc1 := 1) (L1 := [some (.inr (.inr (some (2, 1))))]) (S1 := [.inr (.inr (some (2, 1)))]) (w1 := w) (P := True) [(.aload_n 0, 0, 0, 0, 0)] (by decide +kernel) rfl (by trivial) ?_
  refine G_obj B (idx := 3) (List.mem_of_getElem? (i := 311) (by decide +kernel)) (List.mem_of_getElem? (i := 196) (by decide +kernel)) (List.mem_of_getElem? (i := 197) (by decide +kernel)) (by decide +kernel) (by decide) (by decide) ?_
  refine G_run B (flG_L (l := [(18, 0, 0), (2, 0, 2), (4, 0, 6), (4, 0, 4), (0, 2, 0), (0, 2, 10), (0, 2, 9), (0, 2, 8), (0, 2, 7), (0, 2, 6), (0, 2, 1), (4, 0, 3), (0, 1, 0), (0, 1, 10), (0, 1, 9), (0, 1, 8), (0, 1, 7), (0, 1, 6), (0, 1, 1), (4, 0, 2), (0, 0, 0), (0, 0, 10), (0, 0, 9), (0, 0, 8), (0, 0, 7), (0, 0, 6), (0, 0, 1), (4, 0, 1), (1, 0, 4), (1, 0, 2), (1, 0, 0), (4, 0, 0), (3, 0, 3), (3, 0, 2), (3, 0, 1)]) (by decide +kernel)) (pc1 := 12) (L1 := [some (.inr (.inr (some (2, 1))))]) (S1 := [.inl 40, .inr (.inr (some (2, 1)))]) (w1 := up w 2 1 0 (-1)) (P := True) [(.aload_n 0, 0, 0, 0, 0), (.iconst (-1), 0, 0, -1, 0), (.putfield 9, 2, 0, 0, 0), (.aload_n 0, 0, 0, 0, 0), (.bipush 40, 0, 0, 40, 0)] (by decide +kernel) rfl (by trivial) ?_
  refine G_newa B (at0 := .int) (k := 19) (i := 1) (by decide) rfl (by decide +kernel) (by decide) (List.mem_of_getElem? (i := 218) (by decide +kernel)) (by decide) (by decide +kernel) (by decide) (by decide +kernel) (by decide) (by decide) ?_
  refine G_putF B (idx := 15) (k := 2) (i := 1) (j := 2) (t := (19, none)) (by decide) (by decide +kernel) (by decide +kernel) (by decide +kernel) (by decide +kernel) hin (by decide +kernel) (by decide +kernel) ?_
  rw [flL_up]
  exact G_vret B rfl (by decide +kernel) ⟨rfl, rfl, rfl, rfl⟩
def w_X2_2 (w : Mem) : Mem := clr (up w 2 2 0 (-1)) 19 2
set_option maxRecDepth 100000 in
theorem c_X2_2 (l : Launch) (X : XC) (hX : XOK X) (w : Mem) : Mt l X 1 yX2_init cX2_init 1 none [.inr (.inr (some (2, 2)))] 1 40 36 (flL [(18, 0, 1), (2, 1, 2), (18, 0, 0), (2, 0, 2), (4, 0, 6), (4, 0, 4), (0, 2, 0), (0, 2, 10), (0, 2, 9), (0, 2, 8), (0, 2, 7), (0, 2, 6), (0, 2, 1), (4, 0, 3), (0, 1, 0), (0, 1, 10), (0, 1, 9), (0, 1, 8), (0, 1, 7), (0, 1, 6), (0, 1, 1), (4, 0, 2), (0, 0, 0), (0, 0, 10), (0, 0, 9), (0, 0, 8), (0, 0, 7), (0, 0, 6), (0, 0, 1), (4, 0, 1), (1, 0, 4), (1, 0, 2), (1, 0, 0), (4, 0, 0), (3, 0, 3), (3, 0, 2), (3, 0, 1)]) w (fun v n1 fl1 w1 => v = none ∧ n1 = 37 ∧ fl1 = (flL [(2, 2, 2), (18, 0, 1), (2, 1, 2), (18, 0, 0), (2, 0, 2), (4, 0, 6), (4, 0, 4), (0, 2, 0), (0, 2, 10), (0, 2, 9), (0, 2, 8), (0, 2, 7), (0, 2, 6), (0, 2, 1), (4, 0, 3), (0, 1, 0), (0, 1, 10), (0, 1, 9), (0, 1, 8), (0, 1, 7), (0, 1, 6), (0, 1, 1), (4, 0, 2), (0, 0, 0), (0, 0, 10), (0, 0, 9), (0, 0, 8), (0, 0, 7), (0, 0, 6), (0, 0, 1), (4, 0, 1), (1, 0, 4), (1, 0, 2), (1, 0, 0), (4, 0, 0), (3, 0, 3), (3, 0, 2), (3, 0, 1)]) ∧ w1 = w_X2_2 w) := by
  refine Mt_of (mi := ⟨RX2, cX2_init, 1, none, ftp_X2.map (fun q => q.1), ctp_X2.map (fun q => q.1), clp_X2.map (fun q => q.1)⟩) hX (mik_X2 _ _ _) me_X2_init rfl (okAs_cons (by decide +kernel) okAs_nil) (Nat.le_of_ble_eq_true rfl) (fun p e s m args below meth c B hin => ?_)
  refine G_run B (flG_L (l := [(18, 0, 1), (2, 1, 2), (18, 0, 0), (2, 0, 2), (4, 0, 6), (4, 0, 4), (0, 2, 0), (0, 2, 10), (0, 2, 9), (0, 2, 8), (0, 2, 7), (0, 2, 6), (0, 2, 1), (4, 0, 3), (0, 1, 0), (0, 1, 10), (0, 1, 9), (0, 1, 8), (0, 1, 7), (0, 1, 6), (0, 1, 1), (4, 0, 2), (0, 0, 0), (0, 0, 10), (0, 0, 9), (0, 0, 8), (0, 0, 7), (0, 0, 6), (0, 0, 1), (4, 0, 1), (1, 0, 4), (1, 0, 2), (1, 0, 0), (4, 0, 0), (3, 0, 3), (3, 0, 2), (3, 0, 1)]) (by decide +kernel)) (pc1 := 1) (L1 := [some (.inr (.inr (some (2, 2))))]) (S1 := [.inr (.inr (some (2, 2)))]) (w1 := w) (P := True) [(.aload_n 0, 0, 0, 0, 0)] (by decide +kernel) rfl (by trivial) ?_
  refine G_obj B (idx := 3) (List.mem_of_getElem? (i := 311) (by decide +kernel)) (List.mem_of_getElem? (i := 196) (by decide +kernel)) (List.mem_of_getElem? (i := 197) (by decide +kernel)) (by decide +kernel) (by decide) (by decide) ?_
  refine G_run B (flG_L (l := [(18, 0, 1), (2, 1, 2), (18, 0, 0), (2, 0, 2), (4, 0, 6), (4, 0, 4), (0, 2, 0), (0, 2, 10), (0, 2, 9), (0, 2, 8), (0, 2, 7), (0, 2, 6), (0, 2, 1), (4, 0, 3), (0, 1, 0), (0, 1, 10), (0, 1, 9), (0, 1, 8), (0, 1, 7), (0, 1, 6), (0, 1, 1), (4, 0, 2), (0, 0, 0), (0, 0, 10), (0, 0, 9), (0, 0, 8), (0, 0, 7), (0, 0, 6), (0, 0, 1), (4, 0, 1), (1, 0, 4), (1, 0, 2), (1, 0, 0), (4, 0, 0), (3, 0, 3), (3, 0, 2), (3, 0, 1)]) (by decide +kernel)) (pc1 := 12) (L1 := [some (.inr (.inr (some (2, 2))))]) (S1 := [.inl 40, .inr (.inr (some (2, 2)))]) (w1 := up w 2 2 0 (-1)) (P := True) [(.aload_n 0, 0, 0, 0, 0), (.iconst (-1), 0, 0, -1, 0), (.putfield 9, 2, 0, 0, 0), (.aload_n 0, 0, 0, 0, 0), (.bipush 40, 0, 0, 40, 0)] (by decide +kernel) rfl (by trivial) ?_
  refine G_newa B (at0 := .int) (k := 19) (i := 2) (by decide) rfl (by decide +kernel) (by decide) (List.mem_of_getElem? (i := 218) (by decide +kernel)) (by decide) (by decide +kernel) (by decide) (by decide +kernel) (by decide) (by decide) ?_
  refine G_putF B (idx := 15) (k := 2) (i := 2) (j := 2) (t := (19, none)) (by decide) (by decide +kernel) (by decide +kernel) (by decide +kernel) (by decide +kernel) hin (by decide +kernel) (by decide +kernel) ?_
  rw [flL_up]
  exact G_vret B rfl (by decide +kernel) ⟨rfl, rfl, rfl, rfl⟩
def w_X2_3 (w : Mem) : Mem := clr (up w 2 3 0 (-1)) 19 3
set_option maxRecDepth 100000 in
theorem c_X2_3 (l : Launch) (X : XC) (hX : XOK X) (w : Mem) : Mt l X 1 yX2_init cX2_init 1 none [.inr (.inr (some (2, 3)))] 1 40 38 (flL [(18, 0, 2), (2, 2, 2), (18, 0, 1), (2, 1, 2), (18, 0, 0), (2, 0, 2), (4, 0, 6), (4, 0, 4), (0, 2, 0), (0, 2, 10), (0, 2, 9), (0, 2, 8), (0, 2, 7), (0, 2, 6), (0, 2, 1), (4, 0, 3), (0, 1, 0), (0, 1, 10), (0, 1, 9), (0, 1, 8), (0, 1, 7), (0, 1, 6), (0, 1, 1), (4, 0, 2), (0, 0, 0), (0, 0, 10), (0, 0, 9), (0, 0, 8), (0, 0, 7), (0, 0, 6), (0, 0, 1), (4, 0, 1), (1, 0, 4), (1, 0, 2), (1, 0, 0), (4, 0, 0), (3, 0, 3), (3, 0, 2), (3, 0, 1)]) w (fun v n1 fl1 w1 => v = none ∧ n1 = 39 ∧ fl1 = (flL [(2, 3, 2), (18, 0, 2), (2, 2, 2), (18, 0, 1), (2, 1, 2), (18, 0, 0), (2, 0, 2), (4, 0, 6), (4, 0, 4), (0, 2, 0), (0, 2, 10), (0, 2, 9), (0, 2, 8), (0, 2, 7), (0, 2, 6), (0, 2, 1), (4, 0, 3), (0, 1, 0), (0, 1, 10), (0, 1, 9), (0, 1, 8), (0, 1, 7), (0, 1, 6), (0, 1, 1), (4, 0, 2), (0, 0, 0), (0, 0, 10), (0, 0, 9), (0, 0, 8), (0, 0, 7), (0, 0, 6), (0, 0, 1), (4, 0, 1), (1, 0, 4), (1, 0, 2), (1, 0, 0), (4, 0, 0), (3, 0, 3), (3, 0, 2), (3, 0, 1)]) ∧ w1 = w_X2_3 w) := by
  refine Mt_of (mi := ⟨RX2, cX2_init, 1, none, ftp_X2.map (fun q => q.1), ctp_X2.map (fun q => q.1), clp_X2.map (fun q => q.1)⟩) hX (mik_X2 _ _ _) me_X2_init rfl (okAs_cons (by decide +kernel) okAs_nil) (Nat.le_of_ble_eq_true rfl) (fun p e s m args below meth c B hin => ?_)
  refine G_run B (flG_L (l := [(18, 0, 2), (2, 2, 2), (18, 0, 1), (2, 1, 2), (18, 0, 0), (2, 0, 2), (4, 0, 6), (4, 0, 4), (0, 2, 0), (0, 2, 10), (0, 2, 9), (0, 2, 8), (0, 2, 7), (0, 2, 6), (0, 2, 1), (4, 0, 3), (0, 1, 0), (0, 1, 10), (0, 1, 9), (0, 1, 8), (0, 1, 7), (0, 1, 6), (0, 1, 1), (4, 0, 2), (0, 0, 0), (0, 0, 10), (0, 0, 9), (0, 0, 8), (0, 0, 7), (0, 0, 6), (0, 0, 1), (4, 0, 1), (1, 0, 4), (1, 0, 2), (1, 0, 0), (4, 0, 0), (3, 0, 3), (3, 0, 2), (3, 0, 1)]) (by decide +kernel)) (pc1 := 1) (L1 := [some (.inr (.inr (some (2, 3))))]) (S1 := [.inr (.inr (some (2, 3)))]) (w1 := w) (P := True) [(.aload_n 0, 0, 0, 0, 0)] (by decide +kernel) rfl (by trivial) ?_
  refine G_obj B (idx := 3) (List.mem_of_getElem? (i := 311) (by decide +kernel)) (List.mem_of_getElem? (i := 196) (by decide +kernel)) (List.mem_of_getElem? (i := 197) (by decide +kernel)) (by decide +kernel) (by decide) (by decide) ?_
  refine G_run B (flG_L (l := [(18, 0, 2), (2, 2, 2), (18, 0, 1), (2, 1, 2), (18, 0, 0), (2, 0, 2), (4, 0, 6), (4, 0, 4), (0, 2, 0), (0, 2, 10), (0, 2, 9), (0, 2, 8), (0, 2, 7), (0, 2, 6), (0, 2, 1), (4, 0, 3), (0, 1, 0), (0, 1, 10), (0, 1, 9), (0, 1, 8), (0, 1, 7), (0, 1, 6), (0, 1, 1), (4, 0, 2), (0, 0, 0), (0, 0, 10), (0, 0, 9), (0, 0, 8), (0, 0, 7), (0, 0, 6), (0, 0, 1), (4, 0, 1), (1, 0, 4), (1, 0, 2), (1, 0, 0), (4, 0, 0), (3, 0, 3), (3, 0, 2), (3, 0, 1)]) (by decide +kernel)) (pc1 := 12) (L1 := [some (.inr (.inr (some (2, 3))))]) (S1 := [.inl 40, .inr (.inr (some (2, 3)))]) (w1 := up w 2 3 0 (-1)) (P := True) [(.aload_n 0, 0, 0, 0, 0), (.iconst (-1), 0, 0, -1, 0), (.putfield 9, 2, 0, 0, 0), (.aload_n 0, 0, 0, 0, 0), (.bipush 40, 0, 0, 40, 0)] (by decide +kernel) rfl (by trivial) ?_
  refine G_newa B (at0 := .int) (k := 19) (i := 3) (by decide) rfl (by decide +kernel) (by decide) (List.mem_of_getElem? (i := 218) (by decide +kernel)) (by decide) (by decide +kernel) (by decide) (by decide +kernel) (by decide) (by decide) ?_
  refine G_putF B (idx := 15) (k := 2) (i := 3) (j := 2) (t := (19, none)) (by decide) (by decide +kernel) (by decide +kernel) (by decide +kernel) (by decide +kernel) hin (by decide +kernel) (by decide +kernel) ?_
  rw [flL_up]
  exact G_vret B rfl (by decide +kernel) ⟨rfl, rfl, rfl, rfl⟩
def w_X4_0 (w : Mem) : Mem := w_X2_3 (clr (w_X2_2 (clr (w_X2_1 (clr (w_X2_0 (clr (w_X0_2 (clr (w_X0_1 (clr (w_X0_0 (clr (w_X1_0 (clr (w_X3_0 (clr w 3 0)) 1 0)) 0 0)) 0 1)) 0 2)) 2 0)) 2 1)) 2 2)) 2 3)
set_option maxRecDepth 100000 in
theorem c_X4_0 (l : Launch) (X : XC) (hX : XOK X) (w : Mem) (hAO : va_AO "NameThrownBack$Sheet" X.2.2.1) : Mt l X 2 yX4_init cX4_init 2 none [.inr (.inr (some (4, 0)))] 38 1671 1 (flL []) w (fun v n1 fl1 w1 => v = none ∧ n1 = 39 ∧ fl1 = (flL [(18, 0, 3), (2, 3, 2), (18, 0, 2), (2, 2, 2), (18, 0, 1), (2, 1, 2), (18, 0, 0), (2, 0, 2), (4, 0, 6), (4, 0, 4), (0, 2, 0), (0, 2, 10), (0, 2, 9), (0, 2, 8), (0, 2, 7), (0, 2, 6), (0, 2, 1), (4, 0, 3), (0, 1, 0), (0, 1, 10), (0, 1, 9), (0, 1, 8), (0, 1, 7), (0, 1, 6), (0, 1, 1), (4, 0, 2), (0, 0, 0), (0, 0, 10), (0, 0, 9), (0, 0, 8), (0, 0, 7), (0, 0, 6), (0, 0, 1), (4, 0, 1), (1, 0, 4), (1, 0, 2), (1, 0, 0), (4, 0, 0), (3, 0, 3), (3, 0, 2), (3, 0, 1)]) ∧ w1 = w_X4_0 w) := by
  refine Mt_of (mi := ⟨RX4, cX4_init, 2, none, ftp_X4.map (fun q => q.1), ctp_X4.map (fun q => q.1), clp_X4.map (fun q => q.1)⟩) hX (mik_X4 _ _ _) me_X4_init rfl (okAs_cons (by decide +kernel) okAs_nil) (Nat.le_of_ble_eq_true rfl) (fun p e s m args below meth c B hin => ?_)
  refine G_run B (flG_L (l := []) (by decide +kernel)) (pc1 := 1) (L1 := [some (.inr (.inr (some (4, 0)))), none]) (S1 := [.inr (.inr (some (4, 0)))]) (w1 := w) (P := True) [(.aload_n 0, 0, 0, 0, 0)] (by decide +kernel) rfl (by trivial) ?_
  refine G_obj B (idx := 1) (List.mem_of_getElem? (i := 195) (by decide +kernel)) (List.mem_of_getElem? (i := 196) (by decide +kernel)) (List.mem_of_getElem? (i := 197) (by decide +kernel)) (by decide +kernel) (by decide) (by decide) ?_
  refine G_run B (flG_L (l := []) (by decide +kernel)) (pc1 := 5) (L1 := [some (.inr (.inr (some (4, 0)))), none]) (S1 := [.inr (.inr (some (4, 0)))]) (w1 := w) (P := True) [(.aload_n 0, 0, 0, 0, 0)] (by decide +kernel) rfl (by trivial) ?_
  refine G_new B (idx := 7) (k := 3) (i := 0) (by decide) (by decide +kernel) (by decide) (List.mem_of_getElem? (i := 198) (by decide +kernel)) (List.mem_of_getElem? (i := 199) (by decide +kernel)) (List.mem_of_getElem? (i := 11) (by decide +kernel)) (by decide +kernel) (by decide +kernel) (by decide) (by decide) ?_
  refine G_run B (flG_L (l := []) (by decide +kernel)) (pc1 := 9) (L1 := [some (.inr (.inr (some (4, 0)))), none]) (S1 := [.inr (.inr (some (3, 0))), .inr (.inr (some (3, 0))), .inr (.inr (some (4, 0)))]) (w1 := clr w 3 0) (P := True) [(.dup, 0, 0, 0, 0)] (by decide +kernel) rfl (by trivial) ?_
  refine G_callI B (As := []) (S := [.inr (.inr (some (3, 0))), .inr (.inr (some (4, 0)))]) (c_X3_0 l X hX (clr w 3 0)) me_X3_init mi_X3_init rfl lk_X4_9 (by decide +kernel) rfl (room_d (by decide) (by decide)) (by decide) (Nat.le_of_ble_eq_true rfl) (fun _ _ _ _ h => by rw [h.2.1]; decide) ?_
  rintro v n1 fl1 w1 ⟨rfl, rfl, rfl, rfl⟩
  show G _ _ _ _ _ _ _ _ _ _ _ _ 4 1022 _ 5 (flL [(3, 0, 3), (3, 0, 2), (3, 0, 1)]) 12 [some (.inr (.inr (some (4, 0)))), none] [.inr (.inr (some (3, 0))), .inr (.inr (some (4, 0)))] (w_X3_0 (clr w 3 0))
  refine G_putF B (idx := 10) (k := 4) (i := 0) (j := 0) (t := (3, some 0)) (by decide) (by decide +kernel) (by decide +kernel) (by decide +kernel) (by decide +kernel) hin (by decide +kernel) (by decide +kernel) ?_
  rw [flL_up]
  refine G_run B (flG_L (l := [(4, 0, 0), (3, 0, 3), (3, 0, 2), (3, 0, 1)]) (by decide +kernel)) (pc1 := 16) (L1 := [some (.inr (.inr (some (4, 0)))), none]) (S1 := [.inr (.inr (some (4, 0)))]) (w1 := w_X3_0 (clr w 3 0)) (P := True) [(.aload_n 0, 0, 0, 0, 0)] (by decide +kernel) rfl (by trivial) ?_
  refine G_new B (idx := 16) (k := 1) (i := 0) (by decide) (by decide +kernel) (by decide) (List.mem_of_getElem? (i := 219) (by decide +kernel)) (List.mem_of_getElem? (i := 220) (by decide +kernel)) (List.mem_of_getElem? (i := 12) (by decide +kernel)) (by decide +kernel) (by decide +kernel) (by decide) (by decide) ?_
  refine G_run B (flG_L (l := [(4, 0, 0), (3, 0, 3), (3, 0, 2), (3, 0, 1)]) (by decide +kernel)) (pc1 := 20) (L1 := [some (.inr (.inr (some (4, 0)))), none]) (S1 := [.inr (.inr (some (1, 0))), .inr (.inr (some (1, 0))), .inr (.inr (some (4, 0)))]) (w1 := clr (w_X3_0 (clr w 3 0)) 1 0) (P := True) [(.dup, 0, 0, 0, 0)] (by decide +kernel) rfl (by trivial) ?_
  refine G_callIN B (As := []) (S := [.inr (.inr (some (1, 0))), .inr (.inr (some (4, 0)))]) (c_X1_0 l X hX (clr (w_X3_0 (clr w 3 0)) 1 0)) me_X1_init mi_X1_init rfl ln_X4_18 (by decide +kernel) rfl (room_d (by decide) (by decide)) (by decide) (Nat.le_of_ble_eq_true rfl) (fun _ _ _ _ h => by rw [h.2.1]; decide) ?_
  rintro v n1 fl1 w1 ⟨rfl, rfl, rfl, rfl⟩
  show G _ _ _ _ _ _ _ _ _ _ _ _ 8 1354 _ 9 (flL [(1, 0, 4), (1, 0, 2), (1, 0, 0), (4, 0, 0), (3, 0, 3), (3, 0, 2), (3, 0, 1)]) 23 [some (.inr (.inr (some (4, 0)))), none] [.inr (.inr (some (1, 0))), .inr (.inr (some (4, 0)))] (w_X1_0 (clr (w_X3_0 (clr w 3 0)) 1 0))
  refine G_putF B (idx := 19) (k := 4) (i := 0) (j := 1) (t := (1, some 0)) (by decide) (by decide +kernel) (by decide +kernel) (by decide +kernel) (by decide +kernel) hin (by decide +kernel) (by decide +kernel) ?_
  rw [flL_up]
  refine G_run B (flG_L (l := [(4, 0, 1), (1, 0, 4), (1, 0, 2), (1, 0, 0), (4, 0, 0), (3, 0, 3), (3, 0, 2), (3, 0, 1)]) (by decide +kernel)) (pc1 := 27) (L1 := [some (.inr (.inr (some (4, 0)))), none]) (S1 := [.inr (.inr (some (4, 0)))]) (w1 := w_X1_0 (clr (w_X3_0 (clr w 3 0)) 1 0)) (P := True) [(.aload_n 0, 0, 0, 0, 0)] (by decide +kernel) rfl (by trivial) ?_
  refine G_new B (idx := 23) (k := 0) (i := 0) (by decide) (by decide +kernel) (by decide) (List.mem_of_getElem? (i := 256) (by decide +kernel)) (List.mem_of_getElem? (i := 257) (by decide +kernel)) (List.mem_of_getElem? (i := 13) (by decide +kernel)) (by decide +kernel) (by decide +kernel) (by decide) (by decide) ?_
  refine G_run B (flG_L (l := [(4, 0, 1), (1, 0, 4), (1, 0, 2), (1, 0, 0), (4, 0, 0), (3, 0, 3), (3, 0, 2), (3, 0, 1)]) (by decide +kernel)) (pc1 := 35) (L1 := [some (.inr (.inr (some (4, 0)))), none]) (S1 := [.inr (.inr (some (3, 0))), .inr (.inr (some (0, 0))), .inr (.inr (some (0, 0))), .inr (.inr (some (4, 0)))]) (w1 := clr (w_X1_0 (clr (w_X3_0 (clr w 3 0)) 1 0)) 0 0) (P := True) [(.dup, 0, 0, 0, 0), (.aload_n 0, 0, 0, 0, 0), (.getfield 10, 4, 0, 0, 0)] (by decide +kernel) rfl (by trivial) ?_
  refine G_callI B (As := [.inr (.inr (some (3, 0)))]) (S := [.inr (.inr (some (0, 0))), .inr (.inr (some (4, 0)))]) (c_X0_0 l X hX (clr (w_X1_0 (clr (w_X3_0 (clr w 3 0)) 1 0)) 0 0)) me_X0_init mi_X0_init rfl lk_X4_25 (by decide +kernel) rfl (room_d (by decide) (by decide)) (by decide) (Nat.le_of_ble_eq_true rfl) (fun _ _ _ _ h => by rw [h.2.1]; decide) ?_
  rintro v n1 fl1 w1 ⟨rfl, rfl, rfl, rfl⟩
  show G _ _ _ _ _ _ _ _ _ _ _ _ 15 1401 _ 16 (flL [(0, 0, 0), (0, 0, 10), (0, 0, 9), (0, 0, 8), (0, 0, 7), (0, 0, 6), (0, 0, 1), (4, 0, 1), (1, 0, 4), (1, 0, 2), (1, 0, 0), (4, 0, 0), (3, 0, 3), (3, 0, 2), (3, 0, 1)]) 38 [some (.inr (.inr (some (4, 0)))), none] [.inr (.inr (some (0, 0))), .inr (.inr (some (4, 0)))] (w_X0_0 (clr (w_X1_0 (clr (w_X3_0 (clr w 3 0)) 1 0)) 0 0))
  refine G_putF B (idx := 28) (k := 4) (i := 0) (j := 2) (t := (0, some 0)) (by decide) (by decide +kernel) (by decide +kernel) (by decide +kernel) (by decide +kernel) hin (by decide +kernel) (by decide +kernel) ?_
  rw [flL_up]
  refine G_run B (flG_L (l := [(4, 0, 2), (0, 0, 0), (0, 0, 10), (0, 0, 9), (0, 0, 8), (0, 0, 7), (0, 0, 6), (0, 0, 1), (4, 0, 1), (1, 0, 4), (1, 0, 2), (1, 0, 0), (4, 0, 0), (3, 0, 3), (3, 0, 2), (3, 0, 1)]) (by decide +kernel)) (pc1 := 42) (L1 := [some (.inr (.inr (some (4, 0)))), none]) (S1 := [.inr (.inr (some (4, 0)))]) (w1 := w_X0_0 (clr (w_X1_0 (clr (w_X3_0 (clr w 3 0)) 1 0)) 0 0)) (P := True) [(.aload_n 0, 0, 0, 0, 0)] (by decide +kernel) rfl (by trivial) ?_
  refine G_new B (idx := 23) (k := 0) (i := 1) (by decide) (by decide +kernel) (by decide) (List.mem_of_getElem? (i := 256) (by decide +kernel)) (List.mem_of_getElem? (i := 257) (by decide +kernel)) (List.mem_of_getElem? (i := 13) (by decide +kernel)) (by decide +kernel) (by decide +kernel) (by decide) (by decide) ?_
  refine G_run B (flG_L (l := [(4, 0, 2), (0, 0, 0), (0, 0, 10), (0, 0, 9), (0, 0, 8), (0, 0, 7), (0, 0, 6), (0, 0, 1), (4, 0, 1), (1, 0, 4), (1, 0, 2), (1, 0, 0), (4, 0, 0), (3, 0, 3), (3, 0, 2), (3, 0, 1)]) (by decide +kernel)) (pc1 := 50) (L1 := [some (.inr (.inr (some (4, 0)))), none]) (S1 := [.inr (.inr (some (3, 0))), .inr (.inr (some (0, 1))), .inr (.inr (some (0, 1))), .inr (.inr (some (4, 0)))]) (w1 := clr (w_X0_0 (clr (w_X1_0 (clr (w_X3_0 (clr w 3 0)) 1 0)) 0 0)) 0 1) (P := True) [(.dup, 0, 0, 0, 0), (.aload_n 0, 0, 0, 0, 0), (.getfield 10, 4, 0, 0, 0)] (by decide +kernel) rfl (by trivial) ?_
  refine G_callI B (As := [.inr (.inr (some (3, 0)))]) (S := [.inr (.inr (some (0, 1))), .inr (.inr (some (4, 0)))]) (c_X0_1 l X hX (clr (w_X0_0 (clr (w_X1_0 (clr (w_X3_0 (clr w 3 0)) 1 0)) 0 0)) 0 1)) me_X0_init mi_X0_init rfl lk_X4_25 (by decide +kernel) rfl (room_d (by decide) (by decide)) (by decide) (Nat.le_of_ble_eq_true rfl) (fun _ _ _ _ h => by rw [h.2.1]; decide) ?_
  rintro v n1 fl1 w1 ⟨rfl, rfl, rfl, rfl⟩
  show G _ _ _ _ _ _ _ _ _ _ _ _ 22 1448 _ 23 (flL [(0, 1, 0), (0, 1, 10), (0, 1, 9), (0, 1, 8), (0, 1, 7), (0, 1, 6), (0, 1, 1), (4, 0, 2), (0, 0, 0), (0, 0, 10), (0, 0, 9), (0, 0, 8), (0, 0, 7), (0, 0, 6), (0, 0, 1), (4, 0, 1), (1, 0, 4), (1, 0, 2), (1, 0, 0), (4, 0, 0), (3, 0, 3), (3, 0, 2), (3, 0, 1)]) 53 [some (.inr (.inr (some (4, 0)))), none] [.inr (.inr (some (0, 1))), .inr (.inr (some (4, 0)))] (w_X0_1 (clr (w_X0_0 (clr (w_X1_0 (clr (w_X3_0 (clr w 3 0)) 1 0)) 0 0)) 0 1))
  refine G_putF B (idx := 32) (k := 4) (i := 0) (j := 3) (t := (0, some 1)) (by decide) (by decide +kernel) (by decide +kernel) (by decide +kernel) (by decide +kernel) hin (by decide +kernel) (by decide +kernel) ?_
  rw [flL_up]
  refine G_run B (flG_L (l := [(4, 0, 3), (0, 1, 0), (0, 1, 10), (0, 1, 9), (0, 1, 8), (0, 1, 7), (0, 1, 6), (0, 1, 1), (4, 0, 2), (0, 0, 0), (0, 0, 10), (0, 0, 9), (0, 0, 8), (0, 0, 7), (0, 0, 6), (0, 0, 1), (4, 0, 1), (1, 0, 4), (1, 0, 2), (1, 0, 0), (4, 0, 0), (3, 0, 3), (3, 0, 2), (3, 0, 1)]) (by decide +kernel)) (pc1 := 57) (L1 := [some (.inr (.inr (some (4, 0)))), none]) (S1 := [.inr (.inr (some (4, 0)))]) (w1 := w_X0_1 (clr (w_X0_0 (clr (w_X1_0 (clr (w_X3_0 (clr w 3 0)) 1 0)) 0 0)) 0 1)) (P := True) [(.aload_n 0, 0, 0, 0, 0)] (by decide +kernel) rfl (by trivial) ?_
  refine G_new B (idx := 23) (k := 0) (i := 2) (by decide) (by decide +kernel) (by decide) (List.mem_of_getElem? (i := 256) (by decide +kernel)) (List.mem_of_getElem? (i := 257) (by decide +kernel)) (List.mem_of_getElem? (i := 13) (by decide +kernel)) (by decide +kernel) (by decide +kernel) (by decide) (by decide) ?_
  refine G_run B (flG_L (l := [(4, 0, 3), (0, 1, 0), (0, 1, 10), (0, 1, 9), (0, 1, 8), (0, 1, 7), (0, 1, 6), (0, 1, 1), (4, 0, 2), (0, 0, 0), (0, 0, 10), (0, 0, 9), (0, 0, 8), (0, 0, 7), (0, 0, 6), (0, 0, 1), (4, 0, 1), (1, 0, 4), (1, 0, 2), (1, 0, 0), (4, 0, 0), (3, 0, 3), (3, 0, 2), (3, 0, 1)]) (by decide +kernel)) (pc1 := 65) (L1 := [some (.inr (.inr (some (4, 0)))), none]) (S1 := [.inr (.inr (some (3, 0))), .inr (.inr (some (0, 2))), .inr (.inr (some (0, 2))), .inr (.inr (some (4, 0)))]) (w1 := clr (w_X0_1 (clr (w_X0_0 (clr (w_X1_0 (clr (w_X3_0 (clr w 3 0)) 1 0)) 0 0)) 0 1)) 0 2) (P := True) [(.dup, 0, 0, 0, 0), (.aload_n 0, 0, 0, 0, 0), (.getfield 10, 4, 0, 0, 0)] (by decide +kernel) rfl (by trivial) ?_
  refine G_callI B (As := [.inr (.inr (some (3, 0)))]) (S := [.inr (.inr (some (0, 2))), .inr (.inr (some (4, 0)))]) (c_X0_2 l X hX (clr (w_X0_1 (clr (w_X0_0 (clr (w_X1_0 (clr (w_X3_0 (clr w 3 0)) 1 0)) 0 0)) 0 1)) 0 2)) me_X0_init mi_X0_init rfl lk_X4_25 (by decide +kernel) rfl (room_d (by decide) (by decide)) (by decide) (Nat.le_of_ble_eq_true rfl) (fun _ _ _ _ h => by rw [h.2.1]; decide) ?_
  rintro v n1 fl1 w1 ⟨rfl, rfl, rfl, rfl⟩
  show G _ _ _ _ _ _ _ _ _ _ _ _ 29 1495 _ 30 (flL [(0, 2, 0), (0, 2, 10), (0, 2, 9), (0, 2, 8), (0, 2, 7), (0, 2, 6), (0, 2, 1), (4, 0, 3), (0, 1, 0), (0, 1, 10), (0, 1, 9), (0, 1, 8), (0, 1, 7), (0, 1, 6), (0, 1, 1), (4, 0, 2), (0, 0, 0), (0, 0, 10), (0, 0, 9), (0, 0, 8), (0, 0, 7), (0, 0, 6), (0, 0, 1), (4, 0, 1), (1, 0, 4), (1, 0, 2), (1, 0, 0), (4, 0, 0), (3, 0, 3), (3, 0, 2), (3, 0, 1)]) 68 [some (.inr (.inr (some (4, 0)))), none] [.inr (.inr (some (0, 2))), .inr (.inr (some (4, 0)))] (w_X0_2 (clr (w_X0_1 (clr (w_X0_0 (clr (w_X1_0 (clr (w_X3_0 (clr w 3 0)) 1 0)) 0 0)) 0 1)) 0 2))
  refine G_putF B (idx := 35) (k := 4) (i := 0) (j := 4) (t := (0, some 2)) (by decide) (by decide +kernel) (by decide +kernel) (by decide +kernel) (by decide +kernel) hin (by decide +kernel) (by decide +kernel) ?_
  rw [flL_up]
  refine G_run B (flG_L (l := [(4, 0, 4), (0, 2, 0), (0, 2, 10), (0, 2, 9), (0, 2, 8), (0, 2, 7), (0, 2, 6), (0, 2, 1), (4, 0, 3), (0, 1, 0), (0, 1, 10), (0, 1, 9), (0, 1, 8), (0, 1, 7), (0, 1, 6), (0, 1, 1), (4, 0, 2), (0, 0, 0), (0, 0, 10), (0, 0, 9), (0, 0, 8), (0, 0, 7), (0, 0, 6), (0, 0, 1), (4, 0, 1), (1, 0, 4), (1, 0, 2), (1, 0, 0), (4, 0, 0), (3, 0, 3), (3, 0, 2), (3, 0, 1)]) (by decide +kernel)) (pc1 := 73) (L1 := [some (.inr (.inr (some (4, 0)))), none]) (S1 := [.inl 4, .inr (.inr (some (4, 0)))]) (w1 := w_X0_2 (clr (w_X0_1 (clr (w_X0_0 (clr (w_X1_0 (clr (w_X3_0 (clr w 3 0)) 1 0)) 0 0)) 0 1)) 0 2)) (P := True) [(.aload_n 0, 0, 0, 0, 0), (.iconst 4, 0, 0, 4, 0)] (by decide +kernel) rfl (by trivial) ?_
  refine G_newq B (idx := 38) (by decide +kernel) (by decide) (List.mem_of_getElem? (i := 305) (by decide +kernel)) hAO (by decide) (by decide +kernel) (by decide +kernel) (by decide +kernel) (by decide) (by decide) ?_
  refine G_putF B (idx := 40) (k := 4) (i := 0) (j := 6) (t := (18, none)) (by decide) (by decide +kernel) (by decide +kernel) (by decide +kernel) (by decide +kernel) hin (by decide +kernel) (by decide +kernel) ?_
  rw [flL_up]
  refine G_run B (flG_L (l := [(4, 0, 6), (4, 0, 4), (0, 2, 0), (0, 2, 10), (0, 2, 9), (0, 2, 8), (0, 2, 7), (0, 2, 6), (0, 2, 1), (4, 0, 3), (0, 1, 0), (0, 1, 10), (0, 1, 9), (0, 1, 8), (0, 1, 7), (0, 1, 6), (0, 1, 1), (4, 0, 2), (0, 0, 0), (0, 0, 10), (0, 0, 9), (0, 0, 8), (0, 0, 7), (0, 0, 6), (0, 0, 1), (4, 0, 1), (1, 0, 4), (1, 0, 2), (1, 0, 0), (4, 0, 0), (3, 0, 3), (3, 0, 2), (3, 0, 1)]) (by decide +kernel)) (pc1 := 81) (L1 := [some (.inr (.inr (some (4, 0)))), some (.inl 0)]) (S1 := []) (w1 := w_X0_2 (clr (w_X0_1 (clr (w_X0_0 (clr (w_X1_0 (clr (w_X3_0 (clr w 3 0)) 1 0)) 0 0)) 0 1)) 0 2)) (P := True) [(.iconst 0, 0, 0, 0, 0), (.istore_n 1, 0, 0, 0, 0)] (by decide +kernel) rfl (by trivial) ?_
  refine G_run B (flG_L (l := [(4, 0, 6), (4, 0, 4), (0, 2, 0), (0, 2, 10), (0, 2, 9), (0, 2, 8), (0, 2, 7), (0, 2, 6), (0, 2, 1), (4, 0, 3), (0, 1, 0), (0, 1, 10), (0, 1, 9), (0, 1, 8), (0, 1, 7), (0, 1, 6), (0, 1, 1), (4, 0, 2), (0, 0, 0), (0, 0, 10), (0, 0, 9), (0, 0, 8), (0, 0, 7), (0, 0, 6), (0, 0, 1), (4, 0, 1), (1, 0, 4), (1, 0, 2), (1, 0, 0), (4, 0, 0), (3, 0, 3), (3, 0, 2), (3, 0, 1)]) (by decide +kernel)) (pc1 := 87) (L1 := [some (.inr (.inr (some (4, 0)))), some (.inl 0)]) (S1 := [.inl 4, .inl 0]) (w1 := w_X0_2 (clr (w_X0_1 (clr (w_X0_0 (clr (w_X1_0 (clr (w_X3_0 (clr w 3 0)) 1 0)) 0 0)) 0 1)) 0 2)) (P := True) [(.iload_n 1, 0, 0, 0, 0), (.aload_n 0, 0, 0, 0, 0), (.getfield 40, 4, 6, 0, 0), (.arraylength, 0, 0, 0, 0)] (by decide +kernel) rfl (by trivial) ?_
  refine G_icmp B (k := .ge) (off := 22) (tgt := 109) (by decide +kernel) (by decide) (fun h => absurd ((cnd_ge _ _).mp h) (by decide)) (fun _ => ?_)
  refine G_run B (flG_L (l := [(4, 0, 6), (4, 0, 4), (0, 2, 0), (0, 2, 10), (0, 2, 9), (0, 2, 8), (0, 2, 7), (0, 2, 6), (0, 2, 1), (4, 0, 3), (0, 1, 0), (0, 1, 10), (0, 1, 9), (0, 1, 8), (0, 1, 7), (0, 1, 6), (0, 1, 1), (4, 0, 2), (0, 0, 0), (0, 0, 10), (0, 0, 9), (0, 0, 8), (0, 0, 7), (0, 0, 6), (0, 0, 1), (4, 0, 1), (1, 0, 4), (1, 0, 2), (1, 0, 0), (4, 0, 0), (3, 0, 3), (3, 0, 2), (3, 0, 1)]) (by decide +kernel)) (pc1 := 95) (L1 := [some (.inr (.inr (some (4, 0)))), some (.inl 0)]) (S1 := [.inl 0, .inr (.inr (some (18, 0)))]) (w1 := w_X0_2 (clr (w_X0_1 (clr (w_X0_0 (clr (w_X1_0 (clr (w_X3_0 (clr w 3 0)) 1 0)) 0 0)) 0 1)) 0 2)) (P := True) [(.aload_n 0, 0, 0, 0, 0), (.getfield 40, 4, 6, 0, 0), (.iload_n 1, 0, 0, 0, 0)] (by decide +kernel) rfl (by trivial) ?_
  refine G_new B (idx := 38) (k := 2) (i := 0) (by decide) (by decide +kernel) (by decide) (List.mem_of_getElem? (i := 305) (by decide +kernel)) (List.mem_of_getElem? (i := 307) (by decide +kernel)) (List.mem_of_getElem? (i := 14) (by decide +kernel)) (by decide +kernel) (by decide +kernel) (by decide) (by decide) ?_
  refine G_run B (flG_L (l := [(4, 0, 6), (4, 0, 4), (0, 2, 0), (0, 2, 10), (0, 2, 9), (0, 2, 8), (0, 2, 7), (0, 2, 6), (0, 2, 1), (4, 0, 3), (0, 1, 0), (0, 1, 10), (0, 1, 9), (0, 1, 8), (0, 1, 7), (0, 1, 6), (0, 1, 1), (4, 0, 2), (0, 0, 0), (0, 0, 10), (0, 0, 9), (0, 0, 8), (0, 0, 7), (0, 0, 6), (0, 0, 1), (4, 0, 1), (1, 0, 4), (1, 0, 2), (1, 0, 0), (4, 0, 0), (3, 0, 3), (3, 0, 2), (3, 0, 1)]) (by decide +kernel)) (pc1 := 99) (L1 := [some (.inr (.inr (some (4, 0)))), some (.inl 0)]) (S1 := [.inr (.inr (some (2, 0))), .inr (.inr (some (2, 0))), .inl 0, .inr (.inr (some (18, 0)))]) (w1 := clr (w_X0_2 (clr (w_X0_1 (clr (w_X0_0 (clr (w_X1_0 (clr (w_X3_0 (clr w 3 0)) 1 0)) 0 0)) 0 1)) 0 2)) 2 0) (P := True) [(.dup, 0, 0, 0, 0)] (by decide +kernel) rfl (by trivial) ?_
  refine G_callIN B (As := []) (S := [.inr (.inr (some (2, 0))), .inl 0, .inr (.inr (some (18, 0)))]) (c_X2_0 l X hX (clr (w_X0_2 (clr (w_X0_1 (clr (w_X0_0 (clr (w_X1_0 (clr (w_X3_0 (clr w 3 0)) 1 0)) 0 0)) 0 1)) 0 2)) 2 0)) me_X2_init mi_X2_init rfl ln_X4_44 (by decide +kernel) rfl (room_d (by decide) (by decide)) (by decide) (Nat.le_of_ble_eq_true rfl) (fun _ _ _ _ h => by rw [h.2.1]; decide) ?_
  rintro v n1 fl1 w1 ⟨rfl, rfl, rfl, rfl⟩
  show G _ _ _ _ _ _ _ _ _ _ _ _ 32 1542 _ 33 (flL [(2, 0, 2), (4, 0, 6), (4, 0, 4), (0, 2, 0), (0, 2, 10), (0, 2, 9), (0, 2, 8), (0, 2, 7), (0, 2, 6), (0, 2, 1), (4, 0, 3), (0, 1, 0), (0, 1, 10), (0, 1, 9), (0, 1, 8), (0, 1, 7), (0, 1, 6), (0, 1, 1), (4, 0, 2), (0, 0, 0), (0, 0, 10), (0, 0, 9), (0, 0, 8), (0, 0, 7), (0, 0, 6), (0, 0, 1), (4, 0, 1), (1, 0, 4), (1, 0, 2), (1, 0, 0), (4, 0, 0), (3, 0, 3), (3, 0, 2), (3, 0, 1)]) 102 [some (.inr (.inr (some (4, 0)))), some (.inl 0)] [.inr (.inr (some (2, 0))), .inl 0, .inr (.inr (some (18, 0)))] (w_X2_0 (clr (w_X0_2 (clr (w_X0_1 (clr (w_X0_0 (clr (w_X1_0 (clr (w_X3_0 (clr w 3 0)) 1 0)) 0 0)) 0 1)) 0 2)) 2 0))
  refine G_aast B (j := 0) (by unfold vp_in; decide) (by decide +kernel) (by decide +kernel) ?_
  rw [flL_up]
  refine G_run B (flG_L (l := [(18, 0, 0), (2, 0, 2), (4, 0, 6), (4, 0, 4), (0, 2, 0), (0, 2, 10), (0, 2, 9), (0, 2, 8), (0, 2, 7), (0, 2, 6), (0, 2, 1), (4, 0, 3), (0, 1, 0), (0, 1, 10), (0, 1, 9), (0, 1, 8), (0, 1, 7), (0, 1, 6), (0, 1, 1), (4, 0, 2), (0, 0, 0), (0, 0, 10), (0, 0, 9), (0, 0, 8), (0, 0, 7), (0, 0, 6), (0, 0, 1), (4, 0, 1), (1, 0, 4), (1, 0, 2), (1, 0, 0), (4, 0, 0), (3, 0, 3), (3, 0, 2), (3, 0, 1)]) (by decide +kernel)) (pc1 := 106) (L1 := [some (.inr (.inr (some (4, 0)))), some (.inl (0 + 1))]) (S1 := []) (w1 := w_X2_0 (clr (w_X0_2 (clr (w_X0_1 (clr (w_X0_0 (clr (w_X1_0 (clr (w_X3_0 (clr w 3 0)) 1 0)) 0 0)) 0 1)) 0 2)) 2 0)) (P := True) [(.iinc 1 1, 0, 0, 1, 0)] (by decide +kernel) rfl (by trivial) ?_
  rw [show (0 + 1 : Int32) = 1 from rfl]
  refine G_run B (flG_L (l := [(18, 0, 0), (2, 0, 2), (4, 0, 6), (4, 0, 4), (0, 2, 0), (0, 2, 10), (0, 2, 9), (0, 2, 8), (0, 2, 7), (0, 2, 6), (0, 2, 1), (4, 0, 3), (0, 1, 0), (0, 1, 10), (0, 1, 9), (0, 1, 8), (0, 1, 7), (0, 1, 6), (0, 1, 1), (4, 0, 2), (0, 0, 0), (0, 0, 10), (0, 0, 9), (0, 0, 8), (0, 0, 7), (0, 0, 6), (0, 0, 1), (4, 0, 1), (1, 0, 4), (1, 0, 2), (1, 0, 0), (4, 0, 0), (3, 0, 3), (3, 0, 2), (3, 0, 1)]) (by decide +kernel)) (pc1 := 81) (L1 := [some (.inr (.inr (some (4, 0)))), some (.inl 1)]) (S1 := []) (w1 := w_X2_0 (clr (w_X0_2 (clr (w_X0_1 (clr (w_X0_0 (clr (w_X1_0 (clr (w_X3_0 (clr w 3 0)) 1 0)) 0 0)) 0 1)) 0 2)) 2 0)) (P := True) [(.goto (-25), 0, 0, 0, 0)] (by decide +kernel) rfl (by trivial) ?_
  refine G_run B (flG_L (l := [(18, 0, 0), (2, 0, 2), (4, 0, 6), (4, 0, 4), (0, 2, 0), (0, 2, 10), (0, 2, 9), (0, 2, 8), (0, 2, 7), (0, 2, 6), (0, 2, 1), (4, 0, 3), (0, 1, 0), (0, 1, 10), (0, 1, 9), (0, 1, 8), (0, 1, 7), (0, 1, 6), (0, 1, 1), (4, 0, 2), (0, 0, 0), (0, 0, 10), (0, 0, 9), (0, 0, 8), (0, 0, 7), (0, 0, 6), (0, 0, 1), (4, 0, 1), (1, 0, 4), (1, 0, 2), (1, 0, 0), (4, 0, 0), (3, 0, 3), (3, 0, 2), (3, 0, 1)]) (by decide +kernel)) (pc1 := 87) (L1 := [some (.inr (.inr (some (4, 0)))), some (.inl 1)]) (S1 := [.inl 4, .inl 1]) (w1 := w_X2_0 (clr (w_X0_2 (clr (w_X0_1 (clr (w_X0_0 (clr (w_X1_0 (clr (w_X3_0 (clr w 3 0)) 1 0)) 0 0)) 0 1)) 0 2)) 2 0)) (P := True) [(.iload_n 1, 0, 0, 0, 0), (.aload_n 0, 0, 0, 0, 0), (.getfield 40, 4, 6, 0, 0), (.arraylength, 0, 0, 0, 0)] (by decide +kernel) rfl (by trivial) ?_
  refine G_icmp B (k := .ge) (off := 22) (tgt := 109) (by decide +kernel) (by decide) (fun h => absurd ((cnd_ge _ _).mp h) (by decide)) (fun _ => ?_)
  refine G_run B (flG_L (l := [(18, 0, 0), (2, 0, 2), (4, 0, 6), (4, 0, 4), (0, 2, 0), (0, 2, 10), (0, 2, 9), (0, 2, 8), (0, 2, 7), (0, 2, 6), (0, 2, 1), (4, 0, 3), (0, 1, 0), (0, 1, 10), (0, 1, 9), (0, 1, 8), (0, 1, 7), (0, 1, 6), (0, 1, 1), (4, 0, 2), (0, 0, 0), (0, 0, 10), (0, 0, 9), (0, 0, 8), (0, 0, 7), (0, 0, 6), (0, 0, 1), (4, 0, 1), (1, 0, 4), (1, 0, 2), (1, 0, 0), (4, 0, 0), (3, 0, 3), (3, 0, 2), (3, 0, 1)]) (by decide +kernel)) (pc1 := 95) (L1 := [some (.inr (.inr (some (4, 0)))), some (.inl 1)]) (S1 := [.inl 1, .inr (.inr (some (18, 0)))]) (w1 := w_X2_0 (clr (w_X0_2 (clr (w_X0_1 (clr (w_X0_0 (clr (w_X1_0 (clr (w_X3_0 (clr w 3 0)) 1 0)) 0 0)) 0 1)) 0 2)) 2 0)) (P := True) [(.aload_n 0, 0, 0, 0, 0), (.getfield 40, 4, 6, 0, 0), (.iload_n 1, 0, 0, 0, 0)] (by decide +kernel) rfl (by trivial) ?_
  refine G_new B (idx := 38) (k := 2) (i := 1) (by decide) (by decide +kernel) (by decide) (List.mem_of_getElem? (i := 305) (by decide +kernel)) (List.mem_of_getElem? (i := 307) (by decide +kernel)) (List.mem_of_getElem? (i := 14) (by decide +kernel)) (by decide +kernel) (by decide +kernel) (by decide) (by decide) ?_
  refine G_run B (flG_L (l := [(18, 0, 0), (2, 0, 2), (4, 0, 6), (4, 0, 4), (0, 2, 0), (0, 2, 10), (0, 2, 9), (0, 2, 8), (0, 2, 7), (0, 2, 6), (0, 2, 1), (4, 0, 3), (0, 1, 0), (0, 1, 10), (0, 1, 9), (0, 1, 8), (0, 1, 7), (0, 1, 6), (0, 1, 1), (4, 0, 2), (0, 0, 0), (0, 0, 10), (0, 0, 9), (0, 0, 8), (0, 0, 7), (0, 0, 6), (0, 0, 1), (4, 0, 1), (1, 0, 4), (1, 0, 2), (1, 0, 0), (4, 0, 0), (3, 0, 3), (3, 0, 2), (3, 0, 1)]) (by decide +kernel)) (pc1 := 99) (L1 := [some (.inr (.inr (some (4, 0)))), some (.inl 1)]) (S1 := [.inr (.inr (some (2, 1))), .inr (.inr (some (2, 1))), .inl 1, .inr (.inr (some (18, 0)))]) (w1 := clr (w_X2_0 (clr (w_X0_2 (clr (w_X0_1 (clr (w_X0_0 (clr (w_X1_0 (clr (w_X3_0 (clr w 3 0)) 1 0)) 0 0)) 0 1)) 0 2)) 2 0)) 2 1) (P := True) [(.dup, 0, 0, 0, 0)] (by decide +kernel) rfl (by trivial) ?_
  refine G_callIN B (As := []) (S := [.inr (.inr (some (2, 1))), .inl 1, .inr (.inr (some (18, 0)))]) (c_X2_1 l X hX (clr (w_X2_0 (clr (w_X0_2 (clr (w_X0_1 (clr (w_X0_0 (clr (w_X1_0 (clr (w_X3_0 (clr w 3 0)) 1 0)) 0 0)) 0 1)) 0 2)) 2 0)) 2 1)) me_X2_init mi_X2_init rfl ln_X4_44 (by decide +kernel) rfl (room_d (by decide) (by decide)) (by decide) (Nat.le_of_ble_eq_true rfl) (fun _ _ _ _ h => by rw [h.2.1]; decide) ?_
  rintro v n1 fl1 w1 ⟨rfl, rfl, rfl, rfl⟩
  show G _ _ _ _ _ _ _ _ _ _ _ _ 34 1585 _ 35 (flL [(2, 1, 2), (18, 0, 0), (2, 0, 2), (4, 0, 6), (4, 0, 4), (0, 2, 0), (0, 2, 10), (0, 2, 9), (0, 2, 8), (0, 2, 7), (0, 2, 6), (0, 2, 1), (4, 0, 3), (0, 1, 0), (0, 1, 10), (0, 1, 9), (0, 1, 8), (0, 1, 7), (0, 1, 6), (0, 1, 1), (4, 0, 2), (0, 0, 0), (0, 0, 10), (0, 0, 9), (0, 0, 8), (0, 0, 7), (0, 0, 6), (0, 0, 1), (4, 0, 1), (1, 0, 4), (1, 0, 2), (1, 0, 0), (4, 0, 0), (3, 0, 3), (3, 0, 2), (3, 0, 1)]) 102 [some (.inr (.inr (some (4, 0)))), some (.inl 1)] [.inr (.inr (some (2, 1))), .inl 1, .inr (.inr (some (18, 0)))] (w_X2_1 (clr (w_X2_0 (clr (w_X0_2 (clr (w_X0_1 (clr (w_X0_0 (clr (w_X1_0 (clr (w_X3_0 (clr w 3 0)) 1 0)) 0 0)) 0 1)) 0 2)) 2 0)) 2 1))
  refine G_aast B (j := 1) (by unfold vp_in; decide) (by decide +kernel) (by decide +kernel) ?_
  rw [flL_up]
  refine G_run B (flG_L (l := [(18, 0, 1), (2, 1, 2), (18, 0, 0), (2, 0, 2), (4, 0, 6), (4, 0, 4), (0, 2, 0), (0, 2, 10), (0, 2, 9), (0, 2, 8), (0, 2, 7), (0, 2, 6), (0, 2, 1), (4, 0, 3), (0, 1, 0), (0, 1, 10), (0, 1, 9), (0, 1, 8), (0, 1, 7), (0, 1, 6), (0, 1, 1), (4, 0, 2), (0, 0, 0), (0, 0, 10), (0, 0, 9), (0, 0, 8), (0, 0, 7), (0, 0, 6), (0, 0, 1), (4, 0, 1), (1, 0, 4), (1, 0, 2), (1, 0, 0), (4, 0, 0), (3, 0, 3), (3, 0, 2), (3, 0, 1)]) (by decide +kernel)) (pc1 := 106) (L1 := [some (.inr (.inr (some (4, 0)))), some (.inl (1 + 1))]) (S1 := []) (w1 := w_X2_1 (clr (w_X2_0 (clr (w_X0_2 (clr (w_X0_1 (clr (w_X0_0 (clr (w_X1_0 (clr (w_X3_0 (clr w 3 0)) 1 0)) 0 0)) 0 1)) 0 2)) 2 0)) 2 1)) (P := True) [(.iinc 1 1, 0, 0, 1, 0)] (by decide +kernel) rfl (by trivial) ?_
  rw [show (1 + 1 : Int32) = 2 from rfl]
  refine G_run B (flG_L (l := [(18, 0, 1), (2, 1, 2), (18, 0, 0), (2, 0, 2), (4, 0, 6), (4, 0, 4), (0, 2, 0), (0, 2, 10), (0, 2, 9), (0, 2, 8), (0, 2, 7), (0, 2, 6), (0, 2, 1), (4, 0, 3), (0, 1, 0), (0, 1, 10), (0, 1, 9), (0, 1, 8), (0, 1, 7), (0, 1, 6), (0, 1, 1), (4, 0, 2), (0, 0, 0), (0, 0, 10), (0, 0, 9), (0, 0, 8), (0, 0, 7), (0, 0, 6), (0, 0, 1), (4, 0, 1), (1, 0, 4), (1, 0, 2), (1, 0, 0), (4, 0, 0), (3, 0, 3), (3, 0, 2), (3, 0, 1)]) (by decide +kernel)) (pc1 := 81) (L1 := [some (.inr (.inr (some (4, 0)))), some (.inl 2)]) (S1 := []) (w1 := w_X2_1 (clr (w_X2_0 (clr (w_X0_2 (clr (w_X0_1 (clr (w_X0_0 (clr (w_X1_0 (clr (w_X3_0 (clr w 3 0)) 1 0)) 0 0)) 0 1)) 0 2)) 2 0)) 2 1)) (P := True) [(.goto (-25), 0, 0, 0, 0)] (by decide +kernel) rfl (by trivial) ?_
  refine G_run B (flG_L (l := [(18, 0, 1), (2, 1, 2), (18, 0, 0), (2, 0, 2), (4, 0, 6), (4, 0, 4), (0, 2, 0), (0, 2, 10), (0, 2, 9), (0, 2, 8), (0, 2, 7), (0, 2, 6), (0, 2, 1), (4, 0, 3), (0, 1, 0), (0, 1, 10), (0, 1, 9), (0, 1, 8), (0, 1, 7), (0, 1, 6), (0, 1, 1), (4, 0, 2), (0, 0, 0), (0, 0, 10), (0, 0, 9), (0, 0, 8), (0, 0, 7), (0, 0, 6), (0, 0, 1), (4, 0, 1), (1, 0, 4), (1, 0, 2), (1, 0, 0), (4, 0, 0), (3, 0, 3), (3, 0, 2), (3, 0, 1)]) (by decide +kernel)) (pc1 := 87) (L1 := [some (.inr (.inr (some (4, 0)))), some (.inl 2)]) (S1 := [.inl 4, .inl 2]) (w1 := w_X2_1 (clr (w_X2_0 (clr (w_X0_2 (clr (w_X0_1 (clr (w_X0_0 (clr (w_X1_0 (clr (w_X3_0 (clr w 3 0)) 1 0)) 0 0)) 0 1)) 0 2)) 2 0)) 2 1)) (P := True) [(.iload_n 1, 0, 0, 0, 0), (.aload_n 0, 0, 0, 0, 0), (.getfield 40, 4, 6, 0, 0), (.arraylength, 0, 0, 0, 0)] (by decide +kernel) rfl (by trivial) ?_
  refine G_icmp B (k := .ge) (off := 22) (tgt := 109) (by decide +kernel) (by decide) (fun h => absurd ((cnd_ge _ _).mp h) (by decide)) (fun _ => ?_)
  refine G_run B (flG_L (l := [(18, 0, 1), (2, 1, 2), (18, 0, 0), (2, 0, 2), (4, 0, 6), (4, 0, 4), (0, 2, 0), (0, 2, 10), (0, 2, 9), (0, 2, 8), (0, 2, 7), (0, 2, 6), (0, 2, 1), (4, 0, 3), (0, 1, 0), (0, 1, 10), (0, 1, 9), (0, 1, 8), (0, 1, 7), (0, 1, 6), (0, 1, 1), (4, 0, 2), (0, 0, 0), (0, 0, 10), (0, 0, 9), (0, 0, 8), (0, 0, 7), (0, 0, 6), (0, 0, 1), (4, 0, 1), (1, 0, 4), (1, 0, 2), (1, 0, 0), (4, 0, 0), (3, 0, 3), (3, 0, 2), (3, 0, 1)]) (by decide +kernel)) (pc1 := 95) (L1 := [some (.inr (.inr (some (4, 0)))), some (.inl 2)]) (S1 := [.inl 2, .inr (.inr (some (18, 0)))]) (w1 := w_X2_1 (clr (w_X2_0 (clr (w_X0_2 (clr (w_X0_1 (clr (w_X0_0 (clr (w_X1_0 (clr (w_X3_0 (clr w 3 0)) 1 0)) 0 0)) 0 1)) 0 2)) 2 0)) 2 1)) (P := True) [(.aload_n 0, 0, 0, 0, 0), (.getfield 40, 4, 6, 0, 0), (.iload_n 1, 0, 0, 0, 0)] (by decide +kernel) rfl (by trivial) ?_
  refine G_new B (idx := 38) (k := 2) (i := 2) (by decide) (by decide +kernel) (by decide) (List.mem_of_getElem? (i := 305) (by decide +kernel)) (List.mem_of_getElem? (i := 307) (by decide +kernel)) (List.mem_of_getElem? (i := 14) (by decide +kernel)) (by decide +kernel) (by decide +kernel) (by decide) (by decide) ?_
  refine G_run B (flG_L (l := [(18, 0, 1), (2, 1, 2), (18, 0, 0), (2, 0, 2), (4, 0, 6), (4, 0, 4), (0, 2, 0), (0, 2, 10), (0, 2, 9), (0, 2, 8), (0, 2, 7), (0, 2, 6), (0, 2, 1), (4, 0, 3), (0, 1, 0), (0, 1, 10), (0, 1, 9), (0, 1, 8), (0, 1, 7), (0, 1, 6), (0, 1, 1), (4, 0, 2), (0, 0, 0), (0, 0, 10), (0, 0, 9), (0, 0, 8), (0, 0, 7), (0, 0, 6), (0, 0, 1), (4, 0, 1), (1, 0, 4), (1, 0, 2), (1, 0, 0), (4, 0, 0), (3, 0, 3), (3, 0, 2), (3, 0, 1)]) (by decide +kernel)) (pc1 := 99) (L1 := [some (.inr (.inr (some (4, 0)))), some (.inl 2)]) (S1 := [.inr (.inr (some (2, 2))), .inr (.inr (some (2, 2))), .inl 2, .inr (.inr (some (18, 0)))]) (w1 := clr (w_X2_1 (clr (w_X2_0 (clr (w_X0_2 (clr (w_X0_1 (clr (w_X0_0 (clr (w_X1_0 (clr (w_X3_0 (clr w 3 0)) 1 0)) 0 0)) 0 1)) 0 2)) 2 0)) 2 1)) 2 2) (P := True) [(.dup, 0, 0, 0, 0)] (by decide +kernel) rfl (by trivial) ?_
  refine G_callIN B (As := []) (S := [.inr (.inr (some (2, 2))), .inl 2, .inr (.inr (some (18, 0)))]) (c_X2_2 l X hX (clr (w_X2_1 (clr (w_X2_0 (clr (w_X0_2 (clr (w_X0_1 (clr (w_X0_0 (clr (w_X1_0 (clr (w_X3_0 (clr w 3 0)) 1 0)) 0 0)) 0 1)) 0 2)) 2 0)) 2 1)) 2 2)) me_X2_init mi_X2_init rfl ln_X4_44 (by decide +kernel) rfl (room_d (by decide) (by decide)) (by decide) (Nat.le_of_ble_eq_true rfl) (fun _ _ _ _ h => by rw [h.2.1]; decide) ?_
  rintro v n1 fl1 w1 ⟨rfl, rfl, rfl, rfl⟩
  show G _ _ _ _ _ _ _ _ _ _ _ _ 36 1628 _ 37 (flL [(2, 2, 2), (18, 0, 1), (2, 1, 2), (18, 0, 0), (2, 0, 2), (4, 0, 6), (4, 0, 4), (0, 2, 0), (0, 2, 10), (0, 2, 9), (0, 2, 8), (0, 2, 7), (0, 2, 6), (0, 2, 1), (4, 0, 3), (0, 1, 0), (0, 1, 10), (0, 1, 9), (0, 1, 8), (0, 1, 7), (0, 1, 6), (0, 1, 1), (4, 0, 2), (0, 0, 0), (0, 0, 10), (0, 0, 9), (0, 0, 8), (0, 0, 7), (0, 0, 6), (0, 0, 1), (4, 0, 1), (1, 0, 4), (1, 0, 2), (1, 0, 0), (4, 0, 0), (3, 0, 3), (3, 0, 2), (3, 0, 1)]) 102 [some (.inr (.inr (some (4, 0)))), some (.inl 2)] [.inr (.inr (some (2, 2))), .inl 2, .inr (.inr (some (18, 0)))] (w_X2_2 (clr (w_X2_1 (clr (w_X2_0 (clr (w_X0_2 (clr (w_X0_1 (clr (w_X0_0 (clr (w_X1_0 (clr (w_X3_0 (clr w 3 0)) 1 0)) 0 0)) 0 1)) 0 2)) 2 0)) 2 1)) 2 2))
  refine G_aast B (j := 2) (by unfold vp_in; decide) (by decide +kernel) (by decide +kernel) ?_
  rw [flL_up]
  refine G_run B (flG_L (l := [(18, 0, 2), (2, 2, 2), (18, 0, 1), (2, 1, 2), (18, 0, 0), (2, 0, 2), (4, 0, 6), (4, 0, 4), (0, 2, 0), (0, 2, 10), (0, 2, 9), (0, 2, 8), (0, 2, 7), (0, 2, 6), (0, 2, 1), (4, 0, 3), (0, 1, 0), (0, 1, 10), (0, 1, 9), (0, 1, 8), (0, 1, 7), (0, 1, 6), (0, 1, 1), (4, 0, 2), (0, 0, 0), (0, 0, 10), (0, 0, 9), (0, 0, 8), (0, 0, 7), (0, 0, 6), (0, 0, 1), (4, 0, 1), (1, 0, 4), (1, 0, 2), (1, 0, 0), (4, 0, 0), (3, 0, 3), (3, 0, 2), (3, 0, 1)]) (by decide +kernel)) (pc1 := 106) (L1 := [some (.inr (.inr (some (4, 0)))), some (.inl (2 + 1))]) (S1 := []) (w1 := w_X2_2 (clr (w_X2_1 (clr (w_X2_0 (clr (w_X0_2 (clr (w_X0_1 (clr (w_X0_0 (clr (w_X1_0 (clr (w_X3_0 (clr w 3 0)) 1 0)) 0 0)) 0 1)) 0 2)) 2 0)) 2 1)) 2 2)) (P := True) [(.iinc 1 1, 0, 0, 1, 0)] (by decide +kernel) rfl (by trivial) ?_
  rw [show (2 + 1 : Int32) = 3 from rfl]
  refine G_run B (flG_L (l := [(18, 0, 2), (2, 2, 2), (18, 0, 1), (2, 1, 2), (18, 0, 0), (2, 0, 2), (4, 0, 6), (4, 0, 4), (0, 2, 0), (0, 2, 10), (0, 2, 9), (0, 2, 8), (0, 2, 7), (0, 2, 6), (0, 2, 1), (4, 0, 3), (0, 1, 0), (0, 1, 10), (0, 1, 9), (0, 1, 8), (0, 1, 7), (0, 1, 6), (0, 1, 1), (4, 0, 2), (0, 0, 0), (0, 0, 10), (0, 0, 9), (0, 0, 8), (0, 0, 7), (0, 0, 6), (0, 0, 1), (4, 0, 1), (1, 0, 4), (1, 0, 2), (1, 0, 0), (4, 0, 0), (3, 0, 3), (3, 0, 2), (3, 0, 1)]) (by decide +kernel)) (pc1 := 81) (L1 := [some (.inr (.inr (some (4, 0)))), some (.inl 3)]) (S1 := []) (w1 := w_X2_2 (clr (w_X2_1 (clr (w_X2_0 (clr (w_X0_2 (clr (w_X0_1 (clr (w_X0_0 (clr (w_X1_0 (clr (w_X3_0 (clr w 3 0)) 1 0)) 0 0)) 0 1)) 0 2)) 2 0)) 2 1)) 2 2)) (P := True) [(.goto (-25), 0, 0, 0, 0)] (by decide +kernel) rfl (by trivial) ?_
  refine G_run B (flG_L (l := [(18, 0, 2), (2, 2, 2), (18, 0, 1), (2, 1, 2), (18, 0, 0), (2, 0, 2), (4, 0, 6), (4, 0, 4), (0, 2, 0), (0, 2, 10), (0, 2, 9), (0, 2, 8), (0, 2, 7), (0, 2, 6), (0, 2, 1), (4, 0, 3), (0, 1, 0), (0, 1, 10), (0, 1, 9), (0, 1, 8), (0, 1, 7), (0, 1, 6), (0, 1, 1), (4, 0, 2), (0, 0, 0), (0, 0, 10), (0, 0, 9), (0, 0, 8), (0, 0, 7), (0, 0, 6), (0, 0, 1), (4, 0, 1), (1, 0, 4), (1, 0, 2), (1, 0, 0), (4, 0, 0), (3, 0, 3), (3, 0, 2), (3, 0, 1)]) (by decide +kernel)) (pc1 := 87) (L1 := [some (.inr (.inr (some (4, 0)))), some (.inl 3)]) (S1 := [.inl 4, .inl 3]) (w1 := w_X2_2 (clr (w_X2_1 (clr (w_X2_0 (clr (w_X0_2 (clr (w_X0_1 (clr (w_X0_0 (clr (w_X1_0 (clr (w_X3_0 (clr w 3 0)) 1 0)) 0 0)) 0 1)) 0 2)) 2 0)) 2 1)) 2 2)) (P := True) [(.iload_n 1, 0, 0, 0, 0), (.aload_n 0, 0, 0, 0, 0), (.getfield 40, 4, 6, 0, 0), (.arraylength, 0, 0, 0, 0)] (by decide +kernel) rfl (by trivial) ?_
  refine G_icmp B (k := .ge) (off := 22) (tgt := 109) (by decide +kernel) (by decide) (fun h => absurd ((cnd_ge _ _).mp h) (by decide)) (fun _ => ?_)
  refine G_run B (flG_L (l := [(18, 0, 2), (2, 2, 2), (18, 0, 1), (2, 1, 2), (18, 0, 0), (2, 0, 2), (4, 0, 6), (4, 0, 4), (0, 2, 0), (0, 2, 10), (0, 2, 9), (0, 2, 8), (0, 2, 7), (0, 2, 6), (0, 2, 1), (4, 0, 3), (0, 1, 0), (0, 1, 10), (0, 1, 9), (0, 1, 8), (0, 1, 7), (0, 1, 6), (0, 1, 1), (4, 0, 2), (0, 0, 0), (0, 0, 10), (0, 0, 9), (0, 0, 8), (0, 0, 7), (0, 0, 6), (0, 0, 1), (4, 0, 1), (1, 0, 4), (1, 0, 2), (1, 0, 0), (4, 0, 0), (3, 0, 3), (3, 0, 2), (3, 0, 1)]) (by decide +kernel)) (pc1 := 95) (L1 := [some (.inr (.inr (some (4, 0)))), some (.inl 3)]) (S1 := [.inl 3, .inr (.inr (some (18, 0)))]) (w1 := w_X2_2 (clr (w_X2_1 (clr (w_X2_0 (clr (w_X0_2 (clr (w_X0_1 (clr (w_X0_0 (clr (w_X1_0 (clr (w_X3_0 (clr w 3 0)) 1 0)) 0 0)) 0 1)) 0 2)) 2 0)) 2 1)) 2 2)) (P := True) [(.aload_n 0, 0, 0, 0, 0), (.getfield 40, 4, 6, 0, 0), (.iload_n 1, 0, 0, 0, 0)] (by decide +kernel) rfl (by trivial) ?_
  refine G_new B (idx := 38) (k := 2) (i := 3) (by decide) (by decide +kernel) (by decide) (List.mem_of_getElem? (i := 305) (by decide +kernel)) (List.mem_of_getElem? (i := 307) (by decide +kernel)) (List.mem_of_getElem? (i := 14) (by decide +kernel)) (by decide +kernel) (by decide +kernel) (by decide) (by decide) ?_
  refine G_run B (flG_L (l := [(18, 0, 2), (2, 2, 2), (18, 0, 1), (2, 1, 2), (18, 0, 0), (2, 0, 2), (4, 0, 6), (4, 0, 4), (0, 2, 0), (0, 2, 10), (0, 2, 9), (0, 2, 8), (0, 2, 7), (0, 2, 6), (0, 2, 1), (4, 0, 3), (0, 1, 0), (0, 1, 10), (0, 1, 9), (0, 1, 8), (0, 1, 7), (0, 1, 6), (0, 1, 1), (4, 0, 2), (0, 0, 0), (0, 0, 10), (0, 0, 9), (0, 0, 8), (0, 0, 7), (0, 0, 6), (0, 0, 1), (4, 0, 1), (1, 0, 4), (1, 0, 2), (1, 0, 0), (4, 0, 0), (3, 0, 3), (3, 0, 2), (3, 0, 1)]) (by decide +kernel)) (pc1 := 99) (L1 := [some (.inr (.inr (some (4, 0)))), some (.inl 3)]) (S1 := [.inr (.inr (some (2, 3))), .inr (.inr (some (2, 3))), .inl 3, .inr (.inr (some (18, 0)))]) (w1 := clr (w_X2_2 (clr (w_X2_1 (clr (w_X2_0 (clr (w_X0_2 (clr (w_X0_1 (clr (w_X0_0 (clr (w_X1_0 (clr (w_X3_0 (clr w 3 0)) 1 0)) 0 0)) 0 1)) 0 2)) 2 0)) 2 1)) 2 2)) 2 3) (P := True) [(.dup, 0, 0, 0, 0)] (by decide +kernel) rfl (by trivial) ?_
  refine G_callIN B (As := []) (S := [.inr (.inr (some (2, 3))), .inl 3, .inr (.inr (some (18, 0)))]) (c_X2_3 l X hX (clr (w_X2_2 (clr (w_X2_1 (clr (w_X2_0 (clr (w_X0_2 (clr (w_X0_1 (clr (w_X0_0 (clr (w_X1_0 (clr (w_X3_0 (clr w 3 0)) 1 0)) 0 0)) 0 1)) 0 2)) 2 0)) 2 1)) 2 2)) 2 3)) me_X2_init mi_X2_init rfl ln_X4_44 (by decide +kernel) rfl (room_d (by decide) (by decide)) (by decide) (Nat.le_of_ble_eq_true rfl) (fun _ _ _ _ h => by rw [h.2.1]; decide) ?_
  rintro v n1 fl1 w1 ⟨rfl, rfl, rfl, rfl⟩
  show G _ _ _ _ _ _ _ _ _ _ _ _ 38 1671 _ 39 (flL [(2, 3, 2), (18, 0, 2), (2, 2, 2), (18, 0, 1), (2, 1, 2), (18, 0, 0), (2, 0, 2), (4, 0, 6), (4, 0, 4), (0, 2, 0), (0, 2, 10), (0, 2, 9), (0, 2, 8), (0, 2, 7), (0, 2, 6), (0, 2, 1), (4, 0, 3), (0, 1, 0), (0, 1, 10), (0, 1, 9), (0, 1, 8), (0, 1, 7), (0, 1, 6), (0, 1, 1), (4, 0, 2), (0, 0, 0), (0, 0, 10), (0, 0, 9), (0, 0, 8), (0, 0, 7), (0, 0, 6), (0, 0, 1), (4, 0, 1), (1, 0, 4), (1, 0, 2), (1, 0, 0), (4, 0, 0), (3, 0, 3), (3, 0, 2), (3, 0, 1)]) 102 [some (.inr (.inr (some (4, 0)))), some (.inl 3)] [.inr (.inr (some (2, 3))), .inl 3, .inr (.inr (some (18, 0)))] (w_X2_3 (clr (w_X2_2 (clr (w_X2_1 (clr (w_X2_0 (clr (w_X0_2 (clr (w_X0_1 (clr (w_X0_0 (clr (w_X1_0 (clr (w_X3_0 (clr w 3 0)) 1 0)) 0 0)) 0 1)) 0 2)) 2 0)) 2 1)) 2 2)) 2 3))
  refine G_aast B (j := 3) (by unfold vp_in; decide) (by decide +kernel) (by decide +kernel) ?_
  rw [flL_up]
  refine G_run B (flG_L (l := [(18, 0, 3), (2, 3, 2), (18, 0, 2), (2, 2, 2), (18, 0, 1), (2, 1, 2), (18, 0, 0), (2, 0, 2), (4, 0, 6), (4, 0, 4), (0, 2, 0), (0, 2, 10), (0, 2, 9), (0, 2, 8), (0, 2, 7), (0, 2, 6), (0, 2, 1), (4, 0, 3), (0, 1, 0), (0, 1, 10), (0, 1, 9), (0, 1, 8), (0, 1, 7), (0, 1, 6), (0, 1, 1), (4, 0, 2), (0, 0, 0), (0, 0, 10), (0, 0, 9), (0, 0, 8), (0, 0, 7), (0, 0, 6), (0, 0, 1), (4, 0, 1), (1, 0, 4), (1, 0, 2), (1, 0, 0), (4, 0, 0), (3, 0, 3), (3, 0, 2), (3, 0, 1)]) (by decide +kernel)) (pc1 := 106) (L1 := [some (.inr (.inr (some (4, 0)))), some (.inl (3 + 1))]) (S1 := []) (w1 := w_X2_3 (clr (w_X2_2 (clr (w_X2_1 (clr (w_X2_0 (clr (w_X0_2 (clr (w_X0_1 (clr (w_X0_0 (clr (w_X1_0 (clr (w_X3_0 (clr w 3 0)) 1 0)) 0 0)) 0 1)) 0 2)) 2 0)) 2 1)) 2 2)) 2 3)) (P := True) [(.iinc 1 1, 0, 0, 1, 0)] (by decide +kernel) rfl (by trivial) ?_
  rw [show (3 + 1 : Int32) = 4 from rfl]
  refine G_run B (flG_L (l := [(18, 0, 3), (2, 3, 2), (18, 0, 2), (2, 2, 2), (18, 0, 1), (2, 1, 2), (18, 0, 0), (2, 0, 2), (4, 0, 6), (4, 0, 4), (0, 2, 0), (0, 2, 10), (0, 2, 9), (0, 2, 8), (0, 2, 7), (0, 2, 6), (0, 2, 1), (4, 0, 3), (0, 1, 0), (0, 1, 10), (0, 1, 9), (0, 1, 8), (0, 1, 7), (0, 1, 6), (0, 1, 1), (4, 0, 2), (0, 0, 0), (0, 0, 10), (0, 0, 9), (0, 0, 8), (0, 0, 7), (0, 0, 6), (0, 0, 1), (4, 0, 1), (1, 0, 4), (1, 0, 2), (1, 0, 0), (4, 0, 0), (3, 0, 3), (3, 0, 2), (3, 0, 1)]) (by decide +kernel)) (pc1 := 81) (L1 := [some (.inr (.inr (some (4, 0)))), some (.inl 4)]) (S1 := []) (w1 := w_X2_3 (clr (w_X2_2 (clr (w_X2_1 (clr (w_X2_0 (clr (w_X0_2 (clr (w_X0_1 (clr (w_X0_0 (clr (w_X1_0 (clr (w_X3_0 (clr w 3 0)) 1 0)) 0 0)) 0 1)) 0 2)) 2 0)) 2 1)) 2 2)) 2 3)) (P := True) [(.goto (-25), 0, 0, 0, 0)] (by decide +kernel) rfl (by trivial) ?_
  refine G_run B (flG_L (l := [(18, 0, 3), (2, 3, 2), (18, 0, 2), (2, 2, 2), (18, 0, 1), (2, 1, 2), (18, 0, 0), (2, 0, 2), (4, 0, 6), (4, 0, 4), (0, 2, 0), (0, 2, 10), (0, 2, 9), (0, 2, 8), (0, 2, 7), (0, 2, 6), (0, 2, 1), (4, 0, 3), (0, 1, 0), (0, 1, 10), (0, 1, 9), (0, 1, 8), (0, 1, 7), (0, 1, 6), (0, 1, 1), (4, 0, 2), (0, 0, 0), (0, 0, 10), (0, 0, 9), (0, 0, 8), (0, 0, 7), (0, 0, 6), (0, 0, 1), (4, 0, 1), (1, 0, 4), (1, 0, 2), (1, 0, 0), (4, 0, 0), (3, 0, 3), (3, 0, 2), (3, 0, 1)]) (by decide +kernel)) (pc1 := 87) (L1 := [some (.inr (.inr (some (4, 0)))), some (.inl 4)]) (S1 := [.inl 4, .inl 4]) (w1 := w_X2_3 (clr (w_X2_2 (clr (w_X2_1 (clr (w_X2_0 (clr (w_X0_2 (clr (w_X0_1 (clr (w_X0_0 (clr (w_X1_0 (clr (w_X3_0 (clr w 3 0)) 1 0)) 0 0)) 0 1)) 0 2)) 2 0)) 2 1)) 2 2)) 2 3)) (P := True) [(.iload_n 1, 0, 0, 0, 0), (.aload_n 0, 0, 0, 0, 0), (.getfield 40, 4, 6, 0, 0), (.arraylength, 0, 0, 0, 0)] (by decide +kernel) rfl (by trivial) ?_
  refine G_icmp B (k := .ge) (off := 22) (tgt := 109) (by decide +kernel) (by decide) (fun _ => ?_) (fun h => absurd ((cnd_ge _ _).mpr (by decide)) h)
  exact G_vret B rfl (by decide +kernel) ⟨rfl, rfl, rfl, rfl⟩
end
