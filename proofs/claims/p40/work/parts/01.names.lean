-- ===== PART A: goes FIRST, ahead of the names: the tables' words, and 'selects' of the private methods out of them =====
/-- a private method of a class that the tables say can be made, by its rows of tables_1 -/
def lw_okq (q : MethodName × Nat) : Prop := (q.1.cls ≠ "java/lang/invoke/MethodHandle" ∧ q.1.cls ≠ "java/lang/invoke/VarHandle") ∧ Cond.instantiable q.1.cls q.2 ∈ tables_1 ∧ Cond.privateMethod q.1 ∈ tables_1 ∧ Cond.instanceMethod q.1 ∈ tables_1
theorem lw_p0 : lw_okq (⟨"NameThrownBack$Reader", "next", "()V"⟩, 9) := ⟨⟨by decide +kernel, by decide +kernel⟩, List.mem_of_getElem? (i := 211) (by decide +kernel), List.mem_of_getElem? (i := 663) (by decide +kernel), List.mem_of_getElem? (i := 664) (by decide +kernel)⟩
theorem lw_p1 : lw_okq (⟨"NameThrownBack$Reader", "isLetter", "(I)Z"⟩, 9) := ⟨⟨by decide +kernel, by decide +kernel⟩, List.mem_of_getElem? (i := 211) (by decide +kernel), List.mem_of_getElem? (i := 668) (by decide +kernel), List.mem_of_getElem? (i := 669) (by decide +kernel)⟩
theorem lw_p2 : lw_okq (⟨"NameThrownBack$Reader", "endOfWord", "(I)I"⟩, 9) := ⟨⟨by decide +kernel, by decide +kernel⟩, List.mem_of_getElem? (i := 211) (by decide +kernel), List.mem_of_getElem? (i := 672) (by decide +kernel), List.mem_of_getElem? (i := 673) (by decide +kernel)⟩
theorem lw_p3 : lw_okq (⟨"NameThrownBack$Reader", "wordOf", "()I"⟩, 9) := ⟨⟨by decide +kernel, by decide +kernel⟩, List.mem_of_getElem? (i := 211) (by decide +kernel), List.mem_of_getElem? (i := 676) (by decide +kernel), List.mem_of_getElem? (i := 677) (by decide +kernel)⟩
theorem lw_p4 : lw_okq (⟨"NameThrownBack$Reader", "spells", "(Ljava/lang/String;)Z"⟩, 9) := ⟨⟨by decide +kernel, by decide +kernel⟩, List.mem_of_getElem? (i := 211) (by decide +kernel), List.mem_of_getElem? (i := 681) (by decide +kernel), List.mem_of_getElem? (i := 682) (by decide +kernel)⟩
theorem lw_p5 : lw_okq (⟨"NameThrownBack$Reader", "isDigit", "(I)Z"⟩, 9) := ⟨⟨by decide +kernel, by decide +kernel⟩, List.mem_of_getElem? (i := 211) (by decide +kernel), List.mem_of_getElem? (i := 698) (by decide +kernel), List.mem_of_getElem? (i := 699) (by decide +kernel)⟩
theorem lw_p6 : lw_okq (⟨"NameThrownBack$Reader", "endOfNumber", "(I)I"⟩, 9) := ⟨⟨by decide +kernel, by decide +kernel⟩, List.mem_of_getElem? (i := 211) (by decide +kernel), List.mem_of_getElem? (i := 702) (by decide +kernel), List.mem_of_getElem? (i := 703) (by decide +kernel)⟩
theorem lw_p7 : lw_okq (⟨"NameThrownBack$Reader", "write", "(I)V"⟩, 9) := ⟨⟨by decide +kernel, by decide +kernel⟩, List.mem_of_getElem? (i := 211) (by decide +kernel), List.mem_of_getElem? (i := 718) (by decide +kernel), List.mem_of_getElem? (i := 719) (by decide +kernel)⟩
theorem lw_p8 : lw_okq (⟨"NameThrownBack", "rowAt", "(I)LNameThrownBack$Sheet;"⟩, 7) := ⟨⟨by decide +kernel, by decide +kernel⟩, List.mem_of_getElem? (i := 182) (by decide +kernel), List.mem_of_getElem? (i := 746) (by decide +kernel), List.mem_of_getElem? (i := 747) (by decide +kernel)⟩
def lw_privs_1 : List (MethodName × Nat) := [(⟨"NameThrownBack$Reader", "next", "()V"⟩, 9), (⟨"NameThrownBack$Reader", "isLetter", "(I)Z"⟩, 9), (⟨"NameThrownBack$Reader", "endOfWord", "(I)I"⟩, 9), (⟨"NameThrownBack$Reader", "wordOf", "()I"⟩, 9), (⟨"NameThrownBack$Reader", "spells", "(Ljava/lang/String;)Z"⟩, 9), (⟨"NameThrownBack$Reader", "isDigit", "(I)Z"⟩, 9), (⟨"NameThrownBack$Reader", "endOfNumber", "(I)I"⟩, 9), (⟨"NameThrownBack$Reader", "write", "(I)V"⟩, 9), (⟨"NameThrownBack", "rowAt", "(I)LNameThrownBack$Sheet;"⟩, 7)]
theorem lw_r1 : ∀ q ∈ lw_privs_1, lw_okq q := List.forall_mem_cons.mpr ⟨lw_p0, List.forall_mem_cons.mpr ⟨lw_p1, List.forall_mem_cons.mpr ⟨lw_p2, List.forall_mem_cons.mpr ⟨lw_p3, List.forall_mem_cons.mpr ⟨lw_p4, List.forall_mem_cons.mpr ⟨lw_p5, List.forall_mem_cons.mpr ⟨lw_p6, List.forall_mem_cons.mpr ⟨lw_p7, List.forall_mem_cons.mpr ⟨lw_p8, fun _ h => absurd h List.not_mem_nil⟩⟩⟩⟩⟩⟩⟩⟩⟩
def lw_privs : List (MethodName × Nat) := lw_privs_1
def lw_tbl : List Cond := k2_sels lw_privs ++ tables_1
theorem lw_privs_ok : ∀ q ∈ lw_privs, lw_okq q := lw_r1
def RX0 : String := "NameThrownBack$Coast"
def TX0 : u_T := fun k => match k with
  | 0 => ("NameThrownBack$Coast", "texts", "LNameThrownBack$Texts;", true)
  | 1 => ("NameThrownBack$Coast", "names", "[I", true)
  | 2 => ("NameThrownBack$Coast", "fishers", "I", false)
  | 3 => ("NameThrownBack$Coast", "sea", "I", false)
  | 4 => ("NameThrownBack$Coast", "tide", "I", false)
  | 5 => ("NameThrownBack$Coast", "law", "I", false)
  | 6 => ("NameThrownBack$Coast", "kind", "[I", true)
  | 7 => ("NameThrownBack$Coast", "more", "[I", true)
  | 8 => ("NameThrownBack$Coast", "known", "[I", true)
  | 9 => ("NameThrownBack$Coast", "kept", "[I", true)
  | _ => ("NameThrownBack$Coast", "luck", "[I", true)
def tyX0 : Nat → FieldType := fun k => match k with
  | 0 => .object "NameThrownBack$Texts"
  | 1 => .array .int
  | 2 => .int
  | 3 => .int
  | 4 => .int
  | 5 => .int
  | 6 => .array .int
  | 7 => .array .int
  | 8 => .array .int
  | 9 => .array .int
  | _ => .array .int
theorem nmX0 : ∀ a, a < 11 → ∀ b, b < 11 → a ≠ b → (TX0 a).2.1 ≠ (TX0 b).2.1 := by decide +kernel
theorem tyX0_ok : ∀ k, k < 11 → parseFieldDescriptor (TX0 k).2.2.1 = some (tyX0 k) := by decide +kernel
abbrev cX0_init : ByteArray := prog_2_method_1_code
def yX0_init : MethodName := ⟨RX0, "<init>", "(LNameThrownBack$Texts;)V"⟩
abbrev cX0_become : ByteArray := prog_2_method_2_code
def yX0_become : MethodName := ⟨RX0, "become", "(LNameThrownBack$Coast;)V"⟩
abbrev cX0_has : ByteArray := prog_2_method_3_code
def yX0_has : MethodName := ⟨RX0, "has", "(I)Z"⟩
abbrev cX0_comes : ByteArray := prog_2_method_4_code
def yX0_comes : MethodName := ⟨RX0, "comes", "(III)I"⟩
abbrev cX0_nameless : ByteArray := prog_2_method_5_code
def yX0_nameless : MethodName := ⟨RX0, "nameless", "(I)I"⟩
abbrev cX0_knownToAny : ByteArray := prog_2_method_6_code
def yX0_knownToAny : MethodName := ⟨RX0, "knownToAny", "()I"⟩
abbrev cX0_says : ByteArray := prog_2_method_7_code
def yX0_says : MethodName := ⟨RX0, "says", "(III)I"⟩
abbrev cX0_letsGo : ByteArray := prog_2_method_8_code
def yX0_letsGo : MethodName := ⟨RX0, "letsGo", "(II)I"⟩
abbrev cX0_lucksBy : ByteArray := prog_2_method_9_code
def yX0_lucksBy : MethodName := ⟨RX0, "lucksBy", "(II)I"⟩
abbrev cX0_takesOf : ByteArray := prog_2_method_10_code
def yX0_takesOf : MethodName := ⟨RX0, "takesOf", "(I)I"⟩
abbrev cX0_landing : ByteArray := prog_2_method_11_code
def yX0_landing : MethodName := ⟨RX0, "landing", "(II)I"⟩
abbrev cX0_learns : ByteArray := prog_2_method_12_code
def yX0_learns : MethodName := ⟨RX0, "learns", "(II)I"⟩
abbrev cX0_isTold : ByteArray := prog_2_method_13_code
def yX0_isTold : MethodName := ⟨RX0, "isTold", "(II)V"⟩
abbrev cX0_washes : ByteArray := prog_2_method_14_code
def yX0_washes : MethodName := ⟨RX0, "washes", "()I"⟩
def RX1 : String := "NameThrownBack$Reader"
def TX1 : u_T := fun k => match k with
  | 0 => ("NameThrownBack$Reader", "tape", "[I", true)
  | 1 => ("NameThrownBack$Reader", "size", "I", false)
  | 2 => ("NameThrownBack$Reader", "code", "[I", true)
  | 3 => ("NameThrownBack$Reader", "written", "I", false)
  | 4 => ("NameThrownBack$Reader", "ends", "[I", true)
  | 5 => ("NameThrownBack$Reader", "token", "I", false)
  | 6 => ("NameThrownBack$Reader", "place", "I", false)
  | 7 => ("NameThrownBack$Reader", "behind", "I", false)
  | _ => ("NameThrownBack$Reader", "number", "I", false)
def tyX1 : Nat → FieldType := fun k => match k with
  | 0 => .array .int
  | 1 => .int
  | 2 => .array .int
  | 3 => .int
  | 4 => .array .int
  | 5 => .int
  | 6 => .int
  | 7 => .int
  | _ => .int
theorem nmX1 : ∀ a, a < 9 → ∀ b, b < 9 → a ≠ b → (TX1 a).2.1 ≠ (TX1 b).2.1 := by decide +kernel
theorem tyX1_ok : ∀ k, k < 9 → parseFieldDescriptor (TX1 k).2.2.1 = some (tyX1 k) := by decide +kernel
abbrev cX1_init : ByteArray := prog_3_method_1_code
def yX1_init : MethodName := ⟨RX1, "<init>", "()V"⟩
abbrev cX1_add : ByteArray := prog_3_method_2_code
def yX1_add : MethodName := ⟨RX1, "add", "(I)V"⟩
abbrev cX1_faultOf : ByteArray := prog_3_method_3_code
def yX1_faultOf : MethodName := ⟨RX1, "faultOf", "()I"⟩
abbrev cX1_readsE : ByteArray := prog_3_method_4_code
def yX1_readsE : MethodName := ⟨RX1, "readsE", "(LNameThrownBack$Reader;I)Z"⟩
abbrev cX1_readsAnd : ByteArray := prog_3_method_5_code
def yX1_readsAnd : MethodName := ⟨RX1, "readsAnd", "(LNameThrownBack$Reader;I)Z"⟩
abbrev cX1_readsNot : ByteArray := prog_3_method_6_code
def yX1_readsNot : MethodName := ⟨RX1, "readsNot", "(LNameThrownBack$Reader;I)Z"⟩
abbrev cX1_readsSum : ByteArray := prog_3_method_7_code
def yX1_readsSum : MethodName := ⟨RX1, "readsSum", "(LNameThrownBack$Reader;I)Z"⟩
abbrev cX1_readsTerm : ByteArray := prog_3_method_8_code
def yX1_readsTerm : MethodName := ⟨RX1, "readsTerm", "(LNameThrownBack$Reader;I)Z"⟩
abbrev cX1_readsOne : ByteArray := prog_3_method_9_code
def yX1_readsOne : MethodName := ⟨RX1, "readsOne", "(LNameThrownBack$Reader;I)Z"⟩
abbrev cX1_write : ByteArray := prog_3_method_10_code
def yX1_write : MethodName := ⟨RX1, "write", "(I)V"⟩
abbrev cX1_next : ByteArray := prog_3_method_11_code
def yX1_next : MethodName := ⟨RX1, "next", "()V"⟩
abbrev cX1_endOfWord : ByteArray := prog_3_method_12_code
def yX1_endOfWord : MethodName := ⟨RX1, "endOfWord", "(I)I"⟩
abbrev cX1_endOfNumber : ByteArray := prog_3_method_13_code
def yX1_endOfNumber : MethodName := ⟨RX1, "endOfNumber", "(I)I"⟩
abbrev cX1_wordOf : ByteArray := prog_3_method_14_code
def yX1_wordOf : MethodName := ⟨RX1, "wordOf", "()I"⟩
abbrev cX1_spells : ByteArray := prog_3_method_15_code
def yX1_spells : MethodName := ⟨RX1, "spells", "(Ljava/lang/String;)Z"⟩
abbrev cX1_isLetter : ByteArray := prog_3_method_16_code
def yX1_isLetter : MethodName := ⟨RX1, "isLetter", "(I)Z"⟩
abbrev cX1_isDigit : ByteArray := prog_3_method_17_code
def yX1_isDigit : MethodName := ⟨RX1, "isDigit", "(I)Z"⟩
abbrev cX1_isSign : ByteArray := prog_3_method_18_code
def yX1_isSign : MethodName := ⟨RX1, "isSign", "(I)Z"⟩
def RX2 : String := "NameThrownBack$Sheet"
def TX2 : u_T := fun k => match k with
  | 0 => ("NameThrownBack$Sheet", "sort", "I", false)
  | 1 => ("NameThrownBack$Sheet", "size", "I", false)
  | _ => ("NameThrownBack$Sheet", "cells", "[I", true)
def tyX2 : Nat → FieldType := fun k => match k with
  | 0 => .int
  | 1 => .int
  | _ => .array .int
theorem nmX2 : ∀ a, a < 3 → ∀ b, b < 3 → a ≠ b → (TX2 a).2.1 ≠ (TX2 b).2.1 := by decide +kernel
theorem tyX2_ok : ∀ k, k < 3 → parseFieldDescriptor (TX2 k).2.2.1 = some (tyX2 k) := by decide +kernel
abbrev cX2_init : ByteArray := prog_4_method_1_code
def yX2_init : MethodName := ⟨RX2, "<init>", "()V"⟩
abbrev cX2_becomes : ByteArray := prog_4_method_2_code
def yX2_becomes : MethodName := ⟨RX2, "becomes", "(II)V"⟩
abbrev cX2_write : ByteArray := prog_4_method_3_code
def yX2_write : MethodName := ⟨RX2, "write", "(II)V"⟩
def RX3 : String := "NameThrownBack$Texts"
def TX3 : u_T := fun k => match k with
  | 0 => ("NameThrownBack$Texts", "many", "I", false)
  | 1 => ("NameThrownBack$Texts", "codes", "[I", true)
  | 2 => ("NameThrownBack$Texts", "ends", "[I", true)
  | _ => ("NameThrownBack$Texts", "waiting", "[I", true)
def tyX3 : Nat → FieldType := fun k => match k with
  | 0 => .int
  | 1 => .array .int
  | 2 => .array .int
  | _ => .array .int
theorem nmX3 : ∀ a, a < 4 → ∀ b, b < 4 → a ≠ b → (TX3 a).2.1 ≠ (TX3 b).2.1 := by decide +kernel
theorem tyX3_ok : ∀ k, k < 4 → parseFieldDescriptor (TX3 k).2.2.1 = some (tyX3 k) := by decide +kernel
abbrev cX3_init : ByteArray := prog_5_method_1_code
def yX3_init : MethodName := ⟨RX3, "<init>", "()V"⟩
abbrev cX3_add : ByteArray := prog_5_method_2_code
def yX3_add : MethodName := ⟨RX3, "add", "([I[I)I"⟩
abbrev cX3_value : ByteArray := prog_5_method_3_code
def yX3_value : MethodName := ⟨RX3, "value", "(II[I)I"⟩
abbrev cX3_ofTwo : ByteArray := prog_5_method_4_code
def yX3_ofTwo : MethodName := ⟨RX3, "ofTwo", "(III)I"⟩
def RX4 : String := "NameThrownBack"
def TX4 : u_T := fun k => match k with
  | 0 => ("NameThrownBack", "texts", "LNameThrownBack$Texts;", true)
  | 1 => ("NameThrownBack", "reader", "LNameThrownBack$Reader;", true)
  | 2 => ("NameThrownBack", "now", "LNameThrownBack$Coast;", true)
  | 3 => ("NameThrownBack", "thought", "LNameThrownBack$Coast;", true)
  | 4 => ("NameThrownBack", "kept", "LNameThrownBack$Coast;", true)
  | 5 => ("NameThrownBack", "imaged", "Z", false)
  | _ => ("NameThrownBack", "sheets", "[LNameThrownBack$Sheet;", true)
def tyX4 : Nat → FieldType := fun k => match k with
  | 0 => .object "NameThrownBack$Texts"
  | 1 => .object "NameThrownBack$Reader"
  | 2 => .object "NameThrownBack$Coast"
  | 3 => .object "NameThrownBack$Coast"
  | 4 => .object "NameThrownBack$Coast"
  | 5 => .boolean
  | _ => .array (.object "NameThrownBack$Sheet")
theorem nmX4 : ∀ a, a < 7 → ∀ b, b < 7 → a ≠ b → (TX4 a).2.1 ≠ (TX4 b).2.1 := by decide +kernel
theorem tyX4_ok : ∀ k, k < 7 → parseFieldDescriptor (TX4 k).2.2.1 = some (tyX4 k) := by decide +kernel
abbrev cX4_init : ByteArray := prog_1_method_1_code
def yX4_init : MethodName := ⟨RX4, "<init>", "()V"⟩
abbrev cX4_count : ByteArray := prog_1_method_2_code
def yX4_count : MethodName := ⟨RX4, "count", "(I)I"⟩
abbrev cX4_shore : ByteArray := prog_1_method_3_code
def yX4_shore : MethodName := ⟨RX4, "shore", "(II)I"⟩
abbrev cX4_feed : ByteArray := prog_1_method_4_code
def yX4_feed : MethodName := ⟨RX4, "feed", "(IIIIII)I"⟩
abbrev cX4_text : ByteArray := prog_1_method_5_code
def yX4_text : MethodName := ⟨RX4, "text", "()I"⟩
abbrev cX4_force : ByteArray := prog_1_method_6_code
def yX4_force : MethodName := ⟨RX4, "force", "(I)I"⟩
abbrev cX4_fisher : ByteArray := prog_1_method_8_code
def yX4_fisher : MethodName := ⟨RX4, "fisher", "(II)I"⟩
abbrev cX4_put : ByteArray := prog_1_method_9_code
def yX4_put : MethodName := ⟨RX4, "put", "(III)I"⟩
abbrev cX4_told : ByteArray := prog_1_method_10_code
def yX4_told : MethodName := ⟨RX4, "told", "(II)I"⟩
abbrev cX4_lands : ByteArray := prog_1_method_11_code
def yX4_lands : MethodName := ⟨RX4, "lands", "(III)I"⟩
abbrev cX4_land : ByteArray := prog_1_method_12_code
def yX4_land : MethodName := ⟨RX4, "land", "(II)I"⟩
abbrev cX4_teach : ByteArray := prog_1_method_13_code
def yX4_teach : MethodName := ⟨RX4, "teach", "(II)I"⟩
abbrev cX4_tide : ByteArray := prog_1_method_14_code
def yX4_tide : MethodName := ⟨RX4, "tide", "()I"⟩
abbrev cX4_talk : ByteArray := prog_1_method_15_code
def yX4_talk : MethodName := ⟨RX4, "talk", "(II)I"⟩
abbrev cX4_which : ByteArray := prog_1_method_21_code
def yX4_which : MethodName := ⟨RX4, "which", "(II)I"⟩
abbrev cX4_lessons : ByteArray := prog_1_method_23_code
def yX4_lessons : MethodName := ⟨RX4, "lessons", "(III)I"⟩
abbrev cX4_lessonsTo : ByteArray := prog_1_method_24_code
def yX4_lessonsTo : MethodName := ⟨RX4, "lessonsTo", "(LNameThrownBack$Coast;III)I"⟩
abbrev cX4_lessonsFrom : ByteArray := prog_1_method_25_code
def yX4_lessonsFrom : MethodName := ⟨RX4, "lessonsFrom", "(LNameThrownBack$Coast;IIII)I"⟩
abbrev cX4_when : ByteArray := prog_1_method_26_code
def yX4_when : MethodName := ⟨RX4, "when", "(I)I"⟩
abbrev cX4_sheet : ByteArray := prog_1_method_43_code
def yX4_sheet : MethodName := ⟨RX4, "sheet", "(III)I"⟩
abbrev cX4_cell : ByteArray := prog_1_method_44_code
def yX4_cell : MethodName := ⟨RX4, "cell", "(III)I"⟩
abbrev cX4_rowAt : ByteArray := prog_1_method_48_code
def yX4_rowAt : MethodName := ⟨RX4, "rowAt", "(I)LNameThrownBack$Sheet;"⟩
abbrev cX4_at : ByteArray := prog_1_method_51_code
def yX4_at : MethodName := ⟨RX4, "at", "([II)I"⟩
abbrev cX4_set : ByteArray := prog_1_method_52_code
def yX4_set : MethodName := ⟨RX4, "set", "([III)V"⟩
abbrev cX4_swap : ByteArray := prog_1_method_53_code
def yX4_swap : MethodName := ⟨RX4, "swap", "([III)I"⟩
abbrev cX4_isThing : ByteArray := prog_1_method_54_code
def yX4_isThing : MethodName := ⟨RX4, "isThing", "(I)Z"⟩
abbrev cX4_isSet : ByteArray := prog_1_method_55_code
def yX4_isSet : MethodName := ⟨RX4, "isSet", "(I)Z"⟩
abbrev cX4_isByte : ByteArray := prog_1_method_56_code
def yX4_isByte : MethodName := ⟨RX4, "isByte", "(I)Z"⟩
abbrev cX4_holds : ByteArray := prog_1_method_58_code
def yX4_holds : MethodName := ⟨RX4, "holds", "(II)Z"⟩
abbrev cX4_bounded : ByteArray := prog_1_method_59_code
def yX4_bounded : MethodName := ⟨RX4, "bounded", "(III)I"⟩
abbrev cX4_numbered : ByteArray := prog_1_method_60_code
def yX4_numbered : MethodName := ⟨RX4, "numbered", "(II)I"⟩
abbrev cX4_leastOf : ByteArray := prog_1_method_61_code
def yX4_leastOf : MethodName := ⟨RX4, "leastOf", "(II)I"⟩
def RX5 : String := "NameThrownBackModel"
def TX5 : u_T := fun k => match k with
  | _ => ("", "", "", false)
def tyX5 : Nat → FieldType := fun k => match k with
  | _ => .int
theorem nmX5 : ∀ a, a < 0 → ∀ b, b < 0 → a ≠ b → (TX5 a).2.1 ≠ (TX5 b).2.1 := by decide +kernel
theorem tyX5_ok : ∀ k, k < 0 → parseFieldDescriptor (TX5 k).2.2.1 = some (tyX5 k) := by decide +kernel
def RJ5 : String := "java/lang/AbstractStringBuilder"
abbrev cJ5_init_d00df : ByteArray := prog_8_method_2_code
def yJ5_init_d00df : MethodName := ⟨RJ5, "<init>", "(I)V"⟩
abbrev cJ5_length_8abf5 : ByteArray := prog_8_method_6_code
def yJ5_length_8abf5 : MethodName := ⟨RJ5, "length", "()I"⟩
abbrev cJ5_ensureCapacityInternal_d00df : ByteArray := prog_8_method_9_code
def yJ5_ensureCapacityInternal_d00df : MethodName := ⟨RJ5, "ensureCapacityInternal", "(I)V"⟩
abbrev cJ5_newCapacity_0f7a4 : ByteArray := prog_8_method_10_code
def yJ5_newCapacity_0f7a4 : MethodName := ⟨RJ5, "newCapacity", "(I)I"⟩
abbrev cJ5_inflate_da8c8 : ByteArray := prog_8_method_11_code
def yJ5_inflate_da8c8 : MethodName := ⟨RJ5, "inflate", "()V"⟩
abbrev cJ5_append_cf1ce : ByteArray := prog_8_method_22_code
def yJ5_append_cf1ce : MethodName := ⟨RJ5, "append", "(Ljava/lang/String;)Ljava/lang/AbstractStringBuilder;"⟩
abbrev cJ5_appendNull_278bc : ByteArray := prog_8_method_26_code
def yJ5_appendNull_278bc : MethodName := ⟨RJ5, "appendNull", "()Ljava/lang/AbstractStringBuilder;"⟩
abbrev cJ5_append_c97b9 : ByteArray := prog_8_method_32_code
def yJ5_append_c97b9 : MethodName := ⟨RJ5, "append", "(I)Ljava/lang/AbstractStringBuilder;"⟩
abbrev cJ5_getValue_6d5f1 : ByteArray := prog_8_method_64_code
def yJ5_getValue_6d5f1 : MethodName := ⟨RJ5, "getValue", "()[B"⟩
abbrev cJ5_isLatin1_aae02 : ByteArray := prog_8_method_68_code
def yJ5_isLatin1_aae02 : MethodName := ⟨RJ5, "isLatin1", "()Z"⟩
abbrev cJ5_inflateIfNeededFor_a7421 : ByteArray := prog_8_method_71_code
def yJ5_inflateIfNeededFor_a7421 : MethodName := ⟨RJ5, "inflateIfNeededFor", "(Ljava/lang/String;)V"⟩
abbrev cJ5_putStringAt_47b60 : ByteArray := prog_8_method_73_code
def yJ5_putStringAt_47b60 : MethodName := ⟨RJ5, "putStringAt", "(ILjava/lang/String;)V"⟩
def RJx8e188 : String := "java/lang/Cloneable"
def RJ6 : String := "java/lang/Integer"
abbrev cJ6_getChars_ba4f3 : ByteArray := prog_10_method_12_code
def yJ6_getChars_ba4f3 : MethodName := ⟨RJ6, "getChars", "(II[B)I"⟩
abbrev cJ6_stringSize_0f7a4 : ByteArray := prog_10_method_13_code
def yJ6_stringSize_0f7a4 : MethodName := ⟨RJ6, "stringSize", "(I)I"⟩
abbrev cJ6_numberOfTrailingZeros_0f7a4 : ByteArray := prog_10_method_48_code
def yJ6_numberOfTrailingZeros_0f7a4 : MethodName := ⟨RJ6, "numberOfTrailingZeros", "(I)I"⟩
abbrev cJ6_bitCount_0f7a4 : ByteArray := prog_10_method_49_code
def yJ6_bitCount_0f7a4 : MethodName := ⟨RJ6, "bitCount", "(I)I"⟩
def RJ13 : String := "java/lang/Long"
abbrev cJ13_numberOfTrailingZeros_95d88 : ByteArray := prog_11_method_49_code
def yJ13_numberOfTrailingZeros_95d88 : MethodName := ⟨RJ13, "numberOfTrailingZeros", "(J)I"⟩
abbrev cJ13_bitCount_95d88 : ByteArray := prog_11_method_50_code
def yJ13_bitCount_95d88 : MethodName := ⟨RJ13, "bitCount", "(J)I"⟩
def RJ9 : String := "java/lang/Math"
abbrev cJ9_floorMod_7cf53 : ByteArray := prog_12_method_50_code
def yJ9_floorMod_7cf53 : MethodName := ⟨RJ9, "floorMod", "(II)I"⟩
abbrev cJ9_max_7cf53 : ByteArray := prog_12_method_65_code
def yJ9_max_7cf53 : MethodName := ⟨RJ9, "max", "(II)I"⟩
abbrev cJ9_max_f86c9 : ByteArray := prog_12_method_66_code
def yJ9_max_f86c9 : MethodName := ⟨RJ9, "max", "(JJ)J"⟩
abbrev cJ9_min_7cf53 : ByteArray := prog_12_method_69_code
def yJ9_min_7cf53 : MethodName := ⟨RJ9, "min", "(II)I"⟩
abbrev cJ9_min_f86c9 : ByteArray := prog_12_method_70_code
def yJ9_min_f86c9 : MethodName := ⟨RJ9, "min", "(JJ)J"⟩
def RJ0 : String := "java/lang/String"
abbrev cJ0_init_81219 : ByteArray := prog_13_method_53_code
def yJ0_init_81219 : MethodName := ⟨RJ0, "<init>", "(Ljava/lang/StringBuilder;)V"⟩
abbrev cJ0_length_8abf5 : ByteArray := prog_13_method_54_code
def yJ0_length_8abf5 : MethodName := ⟨RJ0, "length", "()I"⟩
abbrev cJ0_charAt_5068e : ByteArray := prog_13_method_56_code
def yJ0_charAt_5068e : MethodName := ⟨RJ0, "charAt", "(I)C"⟩
abbrev cJ0_getBytes_840e7 : ByteArray := prog_13_method_147_code
def yJ0_getBytes_840e7 : MethodName := ⟨RJ0, "getBytes", "([BIB)V"⟩
abbrev cJ0_init_db425 : ByteArray := prog_13_method_150_code
def yJ0_init_db425 : MethodName := ⟨RJ0, "<init>", "(Ljava/lang/AbstractStringBuilder;Ljava/lang/Void;)V"⟩
abbrev cJ0_coder_7d493 : ByteArray := prog_13_method_152_code
def yJ0_coder_7d493 : MethodName := ⟨RJ0, "coder", "()B"⟩
abbrev cJ0_isLatin1_aae02 : ByteArray := prog_13_method_154_code
def yJ0_isLatin1_aae02 : MethodName := ⟨RJ0, "isLatin1", "()Z"⟩
abbrev cJ0_checkIndex_df160 : ByteArray := prog_13_method_155_code
def yJ0_checkIndex_df160 : MethodName := ⟨RJ0, "checkIndex", "(II)V"⟩
abbrev cJ0_checkBoundsOffCount_cabcc : ByteArray := prog_13_method_157_code
def yJ0_checkBoundsOffCount_cabcc : MethodName := ⟨RJ0, "checkBoundsOffCount", "(III)I"⟩
abbrev cJ0_checkBoundsBeginEnd_23922 : ByteArray := prog_13_method_158_code
def yJ0_checkBoundsBeginEnd_23922 : MethodName := ⟨RJ0, "checkBoundsBeginEnd", "(III)V"⟩
def RJ4 : String := "java/lang/StringBuilder"
abbrev cJ4_init_da8c8 : ByteArray := prog_14_method_1_code
def yJ4_init_da8c8 : MethodName := ⟨RJ4, "<init>", "()V"⟩
abbrev cJ4_append_15ec4 : ByteArray := prog_14_method_7_code
def yJ4_append_15ec4 : MethodName := ⟨RJ4, "append", "(Ljava/lang/String;)Ljava/lang/StringBuilder;"⟩
abbrev cJ4_append_bf812 : ByteArray := prog_14_method_15_code
def yJ4_append_bf812 : MethodName := ⟨RJ4, "append", "(I)Ljava/lang/StringBuilder;"⟩
abbrev cJ4_toString_0e30d : ByteArray := prog_14_method_42_code
def yJ4_toString_0e30d : MethodName := ⟨RJ4, "toString", "()Ljava/lang/String;"⟩
abbrev cJ4_length_8abf5 : ByteArray := prog_14_method_93_code
def yJ4_length_8abf5 : MethodName := ⟨RJ4, "length", "()I"⟩
def RJ1 : String := "java/lang/StringLatin1"
abbrev cJ1_charAt_3b067 : ByteArray := prog_15_method_2_code
def yJ1_charAt_3b067 : MethodName := ⟨RJ1, "charAt", "([BI)C"⟩
abbrev cJ1_inflate_0e8fd : ByteArray := prog_15_method_50_code
def yJ1_inflate_0e8fd : MethodName := ⟨RJ1, "inflate", "([BI[BII)V"⟩
def RJ2 : String := "java/lang/StringUTF16"
abbrev cJ2_newBytesFor_77867 : ByteArray := prog_16_method_2_code
def yJ2_newBytesFor_77867 : MethodName := ⟨RJ2, "newBytesFor", "(I)[B"⟩
abbrev cJ2_newBytesLength_0f7a4 : ByteArray := prog_16_method_3_code
def yJ2_newBytesLength_0f7a4 : MethodName := ⟨RJ2, "newBytesLength", "(I)I"⟩
abbrev cJ2_putChar_b72d1 : ByteArray := prog_16_method_4_code
def yJ2_putChar_b72d1 : MethodName := ⟨RJ2, "putChar", "([BII)V"⟩
abbrev cJ2_getChar_3b067 : ByteArray := prog_16_method_5_code
def yJ2_getChar_3b067 : MethodName := ⟨RJ2, "getChar", "([BI)C"⟩
abbrev cJ2_length_9d52b : ByteArray := prog_16_method_6_code
def yJ2_length_9d52b : MethodName := ⟨RJ2, "length", "([B)I"⟩
abbrev cJ2_coderFromArrayLen_85cad : ByteArray := prog_16_method_15_code
def yJ2_coderFromArrayLen_85cad : MethodName := ⟨RJ2, "coderFromArrayLen", "([BI)B"⟩
abbrev cJ2_compress_39247 : ByteArray := prog_16_method_17_code
def yJ2_compress_39247 : MethodName := ⟨RJ2, "compress", "([BII)[B"⟩
abbrev cJ2_compress_5af95 : ByteArray := prog_16_method_22_code
def yJ2_compress_5af95 : MethodName := ⟨RJ2, "compress", "([BI[BII)I"⟩
abbrev cJ2_getChars_46870 : ByteArray := prog_16_method_77_code
def yJ2_getChars_46870 : MethodName := ⟨RJ2, "getChars", "(III[B)I"⟩
abbrev cJ2_putCharsAt_cd4e5 : ByteArray := prog_16_method_81_code
def yJ2_putCharsAt_cd4e5 : MethodName := ⟨RJ2, "putCharsAt", "([BICCCC)I"⟩
abbrev cJ2_charAt_3b067 : ByteArray := prog_16_method_83_code
def yJ2_charAt_3b067 : MethodName := ⟨RJ2, "charAt", "([BI)C"⟩
abbrev cJ2_inflate_0e8fd : ByteArray := prog_16_method_86_code
def yJ2_inflate_0e8fd : MethodName := ⟨RJ2, "inflate", "([BI[BII)V"⟩
abbrev cJ2_getChars_ba4f3 : ByteArray := prog_16_method_89_code
def yJ2_getChars_ba4f3 : MethodName := ⟨RJ2, "getChars", "(II[B)I"⟩
abbrev cJ2_checkIndex_2214a : ByteArray := prog_16_method_91_code
def yJ2_checkIndex_2214a : MethodName := ⟨RJ2, "checkIndex", "(I[B)V"⟩
abbrev cJ2_checkBoundsBeginEnd_d044e : ByteArray := prog_16_method_93_code
def yJ2_checkBoundsBeginEnd_d044e : MethodName := ⟨RJ2, "checkBoundsBeginEnd", "(II[B)V"⟩
abbrev cJ2_checkBoundsOffCount_d044e : ByteArray := prog_16_method_94_code
def yJ2_checkBoundsOffCount_d044e : MethodName := ⟨RJ2, "checkBoundsOffCount", "(II[B)V"⟩
def RJ10 : String := "java/lang/System"
def RJ7 : String := "java/util/Arrays"
abbrev cJ7_copyOf_9075b : ByteArray := prog_18_method_121_code
def yJ7_copyOf_9075b : MethodName := ⟨RJ7, "copyOf", "([BI)[B"⟩
abbrev cJ7_checkLength_df160 : ByteArray := prog_18_method_131_code
def yJ7_checkLength_df160 : MethodName := ⟨RJ7, "checkLength", "(II)V"⟩
abbrev cJ7_copyOfRange_39247 : ByteArray := prog_18_method_132_code
def yJ7_copyOfRange_39247 : MethodName := ⟨RJ7, "copyOfRange", "([BII)[B"⟩
abbrev cJ7_copyOfRangeByte_39247 : ByteArray := prog_18_method_133_code
def yJ7_copyOfRangeByte_39247 : MethodName := ⟨RJ7, "copyOfRangeByte", "([BII)[B"⟩
def RJ8 : String := "jdk/internal/util/ArraysSupport"
abbrev cJ8_newLength_cabcc : ByteArray := prog_19_method_27_code
def yJ8_newLength_cabcc : MethodName := ⟨RJ8, "newLength", "(III)I"⟩
abbrev cJ8_hugeLength_7cf53 : ByteArray := prog_19_method_28_code
def yJ8_hugeLength_7cf53 : MethodName := ⟨RJ8, "hugeLength", "(II)I"⟩
def RJ3 : String := "jdk/internal/util/Preconditions"
abbrev cJ3_checkIndex_8e157 : ByteArray := prog_20_method_11_code
def yJ3_checkIndex_8e157 : MethodName := ⟨RJ3, "checkIndex", "(IILjava/util/function/BiFunction;)I"⟩
abbrev cJ3_checkFromToIndex_8c36e : ByteArray := prog_20_method_12_code
def yJ3_checkFromToIndex_8c36e : MethodName := ⟨RJ3, "checkFromToIndex", "(IIILjava/util/function/BiFunction;)I"⟩
abbrev cJ3_checkFromIndexSize_8c36e : ByteArray := prog_20_method_13_code
def yJ3_checkFromIndexSize_8c36e : MethodName := ⟨RJ3, "checkFromIndexSize", "(IIILjava/util/function/BiFunction;)I"⟩
def RL : String := "NameThrownBackLaw"
abbrev cL_at : ByteArray := method_2_code
def yL_at : MethodName := ⟨RL, "at", "([II)I"⟩
abbrev cL_text : ByteArray := method_3_code
def yL_text : MethodName := ⟨RL, "text", "(LNameThrownBack;Ljava/lang/String;)V"⟩
abbrev cL_build : ByteArray := method_4_code
def yL_build : MethodName := ⟨RL, "build", "([I)LNameThrownBack;"⟩
abbrev cL_plain : ByteArray := method_5_code
def yL_plain : MethodName := ⟨RL, "plain", "([I)Z"⟩
abbrev cL_many : ByteArray := method_6_code
def yL_many : MethodName := ⟨RL, "many", "([I)I"⟩
abbrev cL_sea : ByteArray := method_7_code
def yL_sea : MethodName := ⟨RL, "sea", "([I)I"⟩
abbrev cL_tide : ByteArray := method_8_code
def yL_tide : MethodName := ⟨RL, "tide", "([I)I"⟩
abbrev cL_length : ByteArray := method_9_code
def yL_length : MethodName := ⟨RL, "length", "([I)I"⟩
abbrev cL_thing : ByteArray := method_10_code
def yL_thing : MethodName := ⟨RL, "thing", "([II)I"⟩
abbrev cL_kind : ByteArray := method_11_code
def yL_kind : MethodName := ⟨RL, "kind", "([II)I"⟩
abbrev cL_more : ByteArray := method_12_code
def yL_more : MethodName := ⟨RL, "more", "([II)I"⟩
abbrev cL_known : ByteArray := method_13_code
def yL_known : MethodName := ⟨RL, "known", "([II)I"⟩
abbrev cL_kept : ByteArray := method_14_code
def yL_kept : MethodName := ⟨RL, "kept", "([II)I"⟩
abbrev cL_luck : ByteArray := method_15_code
def yL_luck : MethodName := ⟨RL, "luck", "([II)I"⟩
abbrev cL_held : ByteArray := method_16_code
def yL_held : MethodName := ⟨RL, "held", "(JII)I"⟩
abbrev cL_start : ByteArray := method_17_code
def yL_start : MethodName := ⟨RL, "start", "([I[J)V"⟩
abbrev cL_lets : ByteArray := method_18_code
def yL_lets : MethodName := ⟨RL, "lets", "([I[JII)I"⟩
abbrev cL_lucks : ByteArray := method_19_code
def yL_lucks : MethodName := ⟨RL, "lucks", "([I[JII)J"⟩
abbrev cL_takes : ByteArray := method_20_code
def yL_takes : MethodName := ⟨RL, "takes", "([I[JI)J"⟩
abbrev cL_land : ByteArray := method_21_code
def yL_land : MethodName := ⟨RL, "land", "([I[JII)I"⟩
abbrev cL_lesson : ByteArray := method_22_code
def yL_lesson : MethodName := ⟨RL, "lesson", "([I[JII)J"⟩
abbrev cL_pass : ByteArray := method_23_code
def yL_pass : MethodName := ⟨RL, "pass", "([I[J)I"⟩
abbrev cL_same : ByteArray := method_24_code
def yL_same : MethodName := ⟨RL, "same", "([I[JLNameThrownBack;)Z"⟩
abbrev cL_law : ByteArray := code
def yL_law : MethodName := ⟨RL, "law", "([I)Z"⟩
abbrev classes : List vw_C := [(RX0, TX0, 11), (RX1, TX1, 9), (RX2, TX2, 3), (RX3, TX3, 4), (RX4, TX4, 7), (RX4, TX4, 7)]
def cC (ci : Nat) : vw_C := classes.getD ci (RX0, TX0, 0)
def tyC (ci : Nat) : Nat → FieldType := [tyX0, tyX1, tyX2, tyX3, tyX4, tyX4].getD ci tyX0
theorem inX0 : ∀ w ∈ u_ws RX0 TX0 11, w ∈ lw_tbl := by
  have h : u_ws RX0 TX0 11 = ([282, 284, 286, 288, 290, 292, 294, 296, 298, 300, 302] : List Nat).filterMap (fun i => lw_tbl[i]?) := by decide +kernel
  intro w hw; rw [h] at hw; obtain ⟨i, -, hi⟩ := List.mem_filterMap.mp hw; exact List.mem_of_getElem? hi
theorem inX1 : ∀ w ∈ u_ws RX1 TX1 9, w ∈ lw_tbl := by
  have h : u_ws RX1 TX1 9 = ([237, 239, 241, 243, 245, 247, 249, 251, 253] : List Nat).filterMap (fun i => lw_tbl[i]?) := by decide +kernel
  intro w hw; rw [h] at hw; obtain ⟨i, -, hi⟩ := List.mem_filterMap.mp hw; exact List.mem_of_getElem? hi
theorem inX2 : ∀ w ∈ u_ws RX2 TX2 3, w ∈ lw_tbl := by
  have h : u_ws RX2 TX2 3 = ([317, 319, 321] : List Nat).filterMap (fun i => lw_tbl[i]?) := by decide +kernel
  intro w hw; rw [h] at hw; obtain ⟨i, -, hi⟩ := List.mem_filterMap.mp hw; exact List.mem_of_getElem? hi
theorem inX3 : ∀ w ∈ u_ws RX3 TX3 4, w ∈ lw_tbl := by
  have h : u_ws RX3 TX3 4 = ([209, 211, 213, 215] : List Nat).filterMap (fun i => lw_tbl[i]?) := by decide +kernel
  intro w hw; rw [h] at hw; obtain ⟨i, -, hi⟩ := List.mem_filterMap.mp hw; exact List.mem_of_getElem? hi
theorem inX4 : ∀ w ∈ u_ws RX4 TX4 7, w ∈ lw_tbl := by
  have h : u_ws RX4 TX4 7 = ([330, 332, 334, 336, 338, 340, 342] : List Nat).filterMap (fun i => lw_tbl[i]?) := by decide +kernel
  intro w hw; rw [h] at hw; obtain ⟨i, -, hi⟩ := List.mem_filterMap.mp hw; exact List.mem_of_getElem? hi
theorem cC_in : ∀ ci, ci < 6 → ∀ w ∈ u_ws (cC ci).1 (cC ci).2.1 (cC ci).2.2, w ∈ lw_tbl := fun ci h => match ci, h with
  | 0, _ => inX0
  | 1, _ => inX1
  | 2, _ => inX2
  | 3, _ => inX3
  | 4, _ => inX4
  | 5, _ => inX4
  | n + 6, h => absurd h (by omega)
theorem cC_ty : ∀ ci, ci < 6 → ∀ k, k < (cC ci).2.2 → parseFieldDescriptor ((cC ci).2.1 k).2.2.1 = some (tyC ci k) := fun ci h => match ci, h with
  | 0, _ => tyX0_ok
  | 1, _ => tyX1_ok
  | 2, _ => tyX2_ok
  | 3, _ => tyX3_ok
  | 4, _ => tyX4_ok
  | 5, _ => tyX4_ok
  | n + 6, h => absurd h (by omega)
theorem cC_nm : ∀ ci, ci < 6 → ∀ a, a < (cC ci).2.2 → ∀ b, b < (cC ci).2.2 → a ≠ b → ((cC ci).2.1 a).2.1 ≠ ((cC ci).2.1 b).2.1 := fun ci h => match ci, h with
  | 0, _ => nmX0
  | 1, _ => nmX1
  | 2, _ => nmX2
  | 3, _ => nmX3
  | 4, _ => nmX4
  | 5, _ => nmX4
  | n + 6, h => absurd h (by omega)
theorem cC_get : ∀ ci, ci < 6 → classes[ci]? = some (cC ci) := fun ci h => match ci, h with
  | 0, _ => rfl
  | 1, _ => rfl
  | 2, _ => rfl
  | 3, _ => rfl
  | 4, _ => rfl
  | 5, _ => rfl
  | n + 6, h => absurd h (by omega)
theorem tb_of {α : Type} (l : List (α × Nat)) (f : α → Cond) (h : l.all (fun q => decide (lw_tbl[q.2]? = some (f q.1))) = true) : ∀ a ∈ l.map (fun q => q.1), f a ∈ lw_tbl := by
  intro a ha; obtain ⟨q, hq, rfl⟩ := List.mem_map.mp ha; have h1 := List.all_eq_true.mp h q hq; exact List.mem_of_getElem? (of_decide_eq_true h1)
def ftW (own : String) (q : Nat × Nat × Nat) : Cond := .fieldLink own q.1 (cC q.2.1).1 ((cC q.2.1).2.1 q.2.2).2.1 ((cC q.2.1).2.1 q.2.2).2.2.1
def ctW (own : String) (q : Nat × Int32) : Cond := .constant own q.1 q.2
def clW (own : String) (q : Nat × Int64) : Cond := .constantLong own q.1 q.2
def ftp_X0 : List ((Nat × Nat × Nat) × Nat) := [((30, 0, 0), 262), ((9, 0, 1), 263), ((34, 0, 2), 264), ((38, 0, 3), 266), ((41, 0, 4), 268), ((44, 0, 5), 270), ((15, 0, 6), 272), ((18, 0, 7), 274), ((21, 0, 8), 276), ((24, 0, 9), 278), ((27, 0, 10), 280)]
def ctp_X0 : List ((Nat × Int32) × Nat) := []
def clp_X0 : List ((Nat × Int64) × Nat) := []
theorem ft_X0_ok : ∀ q : Nat × Nat × Nat, q ∈ ftp_X0.map (fun q => q.1) → ftW RX0 q ∈ lw_tbl := tb_of ftp_X0 (ftW RX0) (by decide +kernel)
theorem ct_X0_ok : ∀ q : Nat × Int32, q ∈ ctp_X0.map (fun q => q.1) → ctW RX0 q ∈ lw_tbl := tb_of ctp_X0 (ctW RX0) (by decide +kernel)
theorem cl_X0_ok : ∀ q : Nat × Int64, q ∈ clp_X0.map (fun q => q.1) → clW RX0 q ∈ lw_tbl := tb_of clp_X0 (clW RX0) (by decide +kernel)
def ftp_X1 : List ((Nat × Nat × Nat) × Nat) := [((9, 1, 0), 225), ((21, 1, 1), 226), ((15, 1, 2), 228), ((29, 1, 3), 230), ((18, 1, 4), 231), ((38, 1, 5), 233), ((41, 1, 6), 234), ((32, 1, 7), 235), ((67, 1, 8), 236)]
def ctp_X1 : List ((Nat × Int32) × Nat) := []
def clp_X1 : List ((Nat × Int64) × Nat) := []
theorem ft_X1_ok : ∀ q : Nat × Nat × Nat, q ∈ ftp_X1.map (fun q => q.1) → ftW RX1 q ∈ lw_tbl := tb_of ftp_X1 (ftW RX1) (by decide +kernel)
theorem ct_X1_ok : ∀ q : Nat × Int32, q ∈ ctp_X1.map (fun q => q.1) → ctW RX1 q ∈ lw_tbl := tb_of ctp_X1 (ctW RX1) (by decide +kernel)
theorem cl_X1_ok : ∀ q : Nat × Int64, q ∈ clp_X1.map (fun q => q.1) → clW RX1 q ∈ lw_tbl := tb_of clp_X1 (clW RX1) (by decide +kernel)
def ftp_X2 : List ((Nat × Nat × Nat) × Nat) := [((9, 2, 0), 312), ((19, 2, 1), 314), ((15, 2, 2), 316)]
def ctp_X2 : List ((Nat × Int32) × Nat) := []
def clp_X2 : List ((Nat × Int64) × Nat) := []
theorem ft_X2_ok : ∀ q : Nat × Nat × Nat, q ∈ ftp_X2.map (fun q => q.1) → ftW RX2 q ∈ lw_tbl := tb_of ftp_X2 (ftW RX2) (by decide +kernel)
theorem ct_X2_ok : ∀ q : Nat × Int32, q ∈ ctp_X2.map (fun q => q.1) → ctW RX2 q ∈ lw_tbl := tb_of ctp_X2 (ctW RX2) (by decide +kernel)
theorem cl_X2_ok : ∀ q : Nat × Int64, q ∈ clp_X2.map (fun q => q.1) → clW RX2 q ∈ lw_tbl := tb_of clp_X2 (clW RX2) (by decide +kernel)
def ftp_X3 : List ((Nat × Nat × Nat) × Nat) := [((25, 3, 0), 204), ((9, 3, 1), 206), ((15, 3, 2), 207), ((18, 3, 3), 208)]
def ctp_X3 : List ((Nat × Int32) × Nat) := []
def clp_X3 : List ((Nat × Int64) × Nat) := []
theorem ft_X3_ok : ∀ q : Nat × Nat × Nat, q ∈ ftp_X3.map (fun q => q.1) → ftW RX3 q ∈ lw_tbl := tb_of ftp_X3 (ftW RX3) (by decide +kernel)
theorem ct_X3_ok : ∀ q : Nat × Int32, q ∈ ctp_X3.map (fun q => q.1) → ctW RX3 q ∈ lw_tbl := tb_of ctp_X3 (ctW RX3) (by decide +kernel)
theorem cl_X3_ok : ∀ q : Nat × Int64, q ∈ clp_X3.map (fun q => q.1) → clW RX3 q ∈ lw_tbl := tb_of clp_X3 (clW RX3) (by decide +kernel)
def ftp_X4 : List ((Nat × Nat × Nat) × Nat) := [((61, 3, 0), 205), ((67, 1, 1), 227), ((85, 1, 2), 229), ((89, 1, 4), 232), ((45, 0, 2), 265), ((49, 0, 3), 267), ((58, 0, 4), 269), ((64, 0, 5), 271), ((124, 0, 6), 273), ((127, 0, 7), 275), ((108, 0, 8), 277), ((115, 0, 9), 279), ((117, 0, 10), 281), ((179, 2, 0), 313), ((189, 2, 1), 315), ((10, 4, 0), 324), ((19, 4, 1), 325), ((28, 4, 2), 326), ((32, 4, 3), 327), ((35, 4, 4), 328), ((40, 4, 6), 329)]
def ctp_X4 : List ((Nat × Int32) × Nat) := [((156, (65535)), 34)]
def clp_X4 : List ((Nat × Int64) × Nat) := []
theorem ft_X4_ok : ∀ q : Nat × Nat × Nat, q ∈ ftp_X4.map (fun q => q.1) → ftW RX4 q ∈ lw_tbl := tb_of ftp_X4 (ftW RX4) (by decide +kernel)
theorem ct_X4_ok : ∀ q : Nat × Int32, q ∈ ctp_X4.map (fun q => q.1) → ctW RX4 q ∈ lw_tbl := tb_of ctp_X4 (ctW RX4) (by decide +kernel)
theorem cl_X4_ok : ∀ q : Nat × Int64, q ∈ clp_X4.map (fun q => q.1) → clW RX4 q ∈ lw_tbl := tb_of clp_X4 (clW RX4) (by decide +kernel)
def ftp_X5 : List ((Nat × Nat × Nat) × Nat) := []
def ctp_X5 : List ((Nat × Int32) × Nat) := []
def clp_X5 : List ((Nat × Int64) × Nat) := []
theorem ft_X5_ok : ∀ q : Nat × Nat × Nat, q ∈ ftp_X5.map (fun q => q.1) → ftW RX5 q ∈ lw_tbl := tb_of ftp_X5 (ftW RX5) (by decide +kernel)
theorem ct_X5_ok : ∀ q : Nat × Int32, q ∈ ctp_X5.map (fun q => q.1) → ctW RX5 q ∈ lw_tbl := tb_of ctp_X5 (ctW RX5) (by decide +kernel)
theorem cl_X5_ok : ∀ q : Nat × Int64, q ∈ clp_X5.map (fun q => q.1) → clW RX5 q ∈ lw_tbl := tb_of clp_X5 (clW RX5) (by decide +kernel)
def ftp_J6 : List ((Nat × Nat × Nat) × Nat) := []
def ctp_J6 : List ((Nat × Int32) × Nat) := [((265, (1431655765)), 73), ((266, (858993459)), 74), ((267, (252645135)), 75), ((264, (65536)), 806)]
def clp_J6 : List ((Nat × Int64) × Nat) := []
theorem ft_J6_ok : ∀ q : Nat × Nat × Nat, q ∈ ftp_J6.map (fun q => q.1) → ftW RJ6 q ∈ lw_tbl := tb_of ftp_J6 (ftW RJ6) (by decide +kernel)
theorem ct_J6_ok : ∀ q : Nat × Int32, q ∈ ctp_J6.map (fun q => q.1) → ctW RJ6 q ∈ lw_tbl := tb_of ctp_J6 (ctW RJ6) (by decide +kernel)
theorem cl_J6_ok : ∀ q : Nat × Int64, q ∈ clp_J6.map (fun q => q.1) → clW RJ6 q ∈ lw_tbl := tb_of clp_J6 (clW RJ6) (by decide +kernel)
def ftp_J13 : List ((Nat × Nat × Nat) × Nat) := []
def ctp_J13 : List ((Nat × Int32) × Nat) := []
def clp_J13 : List ((Nat × Int64) × Nat) := [((314, (6148914691236517205)), 786), ((316, (3689348814741910323)), 787), ((318, (1085102592571150095)), 788)]
theorem ft_J13_ok : ∀ q : Nat × Nat × Nat, q ∈ ftp_J13.map (fun q => q.1) → ftW RJ13 q ∈ lw_tbl := tb_of ftp_J13 (ftW RJ13) (by decide +kernel)
theorem ct_J13_ok : ∀ q : Nat × Int32, q ∈ ctp_J13.map (fun q => q.1) → ctW RJ13 q ∈ lw_tbl := tb_of ctp_J13 (ctW RJ13) (by decide +kernel)
theorem cl_J13_ok : ∀ q : Nat × Int64, q ∈ clp_J13.map (fun q => q.1) → clW RJ13 q ∈ lw_tbl := tb_of clp_J13 (clW RJ13) (by decide +kernel)
def ftp_L : List ((Nat × Nat × Nat) × Nat) := []
def ctp_L : List ((Nat × Int32) × Nat) := [((119, (65535)), 351), ((218, (65536)), 832)]
def clp_L : List ((Nat × Int64) × Nat) := [((139, (3)), 798), ((141, (5)), 799), ((146, (4)), 810), ((148, (2)), 811), ((158, (-1)), 812), ((167, (16)), 825), ((207, (-5)), 831)]
theorem ft_L_ok : ∀ q : Nat × Nat × Nat, q ∈ ftp_L.map (fun q => q.1) → ftW RL q ∈ lw_tbl := tb_of ftp_L (ftW RL) (by decide +kernel)
theorem ct_L_ok : ∀ q : Nat × Int32, q ∈ ctp_L.map (fun q => q.1) → ctW RL q ∈ lw_tbl := tb_of ctp_L (ctW RL) (by decide +kernel)
theorem cl_L_ok : ∀ q : Nat × Int64, q ∈ clp_L.map (fun q => q.1) → clW RL q ∈ lw_tbl := tb_of clp_L (clW RL) (by decide +kernel)
def meOK (y : MethodName) (cc : ByteArray) (maxL : Nat) (ret : Option FieldType) (n : Nat) : Prop := Cond.code y cc maxL ret ∈ lw_tbl ∧ Cond.initialized y.cls ∈ lw_tbl ∧ plainFor y = true ∧ y.cls ≠ "java/lang/invoke/MethodHandle" ∧ y.cls ≠ "java/lang/invoke/VarHandle" ∧ (parseMethodDescriptor y.desc).map (fun d => d.parameters.length) = some n
def eqB (a b : ByteArray) : Bool := decide (a.data.toList = b.data.toList)
theorem eqB_eq {a b : ByteArray} (h : eqB a b = true) : a = b := by
  have h1 := of_decide_eq_true h; cases a; cases b; simp only at h1; congr 1; exact Array.toList_inj.mp h1
def codeAt (k : Nat) (y : MethodName) (cc : ByteArray) (maxL : Nat) (ret : Option FieldType) : Bool := match lw_tbl[k]? with
  | some (.code y1 c1 m1 r1) => decide (y1 = y) && (eqB c1 cc && (decide (m1 = maxL) && decide (r1 = ret)))
  | _ => false
theorem codeAt_in {k : Nat} {y : MethodName} {cc : ByteArray} {maxL : Nat} {ret : Option FieldType} (h : codeAt k y cc maxL ret = true) : Cond.code y cc maxL ret ∈ lw_tbl := by
  unfold codeAt at h; split at h
  · rename_i y1 c1 m1 r1 hk; simp only [Bool.and_eq_true, decide_eq_true_eq] at h; obtain ⟨rfl, h2, rfl, rfl⟩ := h; rw [← eqB_eq h2]; exact List.mem_of_getElem? hk
  · cases h
theorem me_X0_init : meOK yX0_init cX0_init 2 none 1 := ⟨codeAt_in (k := 260) (by decide +kernel), List.mem_of_getElem? (i := 13) (by decide +kernel), by decide +kernel, by decide +kernel, by decide +kernel, by decide +kernel⟩
theorem mi_X0_init : Cond.instanceMethod yX0_init ∈ lw_tbl := List.mem_of_getElem? (i := 259) (by decide +kernel)
theorem me_X0_become : meOK yX0_become cX0_become 3 none 1 := ⟨codeAt_in (k := 169) (by decide +kernel), List.mem_of_getElem? (i := 13) (by decide +kernel), by decide +kernel, by decide +kernel, by decide +kernel, by decide +kernel⟩
theorem mi_X0_become : Cond.instanceMethod yX0_become ∈ lw_tbl := List.mem_of_getElem? (i := 167) (by decide +kernel)
theorem mv_X0_become : Cond.selects yX0_become.cls yX0_become yX0_become ∈ lw_tbl := List.mem_of_getElem? (i := 168) (by decide +kernel)
theorem me_X0_has : meOK yX0_has cX0_has 2 (some .boolean) 1 := ⟨codeAt_in (k := 42) (by decide +kernel), List.mem_of_getElem? (i := 13) (by decide +kernel), by decide +kernel, by decide +kernel, by decide +kernel, by decide +kernel⟩
theorem mi_X0_has : Cond.instanceMethod yX0_has ∈ lw_tbl := List.mem_of_getElem? (i := 40) (by decide +kernel)
theorem mv_X0_has : Cond.selects yX0_has.cls yX0_has yX0_has ∈ lw_tbl := List.mem_of_getElem? (i := 41) (by decide +kernel)
theorem me_X0_comes : meOK yX0_comes cX0_comes 5 (some .int) 3 := ⟨codeAt_in (k := 371) (by decide +kernel), List.mem_of_getElem? (i := 13) (by decide +kernel), by decide +kernel, by decide +kernel, by decide +kernel, by decide +kernel⟩
theorem mi_X0_comes : Cond.instanceMethod yX0_comes ∈ lw_tbl := List.mem_of_getElem? (i := 369) (by decide +kernel)
theorem mv_X0_comes : Cond.selects yX0_comes.cls yX0_comes yX0_comes ∈ lw_tbl := List.mem_of_getElem? (i := 370) (by decide +kernel)
theorem me_X0_nameless : meOK yX0_nameless cX0_nameless 2 (some .int) 1 := ⟨codeAt_in (k := 59) (by decide +kernel), List.mem_of_getElem? (i := 13) (by decide +kernel), by decide +kernel, by decide +kernel, by decide +kernel, by decide +kernel⟩
theorem mi_X0_nameless : Cond.instanceMethod yX0_nameless ∈ lw_tbl := List.mem_of_getElem? (i := 57) (by decide +kernel)
theorem mv_X0_nameless : Cond.selects yX0_nameless.cls yX0_nameless yX0_nameless ∈ lw_tbl := List.mem_of_getElem? (i := 58) (by decide +kernel)
theorem me_X0_knownToAny : meOK yX0_knownToAny cX0_knownToAny 3 (some .int) 0 := ⟨codeAt_in (k := 183) (by decide +kernel), List.mem_of_getElem? (i := 13) (by decide +kernel), by decide +kernel, by decide +kernel, by decide +kernel, by decide +kernel⟩
theorem mi_X0_knownToAny : Cond.instanceMethod yX0_knownToAny ∈ lw_tbl := List.mem_of_getElem? (i := 181) (by decide +kernel)
theorem mv_X0_knownToAny : Cond.selects yX0_knownToAny.cls yX0_knownToAny yX0_knownToAny ∈ lw_tbl := List.mem_of_getElem? (i := 182) (by decide +kernel)
theorem me_X0_says : meOK yX0_says cX0_says 5 (some .int) 3 := ⟨codeAt_in (k := 68) (by decide +kernel), List.mem_of_getElem? (i := 13) (by decide +kernel), by decide +kernel, by decide +kernel, by decide +kernel, by decide +kernel⟩
theorem mi_X0_says : Cond.instanceMethod yX0_says ∈ lw_tbl := List.mem_of_getElem? (i := 66) (by decide +kernel)
theorem mv_X0_says : Cond.selects yX0_says.cls yX0_says yX0_says ∈ lw_tbl := List.mem_of_getElem? (i := 67) (by decide +kernel)
theorem me_X0_letsGo : meOK yX0_letsGo cX0_letsGo 6 (some .int) 2 := ⟨codeAt_in (k := 98) (by decide +kernel), List.mem_of_getElem? (i := 13) (by decide +kernel), by decide +kernel, by decide +kernel, by decide +kernel, by decide +kernel⟩
theorem mi_X0_letsGo : Cond.instanceMethod yX0_letsGo ∈ lw_tbl := List.mem_of_getElem? (i := 96) (by decide +kernel)
theorem mv_X0_letsGo : Cond.selects yX0_letsGo.cls yX0_letsGo yX0_letsGo ∈ lw_tbl := List.mem_of_getElem? (i := 97) (by decide +kernel)
theorem me_X0_lucksBy : meOK yX0_lucksBy cX0_lucksBy 5 (some .int) 2 := ⟨codeAt_in (k := 114) (by decide +kernel), List.mem_of_getElem? (i := 13) (by decide +kernel), by decide +kernel, by decide +kernel, by decide +kernel, by decide +kernel⟩
theorem mi_X0_lucksBy : Cond.instanceMethod yX0_lucksBy ∈ lw_tbl := List.mem_of_getElem? (i := 112) (by decide +kernel)
theorem mv_X0_lucksBy : Cond.selects yX0_lucksBy.cls yX0_lucksBy yX0_lucksBy ∈ lw_tbl := List.mem_of_getElem? (i := 113) (by decide +kernel)
theorem me_X0_takesOf : meOK yX0_takesOf cX0_takesOf 3 (some .int) 1 := ⟨codeAt_in (k := 64) (by decide +kernel), List.mem_of_getElem? (i := 13) (by decide +kernel), by decide +kernel, by decide +kernel, by decide +kernel, by decide +kernel⟩
theorem mi_X0_takesOf : Cond.instanceMethod yX0_takesOf ∈ lw_tbl := List.mem_of_getElem? (i := 62) (by decide +kernel)
theorem mv_X0_takesOf : Cond.selects yX0_takesOf.cls yX0_takesOf yX0_takesOf ∈ lw_tbl := List.mem_of_getElem? (i := 63) (by decide +kernel)
theorem me_X0_landing : meOK yX0_landing cX0_landing 4 (some .int) 2 := ⟨codeAt_in (k := 123) (by decide +kernel), List.mem_of_getElem? (i := 13) (by decide +kernel), by decide +kernel, by decide +kernel, by decide +kernel, by decide +kernel⟩
theorem mi_X0_landing : Cond.instanceMethod yX0_landing ∈ lw_tbl := List.mem_of_getElem? (i := 121) (by decide +kernel)
theorem mv_X0_landing : Cond.selects yX0_landing.cls yX0_landing yX0_landing ∈ lw_tbl := List.mem_of_getElem? (i := 122) (by decide +kernel)
theorem me_X0_learns : meOK yX0_learns cX0_learns 4 (some .int) 2 := ⟨codeAt_in (k := 135) (by decide +kernel), List.mem_of_getElem? (i := 13) (by decide +kernel), by decide +kernel, by decide +kernel, by decide +kernel, by decide +kernel⟩
theorem mi_X0_learns : Cond.instanceMethod yX0_learns ∈ lw_tbl := List.mem_of_getElem? (i := 133) (by decide +kernel)
theorem mv_X0_learns : Cond.selects yX0_learns.cls yX0_learns yX0_learns ∈ lw_tbl := List.mem_of_getElem? (i := 134) (by decide +kernel)
theorem me_X0_isTold : meOK yX0_isTold cX0_isTold 3 none 2 := ⟨codeAt_in (k := 143) (by decide +kernel), List.mem_of_getElem? (i := 13) (by decide +kernel), by decide +kernel, by decide +kernel, by decide +kernel, by decide +kernel⟩
theorem mi_X0_isTold : Cond.instanceMethod yX0_isTold ∈ lw_tbl := List.mem_of_getElem? (i := 141) (by decide +kernel)
theorem mv_X0_isTold : Cond.selects yX0_isTold.cls yX0_isTold yX0_isTold ∈ lw_tbl := List.mem_of_getElem? (i := 142) (by decide +kernel)
theorem me_X0_washes : meOK yX0_washes cX0_washes 3 (some .int) 0 := ⟨codeAt_in (k := 151) (by decide +kernel), List.mem_of_getElem? (i := 13) (by decide +kernel), by decide +kernel, by decide +kernel, by decide +kernel, by decide +kernel⟩
theorem mi_X0_washes : Cond.instanceMethod yX0_washes ∈ lw_tbl := List.mem_of_getElem? (i := 149) (by decide +kernel)
theorem mv_X0_washes : Cond.selects yX0_washes.cls yX0_washes yX0_washes ∈ lw_tbl := List.mem_of_getElem? (i := 150) (by decide +kernel)
theorem me_X1_init : meOK yX1_init cX1_init 1 none 0 := ⟨codeAt_in (k := 223) (by decide +kernel), List.mem_of_getElem? (i := 12) (by decide +kernel), by decide +kernel, by decide +kernel, by decide +kernel, by decide +kernel⟩
theorem mi_X1_init : Cond.instanceMethod yX1_init ∈ lw_tbl := List.mem_of_getElem? (i := 222) (by decide +kernel)
theorem me_X1_add : meOK yX1_add cX1_add 2 none 1 := ⟨codeAt_in (k := 661) (by decide +kernel), List.mem_of_getElem? (i := 12) (by decide +kernel), by decide +kernel, by decide +kernel, by decide +kernel, by decide +kernel⟩
theorem mi_X1_add : Cond.instanceMethod yX1_add ∈ lw_tbl := List.mem_of_getElem? (i := 659) (by decide +kernel)
theorem mv_X1_add : Cond.selects yX1_add.cls yX1_add yX1_add ∈ lw_tbl := List.mem_of_getElem? (i := 660) (by decide +kernel)
theorem me_X1_faultOf : meOK yX1_faultOf cX1_faultOf 2 (some .int) 0 := ⟨codeAt_in (k := 670) (by decide +kernel), List.mem_of_getElem? (i := 12) (by decide +kernel), by decide +kernel, by decide +kernel, by decide +kernel, by decide +kernel⟩
theorem mi_X1_faultOf : Cond.instanceMethod yX1_faultOf ∈ lw_tbl := List.mem_of_getElem? (i := 668) (by decide +kernel)
theorem mv_X1_faultOf : Cond.selects yX1_faultOf.cls yX1_faultOf yX1_faultOf ∈ lw_tbl := List.mem_of_getElem? (i := 669) (by decide +kernel)
theorem me_X1_readsE : meOK yX1_readsE cX1_readsE 3 (some .boolean) 2 := ⟨codeAt_in (k := 719) (by decide +kernel), List.mem_of_getElem? (i := 12) (by decide +kernel), by decide +kernel, by decide +kernel, by decide +kernel, by decide +kernel⟩
theorem ms_X1_readsE : Cond.static yX1_readsE ∈ lw_tbl := List.mem_of_getElem? (i := 718) (by decide +kernel)
theorem me_X1_readsAnd : meOK yX1_readsAnd cX1_readsAnd 3 (some .boolean) 2 := ⟨codeAt_in (k := 722) (by decide +kernel), List.mem_of_getElem? (i := 12) (by decide +kernel), by decide +kernel, by decide +kernel, by decide +kernel, by decide +kernel⟩
theorem ms_X1_readsAnd : Cond.static yX1_readsAnd ∈ lw_tbl := List.mem_of_getElem? (i := 721) (by decide +kernel)
theorem me_X1_readsNot : meOK yX1_readsNot cX1_readsNot 3 (some .boolean) 2 := ⟨codeAt_in (k := 725) (by decide +kernel), List.mem_of_getElem? (i := 12) (by decide +kernel), by decide +kernel, by decide +kernel, by decide +kernel, by decide +kernel⟩
theorem ms_X1_readsNot : Cond.static yX1_readsNot ∈ lw_tbl := List.mem_of_getElem? (i := 724) (by decide +kernel)
theorem me_X1_readsSum : meOK yX1_readsSum cX1_readsSum 4 (some .boolean) 2 := ⟨codeAt_in (k := 732) (by decide +kernel), List.mem_of_getElem? (i := 12) (by decide +kernel), by decide +kernel, by decide +kernel, by decide +kernel, by decide +kernel⟩
theorem ms_X1_readsSum : Cond.static yX1_readsSum ∈ lw_tbl := List.mem_of_getElem? (i := 731) (by decide +kernel)
theorem me_X1_readsTerm : meOK yX1_readsTerm cX1_readsTerm 3 (some .boolean) 2 := ⟨codeAt_in (k := 735) (by decide +kernel), List.mem_of_getElem? (i := 12) (by decide +kernel), by decide +kernel, by decide +kernel, by decide +kernel, by decide +kernel⟩
theorem ms_X1_readsTerm : Cond.static yX1_readsTerm ∈ lw_tbl := List.mem_of_getElem? (i := 734) (by decide +kernel)
theorem me_X1_readsOne : meOK yX1_readsOne cX1_readsOne 3 (some .boolean) 2 := ⟨codeAt_in (k := 738) (by decide +kernel), List.mem_of_getElem? (i := 12) (by decide +kernel), by decide +kernel, by decide +kernel, by decide +kernel, by decide +kernel⟩
theorem ms_X1_readsOne : Cond.static yX1_readsOne ∈ lw_tbl := List.mem_of_getElem? (i := 737) (by decide +kernel)
theorem me_X1_write : meOK yX1_write cX1_write 2 none 1 := ⟨codeAt_in (k := 729) (by decide +kernel), List.mem_of_getElem? (i := 12) (by decide +kernel), by decide +kernel, by decide +kernel, by decide +kernel, by decide +kernel⟩
theorem mi_X1_write : Cond.instanceMethod yX1_write ∈ lw_tbl := List.mem_of_getElem? (i := 728) (by decide +kernel)
theorem mv_X1_write : Cond.selects yX1_write.cls yX1_write yX1_write ∈ lw_tbl := List.mem_of_getElem? (i := 7) (by decide +kernel)
theorem me_X1_next : meOK yX1_next cX1_next 2 none 0 := ⟨codeAt_in (k := 674) (by decide +kernel), List.mem_of_getElem? (i := 12) (by decide +kernel), by decide +kernel, by decide +kernel, by decide +kernel, by decide +kernel⟩
theorem mi_X1_next : Cond.instanceMethod yX1_next ∈ lw_tbl := List.mem_of_getElem? (i := 673) (by decide +kernel)
theorem mv_X1_next : Cond.selects yX1_next.cls yX1_next yX1_next ∈ lw_tbl := List.mem_of_getElem? (i := 0) (by decide +kernel)
theorem me_X1_endOfWord : meOK yX1_endOfWord cX1_endOfWord 3 (some .int) 1 := ⟨codeAt_in (k := 683) (by decide +kernel), List.mem_of_getElem? (i := 12) (by decide +kernel), by decide +kernel, by decide +kernel, by decide +kernel, by decide +kernel⟩
theorem mi_X1_endOfWord : Cond.instanceMethod yX1_endOfWord ∈ lw_tbl := List.mem_of_getElem? (i := 682) (by decide +kernel)
theorem mv_X1_endOfWord : Cond.selects yX1_endOfWord.cls yX1_endOfWord yX1_endOfWord ∈ lw_tbl := List.mem_of_getElem? (i := 2) (by decide +kernel)
theorem me_X1_endOfNumber : meOK yX1_endOfNumber cX1_endOfNumber 3 (some .int) 1 := ⟨codeAt_in (k := 713) (by decide +kernel), List.mem_of_getElem? (i := 12) (by decide +kernel), by decide +kernel, by decide +kernel, by decide +kernel, by decide +kernel⟩
theorem mi_X1_endOfNumber : Cond.instanceMethod yX1_endOfNumber ∈ lw_tbl := List.mem_of_getElem? (i := 712) (by decide +kernel)
theorem mv_X1_endOfNumber : Cond.selects yX1_endOfNumber.cls yX1_endOfNumber yX1_endOfNumber ∈ lw_tbl := List.mem_of_getElem? (i := 6) (by decide +kernel)
theorem me_X1_wordOf : meOK yX1_wordOf cX1_wordOf 1 (some .int) 0 := ⟨codeAt_in (k := 687) (by decide +kernel), List.mem_of_getElem? (i := 12) (by decide +kernel), by decide +kernel, by decide +kernel, by decide +kernel, by decide +kernel⟩
theorem mi_X1_wordOf : Cond.instanceMethod yX1_wordOf ∈ lw_tbl := List.mem_of_getElem? (i := 686) (by decide +kernel)
theorem mv_X1_wordOf : Cond.selects yX1_wordOf.cls yX1_wordOf yX1_wordOf ∈ lw_tbl := List.mem_of_getElem? (i := 3) (by decide +kernel)
theorem me_X1_spells : meOK yX1_spells cX1_spells 3 (some .boolean) 1 := ⟨codeAt_in (k := 692) (by decide +kernel), List.mem_of_getElem? (i := 12) (by decide +kernel), by decide +kernel, by decide +kernel, by decide +kernel, by decide +kernel⟩
theorem mi_X1_spells : Cond.instanceMethod yX1_spells ∈ lw_tbl := List.mem_of_getElem? (i := 691) (by decide +kernel)
theorem mv_X1_spells : Cond.selects yX1_spells.cls yX1_spells yX1_spells ∈ lw_tbl := List.mem_of_getElem? (i := 4) (by decide +kernel)
theorem me_X1_isLetter : meOK yX1_isLetter cX1_isLetter 3 (some .boolean) 1 := ⟨codeAt_in (k := 679) (by decide +kernel), List.mem_of_getElem? (i := 12) (by decide +kernel), by decide +kernel, by decide +kernel, by decide +kernel, by decide +kernel⟩
theorem mi_X1_isLetter : Cond.instanceMethod yX1_isLetter ∈ lw_tbl := List.mem_of_getElem? (i := 678) (by decide +kernel)
theorem mv_X1_isLetter : Cond.selects yX1_isLetter.cls yX1_isLetter yX1_isLetter ∈ lw_tbl := List.mem_of_getElem? (i := 1) (by decide +kernel)
theorem me_X1_isDigit : meOK yX1_isDigit cX1_isDigit 3 (some .boolean) 1 := ⟨codeAt_in (k := 709) (by decide +kernel), List.mem_of_getElem? (i := 12) (by decide +kernel), by decide +kernel, by decide +kernel, by decide +kernel, by decide +kernel⟩
theorem mi_X1_isDigit : Cond.instanceMethod yX1_isDigit ∈ lw_tbl := List.mem_of_getElem? (i := 708) (by decide +kernel)
theorem mv_X1_isDigit : Cond.selects yX1_isDigit.cls yX1_isDigit yX1_isDigit ∈ lw_tbl := List.mem_of_getElem? (i := 5) (by decide +kernel)
theorem me_X1_isSign : meOK yX1_isSign cX1_isSign 1 (some .boolean) 1 := ⟨codeAt_in (k := 716) (by decide +kernel), List.mem_of_getElem? (i := 12) (by decide +kernel), by decide +kernel, by decide +kernel, by decide +kernel, by decide +kernel⟩
theorem ms_X1_isSign : Cond.static yX1_isSign ∈ lw_tbl := List.mem_of_getElem? (i := 715) (by decide +kernel)
theorem me_X2_init : meOK yX2_init cX2_init 1 none 0 := ⟨codeAt_in (k := 310) (by decide +kernel), List.mem_of_getElem? (i := 14) (by decide +kernel), by decide +kernel, by decide +kernel, by decide +kernel, by decide +kernel⟩
theorem mi_X2_init : Cond.instanceMethod yX2_init ∈ lw_tbl := List.mem_of_getElem? (i := 309) (by decide +kernel)
theorem me_X2_becomes : meOK yX2_becomes cX2_becomes 4 none 2 := ⟨codeAt_in (k := 761) (by decide +kernel), List.mem_of_getElem? (i := 14) (by decide +kernel), by decide +kernel, by decide +kernel, by decide +kernel, by decide +kernel⟩
theorem mi_X2_becomes : Cond.instanceMethod yX2_becomes ∈ lw_tbl := List.mem_of_getElem? (i := 759) (by decide +kernel)
theorem mv_X2_becomes : Cond.selects yX2_becomes.cls yX2_becomes yX2_becomes ∈ lw_tbl := List.mem_of_getElem? (i := 760) (by decide +kernel)
theorem me_X2_write : meOK yX2_write cX2_write 3 none 2 := ⟨codeAt_in (k := 773) (by decide +kernel), List.mem_of_getElem? (i := 14) (by decide +kernel), by decide +kernel, by decide +kernel, by decide +kernel, by decide +kernel⟩
theorem mi_X2_write : Cond.instanceMethod yX2_write ∈ lw_tbl := List.mem_of_getElem? (i := 771) (by decide +kernel)
theorem mv_X2_write : Cond.selects yX2_write.cls yX2_write yX2_write ∈ lw_tbl := List.mem_of_getElem? (i := 772) (by decide +kernel)
theorem me_X3_init : meOK yX3_init cX3_init 2 none 0 := ⟨codeAt_in (k := 202) (by decide +kernel), List.mem_of_getElem? (i := 11) (by decide +kernel), by decide +kernel, by decide +kernel, by decide +kernel, by decide +kernel⟩
theorem mi_X3_init : Cond.instanceMethod yX3_init ∈ lw_tbl := List.mem_of_getElem? (i := 201) (by decide +kernel)
theorem me_X3_add : meOK yX3_add cX3_add 5 (some .int) 2 := ⟨codeAt_in (k := 742) (by decide +kernel), List.mem_of_getElem? (i := 11) (by decide +kernel), by decide +kernel, by decide +kernel, by decide +kernel, by decide +kernel⟩
theorem mi_X3_add : Cond.instanceMethod yX3_add ∈ lw_tbl := List.mem_of_getElem? (i := 740) (by decide +kernel)
theorem mv_X3_add : Cond.selects yX3_add.cls yX3_add yX3_add ∈ lw_tbl := List.mem_of_getElem? (i := 741) (by decide +kernel)
theorem me_X3_value : meOK yX3_value cX3_value 9 (some .int) 3 := ⟨codeAt_in (k := 79) (by decide +kernel), List.mem_of_getElem? (i := 11) (by decide +kernel), by decide +kernel, by decide +kernel, by decide +kernel, by decide +kernel⟩
theorem mi_X3_value : Cond.instanceMethod yX3_value ∈ lw_tbl := List.mem_of_getElem? (i := 77) (by decide +kernel)
theorem mv_X3_value : Cond.selects yX3_value.cls yX3_value yX3_value ∈ lw_tbl := List.mem_of_getElem? (i := 78) (by decide +kernel)
theorem me_X3_ofTwo : meOK yX3_ofTwo cX3_ofTwo 3 (some .int) 3 := ⟨codeAt_in (k := 84) (by decide +kernel), List.mem_of_getElem? (i := 11) (by decide +kernel), by decide +kernel, by decide +kernel, by decide +kernel, by decide +kernel⟩
theorem ms_X3_ofTwo : Cond.static yX3_ofTwo ∈ lw_tbl := List.mem_of_getElem? (i := 83) (by decide +kernel)
theorem me_X4_init : meOK yX4_init cX4_init 2 none 0 := ⟨codeAt_in (k := 194) (by decide +kernel), List.mem_of_getElem? (i := 10) (by decide +kernel), by decide +kernel, by decide +kernel, by decide +kernel, by decide +kernel⟩
theorem mi_X4_init : Cond.instanceMethod yX4_init ∈ lw_tbl := List.mem_of_getElem? (i := 193) (by decide +kernel)
theorem me_X4_count : meOK yX4_count cX4_count 2 (some .int) 1 := ⟨codeAt_in (k := 829) (by decide +kernel), List.mem_of_getElem? (i := 10) (by decide +kernel), by decide +kernel, by decide +kernel, by decide +kernel, by decide +kernel⟩
theorem mi_X4_count : Cond.instanceMethod yX4_count ∈ lw_tbl := List.mem_of_getElem? (i := 827) (by decide +kernel)
theorem mv_X4_count : Cond.selects yX4_count.cls yX4_count yX4_count ∈ lw_tbl := List.mem_of_getElem? (i := 828) (by decide +kernel)
theorem me_X4_shore : meOK yX4_shore cX4_shore 4 (some .int) 2 := ⟨codeAt_in (k := 30) (by decide +kernel), List.mem_of_getElem? (i := 10) (by decide +kernel), by decide +kernel, by decide +kernel, by decide +kernel, by decide +kernel⟩
theorem mi_X4_shore : Cond.instanceMethod yX4_shore ∈ lw_tbl := List.mem_of_getElem? (i := 28) (by decide +kernel)
theorem mv_X4_shore : Cond.selects yX4_shore.cls yX4_shore yX4_shore ∈ lw_tbl := List.mem_of_getElem? (i := 29) (by decide +kernel)
theorem me_X4_feed : meOK yX4_feed cX4_feed 7 (some .int) 6 := ⟨codeAt_in (k := 654) (by decide +kernel), List.mem_of_getElem? (i := 10) (by decide +kernel), by decide +kernel, by decide +kernel, by decide +kernel, by decide +kernel⟩
theorem mi_X4_feed : Cond.instanceMethod yX4_feed ∈ lw_tbl := List.mem_of_getElem? (i := 652) (by decide +kernel)
theorem mv_X4_feed : Cond.selects yX4_feed.cls yX4_feed yX4_feed ∈ lw_tbl := List.mem_of_getElem? (i := 653) (by decide +kernel)
theorem me_X4_text : meOK yX4_text cX4_text 2 (some .int) 0 := ⟨codeAt_in (k := 666) (by decide +kernel), List.mem_of_getElem? (i := 10) (by decide +kernel), by decide +kernel, by decide +kernel, by decide +kernel, by decide +kernel⟩
theorem mi_X4_text : Cond.instanceMethod yX4_text ∈ lw_tbl := List.mem_of_getElem? (i := 664) (by decide +kernel)
theorem mv_X4_text : Cond.selects yX4_text.cls yX4_text yX4_text ∈ lw_tbl := List.mem_of_getElem? (i := 665) (by decide +kernel)
theorem me_X4_force : meOK yX4_force cX4_force 3 (some .int) 1 := ⟨codeAt_in (k := 746) (by decide +kernel), List.mem_of_getElem? (i := 10) (by decide +kernel), by decide +kernel, by decide +kernel, by decide +kernel, by decide +kernel⟩
theorem mi_X4_force : Cond.instanceMethod yX4_force ∈ lw_tbl := List.mem_of_getElem? (i := 744) (by decide +kernel)
theorem mv_X4_force : Cond.selects yX4_force.cls yX4_force yX4_force ∈ lw_tbl := List.mem_of_getElem? (i := 745) (by decide +kernel)
theorem me_X4_fisher : meOK yX4_fisher cX4_fisher 3 (some .int) 2 := ⟨codeAt_in (k := 367) (by decide +kernel), List.mem_of_getElem? (i := 10) (by decide +kernel), by decide +kernel, by decide +kernel, by decide +kernel, by decide +kernel⟩
theorem mi_X4_fisher : Cond.instanceMethod yX4_fisher ∈ lw_tbl := List.mem_of_getElem? (i := 365) (by decide +kernel)
theorem mv_X4_fisher : Cond.selects yX4_fisher.cls yX4_fisher yX4_fisher ∈ lw_tbl := List.mem_of_getElem? (i := 366) (by decide +kernel)
theorem me_X4_put : meOK yX4_put cX4_put 4 (some .int) 3 := ⟨codeAt_in (k := 38) (by decide +kernel), List.mem_of_getElem? (i := 10) (by decide +kernel), by decide +kernel, by decide +kernel, by decide +kernel, by decide +kernel⟩
theorem mi_X4_put : Cond.instanceMethod yX4_put ∈ lw_tbl := List.mem_of_getElem? (i := 36) (by decide +kernel)
theorem mv_X4_put : Cond.selects yX4_put.cls yX4_put yX4_put ∈ lw_tbl := List.mem_of_getElem? (i := 37) (by decide +kernel)
theorem me_X4_told : meOK yX4_told cX4_told 3 (some .int) 2 := ⟨codeAt_in (k := 55) (by decide +kernel), List.mem_of_getElem? (i := 10) (by decide +kernel), by decide +kernel, by decide +kernel, by decide +kernel, by decide +kernel⟩
theorem mi_X4_told : Cond.instanceMethod yX4_told ∈ lw_tbl := List.mem_of_getElem? (i := 53) (by decide +kernel)
theorem mv_X4_told : Cond.selects yX4_told.cls yX4_told yX4_told ∈ lw_tbl := List.mem_of_getElem? (i := 54) (by decide +kernel)
theorem me_X4_lands : meOK yX4_lands cX4_lands 4 (some .int) 3 := ⟨codeAt_in (k := 91) (by decide +kernel), List.mem_of_getElem? (i := 10) (by decide +kernel), by decide +kernel, by decide +kernel, by decide +kernel, by decide +kernel⟩
theorem mi_X4_lands : Cond.instanceMethod yX4_lands ∈ lw_tbl := List.mem_of_getElem? (i := 89) (by decide +kernel)
theorem mv_X4_lands : Cond.selects yX4_lands.cls yX4_lands yX4_lands ∈ lw_tbl := List.mem_of_getElem? (i := 90) (by decide +kernel)
theorem me_X4_land : meOK yX4_land cX4_land 3 (some .int) 2 := ⟨codeAt_in (k := 119) (by decide +kernel), List.mem_of_getElem? (i := 10) (by decide +kernel), by decide +kernel, by decide +kernel, by decide +kernel, by decide +kernel⟩
theorem mi_X4_land : Cond.instanceMethod yX4_land ∈ lw_tbl := List.mem_of_getElem? (i := 117) (by decide +kernel)
theorem mv_X4_land : Cond.selects yX4_land.cls yX4_land yX4_land ∈ lw_tbl := List.mem_of_getElem? (i := 118) (by decide +kernel)
theorem me_X4_teach : meOK yX4_teach cX4_teach 4 (some .int) 2 := ⟨codeAt_in (k := 131) (by decide +kernel), List.mem_of_getElem? (i := 10) (by decide +kernel), by decide +kernel, by decide +kernel, by decide +kernel, by decide +kernel⟩
theorem mi_X4_teach : Cond.instanceMethod yX4_teach ∈ lw_tbl := List.mem_of_getElem? (i := 129) (by decide +kernel)
theorem mv_X4_teach : Cond.selects yX4_teach.cls yX4_teach yX4_teach ∈ lw_tbl := List.mem_of_getElem? (i := 130) (by decide +kernel)
theorem me_X4_tide : meOK yX4_tide cX4_tide 1 (some .int) 0 := ⟨codeAt_in (k := 147) (by decide +kernel), List.mem_of_getElem? (i := 10) (by decide +kernel), by decide +kernel, by decide +kernel, by decide +kernel, by decide +kernel⟩
theorem mi_X4_tide : Cond.instanceMethod yX4_tide ∈ lw_tbl := List.mem_of_getElem? (i := 145) (by decide +kernel)
theorem mv_X4_tide : Cond.selects yX4_tide.cls yX4_tide yX4_tide ∈ lw_tbl := List.mem_of_getElem? (i := 146) (by decide +kernel)
theorem me_X4_talk : meOK yX4_talk cX4_talk 8 (some .int) 2 := ⟨codeAt_in (k := 156) (by decide +kernel), List.mem_of_getElem? (i := 10) (by decide +kernel), by decide +kernel, by decide +kernel, by decide +kernel, by decide +kernel⟩
theorem mi_X4_talk : Cond.instanceMethod yX4_talk ∈ lw_tbl := List.mem_of_getElem? (i := 154) (by decide +kernel)
theorem mv_X4_talk : Cond.selects yX4_talk.cls yX4_talk yX4_talk ∈ lw_tbl := List.mem_of_getElem? (i := 155) (by decide +kernel)
theorem me_X4_which : meOK yX4_which cX4_which 7 (some .int) 2 := ⟨codeAt_in (k := 160) (by decide +kernel), List.mem_of_getElem? (i := 10) (by decide +kernel), by decide +kernel, by decide +kernel, by decide +kernel, by decide +kernel⟩
theorem mi_X4_which : Cond.instanceMethod yX4_which ∈ lw_tbl := List.mem_of_getElem? (i := 158) (by decide +kernel)
theorem mv_X4_which : Cond.selects yX4_which.cls yX4_which yX4_which ∈ lw_tbl := List.mem_of_getElem? (i := 159) (by decide +kernel)
theorem me_X4_lessons : meOK yX4_lessons cX4_lessons 6 (some .int) 3 := ⟨codeAt_in (k := 165) (by decide +kernel), List.mem_of_getElem? (i := 10) (by decide +kernel), by decide +kernel, by decide +kernel, by decide +kernel, by decide +kernel⟩
theorem mi_X4_lessons : Cond.instanceMethod yX4_lessons ∈ lw_tbl := List.mem_of_getElem? (i := 163) (by decide +kernel)
theorem mv_X4_lessons : Cond.selects yX4_lessons.cls yX4_lessons yX4_lessons ∈ lw_tbl := List.mem_of_getElem? (i := 164) (by decide +kernel)
theorem me_X4_lessonsTo : meOK yX4_lessonsTo cX4_lessonsTo 7 (some .int) 4 := ⟨codeAt_in (k := 172) (by decide +kernel), List.mem_of_getElem? (i := 10) (by decide +kernel), by decide +kernel, by decide +kernel, by decide +kernel, by decide +kernel⟩
theorem ms_X4_lessonsTo : Cond.static yX4_lessonsTo ∈ lw_tbl := List.mem_of_getElem? (i := 171) (by decide +kernel)
theorem me_X4_lessonsFrom : meOK yX4_lessonsFrom cX4_lessonsFrom 10 (some .int) 5 := ⟨codeAt_in (k := 175) (by decide +kernel), List.mem_of_getElem? (i := 10) (by decide +kernel), by decide +kernel, by decide +kernel, by decide +kernel, by decide +kernel⟩
theorem ms_X4_lessonsFrom : Cond.static yX4_lessonsFrom ∈ lw_tbl := List.mem_of_getElem? (i := 174) (by decide +kernel)
theorem me_X4_when : meOK yX4_when cX4_when 3 (some .int) 1 := ⟨codeAt_in (k := 179) (by decide +kernel), List.mem_of_getElem? (i := 10) (by decide +kernel), by decide +kernel, by decide +kernel, by decide +kernel, by decide +kernel⟩
theorem mi_X4_when : Cond.instanceMethod yX4_when ∈ lw_tbl := List.mem_of_getElem? (i := 177) (by decide +kernel)
theorem mv_X4_when : Cond.selects yX4_when.cls yX4_when yX4_when ∈ lw_tbl := List.mem_of_getElem? (i := 178) (by decide +kernel)
theorem me_X4_sheet : meOK yX4_sheet cX4_sheet 5 (some .int) 3 := ⟨codeAt_in (k := 753) (by decide +kernel), List.mem_of_getElem? (i := 10) (by decide +kernel), by decide +kernel, by decide +kernel, by decide +kernel, by decide +kernel⟩
theorem mi_X4_sheet : Cond.instanceMethod yX4_sheet ∈ lw_tbl := List.mem_of_getElem? (i := 751) (by decide +kernel)
theorem mv_X4_sheet : Cond.selects yX4_sheet.cls yX4_sheet yX4_sheet ∈ lw_tbl := List.mem_of_getElem? (i := 752) (by decide +kernel)
theorem me_X4_cell : meOK yX4_cell cX4_cell 5 (some .int) 3 := ⟨codeAt_in (k := 769) (by decide +kernel), List.mem_of_getElem? (i := 10) (by decide +kernel), by decide +kernel, by decide +kernel, by decide +kernel, by decide +kernel⟩
theorem mi_X4_cell : Cond.instanceMethod yX4_cell ∈ lw_tbl := List.mem_of_getElem? (i := 767) (by decide +kernel)
theorem mv_X4_cell : Cond.selects yX4_cell.cls yX4_cell yX4_cell ∈ lw_tbl := List.mem_of_getElem? (i := 768) (by decide +kernel)
theorem me_X4_rowAt : meOK yX4_rowAt cX4_rowAt 2 (some (.object "NameThrownBack$Sheet")) 1 := ⟨codeAt_in (k := 757) (by decide +kernel), List.mem_of_getElem? (i := 10) (by decide +kernel), by decide +kernel, by decide +kernel, by decide +kernel, by decide +kernel⟩
theorem mi_X4_rowAt : Cond.instanceMethod yX4_rowAt ∈ lw_tbl := List.mem_of_getElem? (i := 756) (by decide +kernel)
theorem mv_X4_rowAt : Cond.selects yX4_rowAt.cls yX4_rowAt yX4_rowAt ∈ lw_tbl := List.mem_of_getElem? (i := 8) (by decide +kernel)
theorem me_X4_at : meOK yX4_at cX4_at 2 (some .int) 2 := ⟨codeAt_in (k := 48) (by decide +kernel), List.mem_of_getElem? (i := 10) (by decide +kernel), by decide +kernel, by decide +kernel, by decide +kernel, by decide +kernel⟩
theorem ms_X4_at : Cond.static yX4_at ∈ lw_tbl := List.mem_of_getElem? (i := 47) (by decide +kernel)
theorem me_X4_set : meOK yX4_set cX4_set 3 none 3 := ⟨codeAt_in (k := 51) (by decide +kernel), List.mem_of_getElem? (i := 10) (by decide +kernel), by decide +kernel, by decide +kernel, by decide +kernel, by decide +kernel⟩
theorem ms_X4_set : Cond.static yX4_set ∈ lw_tbl := List.mem_of_getElem? (i := 50) (by decide +kernel)
theorem me_X4_swap : meOK yX4_swap cX4_swap 4 (some .int) 3 := ⟨codeAt_in (k := 45) (by decide +kernel), List.mem_of_getElem? (i := 10) (by decide +kernel), by decide +kernel, by decide +kernel, by decide +kernel, by decide +kernel⟩
theorem ms_X4_swap : Cond.static yX4_swap ∈ lw_tbl := List.mem_of_getElem? (i := 44) (by decide +kernel)
theorem me_X4_isThing : meOK yX4_isThing cX4_isThing 1 (some .boolean) 1 := ⟨codeAt_in (k := 94) (by decide +kernel), List.mem_of_getElem? (i := 10) (by decide +kernel), by decide +kernel, by decide +kernel, by decide +kernel, by decide +kernel⟩
theorem ms_X4_isThing : Cond.static yX4_isThing ∈ lw_tbl := List.mem_of_getElem? (i := 93) (by decide +kernel)
theorem me_X4_isSet : meOK yX4_isSet cX4_isSet 1 (some .boolean) 1 := ⟨codeAt_in (k := 33) (by decide +kernel), List.mem_of_getElem? (i := 10) (by decide +kernel), by decide +kernel, by decide +kernel, by decide +kernel, by decide +kernel⟩
theorem ms_X4_isSet : Cond.static yX4_isSet ∈ lw_tbl := List.mem_of_getElem? (i := 32) (by decide +kernel)
theorem me_X4_isByte : meOK yX4_isByte cX4_isByte 1 (some .boolean) 1 := ⟨codeAt_in (k := 657) (by decide +kernel), List.mem_of_getElem? (i := 10) (by decide +kernel), by decide +kernel, by decide +kernel, by decide +kernel, by decide +kernel⟩
theorem ms_X4_isByte : Cond.static yX4_isByte ∈ lw_tbl := List.mem_of_getElem? (i := 656) (by decide +kernel)
theorem me_X4_holds : meOK yX4_holds cX4_holds 2 (some .boolean) 2 := ⟨codeAt_in (k := 107) (by decide +kernel), List.mem_of_getElem? (i := 10) (by decide +kernel), by decide +kernel, by decide +kernel, by decide +kernel, by decide +kernel⟩
theorem ms_X4_holds : Cond.static yX4_holds ∈ lw_tbl := List.mem_of_getElem? (i := 106) (by decide +kernel)
theorem me_X4_bounded : meOK yX4_bounded cX4_bounded 3 (some .int) 3 := ⟨codeAt_in (k := 87) (by decide +kernel), List.mem_of_getElem? (i := 10) (by decide +kernel), by decide +kernel, by decide +kernel, by decide +kernel, by decide +kernel⟩
theorem ms_X4_bounded : Cond.static yX4_bounded ∈ lw_tbl := List.mem_of_getElem? (i := 86) (by decide +kernel)
theorem me_X4_numbered : meOK yX4_numbered cX4_numbered 4 (some .int) 2 := ⟨codeAt_in (k := 104) (by decide +kernel), List.mem_of_getElem? (i := 10) (by decide +kernel), by decide +kernel, by decide +kernel, by decide +kernel, by decide +kernel⟩
theorem ms_X4_numbered : Cond.static yX4_numbered ∈ lw_tbl := List.mem_of_getElem? (i := 103) (by decide +kernel)
theorem me_X4_leastOf : meOK yX4_leastOf cX4_leastOf 5 (some .int) 2 := ⟨codeAt_in (k := 139) (by decide +kernel), List.mem_of_getElem? (i := 10) (by decide +kernel), by decide +kernel, by decide +kernel, by decide +kernel, by decide +kernel⟩
theorem ms_X4_leastOf : Cond.static yX4_leastOf ∈ lw_tbl := List.mem_of_getElem? (i := 138) (by decide +kernel)
theorem me_J5_init_d00df : meOK yJ5_init_d00df cJ5_init_d00df 2 none 1 := ⟨codeAt_in (k := 388) (by decide +kernel), List.mem_of_getElem? (i := 15) (by decide +kernel), by decide +kernel, by decide +kernel, by decide +kernel, by decide +kernel⟩
theorem mi_J5_init_d00df : Cond.instanceMethod yJ5_init_d00df ∈ lw_tbl := List.mem_of_getElem? (i := 387) (by decide +kernel)
theorem me_J5_length_8abf5 : meOK yJ5_length_8abf5 cJ5_length_8abf5 1 (some .int) 0 := ⟨codeAt_in (k := 588) (by decide +kernel), List.mem_of_getElem? (i := 15) (by decide +kernel), by decide +kernel, by decide +kernel, by decide +kernel, by decide +kernel⟩
theorem mi_J5_length_8abf5 : Cond.instanceMethod yJ5_length_8abf5 ∈ lw_tbl := List.mem_of_getElem? (i := 582) (by decide +kernel)
theorem me_J5_ensureCapacityInternal_d00df : meOK yJ5_ensureCapacityInternal_d00df cJ5_ensureCapacityInternal_d00df 3 none 1 := ⟨codeAt_in (k := 428) (by decide +kernel), List.mem_of_getElem? (i := 15) (by decide +kernel), by decide +kernel, by decide +kernel, by decide +kernel, by decide +kernel⟩
theorem mi_J5_ensureCapacityInternal_d00df : Cond.instanceMethod yJ5_ensureCapacityInternal_d00df ∈ lw_tbl := List.mem_of_getElem? (i := 427) (by decide +kernel)
theorem me_J5_newCapacity_0f7a4 : meOK yJ5_newCapacity_0f7a4 cJ5_newCapacity_0f7a4 6 (some .int) 1 := ⟨codeAt_in (k := 432) (by decide +kernel), List.mem_of_getElem? (i := 15) (by decide +kernel), by decide +kernel, by decide +kernel, by decide +kernel, by decide +kernel⟩
theorem mi_J5_newCapacity_0f7a4 : Cond.instanceMethod yJ5_newCapacity_0f7a4 ∈ lw_tbl := List.mem_of_getElem? (i := 431) (by decide +kernel)
theorem me_J5_inflate_da8c8 : meOK yJ5_inflate_da8c8 cJ5_inflate_da8c8 2 none 0 := ⟨codeAt_in (k := 510) (by decide +kernel), List.mem_of_getElem? (i := 15) (by decide +kernel), by decide +kernel, by decide +kernel, by decide +kernel, by decide +kernel⟩
theorem mi_J5_inflate_da8c8 : Cond.instanceMethod yJ5_inflate_da8c8 ∈ lw_tbl := List.mem_of_getElem? (i := 509) (by decide +kernel)
theorem me_J5_append_cf1ce : meOK yJ5_append_cf1ce cJ5_append_cf1ce 3 (some (.object "java/lang/AbstractStringBuilder")) 1 := ⟨codeAt_in (k := 420) (by decide +kernel), List.mem_of_getElem? (i := 15) (by decide +kernel), by decide +kernel, by decide +kernel, by decide +kernel, by decide +kernel⟩
theorem mi_J5_append_cf1ce : Cond.instanceMethod yJ5_append_cf1ce ∈ lw_tbl := List.mem_of_getElem? (i := 419) (by decide +kernel)
theorem me_J5_appendNull_278bc : meOK yJ5_appendNull_278bc cJ5_appendNull_278bc 3 (some (.object "java/lang/AbstractStringBuilder")) 0 := ⟨codeAt_in (k := 424) (by decide +kernel), List.mem_of_getElem? (i := 15) (by decide +kernel), by decide +kernel, by decide +kernel, by decide +kernel, by decide +kernel⟩
theorem mi_J5_appendNull_278bc : Cond.instanceMethod yJ5_appendNull_278bc ∈ lw_tbl := List.mem_of_getElem? (i := 423) (by decide +kernel)
theorem me_J5_append_c97b9 : meOK yJ5_append_c97b9 cJ5_append_c97b9 4 (some (.object "java/lang/AbstractStringBuilder")) 1 := ⟨codeAt_in (k := 538) (by decide +kernel), List.mem_of_getElem? (i := 15) (by decide +kernel), by decide +kernel, by decide +kernel, by decide +kernel, by decide +kernel⟩
theorem mi_J5_append_c97b9 : Cond.instanceMethod yJ5_append_c97b9 ∈ lw_tbl := List.mem_of_getElem? (i := 537) (by decide +kernel)
theorem me_J5_getValue_6d5f1 : meOK yJ5_getValue_6d5f1 cJ5_getValue_6d5f1 1 (some (.array .byte)) 0 := ⟨codeAt_in (k := 580) (by decide +kernel), List.mem_of_getElem? (i := 15) (by decide +kernel), by decide +kernel, by decide +kernel, by decide +kernel, by decide +kernel⟩
theorem mi_J5_getValue_6d5f1 : Cond.instanceMethod yJ5_getValue_6d5f1 ∈ lw_tbl := List.mem_of_getElem? (i := 577) (by decide +kernel)
theorem me_J5_isLatin1_aae02 : meOK yJ5_isLatin1_aae02 cJ5_isLatin1_aae02 1 (some .boolean) 0 := ⟨codeAt_in (k := 462) (by decide +kernel), List.mem_of_getElem? (i := 15) (by decide +kernel), by decide +kernel, by decide +kernel, by decide +kernel, by decide +kernel⟩
theorem mi_J5_isLatin1_aae02 : Cond.instanceMethod yJ5_isLatin1_aae02 ∈ lw_tbl := List.mem_of_getElem? (i := 459) (by decide +kernel)
theorem me_J5_inflateIfNeededFor_a7421 : meOK yJ5_inflateIfNeededFor_a7421 cJ5_inflateIfNeededFor_a7421 2 none 1 := ⟨codeAt_in (k := 505) (by decide +kernel), List.mem_of_getElem? (i := 15) (by decide +kernel), by decide +kernel, by decide +kernel, by decide +kernel, by decide +kernel⟩
theorem mi_J5_inflateIfNeededFor_a7421 : Cond.instanceMethod yJ5_inflateIfNeededFor_a7421 ∈ lw_tbl := List.mem_of_getElem? (i := 504) (by decide +kernel)
theorem me_J5_putStringAt_47b60 : meOK yJ5_putStringAt_47b60 cJ5_putStringAt_47b60 3 none 2 := ⟨codeAt_in (k := 501) (by decide +kernel), List.mem_of_getElem? (i := 15) (by decide +kernel), by decide +kernel, by decide +kernel, by decide +kernel, by decide +kernel⟩
theorem mi_J5_putStringAt_47b60 : Cond.instanceMethod yJ5_putStringAt_47b60 ∈ lw_tbl := List.mem_of_getElem? (i := 500) (by decide +kernel)
theorem me_J6_getChars_ba4f3 : meOK yJ6_getChars_ba4f3 cJ6_getChars_ba4f3 7 (some .int) 3 := ⟨codeAt_in (k := 544) (by decide +kernel), List.mem_of_getElem? (i := 25) (by decide +kernel), by decide +kernel, by decide +kernel, by decide +kernel, by decide +kernel⟩
theorem ms_J6_getChars_ba4f3 : Cond.static yJ6_getChars_ba4f3 ∈ lw_tbl := List.mem_of_getElem? (i := 543) (by decide +kernel)
theorem me_J6_stringSize_0f7a4 : meOK yJ6_stringSize_0f7a4 cJ6_stringSize_0f7a4 4 (some .int) 1 := ⟨codeAt_in (k := 541) (by decide +kernel), List.mem_of_getElem? (i := 25) (by decide +kernel), by decide +kernel, by decide +kernel, by decide +kernel, by decide +kernel⟩
theorem ms_J6_stringSize_0f7a4 : Cond.static yJ6_stringSize_0f7a4 ∈ lw_tbl := List.mem_of_getElem? (i := 540) (by decide +kernel)
theorem me_J6_numberOfTrailingZeros_0f7a4 : meOK yJ6_numberOfTrailingZeros_0f7a4 cJ6_numberOfTrailingZeros_0f7a4 2 (some .int) 1 := ⟨codeAt_in (k := 805) (by decide +kernel), List.mem_of_getElem? (i := 25) (by decide +kernel), by decide +kernel, by decide +kernel, by decide +kernel, by decide +kernel⟩
theorem ms_J6_numberOfTrailingZeros_0f7a4 : Cond.static yJ6_numberOfTrailingZeros_0f7a4 ∈ lw_tbl := List.mem_of_getElem? (i := 804) (by decide +kernel)
theorem me_J6_bitCount_0f7a4 : meOK yJ6_bitCount_0f7a4 cJ6_bitCount_0f7a4 1 (some .int) 1 := ⟨codeAt_in (k := 72) (by decide +kernel), List.mem_of_getElem? (i := 25) (by decide +kernel), by decide +kernel, by decide +kernel, by decide +kernel, by decide +kernel⟩
theorem ms_J6_bitCount_0f7a4 : Cond.static yJ6_bitCount_0f7a4 ∈ lw_tbl := List.mem_of_getElem? (i := 71) (by decide +kernel)
theorem me_J13_numberOfTrailingZeros_95d88 : meOK yJ13_numberOfTrailingZeros_95d88 cJ13_numberOfTrailingZeros_95d88 3 (some .int) 1 := ⟨codeAt_in (k := 802) (by decide +kernel), List.mem_of_getElem? (i := 26) (by decide +kernel), by decide +kernel, by decide +kernel, by decide +kernel, by decide +kernel⟩
theorem ms_J13_numberOfTrailingZeros_95d88 : Cond.static yJ13_numberOfTrailingZeros_95d88 ∈ lw_tbl := List.mem_of_getElem? (i := 801) (by decide +kernel)
theorem me_J13_bitCount_95d88 : meOK yJ13_bitCount_95d88 cJ13_bitCount_95d88 2 (some .int) 1 := ⟨codeAt_in (k := 785) (by decide +kernel), List.mem_of_getElem? (i := 26) (by decide +kernel), by decide +kernel, by decide +kernel, by decide +kernel, by decide +kernel⟩
theorem ms_J13_bitCount_95d88 : Cond.static yJ13_bitCount_95d88 ∈ lw_tbl := List.mem_of_getElem? (i := 784) (by decide +kernel)
theorem me_J9_floorMod_7cf53 : meOK yJ9_floorMod_7cf53 cJ9_floorMod_7cf53 3 (some .int) 2 := ⟨codeAt_in (k := 101) (by decide +kernel), List.mem_of_getElem? (i := 20) (by decide +kernel), by decide +kernel, by decide +kernel, by decide +kernel, by decide +kernel⟩
theorem ms_J9_floorMod_7cf53 : Cond.static yJ9_floorMod_7cf53 ∈ lw_tbl := List.mem_of_getElem? (i := 100) (by decide +kernel)
theorem me_J9_max_7cf53 : meOK yJ9_max_7cf53 cJ9_max_7cf53 2 (some .int) 2 := ⟨codeAt_in (k := 110) (by decide +kernel), List.mem_of_getElem? (i := 20) (by decide +kernel), by decide +kernel, by decide +kernel, by decide +kernel, by decide +kernel⟩
theorem ms_J9_max_7cf53 : Cond.static yJ9_max_7cf53 ∈ lw_tbl := List.mem_of_getElem? (i := 109) (by decide +kernel)
theorem me_J9_max_f86c9 : meOK yJ9_max_f86c9 cJ9_max_f86c9 4 (some .long) 2 := ⟨codeAt_in (k := 797) (by decide +kernel), List.mem_of_getElem? (i := 20) (by decide +kernel), by decide +kernel, by decide +kernel, by decide +kernel, by decide +kernel⟩
theorem ms_J9_max_f86c9 : Cond.static yJ9_max_f86c9 ∈ lw_tbl := List.mem_of_getElem? (i := 796) (by decide +kernel)
theorem me_J9_min_7cf53 : meOK yJ9_min_7cf53 cJ9_min_7cf53 2 (some .int) 2 := ⟨codeAt_in (k := 454) (by decide +kernel), List.mem_of_getElem? (i := 20) (by decide +kernel), by decide +kernel, by decide +kernel, by decide +kernel, by decide +kernel⟩
theorem ms_J9_min_7cf53 : Cond.static yJ9_min_7cf53 ∈ lw_tbl := List.mem_of_getElem? (i := 453) (by decide +kernel)
theorem me_J9_min_f86c9 : meOK yJ9_min_f86c9 cJ9_min_f86c9 4 (some .long) 2 := ⟨codeAt_in (k := 794) (by decide +kernel), List.mem_of_getElem? (i := 20) (by decide +kernel), by decide +kernel, by decide +kernel, by decide +kernel, by decide +kernel⟩
theorem ms_J9_min_f86c9 : Cond.static yJ9_min_f86c9 ∈ lw_tbl := List.mem_of_getElem? (i := 793) (by decide +kernel)
theorem me_J0_init_81219 : meOK yJ0_init_81219 cJ0_init_81219 2 none 1 := ⟨codeAt_in (k := 571) (by decide +kernel), List.mem_of_getElem? (i := 17) (by decide +kernel), by decide +kernel, by decide +kernel, by decide +kernel, by decide +kernel⟩
theorem mi_J0_init_81219 : Cond.instanceMethod yJ0_init_81219 ∈ lw_tbl := List.mem_of_getElem? (i := 570) (by decide +kernel)
theorem me_J0_length_8abf5 : meOK yJ0_length_8abf5 cJ0_length_8abf5 1 (some .int) 0 := ⟨codeAt_in (k := 492) (by decide +kernel), List.mem_of_getElem? (i := 17) (by decide +kernel), by decide +kernel, by decide +kernel, by decide +kernel, by decide +kernel⟩
theorem mi_J0_length_8abf5 : Cond.instanceMethod yJ0_length_8abf5 ∈ lw_tbl := List.mem_of_getElem? (i := 490) (by decide +kernel)
theorem mv_J0_length_8abf5 : Cond.selects yJ0_length_8abf5.cls yJ0_length_8abf5 yJ0_length_8abf5 ∈ lw_tbl := List.mem_of_getElem? (i := 491) (by decide +kernel)
theorem me_J0_charAt_5068e : meOK yJ0_charAt_5068e cJ0_charAt_5068e 2 (some .char) 1 := ⟨codeAt_in (k := 630) (by decide +kernel), List.mem_of_getElem? (i := 17) (by decide +kernel), by decide +kernel, by decide +kernel, by decide +kernel, by decide +kernel⟩
theorem mi_J0_charAt_5068e : Cond.instanceMethod yJ0_charAt_5068e ∈ lw_tbl := List.mem_of_getElem? (i := 628) (by decide +kernel)
theorem mv_J0_charAt_5068e : Cond.selects yJ0_charAt_5068e.cls yJ0_charAt_5068e yJ0_charAt_5068e ∈ lw_tbl := List.mem_of_getElem? (i := 629) (by decide +kernel)
theorem me_J0_getBytes_840e7 : meOK yJ0_getBytes_840e7 cJ0_getBytes_840e7 4 none 3 := ⟨codeAt_in (k := 529) (by decide +kernel), List.mem_of_getElem? (i := 17) (by decide +kernel), by decide +kernel, by decide +kernel, by decide +kernel, by decide +kernel⟩
theorem mi_J0_getBytes_840e7 : Cond.instanceMethod yJ0_getBytes_840e7 ∈ lw_tbl := List.mem_of_getElem? (i := 527) (by decide +kernel)
theorem mv_J0_getBytes_840e7 : Cond.selects yJ0_getBytes_840e7.cls yJ0_getBytes_840e7 yJ0_getBytes_840e7 ∈ lw_tbl := List.mem_of_getElem? (i := 528) (by decide +kernel)
theorem me_J0_init_db425 : meOK yJ0_init_db425 cJ0_init_db425 5 none 2 := ⟨codeAt_in (k := 574) (by decide +kernel), List.mem_of_getElem? (i := 17) (by decide +kernel), by decide +kernel, by decide +kernel, by decide +kernel, by decide +kernel⟩
theorem mi_J0_init_db425 : Cond.instanceMethod yJ0_init_db425 ∈ lw_tbl := List.mem_of_getElem? (i := 573) (by decide +kernel)
theorem me_J0_coder_7d493 : meOK yJ0_coder_7d493 cJ0_coder_7d493 1 (some .byte) 0 := ⟨codeAt_in (k := 496) (by decide +kernel), List.mem_of_getElem? (i := 17) (by decide +kernel), by decide +kernel, by decide +kernel, by decide +kernel, by decide +kernel⟩
theorem mi_J0_coder_7d493 : Cond.instanceMethod yJ0_coder_7d493 ∈ lw_tbl := List.mem_of_getElem? (i := 494) (by decide +kernel)
theorem mv_J0_coder_7d493 : Cond.selects yJ0_coder_7d493.cls yJ0_coder_7d493 yJ0_coder_7d493 ∈ lw_tbl := List.mem_of_getElem? (i := 495) (by decide +kernel)
theorem me_J0_isLatin1_aae02 : meOK yJ0_isLatin1_aae02 cJ0_isLatin1_aae02 1 (some .boolean) 0 := ⟨codeAt_in (k := 634) (by decide +kernel), List.mem_of_getElem? (i := 17) (by decide +kernel), by decide +kernel, by decide +kernel, by decide +kernel, by decide +kernel⟩
theorem mi_J0_isLatin1_aae02 : Cond.instanceMethod yJ0_isLatin1_aae02 ∈ lw_tbl := List.mem_of_getElem? (i := 632) (by decide +kernel)
theorem mv_J0_isLatin1_aae02 : Cond.selects yJ0_isLatin1_aae02.cls yJ0_isLatin1_aae02 yJ0_isLatin1_aae02 ∈ lw_tbl := List.mem_of_getElem? (i := 633) (by decide +kernel)
theorem me_J0_checkIndex_df160 : meOK yJ0_checkIndex_df160 cJ0_checkIndex_df160 2 none 2 := ⟨codeAt_in (k := 640) (by decide +kernel), List.mem_of_getElem? (i := 17) (by decide +kernel), by decide +kernel, by decide +kernel, by decide +kernel, by decide +kernel⟩
theorem ms_J0_checkIndex_df160 : Cond.static yJ0_checkIndex_df160 ∈ lw_tbl := List.mem_of_getElem? (i := 639) (by decide +kernel)
theorem me_J0_checkBoundsOffCount_cabcc : meOK yJ0_checkBoundsOffCount_cabcc cJ0_checkBoundsOffCount_cabcc 3 (some .int) 3 := ⟨codeAt_in (k := 522) (by decide +kernel), List.mem_of_getElem? (i := 17) (by decide +kernel), by decide +kernel, by decide +kernel, by decide +kernel, by decide +kernel⟩
theorem ms_J0_checkBoundsOffCount_cabcc : Cond.static yJ0_checkBoundsOffCount_cabcc ∈ lw_tbl := List.mem_of_getElem? (i := 521) (by decide +kernel)
theorem me_J0_checkBoundsBeginEnd_23922 : meOK yJ0_checkBoundsBeginEnd_23922 cJ0_checkBoundsBeginEnd_23922 3 none 3 := ⟨codeAt_in (k := 474) (by decide +kernel), List.mem_of_getElem? (i := 17) (by decide +kernel), by decide +kernel, by decide +kernel, by decide +kernel, by decide +kernel⟩
theorem ms_J0_checkBoundsBeginEnd_23922 : Cond.static yJ0_checkBoundsBeginEnd_23922 ∈ lw_tbl := List.mem_of_getElem? (i := 473) (by decide +kernel)
theorem me_J4_init_da8c8 : meOK yJ4_init_da8c8 cJ4_init_da8c8 1 none 0 := ⟨codeAt_in (k := 385) (by decide +kernel), List.mem_of_getElem? (i := 16) (by decide +kernel), by decide +kernel, by decide +kernel, by decide +kernel, by decide +kernel⟩
theorem mi_J4_init_da8c8 : Cond.instanceMethod yJ4_init_da8c8 ∈ lw_tbl := List.mem_of_getElem? (i := 384) (by decide +kernel)
theorem me_J4_append_15ec4 : meOK yJ4_append_15ec4 cJ4_append_15ec4 2 (some (.object "java/lang/StringBuilder")) 1 := ⟨codeAt_in (k := 417) (by decide +kernel), List.mem_of_getElem? (i := 16) (by decide +kernel), by decide +kernel, by decide +kernel, by decide +kernel, by decide +kernel⟩
theorem mi_J4_append_15ec4 : Cond.instanceMethod yJ4_append_15ec4 ∈ lw_tbl := List.mem_of_getElem? (i := 415) (by decide +kernel)
theorem mv_J4_append_15ec4 : Cond.selects yJ4_append_15ec4.cls yJ4_append_15ec4 yJ4_append_15ec4 ∈ lw_tbl := List.mem_of_getElem? (i := 416) (by decide +kernel)
theorem me_J4_append_bf812 : meOK yJ4_append_bf812 cJ4_append_bf812 2 (some (.object "java/lang/StringBuilder")) 1 := ⟨codeAt_in (k := 535) (by decide +kernel), List.mem_of_getElem? (i := 16) (by decide +kernel), by decide +kernel, by decide +kernel, by decide +kernel, by decide +kernel⟩
theorem mi_J4_append_bf812 : Cond.instanceMethod yJ4_append_bf812 ∈ lw_tbl := List.mem_of_getElem? (i := 533) (by decide +kernel)
theorem mv_J4_append_bf812 : Cond.selects yJ4_append_bf812.cls yJ4_append_bf812 yJ4_append_bf812 ∈ lw_tbl := List.mem_of_getElem? (i := 534) (by decide +kernel)
theorem me_J4_toString_0e30d : meOK yJ4_toString_0e30d cJ4_toString_0e30d 1 (some (.object "java/lang/String")) 0 := ⟨codeAt_in (k := 566) (by decide +kernel), List.mem_of_getElem? (i := 16) (by decide +kernel), by decide +kernel, by decide +kernel, by decide +kernel, by decide +kernel⟩
theorem mi_J4_toString_0e30d : Cond.instanceMethod yJ4_toString_0e30d ∈ lw_tbl := List.mem_of_getElem? (i := 564) (by decide +kernel)
theorem mv_J4_toString_0e30d : Cond.selects yJ4_toString_0e30d.cls yJ4_toString_0e30d yJ4_toString_0e30d ∈ lw_tbl := List.mem_of_getElem? (i := 565) (by decide +kernel)
theorem me_J4_length_8abf5 : meOK yJ4_length_8abf5 cJ4_length_8abf5 1 (some .int) 0 := ⟨codeAt_in (k := 586) (by decide +kernel), List.mem_of_getElem? (i := 16) (by decide +kernel), by decide +kernel, by decide +kernel, by decide +kernel, by decide +kernel⟩
theorem mi_J4_length_8abf5 : Cond.instanceMethod yJ4_length_8abf5 ∈ lw_tbl := List.mem_of_getElem? (i := 585) (by decide +kernel)
theorem me_J1_charAt_3b067 : meOK yJ1_charAt_3b067 cJ1_charAt_3b067 2 (some .char) 2 := ⟨codeAt_in (k := 637) (by decide +kernel), List.mem_of_getElem? (i := 24) (by decide +kernel), by decide +kernel, by decide +kernel, by decide +kernel, by decide +kernel⟩
theorem ms_J1_charAt_3b067 : Cond.static yJ1_charAt_3b067 ∈ lw_tbl := List.mem_of_getElem? (i := 636) (by decide +kernel)
theorem me_J1_inflate_0e8fd : meOK yJ1_inflate_0e8fd cJ1_inflate_0e8fd 5 none 5 := ⟨codeAt_in (k := 513) (by decide +kernel), List.mem_of_getElem? (i := 24) (by decide +kernel), by decide +kernel, by decide +kernel, by decide +kernel, by decide +kernel⟩
theorem ms_J1_inflate_0e8fd : Cond.static yJ1_inflate_0e8fd ∈ lw_tbl := List.mem_of_getElem? (i := 512) (by decide +kernel)
theorem me_J2_newBytesFor_77867 : meOK yJ2_newBytesFor_77867 cJ2_newBytesFor_77867 1 (some (.array .byte)) 1 := ⟨codeAt_in (k := 394) (by decide +kernel), List.mem_of_getElem? (i := 18) (by decide +kernel), by decide +kernel, by decide +kernel, by decide +kernel, by decide +kernel⟩
theorem ms_J2_newBytesFor_77867 : Cond.static yJ2_newBytesFor_77867 ∈ lw_tbl := List.mem_of_getElem? (i := 393) (by decide +kernel)
theorem me_J2_newBytesLength_0f7a4 : meOK yJ2_newBytesLength_0f7a4 cJ2_newBytesLength_0f7a4 1 (some .int) 1 := ⟨codeAt_in (k := 397) (by decide +kernel), List.mem_of_getElem? (i := 18) (by decide +kernel), by decide +kernel, by decide +kernel, by decide +kernel, by decide +kernel⟩
theorem ms_J2_newBytesLength_0f7a4 : Cond.static yJ2_newBytesLength_0f7a4 ∈ lw_tbl := List.mem_of_getElem? (i := 396) (by decide +kernel)
theorem me_J2_putChar_b72d1 : meOK yJ2_putChar_b72d1 cJ2_putChar_b72d1 3 none 3 := ⟨codeAt_in (k := 482) (by decide +kernel), List.mem_of_getElem? (i := 18) (by decide +kernel), by decide +kernel, by decide +kernel, by decide +kernel, by decide +kernel⟩
theorem ms_J2_putChar_b72d1 : Cond.static yJ2_putChar_b72d1 ∈ lw_tbl := List.mem_of_getElem? (i := 481) (by decide +kernel)
theorem me_J2_getChar_3b067 : meOK yJ2_getChar_3b067 cJ2_getChar_3b067 2 (some .char) 2 := ⟨codeAt_in (k := 607) (by decide +kernel), List.mem_of_getElem? (i := 18) (by decide +kernel), by decide +kernel, by decide +kernel, by decide +kernel, by decide +kernel⟩
theorem ms_J2_getChar_3b067 : Cond.static yJ2_getChar_3b067 ∈ lw_tbl := List.mem_of_getElem? (i := 606) (by decide +kernel)
theorem me_J2_length_9d52b : meOK yJ2_length_9d52b cJ2_length_9d52b 1 (some .int) 1 := ⟨codeAt_in (k := 471) (by decide +kernel), List.mem_of_getElem? (i := 18) (by decide +kernel), by decide +kernel, by decide +kernel, by decide +kernel, by decide +kernel⟩
theorem ms_J2_length_9d52b : Cond.static yJ2_length_9d52b ∈ lw_tbl := List.mem_of_getElem? (i := 470) (by decide +kernel)
theorem me_J2_coderFromArrayLen_85cad : meOK yJ2_coderFromArrayLen_85cad cJ2_coderFromArrayLen_85cad 2 (some .byte) 2 := ⟨codeAt_in (k := 611) (by decide +kernel), List.mem_of_getElem? (i := 18) (by decide +kernel), by decide +kernel, by decide +kernel, by decide +kernel, by decide +kernel⟩
theorem ms_J2_coderFromArrayLen_85cad : Cond.static yJ2_coderFromArrayLen_85cad ∈ lw_tbl := List.mem_of_getElem? (i := 610) (by decide +kernel)
theorem me_J2_compress_39247 : meOK yJ2_compress_39247 cJ2_compress_39247 6 (some (.array .byte)) 3 := ⟨codeAt_in (k := 601) (by decide +kernel), List.mem_of_getElem? (i := 18) (by decide +kernel), by decide +kernel, by decide +kernel, by decide +kernel, by decide +kernel⟩
theorem ms_J2_compress_39247 : Cond.static yJ2_compress_39247 ∈ lw_tbl := List.mem_of_getElem? (i := 600) (by decide +kernel)
theorem me_J2_compress_5af95 : meOK yJ2_compress_5af95 cJ2_compress_5af95 7 (some .int) 5 := ⟨codeAt_in (k := 604) (by decide +kernel), List.mem_of_getElem? (i := 18) (by decide +kernel), by decide +kernel, by decide +kernel, by decide +kernel, by decide +kernel⟩
theorem ms_J2_compress_5af95 : Cond.static yJ2_compress_5af95 ∈ lw_tbl := List.mem_of_getElem? (i := 603) (by decide +kernel)
theorem me_J2_getChars_46870 : meOK yJ2_getChars_46870 cJ2_getChars_46870 5 (some .int) 4 := ⟨codeAt_in (k := 551) (by decide +kernel), List.mem_of_getElem? (i := 18) (by decide +kernel), by decide +kernel, by decide +kernel, by decide +kernel, by decide +kernel⟩
theorem ms_J2_getChars_46870 : Cond.static yJ2_getChars_46870 ∈ lw_tbl := List.mem_of_getElem? (i := 550) (by decide +kernel)
theorem me_J2_putCharsAt_cd4e5 : meOK yJ2_putCharsAt_cd4e5 cJ2_putCharsAt_cd4e5 7 (some .int) 6 := ⟨codeAt_in (k := 465) (by decide +kernel), List.mem_of_getElem? (i := 18) (by decide +kernel), by decide +kernel, by decide +kernel, by decide +kernel, by decide +kernel⟩
theorem ms_J2_putCharsAt_cd4e5 : Cond.static yJ2_putCharsAt_cd4e5 ∈ lw_tbl := List.mem_of_getElem? (i := 464) (by decide +kernel)
theorem me_J2_charAt_3b067 : meOK yJ2_charAt_3b067 cJ2_charAt_3b067 2 (some .char) 2 := ⟨codeAt_in (k := 646) (by decide +kernel), List.mem_of_getElem? (i := 18) (by decide +kernel), by decide +kernel, by decide +kernel, by decide +kernel, by decide +kernel⟩
theorem ms_J2_charAt_3b067 : Cond.static yJ2_charAt_3b067 ∈ lw_tbl := List.mem_of_getElem? (i := 645) (by decide +kernel)
theorem me_J2_inflate_0e8fd : meOK yJ2_inflate_0e8fd cJ2_inflate_0e8fd 6 none 5 := ⟨codeAt_in (k := 516) (by decide +kernel), List.mem_of_getElem? (i := 18) (by decide +kernel), by decide +kernel, by decide +kernel, by decide +kernel, by decide +kernel⟩
theorem ms_J2_inflate_0e8fd : Cond.static yJ2_inflate_0e8fd ∈ lw_tbl := List.mem_of_getElem? (i := 515) (by decide +kernel)
theorem me_J2_getChars_ba4f3 : meOK yJ2_getChars_ba4f3 cJ2_getChars_ba4f3 7 (some .int) 3 := ⟨codeAt_in (k := 554) (by decide +kernel), List.mem_of_getElem? (i := 18) (by decide +kernel), by decide +kernel, by decide +kernel, by decide +kernel, by decide +kernel⟩
theorem ms_J2_getChars_ba4f3 : Cond.static yJ2_getChars_ba4f3 ∈ lw_tbl := List.mem_of_getElem? (i := 553) (by decide +kernel)
theorem me_J2_checkIndex_2214a : meOK yJ2_checkIndex_2214a cJ2_checkIndex_2214a 2 none 2 := ⟨codeAt_in (k := 649) (by decide +kernel), List.mem_of_getElem? (i := 18) (by decide +kernel), by decide +kernel, by decide +kernel, by decide +kernel, by decide +kernel⟩
theorem ms_J2_checkIndex_2214a : Cond.static yJ2_checkIndex_2214a ∈ lw_tbl := List.mem_of_getElem? (i := 648) (by decide +kernel)
theorem me_J2_checkBoundsBeginEnd_d044e : meOK yJ2_checkBoundsBeginEnd_d044e cJ2_checkBoundsBeginEnd_d044e 3 none 3 := ⟨codeAt_in (k := 468) (by decide +kernel), List.mem_of_getElem? (i := 18) (by decide +kernel), by decide +kernel, by decide +kernel, by decide +kernel, by decide +kernel⟩
theorem ms_J2_checkBoundsBeginEnd_d044e : Cond.static yJ2_checkBoundsBeginEnd_d044e ∈ lw_tbl := List.mem_of_getElem? (i := 467) (by decide +kernel)
theorem me_J2_checkBoundsOffCount_d044e : meOK yJ2_checkBoundsOffCount_d044e cJ2_checkBoundsOffCount_d044e 3 none 3 := ⟨codeAt_in (k := 519) (by decide +kernel), List.mem_of_getElem? (i := 18) (by decide +kernel), by decide +kernel, by decide +kernel, by decide +kernel, by decide +kernel⟩
theorem ms_J2_checkBoundsOffCount_d044e : Cond.static yJ2_checkBoundsOffCount_d044e ∈ lw_tbl := List.mem_of_getElem? (i := 518) (by decide +kernel)
theorem me_J7_copyOf_9075b : meOK yJ7_copyOf_9075b cJ7_copyOf_9075b 3 (some (.array .byte)) 2 := ⟨codeAt_in (k := 444) (by decide +kernel), List.mem_of_getElem? (i := 21) (by decide +kernel), by decide +kernel, by decide +kernel, by decide +kernel, by decide +kernel⟩
theorem ms_J7_copyOf_9075b : Cond.static yJ7_copyOf_9075b ∈ lw_tbl := List.mem_of_getElem? (i := 443) (by decide +kernel)
theorem me_J7_checkLength_df160 : meOK yJ7_checkLength_df160 cJ7_checkLength_df160 2 none 2 := ⟨codeAt_in (k := 598) (by decide +kernel), List.mem_of_getElem? (i := 21) (by decide +kernel), by decide +kernel, by decide +kernel, by decide +kernel, by decide +kernel⟩
theorem ms_J7_checkLength_df160 : Cond.static yJ7_checkLength_df160 ∈ lw_tbl := List.mem_of_getElem? (i := 597) (by decide +kernel)
theorem me_J7_copyOfRange_39247 : meOK yJ7_copyOfRange_39247 cJ7_copyOfRange_39247 3 (some (.array .byte)) 3 := ⟨codeAt_in (k := 592) (by decide +kernel), List.mem_of_getElem? (i := 21) (by decide +kernel), by decide +kernel, by decide +kernel, by decide +kernel, by decide +kernel⟩
theorem ms_J7_copyOfRange_39247 : Cond.static yJ7_copyOfRange_39247 ∈ lw_tbl := List.mem_of_getElem? (i := 591) (by decide +kernel)
theorem me_J7_copyOfRangeByte_39247 : meOK yJ7_copyOfRangeByte_39247 cJ7_copyOfRangeByte_39247 5 (some (.array .byte)) 3 := ⟨codeAt_in (k := 595) (by decide +kernel), List.mem_of_getElem? (i := 21) (by decide +kernel), by decide +kernel, by decide +kernel, by decide +kernel, by decide +kernel⟩
theorem ms_J7_copyOfRangeByte_39247 : Cond.static yJ7_copyOfRangeByte_39247 ∈ lw_tbl := List.mem_of_getElem? (i := 594) (by decide +kernel)
theorem me_J8_newLength_cabcc : meOK yJ8_newLength_cabcc cJ8_newLength_cabcc 4 (some .int) 3 := ⟨codeAt_in (k := 435) (by decide +kernel), List.mem_of_getElem? (i := 19) (by decide +kernel), by decide +kernel, by decide +kernel, by decide +kernel, by decide +kernel⟩
theorem ms_J8_newLength_cabcc : Cond.static yJ8_newLength_cabcc ∈ lw_tbl := List.mem_of_getElem? (i := 434) (by decide +kernel)
theorem me_J8_hugeLength_7cf53 : meOK yJ8_hugeLength_7cf53 cJ8_hugeLength_7cf53 3 (some .int) 2 := ⟨codeAt_in (k := 440) (by decide +kernel), List.mem_of_getElem? (i := 19) (by decide +kernel), by decide +kernel, by decide +kernel, by decide +kernel, by decide +kernel⟩
theorem ms_J8_hugeLength_7cf53 : Cond.static yJ8_hugeLength_7cf53 ∈ lw_tbl := List.mem_of_getElem? (i := 439) (by decide +kernel)
theorem me_J3_checkIndex_8e157 : meOK yJ3_checkIndex_8e157 cJ3_checkIndex_8e157 3 (some .int) 3 := ⟨codeAt_in (k := 643) (by decide +kernel), List.mem_of_getElem? (i := 23) (by decide +kernel), by decide +kernel, by decide +kernel, by decide +kernel, by decide +kernel⟩
theorem ms_J3_checkIndex_8e157 : Cond.static yJ3_checkIndex_8e157 ∈ lw_tbl := List.mem_of_getElem? (i := 642) (by decide +kernel)
theorem me_J3_checkFromToIndex_8c36e : meOK yJ3_checkFromToIndex_8c36e cJ3_checkFromToIndex_8c36e 4 (some .int) 4 := ⟨codeAt_in (k := 479) (by decide +kernel), List.mem_of_getElem? (i := 23) (by decide +kernel), by decide +kernel, by decide +kernel, by decide +kernel, by decide +kernel⟩
theorem ms_J3_checkFromToIndex_8c36e : Cond.static yJ3_checkFromToIndex_8c36e ∈ lw_tbl := List.mem_of_getElem? (i := 478) (by decide +kernel)
theorem me_J3_checkFromIndexSize_8c36e : meOK yJ3_checkFromIndexSize_8c36e cJ3_checkFromIndexSize_8c36e 4 (some .int) 4 := ⟨codeAt_in (k := 525) (by decide +kernel), List.mem_of_getElem? (i := 23) (by decide +kernel), by decide +kernel, by decide +kernel, by decide +kernel, by decide +kernel⟩
theorem ms_J3_checkFromIndexSize_8c36e : Cond.static yJ3_checkFromIndexSize_8c36e ∈ lw_tbl := List.mem_of_getElem? (i := 524) (by decide +kernel)
theorem me_L_at : meOK yL_at cL_at 2 (some .int) 2 := ⟨codeAt_in (k := 186) (by decide +kernel), List.mem_of_getElem? (i := 9) (by decide +kernel), by decide +kernel, by decide +kernel, by decide +kernel, by decide +kernel⟩
theorem ms_L_at : Cond.static yL_at ∈ lw_tbl := List.mem_of_getElem? (i := 185) (by decide +kernel)
theorem me_L_text : meOK yL_text cL_text 3 none 2 := ⟨codeAt_in (k := 625) (by decide +kernel), List.mem_of_getElem? (i := 9) (by decide +kernel), by decide +kernel, by decide +kernel, by decide +kernel, by decide +kernel⟩
theorem ms_L_text : Cond.static yL_text ∈ lw_tbl := List.mem_of_getElem? (i := 624) (by decide +kernel)
theorem me_L_build : meOK yL_build cL_build 3 (some (.object "NameThrownBack")) 1 := ⟨codeAt_in (k := 189) (by decide +kernel), List.mem_of_getElem? (i := 9) (by decide +kernel), by decide +kernel, by decide +kernel, by decide +kernel, by decide +kernel⟩
theorem ms_L_build : Cond.static yL_build ∈ lw_tbl := List.mem_of_getElem? (i := 188) (by decide +kernel)
theorem me_L_plain : meOK yL_plain cL_plain 1 (some .boolean) 1 := ⟨codeAt_in (k := 380) (by decide +kernel), List.mem_of_getElem? (i := 9) (by decide +kernel), by decide +kernel, by decide +kernel, by decide +kernel, by decide +kernel⟩
theorem ms_L_plain : Cond.static yL_plain ∈ lw_tbl := List.mem_of_getElem? (i := 379) (by decide +kernel)
theorem me_L_many : meOK yL_many cL_many 1 (some .int) 1 := ⟨codeAt_in (k := 354) (by decide +kernel), List.mem_of_getElem? (i := 9) (by decide +kernel), by decide +kernel, by decide +kernel, by decide +kernel, by decide +kernel⟩
theorem ms_L_many : Cond.static yL_many ∈ lw_tbl := List.mem_of_getElem? (i := 353) (by decide +kernel)
theorem me_L_sea : meOK yL_sea cL_sea 1 (some .int) 1 := ⟨codeAt_in (k := 350) (by decide +kernel), List.mem_of_getElem? (i := 9) (by decide +kernel), by decide +kernel, by decide +kernel, by decide +kernel, by decide +kernel⟩
theorem ms_L_sea : Cond.static yL_sea ∈ lw_tbl := List.mem_of_getElem? (i := 349) (by decide +kernel)
theorem me_L_tide : meOK yL_tide cL_tide 1 (some .int) 1 := ⟨codeAt_in (k := 347) (by decide +kernel), List.mem_of_getElem? (i := 9) (by decide +kernel), by decide +kernel, by decide +kernel, by decide +kernel, by decide +kernel⟩
theorem ms_L_tide : Cond.static yL_tide ∈ lw_tbl := List.mem_of_getElem? (i := 346) (by decide +kernel)
theorem me_L_length : meOK yL_length cL_length 1 (some .int) 1 := ⟨codeAt_in (k := 749) (by decide +kernel), List.mem_of_getElem? (i := 9) (by decide +kernel), by decide +kernel, by decide +kernel, by decide +kernel, by decide +kernel⟩
theorem ms_L_length : Cond.static yL_length ∈ lw_tbl := List.mem_of_getElem? (i := 748) (by decide +kernel)
theorem me_L_thing : meOK yL_thing cL_thing 2 (some .int) 2 := ⟨codeAt_in (k := 765) (by decide +kernel), List.mem_of_getElem? (i := 9) (by decide +kernel), by decide +kernel, by decide +kernel, by decide +kernel, by decide +kernel⟩
theorem ms_L_thing : Cond.static yL_thing ∈ lw_tbl := List.mem_of_getElem? (i := 764) (by decide +kernel)
theorem me_L_kind : meOK yL_kind cL_kind 2 (some .int) 2 := ⟨codeAt_in (k := 357) (by decide +kernel), List.mem_of_getElem? (i := 9) (by decide +kernel), by decide +kernel, by decide +kernel, by decide +kernel, by decide +kernel⟩
theorem ms_L_kind : Cond.static yL_kind ∈ lw_tbl := List.mem_of_getElem? (i := 356) (by decide +kernel)
theorem me_L_more : meOK yL_more cL_more 2 (some .int) 2 := ⟨codeAt_in (k := 360) (by decide +kernel), List.mem_of_getElem? (i := 9) (by decide +kernel), by decide +kernel, by decide +kernel, by decide +kernel, by decide +kernel⟩
theorem ms_L_more : Cond.static yL_more ∈ lw_tbl := List.mem_of_getElem? (i := 359) (by decide +kernel)
theorem me_L_known : meOK yL_known cL_known 2 (some .int) 2 := ⟨codeAt_in (k := 363) (by decide +kernel), List.mem_of_getElem? (i := 9) (by decide +kernel), by decide +kernel, by decide +kernel, by decide +kernel, by decide +kernel⟩
theorem ms_L_known : Cond.static yL_known ∈ lw_tbl := List.mem_of_getElem? (i := 362) (by decide +kernel)
theorem me_L_kept : meOK yL_kept cL_kept 2 (some .int) 2 := ⟨codeAt_in (k := 374) (by decide +kernel), List.mem_of_getElem? (i := 9) (by decide +kernel), by decide +kernel, by decide +kernel, by decide +kernel, by decide +kernel⟩
theorem ms_L_kept : Cond.static yL_kept ∈ lw_tbl := List.mem_of_getElem? (i := 373) (by decide +kernel)
theorem me_L_luck : meOK yL_luck cL_luck 2 (some .int) 2 := ⟨codeAt_in (k := 377) (by decide +kernel), List.mem_of_getElem? (i := 9) (by decide +kernel), by decide +kernel, by decide +kernel, by decide +kernel, by decide +kernel⟩
theorem ms_L_luck : Cond.static yL_luck ∈ lw_tbl := List.mem_of_getElem? (i := 376) (by decide +kernel)
theorem me_L_held : meOK yL_held cL_held 4 (some .int) 3 := ⟨codeAt_in (k := 791) (by decide +kernel), List.mem_of_getElem? (i := 9) (by decide +kernel), by decide +kernel, by decide +kernel, by decide +kernel, by decide +kernel⟩
theorem ms_L_held : Cond.static yL_held ∈ lw_tbl := List.mem_of_getElem? (i := 790) (by decide +kernel)
theorem me_L_start : meOK yL_start cL_start 3 none 2 := ⟨codeAt_in (k := 776) (by decide +kernel), List.mem_of_getElem? (i := 9) (by decide +kernel), by decide +kernel, by decide +kernel, by decide +kernel, by decide +kernel⟩
theorem ms_L_start : Cond.static yL_start ∈ lw_tbl := List.mem_of_getElem? (i := 775) (by decide +kernel)
theorem me_L_lets : meOK yL_lets cL_lets 16 (some .int) 4 := ⟨codeAt_in (k := 782) (by decide +kernel), List.mem_of_getElem? (i := 9) (by decide +kernel), by decide +kernel, by decide +kernel, by decide +kernel, by decide +kernel⟩
theorem ms_L_lets : Cond.static yL_lets ∈ lw_tbl := List.mem_of_getElem? (i := 781) (by decide +kernel)
theorem me_L_lucks : meOK yL_lucks cL_lucks 9 (some .long) 4 := ⟨codeAt_in (k := 809) (by decide +kernel), List.mem_of_getElem? (i := 9) (by decide +kernel), by decide +kernel, by decide +kernel, by decide +kernel, by decide +kernel⟩
theorem ms_L_lucks : Cond.static yL_lucks ∈ lw_tbl := List.mem_of_getElem? (i := 808) (by decide +kernel)
theorem me_L_takes : meOK yL_takes cL_takes 7 (some .long) 3 := ⟨codeAt_in (k := 818) (by decide +kernel), List.mem_of_getElem? (i := 9) (by decide +kernel), by decide +kernel, by decide +kernel, by decide +kernel, by decide +kernel⟩
theorem ms_L_takes : Cond.static yL_takes ∈ lw_tbl := List.mem_of_getElem? (i := 817) (by decide +kernel)
theorem me_L_land : meOK yL_land cL_land 5 (some .int) 4 := ⟨codeAt_in (k := 779) (by decide +kernel), List.mem_of_getElem? (i := 9) (by decide +kernel), by decide +kernel, by decide +kernel, by decide +kernel, by decide +kernel⟩
theorem ms_L_land : Cond.static yL_land ∈ lw_tbl := List.mem_of_getElem? (i := 778) (by decide +kernel)
theorem me_L_lesson : meOK yL_lesson cL_lesson 10 (some .long) 4 := ⟨codeAt_in (k := 815) (by decide +kernel), List.mem_of_getElem? (i := 9) (by decide +kernel), by decide +kernel, by decide +kernel, by decide +kernel, by decide +kernel⟩
theorem ms_L_lesson : Cond.static yL_lesson ∈ lw_tbl := List.mem_of_getElem? (i := 814) (by decide +kernel)
theorem me_L_pass : meOK yL_pass cL_pass 4 (some .int) 2 := ⟨codeAt_in (k := 821) (by decide +kernel), List.mem_of_getElem? (i := 9) (by decide +kernel), by decide +kernel, by decide +kernel, by decide +kernel, by decide +kernel⟩
theorem ms_L_pass : Cond.static yL_pass ∈ lw_tbl := List.mem_of_getElem? (i := 820) (by decide +kernel)
theorem me_L_same : meOK yL_same cL_same 5 (some .boolean) 3 := ⟨codeAt_in (k := 824) (by decide +kernel), List.mem_of_getElem? (i := 9) (by decide +kernel), by decide +kernel, by decide +kernel, by decide +kernel, by decide +kernel⟩
theorem ms_L_same : Cond.static yL_same ∈ lw_tbl := List.mem_of_getElem? (i := 823) (by decide +kernel)
theorem lk_L_30 : Cond.methodLink RL 30 yX4_shore ∈ lw_tbl := List.mem_of_getElem? (i := 27) (by decide +kernel)
theorem lk_X4_70 : Cond.methodLink RX4 70 yX4_isSet ∈ lw_tbl := List.mem_of_getElem? (i := 31) (by decide +kernel)
theorem lk_L_56 : Cond.methodLink RL 56 yX4_put ∈ lw_tbl := List.mem_of_getElem? (i := 35) (by decide +kernel)
theorem lk_X4_95 : Cond.methodLink RX4 95 yX0_has ∈ lw_tbl := List.mem_of_getElem? (i := 39) (by decide +kernel)
theorem lk_X4_111 : Cond.methodLink RX4 111 yX4_swap ∈ lw_tbl := List.mem_of_getElem? (i := 43) (by decide +kernel)
theorem lk_X4_120 : Cond.methodLink RX4 120 yX4_at ∈ lw_tbl := List.mem_of_getElem? (i := 46) (by decide +kernel)
theorem lk_X4_204 : Cond.methodLink RX4 204 yX4_set ∈ lw_tbl := List.mem_of_getElem? (i := 49) (by decide +kernel)
theorem lk_L_164 : Cond.methodLink RL 164 yX4_told ∈ lw_tbl := List.mem_of_getElem? (i := 52) (by decide +kernel)
theorem lk_X4_130 : Cond.methodLink RX4 130 yX0_nameless ∈ lw_tbl := List.mem_of_getElem? (i := 56) (by decide +kernel)
theorem ln_X0_47 : Cond.methodLinkNest RX0 47 yX4_at RX4 ∈ lw_tbl := List.mem_of_getElem? (i := 60) (by decide +kernel)
theorem lk_X4_133 : Cond.methodLink RX4 133 yX0_takesOf ∈ lw_tbl := List.mem_of_getElem? (i := 61) (by decide +kernel)
theorem lk_X0_71 : Cond.methodLink RX0 71 yX0_says ∈ lw_tbl := List.mem_of_getElem? (i := 65) (by decide +kernel)
theorem ln_X0_51 : Cond.methodLinkNest RX0 51 yX4_set RX4 ∈ lw_tbl := List.mem_of_getElem? (i := 69) (by decide +kernel)
theorem lk_X0_55 : Cond.methodLink RX0 55 yJ6_bitCount_0f7a4 ∈ lw_tbl := List.mem_of_getElem? (i := 70) (by decide +kernel)
theorem lk_X0_61 : Cond.methodLink RX0 61 yX3_value ∈ lw_tbl := List.mem_of_getElem? (i := 76) (by decide +kernel)
theorem ln_X3_29 : Cond.methodLinkNest RX3 29 yX4_at RX4 ∈ lw_tbl := List.mem_of_getElem? (i := 80) (by decide +kernel)
theorem ln_X3_21 : Cond.methodLinkNest RX3 21 yX4_set RX4 ∈ lw_tbl := List.mem_of_getElem? (i := 81) (by decide +kernel)
theorem lk_X3_33 : Cond.methodLink RX3 33 yX3_ofTwo ∈ lw_tbl := List.mem_of_getElem? (i := 82) (by decide +kernel)
theorem ln_X0_67 : Cond.methodLinkNest RX0 67 yX4_bounded RX4 ∈ lw_tbl := List.mem_of_getElem? (i := 85) (by decide +kernel)
theorem lk_L_169 : Cond.methodLink RL 169 yX4_lands ∈ lw_tbl := List.mem_of_getElem? (i := 88) (by decide +kernel)
theorem lk_X4_98 : Cond.methodLink RX4 98 yX4_isThing ∈ lw_tbl := List.mem_of_getElem? (i := 92) (by decide +kernel)
theorem lk_X4_136 : Cond.methodLink RX4 136 yX0_letsGo ∈ lw_tbl := List.mem_of_getElem? (i := 95) (by decide +kernel)
theorem lk_X0_74 : Cond.methodLink RX0 74 yJ9_floorMod_7cf53 ∈ lw_tbl := List.mem_of_getElem? (i := 99) (by decide +kernel)
theorem ln_X0_80 : Cond.methodLinkNest RX0 80 yX4_numbered RX4 ∈ lw_tbl := List.mem_of_getElem? (i := 102) (by decide +kernel)
theorem lk_X4_157 : Cond.methodLink RX4 157 yX4_holds ∈ lw_tbl := List.mem_of_getElem? (i := 105) (by decide +kernel)
theorem lk_X0_83 : Cond.methodLink RX0 83 yJ9_max_7cf53 ∈ lw_tbl := List.mem_of_getElem? (i := 108) (by decide +kernel)
theorem lk_X4_140 : Cond.methodLink RX4 140 yX0_lucksBy ∈ lw_tbl := List.mem_of_getElem? (i := 111) (by decide +kernel)
theorem ln_X0_86 : Cond.methodLinkNest RX0 86 yX4_holds RX4 ∈ lw_tbl := List.mem_of_getElem? (i := 115) (by decide +kernel)
theorem lk_L_199 : Cond.methodLink RL 199 yX4_land ∈ lw_tbl := List.mem_of_getElem? (i := 116) (by decide +kernel)
theorem lk_X4_143 : Cond.methodLink RX4 143 yX0_landing ∈ lw_tbl := List.mem_of_getElem? (i := 120) (by decide +kernel)
theorem lk_X0_90 : Cond.methodLink RX0 90 yX0_has ∈ lw_tbl := List.mem_of_getElem? (i := 124) (by decide +kernel)
theorem ln_X0_94 : Cond.methodLinkNest RX0 94 yX4_isThing RX4 ∈ lw_tbl := List.mem_of_getElem? (i := 125) (by decide +kernel)
theorem lk_X0_97 : Cond.methodLink RX0 97 yX0_letsGo ∈ lw_tbl := List.mem_of_getElem? (i := 126) (by decide +kernel)
theorem lk_X0_100 : Cond.methodLink RX0 100 yX0_lucksBy ∈ lw_tbl := List.mem_of_getElem? (i := 127) (by decide +kernel)
theorem lk_L_204 : Cond.methodLink RL 204 yX4_teach ∈ lw_tbl := List.mem_of_getElem? (i := 128) (by decide +kernel)
theorem lk_X4_146 : Cond.methodLink RX4 146 yX0_learns ∈ lw_tbl := List.mem_of_getElem? (i := 132) (by decide +kernel)
theorem lk_X0_103 : Cond.methodLink RX0 103 yX0_takesOf ∈ lw_tbl := List.mem_of_getElem? (i := 136) (by decide +kernel)
theorem ln_X0_106 : Cond.methodLinkNest RX0 106 yX4_leastOf RX4 ∈ lw_tbl := List.mem_of_getElem? (i := 137) (by decide +kernel)
theorem lk_X4_149 : Cond.methodLink RX4 149 yX0_isTold ∈ lw_tbl := List.mem_of_getElem? (i := 140) (by decide +kernel)
theorem lk_L_212 : Cond.methodLink RL 212 yX4_tide ∈ lw_tbl := List.mem_of_getElem? (i := 144) (by decide +kernel)
theorem lk_X4_153 : Cond.methodLink RX4 153 yX0_washes ∈ lw_tbl := List.mem_of_getElem? (i := 148) (by decide +kernel)
theorem lk_X0_109 : Cond.methodLink RX0 109 yX0_isTold ∈ lw_tbl := List.mem_of_getElem? (i := 152) (by decide +kernel)
theorem lk_L_183 : Cond.methodLink RL 183 yX4_talk ∈ lw_tbl := List.mem_of_getElem? (i := 153) (by decide +kernel)
theorem lk_L_186 : Cond.methodLink RL 186 yX4_which ∈ lw_tbl := List.mem_of_getElem? (i := 157) (by decide +kernel)
theorem lk_X4_193 : Cond.methodLink RX4 193 yX4_bounded ∈ lw_tbl := List.mem_of_getElem? (i := 161) (by decide +kernel)
theorem lk_L_189 : Cond.methodLink RL 189 yX4_lessons ∈ lw_tbl := List.mem_of_getElem? (i := 162) (by decide +kernel)
theorem lk_X4_164 : Cond.methodLink RX4 164 yX0_become ∈ lw_tbl := List.mem_of_getElem? (i := 166) (by decide +kernel)
theorem lk_X4_196 : Cond.methodLink RX4 196 yX4_lessonsTo ∈ lw_tbl := List.mem_of_getElem? (i := 170) (by decide +kernel)
theorem lk_X4_200 : Cond.methodLink RX4 200 yX4_lessonsFrom ∈ lw_tbl := List.mem_of_getElem? (i := 173) (by decide +kernel)
theorem lk_L_192 : Cond.methodLink RL 192 yX4_when ∈ lw_tbl := List.mem_of_getElem? (i := 176) (by decide +kernel)
theorem lk_X4_208 : Cond.methodLink RX4 208 yX0_knownToAny ∈ lw_tbl := List.mem_of_getElem? (i := 180) (by decide +kernel)
theorem lk_L_76 : Cond.methodLink RL 76 yL_at ∈ lw_tbl := List.mem_of_getElem? (i := 184) (by decide +kernel)
theorem lk_L_175 : Cond.methodLink RL 175 yL_build ∈ lw_tbl := List.mem_of_getElem? (i := 187) (by decide +kernel)
theorem lk_L_23 : Cond.methodLink RL 23 yX4_init ∈ lw_tbl := List.mem_of_getElem? (i := 192) (by decide +kernel)
theorem lk_X4_9 : Cond.methodLink RX4 9 yX3_init ∈ lw_tbl := List.mem_of_getElem? (i := 200) (by decide +kernel)
theorem ln_X4_18 : Cond.methodLinkNest RX4 18 yX1_init RX4 ∈ lw_tbl := List.mem_of_getElem? (i := 221) (by decide +kernel)
theorem lk_X4_25 : Cond.methodLink RX4 25 yX0_init ∈ lw_tbl := List.mem_of_getElem? (i := 258) (by decide +kernel)
theorem ln_X4_44 : Cond.methodLinkNest RX4 44 yX2_init RX4 ∈ lw_tbl := List.mem_of_getElem? (i := 308) (by decide +kernel)
theorem lk_L_24 : Cond.methodLink RL 24 yL_tide ∈ lw_tbl := List.mem_of_getElem? (i := 345) (by decide +kernel)
theorem lk_L_34 : Cond.methodLink RL 34 yL_sea ∈ lw_tbl := List.mem_of_getElem? (i := 348) (by decide +kernel)
theorem lk_L_37 : Cond.methodLink RL 37 yL_many ∈ lw_tbl := List.mem_of_getElem? (i := 352) (by decide +kernel)
theorem lk_L_40 : Cond.methodLink RL 40 yL_kind ∈ lw_tbl := List.mem_of_getElem? (i := 355) (by decide +kernel)
theorem lk_L_44 : Cond.methodLink RL 44 yL_more ∈ lw_tbl := List.mem_of_getElem? (i := 358) (by decide +kernel)
theorem lk_L_47 : Cond.methodLink RL 47 yL_known ∈ lw_tbl := List.mem_of_getElem? (i := 361) (by decide +kernel)
theorem lk_L_50 : Cond.methodLink RL 50 yX4_fisher ∈ lw_tbl := List.mem_of_getElem? (i := 364) (by decide +kernel)
theorem lk_X4_105 : Cond.methodLink RX4 105 yX0_comes ∈ lw_tbl := List.mem_of_getElem? (i := 368) (by decide +kernel)
theorem lk_L_53 : Cond.methodLink RL 53 yL_kept ∈ lw_tbl := List.mem_of_getElem? (i := 372) (by decide +kernel)
theorem lk_L_60 : Cond.methodLink RL 60 yL_luck ∈ lw_tbl := List.mem_of_getElem? (i := 375) (by decide +kernel)
theorem lk_L_63 : Cond.methodLink RL 63 yL_plain ∈ lw_tbl := List.mem_of_getElem? (i := 378) (by decide +kernel)
theorem lk_L_69 : Cond.methodLink RL 69 yJ4_init_da8c8 ∈ lw_tbl := List.mem_of_getElem? (i := 383) (by decide +kernel)
theorem lk_J4_1 : Cond.methodLink RJ4 1 yJ5_init_d00df ∈ lw_tbl := List.mem_of_getElem? (i := 386) (by decide +kernel)
theorem lk_J5_26 : Cond.methodLink RJ5 26 yJ2_newBytesFor_77867 ∈ lw_tbl := List.mem_of_getElem? (i := 392) (by decide +kernel)
theorem lk_J2_11 : Cond.methodLink RJ2 11 yJ2_newBytesLength_0f7a4 ∈ lw_tbl := List.mem_of_getElem? (i := 395) (by decide +kernel)
theorem lk_L_72 : Cond.methodLink RL 72 yJ4_append_15ec4 ∈ lw_tbl := List.mem_of_getElem? (i := 414) (by decide +kernel)
theorem lk_J4_29 : Cond.methodLink RJ4 29 yJ5_append_cf1ce ∈ lw_tbl := List.mem_of_getElem? (i := 418) (by decide +kernel)
theorem lk_J5_204 : Cond.methodLink RJ5 204 yJ5_appendNull_278bc ∈ lw_tbl := List.mem_of_getElem? (i := 421) (by decide +kernel)
theorem lk_J5_100 : Cond.methodLink RJ5 100 yJ5_ensureCapacityInternal_d00df ∈ lw_tbl := List.mem_of_getElem? (i := 425) (by decide +kernel)
theorem lk_J5_104 : Cond.methodLink RJ5 104 yJ5_newCapacity_0f7a4 ∈ lw_tbl := List.mem_of_getElem? (i := 429) (by decide +kernel)
theorem lk_J5_114 : Cond.methodLink RJ5 114 yJ8_newLength_cabcc ∈ lw_tbl := List.mem_of_getElem? (i := 433) (by decide +kernel)
theorem lk_J8_194 : Cond.methodLink RJ8 194 yJ9_max_7cf53 ∈ lw_tbl := List.mem_of_getElem? (i := 436) (by decide +kernel)
theorem lk_J8_201 : Cond.methodLink RJ8 201 yJ8_hugeLength_7cf53 ∈ lw_tbl := List.mem_of_getElem? (i := 438) (by decide +kernel)
theorem lk_J5_108 : Cond.methodLink RJ5 108 yJ7_copyOf_9075b ∈ lw_tbl := List.mem_of_getElem? (i := 442) (by decide +kernel)
theorem lk_J7_304 : Cond.methodLink RJ7 304 yJ9_min_7cf53 ∈ lw_tbl := List.mem_of_getElem? (i := 452) (by decide +kernel)
theorem lk_J5_83 : Cond.methodLink RJ5 83 yJ5_isLatin1_aae02 ∈ lw_tbl := List.mem_of_getElem? (i := 458) (by decide +kernel)
theorem lk_J5_226 : Cond.methodLink RJ5 226 yJ2_putCharsAt_cd4e5 ∈ lw_tbl := List.mem_of_getElem? (i := 463) (by decide +kernel)
theorem lk_J2_96 : Cond.methodLink RJ2 96 yJ2_checkBoundsBeginEnd_d044e ∈ lw_tbl := List.mem_of_getElem? (i := 466) (by decide +kernel)
theorem lk_J2_48 : Cond.methodLink RJ2 48 yJ2_length_9d52b ∈ lw_tbl := List.mem_of_getElem? (i := 469) (by decide +kernel)
theorem lk_J2_241 : Cond.methodLink RJ2 241 yJ0_checkBoundsBeginEnd_23922 ∈ lw_tbl := List.mem_of_getElem? (i := 472) (by decide +kernel)
theorem lk_J0_1062 : Cond.methodLink RJ0 1062 yJ3_checkFromToIndex_8c36e ∈ lw_tbl := List.mem_of_getElem? (i := 477) (by decide +kernel)
theorem lk_J2_111 : Cond.methodLink RJ2 111 yJ2_putChar_b72d1 ∈ lw_tbl := List.mem_of_getElem? (i := 480) (by decide +kernel)
theorem lk_J5_32 : Cond.methodLink RJ5 32 yJ0_length_8abf5 ∈ lw_tbl := List.mem_of_getElem? (i := 489) (by decide +kernel)
theorem lk_J0_335 : Cond.methodLink RJ0 335 yJ0_coder_7d493 ∈ lw_tbl := List.mem_of_getElem? (i := 493) (by decide +kernel)
theorem lk_J5_208 : Cond.methodLink RJ5 208 yJ5_putStringAt_47b60 ∈ lw_tbl := List.mem_of_getElem? (i := 498) (by decide +kernel)
theorem lk_J5_397 : Cond.methodLink RJ5 397 yJ5_inflateIfNeededFor_a7421 ∈ lw_tbl := List.mem_of_getElem? (i := 502) (by decide +kernel)
theorem lk_J5_40 : Cond.methodLink RJ5 40 yJ0_coder_7d493 ∈ lw_tbl := List.mem_of_getElem? (i := 506) (by decide +kernel)
theorem lk_J5_195 : Cond.methodLink RJ5 195 yJ5_inflate_da8c8 ∈ lw_tbl := List.mem_of_getElem? (i := 507) (by decide +kernel)
theorem lk_J5_125 : Cond.methodLink RJ5 125 yJ1_inflate_0e8fd ∈ lw_tbl := List.mem_of_getElem? (i := 511) (by decide +kernel)
theorem lk_J1_240 : Cond.methodLink RJ1 240 yJ2_inflate_0e8fd ∈ lw_tbl := List.mem_of_getElem? (i := 514) (by decide +kernel)
theorem lk_J2_173 : Cond.methodLink RJ2 173 yJ2_checkBoundsOffCount_d044e ∈ lw_tbl := List.mem_of_getElem? (i := 517) (by decide +kernel)
theorem lk_J2_419 : Cond.methodLink RJ2 419 yJ0_checkBoundsOffCount_cabcc ∈ lw_tbl := List.mem_of_getElem? (i := 520) (by decide +kernel)
theorem lk_J0_1065 : Cond.methodLink RJ0 1065 yJ3_checkFromIndexSize_8c36e ∈ lw_tbl := List.mem_of_getElem? (i := 523) (by decide +kernel)
theorem lk_J5_399 : Cond.methodLink RJ5 399 yJ0_getBytes_840e7 ∈ lw_tbl := List.mem_of_getElem? (i := 526) (by decide +kernel)
theorem lk_J0_106 : Cond.methodLink RJ0 106 yJ1_inflate_0e8fd ∈ lw_tbl := List.mem_of_getElem? (i := 531) (by decide +kernel)
theorem lk_L_79 : Cond.methodLink RL 79 yJ4_append_bf812 ∈ lw_tbl := List.mem_of_getElem? (i := 532) (by decide +kernel)
theorem lk_J4_53 : Cond.methodLink RJ4 53 yJ5_append_c97b9 ∈ lw_tbl := List.mem_of_getElem? (i := 536) (by decide +kernel)
theorem lk_J5_245 : Cond.methodLink RJ5 245 yJ6_stringSize_0f7a4 ∈ lw_tbl := List.mem_of_getElem? (i := 539) (by decide +kernel)
theorem lk_J5_248 : Cond.methodLink RJ5 248 yJ6_getChars_ba4f3 ∈ lw_tbl := List.mem_of_getElem? (i := 542) (by decide +kernel)
theorem lk_J5_251 : Cond.methodLink RJ5 251 yJ2_getChars_46870 ∈ lw_tbl := List.mem_of_getElem? (i := 549) (by decide +kernel)
theorem lk_J2_393 : Cond.methodLink RJ2 393 yJ2_getChars_ba4f3 ∈ lw_tbl := List.mem_of_getElem? (i := 552) (by decide +kernel)
theorem lk_L_94 : Cond.methodLink RL 94 yJ4_toString_0e30d ∈ lw_tbl := List.mem_of_getElem? (i := 563) (by decide +kernel)
theorem lk_J4_137 : Cond.methodLink RJ4 137 yJ0_init_81219 ∈ lw_tbl := List.mem_of_getElem? (i := 569) (by decide +kernel)
theorem lk_J0_489 : Cond.methodLink RJ0 489 yJ0_init_db425 ∈ lw_tbl := List.mem_of_getElem? (i := 572) (by decide +kernel)
theorem lk_J0_552 : Cond.methodLink RJ0 552 yJ5_getValue_6d5f1 ∈ lw_tbl := List.mem_of_getElem? (i := 576) (by decide +kernel)
theorem lk_J0_549 : Cond.methodLink RJ0 549 yJ5_length_8abf5 ∈ lw_tbl := List.mem_of_getElem? (i := 581) (by decide +kernel)
theorem lk_J4_343 : Cond.methodLink RJ4 343 yJ5_length_8abf5 ∈ lw_tbl := List.mem_of_getElem? (i := 587) (by decide +kernel)
theorem lk_J0_1047 : Cond.methodLink RJ0 1047 yJ5_isLatin1_aae02 ∈ lw_tbl := List.mem_of_getElem? (i := 589) (by decide +kernel)
theorem lk_J0_54 : Cond.methodLink RJ0 54 yJ7_copyOfRange_39247 ∈ lw_tbl := List.mem_of_getElem? (i := 590) (by decide +kernel)
theorem lk_J7_339 : Cond.methodLink RJ7 339 yJ7_copyOfRangeByte_39247 ∈ lw_tbl := List.mem_of_getElem? (i := 593) (by decide +kernel)
theorem lk_J7_343 : Cond.methodLink RJ7 343 yJ7_checkLength_df160 ∈ lw_tbl := List.mem_of_getElem? (i := 596) (by decide +kernel)
theorem lk_J0_1051 : Cond.methodLink RJ0 1051 yJ2_compress_39247 ∈ lw_tbl := List.mem_of_getElem? (i := 599) (by decide +kernel)
theorem lk_J2_123 : Cond.methodLink RJ2 123 yJ2_compress_5af95 ∈ lw_tbl := List.mem_of_getElem? (i := 602) (by decide +kernel)
theorem lk_J2_71 : Cond.methodLink RJ2 71 yJ2_getChar_3b067 ∈ lw_tbl := List.mem_of_getElem? (i := 605) (by decide +kernel)
theorem lk_J2_126 : Cond.methodLink RJ2 126 yJ7_copyOfRange_39247 ∈ lw_tbl := List.mem_of_getElem? (i := 608) (by decide +kernel)
theorem lk_J0_47 : Cond.methodLink RJ0 47 yJ2_coderFromArrayLen_85cad ∈ lw_tbl := List.mem_of_getElem? (i := 609) (by decide +kernel)
theorem lk_L_98 : Cond.methodLink RL 98 yL_text ∈ lw_tbl := List.mem_of_getElem? (i := 623) (by decide +kernel)
theorem lk_L_7 : Cond.methodLink RL 7 yJ0_length_8abf5 ∈ lw_tbl := List.mem_of_getElem? (i := 626) (by decide +kernel)
theorem lk_L_13 : Cond.methodLink RL 13 yJ0_charAt_5068e ∈ lw_tbl := List.mem_of_getElem? (i := 627) (by decide +kernel)
theorem lk_J0_492 : Cond.methodLink RJ0 492 yJ0_isLatin1_aae02 ∈ lw_tbl := List.mem_of_getElem? (i := 631) (by decide +kernel)
theorem lk_J0_495 : Cond.methodLink RJ0 495 yJ1_charAt_3b067 ∈ lw_tbl := List.mem_of_getElem? (i := 635) (by decide +kernel)
theorem lk_J1_9 : Cond.methodLink RJ1 9 yJ0_checkIndex_df160 ∈ lw_tbl := List.mem_of_getElem? (i := 638) (by decide +kernel)
theorem lk_J0_1059 : Cond.methodLink RJ0 1059 yJ3_checkIndex_8e157 ∈ lw_tbl := List.mem_of_getElem? (i := 641) (by decide +kernel)
theorem lk_J0_498 : Cond.methodLink RJ0 498 yJ2_charAt_3b067 ∈ lw_tbl := List.mem_of_getElem? (i := 644) (by decide +kernel)
theorem lk_J2_67 : Cond.methodLink RJ2 67 yJ2_checkIndex_2214a ∈ lw_tbl := List.mem_of_getElem? (i := 647) (by decide +kernel)
theorem lk_J2_414 : Cond.methodLink RJ2 414 yJ0_checkIndex_df160 ∈ lw_tbl := List.mem_of_getElem? (i := 650) (by decide +kernel)
theorem lk_L_17 : Cond.methodLink RL 17 yX4_feed ∈ lw_tbl := List.mem_of_getElem? (i := 651) (by decide +kernel)
theorem lk_X4_74 : Cond.methodLink RX4 74 yX4_isByte ∈ lw_tbl := List.mem_of_getElem? (i := 655) (by decide +kernel)
theorem lk_X4_77 : Cond.methodLink RX4 77 yX1_add ∈ lw_tbl := List.mem_of_getElem? (i := 658) (by decide +kernel)
theorem ln_X1_25 : Cond.methodLinkNest RX1 25 yX4_set RX4 ∈ lw_tbl := List.mem_of_getElem? (i := 662) (by decide +kernel)
theorem lk_L_102 : Cond.methodLink RL 102 yX4_text ∈ lw_tbl := List.mem_of_getElem? (i := 663) (by decide +kernel)
theorem lk_X4_81 : Cond.methodLink RX4 81 yX1_faultOf ∈ lw_tbl := List.mem_of_getElem? (i := 667) (by decide +kernel)
theorem lk_X1_35 : Cond.methodLink RX1 35 yX1_next ∈ lw_tbl := List.mem_of_getElem? (i := 671) (by decide +kernel)
theorem ln_X1_70 : Cond.methodLinkNest RX1 70 yX4_at RX4 ∈ lw_tbl := List.mem_of_getElem? (i := 675) (by decide +kernel)
theorem lk_X1_74 : Cond.methodLink RX1 74 yX1_isLetter ∈ lw_tbl := List.mem_of_getElem? (i := 676) (by decide +kernel)
theorem lk_X1_78 : Cond.methodLink RX1 78 yX1_endOfWord ∈ lw_tbl := List.mem_of_getElem? (i := 680) (by decide +kernel)
theorem lk_X1_82 : Cond.methodLink RX1 82 yX1_wordOf ∈ lw_tbl := List.mem_of_getElem? (i := 684) (by decide +kernel)
theorem lk_X1_97 : Cond.methodLink RX1 97 yX1_spells ∈ lw_tbl := List.mem_of_getElem? (i := 689) (by decide +kernel)
theorem lk_X1_123 : Cond.methodLink RX1 123 yJ0_length_8abf5 ∈ lw_tbl := List.mem_of_getElem? (i := 693) (by decide +kernel)
theorem lk_X1_128 : Cond.methodLink RX1 128 yJ0_charAt_5068e ∈ lw_tbl := List.mem_of_getElem? (i := 694) (by decide +kernel)
theorem lk_X1_86 : Cond.methodLink RX1 86 yX1_isDigit ∈ lw_tbl := List.mem_of_getElem? (i := 706) (by decide +kernel)
theorem lk_X1_89 : Cond.methodLink RX1 89 yX1_endOfNumber ∈ lw_tbl := List.mem_of_getElem? (i := 710) (by decide +kernel)
theorem lk_X1_92 : Cond.methodLink RX1 92 yX1_isSign ∈ lw_tbl := List.mem_of_getElem? (i := 714) (by decide +kernel)
theorem lk_X1_44 : Cond.methodLink RX1 44 yX1_readsE ∈ lw_tbl := List.mem_of_getElem? (i := 717) (by decide +kernel)
theorem lk_X1_48 : Cond.methodLink RX1 48 yX1_readsAnd ∈ lw_tbl := List.mem_of_getElem? (i := 720) (by decide +kernel)
theorem lk_X1_55 : Cond.methodLink RX1 55 yX1_readsNot ∈ lw_tbl := List.mem_of_getElem? (i := 723) (by decide +kernel)
theorem lk_X1_51 : Cond.methodLink RX1 51 yX1_write ∈ lw_tbl := List.mem_of_getElem? (i := 726) (by decide +kernel)
theorem lk_X1_58 : Cond.methodLink RX1 58 yX1_readsSum ∈ lw_tbl := List.mem_of_getElem? (i := 730) (by decide +kernel)
theorem lk_X1_61 : Cond.methodLink RX1 61 yX1_readsTerm ∈ lw_tbl := List.mem_of_getElem? (i := 733) (by decide +kernel)
theorem lk_X1_64 : Cond.methodLink RX1 64 yX1_readsOne ∈ lw_tbl := List.mem_of_getElem? (i := 736) (by decide +kernel)
theorem lk_X4_92 : Cond.methodLink RX4 92 yX3_add ∈ lw_tbl := List.mem_of_getElem? (i := 739) (by decide +kernel)
theorem lk_L_104 : Cond.methodLink RL 104 yX4_force ∈ lw_tbl := List.mem_of_getElem? (i := 743) (by decide +kernel)
theorem lk_L_108 : Cond.methodLink RL 108 yL_length ∈ lw_tbl := List.mem_of_getElem? (i := 747) (by decide +kernel)
theorem lk_L_110 : Cond.methodLink RL 110 yX4_sheet ∈ lw_tbl := List.mem_of_getElem? (i := 750) (by decide +kernel)
theorem lk_X4_175 : Cond.methodLink RX4 175 yX4_rowAt ∈ lw_tbl := List.mem_of_getElem? (i := 754) (by decide +kernel)
theorem lk_X4_226 : Cond.methodLink RX4 226 yX2_becomes ∈ lw_tbl := List.mem_of_getElem? (i := 758) (by decide +kernel)
theorem ln_X2_22 : Cond.methodLinkNest RX2 22 yX4_set RX4 ∈ lw_tbl := List.mem_of_getElem? (i := 762) (by decide +kernel)
theorem lk_L_113 : Cond.methodLink RL 113 yL_thing ∈ lw_tbl := List.mem_of_getElem? (i := 763) (by decide +kernel)
theorem lk_L_116 : Cond.methodLink RL 116 yX4_cell ∈ lw_tbl := List.mem_of_getElem? (i := 766) (by decide +kernel)
theorem lk_X4_229 : Cond.methodLink RX4 229 yX2_write ∈ lw_tbl := List.mem_of_getElem? (i := 770) (by decide +kernel)
theorem lk_L_179 : Cond.methodLink RL 179 yL_start ∈ lw_tbl := List.mem_of_getElem? (i := 774) (by decide +kernel)
theorem lk_L_202 : Cond.methodLink RL 202 yL_land ∈ lw_tbl := List.mem_of_getElem? (i := 777) (by decide +kernel)
theorem lk_L_150 : Cond.methodLink RL 150 yL_lets ∈ lw_tbl := List.mem_of_getElem? (i := 780) (by decide +kernel)
theorem lk_L_129 : Cond.methodLink RL 129 yJ13_bitCount_95d88 ∈ lw_tbl := List.mem_of_getElem? (i := 783) (by decide +kernel)
theorem lk_L_135 : Cond.methodLink RL 135 yL_held ∈ lw_tbl := List.mem_of_getElem? (i := 789) (by decide +kernel)
theorem lk_L_120 : Cond.methodLink RL 120 yJ9_min_f86c9 ∈ lw_tbl := List.mem_of_getElem? (i := 792) (by decide +kernel)
theorem lk_L_126 : Cond.methodLink RL 126 yJ9_max_f86c9 ∈ lw_tbl := List.mem_of_getElem? (i := 795) (by decide +kernel)
theorem lk_L_143 : Cond.methodLink RL 143 yJ13_numberOfTrailingZeros_95d88 ∈ lw_tbl := List.mem_of_getElem? (i := 800) (by decide +kernel)
theorem lk_J13_311 : Cond.methodLink RJ13 311 yJ6_numberOfTrailingZeros_0f7a4 ∈ lw_tbl := List.mem_of_getElem? (i := 803) (by decide +kernel)
theorem lk_L_154 : Cond.methodLink RL 154 yL_lucks ∈ lw_tbl := List.mem_of_getElem? (i := 807) (by decide +kernel)
theorem lk_L_209 : Cond.methodLink RL 209 yL_lesson ∈ lw_tbl := List.mem_of_getElem? (i := 813) (by decide +kernel)
theorem lk_L_160 : Cond.methodLink RL 160 yL_takes ∈ lw_tbl := List.mem_of_getElem? (i := 816) (by decide +kernel)
theorem lk_L_214 : Cond.methodLink RL 214 yL_pass ∈ lw_tbl := List.mem_of_getElem? (i := 819) (by decide +kernel)
theorem lk_L_195 : Cond.methodLink RL 195 yL_same ∈ lw_tbl := List.mem_of_getElem? (i := 822) (by decide +kernel)
theorem lk_L_172 : Cond.methodLink RL 172 yX4_count ∈ lw_tbl := List.mem_of_getElem? (i := 826) (by decide +kernel)
theorem lk_X4_52 : Cond.methodLink RX4 52 yJ6_bitCount_0f7a4 ∈ lw_tbl := List.mem_of_getElem? (i := 830) (by decide +kernel)
def gtb : List Cond := lw_tbl.filter goodWord
theorem gm {w : Cond} (h : w ∈ lw_tbl) (hg : goodWord w = true) : w ∈ gtb := List.mem_filter.mpr ⟨h, hg⟩
theorem gtb_good : GoodIn gtb gtb := fun w hw => ⟨hw, good_of_word (List.mem_filter.mp hw).2⟩
theorem gtb_sub : ∀ w ∈ gtb, w ∈ lw_tbl := fun w hw => (List.mem_filter.mp hw).1
