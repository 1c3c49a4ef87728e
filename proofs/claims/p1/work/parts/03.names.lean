theorem goodIn_r {big : List Cond} (ws : List Cond) (ps : List Nat) (hp : ws = ps.filterMap (fun i => big[i]?)) (h : ws.all goodWord = true) : GoodIn big ws := by
  intro w hw
  have h1 := List.all_eq_true.mp h w hw
  rw [hp] at hw
  obtain ⟨i, -, hi⟩ := List.mem_filterMap.mp hw
  have hm : w ∈ big := by first | exact List.mem_of_getElem? hi | exact List.getElem?_mem hi
  exact ⟨hm, good_of_word h1⟩
theorem goodIn_app {big a b : List Cond} (ha : GoodIn big a) (hb : GoodIn big b) : GoodIn big (a ++ b) := fun w h => (List.mem_append.mp h).elim (ha w) (hb w)
theorem goodIn_ca {big a b : List Cond} {c : Cond} (ha : GoodIn big (c :: a)) (hb : GoodIn big b) : GoodIn big (c :: (a ++ b)) := fun w h => (List.mem_cons.mp h).elim (fun e => ha w (List.mem_cons.mpr (Or.inl e))) (fun h => (List.mem_append.mp h).elim (fun h => ha w (List.mem_cons.mpr (Or.inr h))) (hb w))
theorem goodIn_sub {big ws : List Cond} (hm : ∀ w ∈ ws, w ∈ big) (h : ws.all goodWord = true) : GoodIn big ws := fun w hw => ⟨hm w hw, good_of_word (List.all_eq_true.mp h w hw)⟩
def RX0 : String := "ClassRules$Choice"
def TX0 : u_T := fun k => match k with
  | 0 => ("ClassRules$Choice", "types", "LClassRules$Types;", true)
  | 1 => ("ClassRules$Choice", "members", "LClassRules$Members;", true)
  | 2 => ("ClassRules$Choice", "faceOnes", "[I", true)
  | 3 => ("ClassRules$Choice", "chain", "[I", true)
  | 4 => ("ClassRules$Choice", "takers", "[I", true)
  | 5 => ("ClassRules$Choice", "faceOnesCount", "I", false)
  | _ => ("ClassRules$Choice", "classOne", "I", false)
def tyX0 : Nat → FieldType := fun k => match k with
  | 0 => .object "ClassRules$Types"
  | 1 => .object "ClassRules$Members"
  | 2 => .array .int
  | 3 => .array .int
  | 4 => .array .int
  | 5 => .int
  | _ => .int
abbrev wsX00 : List Cond := u_ws RX0 TX0 7
theorem nmX0 : ∀ a, a < 7 → ∀ b, b < 7 → a ≠ b → (TX0 a).2.1 ≠ (TX0 b).2.1 := by decide +kernel
theorem tyX0_ok : ∀ k, k < 7 → parseFieldDescriptor (TX0 k).2.2.1 = some (tyX0 k) := by decide +kernel
abbrev cX0_init : ByteArray := prog_2_method_1_code
def yX0_init : MethodName := ⟨RX0, "<init>", "(LClassRules$Types;LClassRules$Members;)V"⟩
abbrev cX0_seekClassOne : ByteArray := prog_2_method_2_code
def yX0_seekClassOne : MethodName := ⟨RX0, "seekClassOne", "(III)V"⟩
abbrev cX0_seekFaceOnes : ByteArray := prog_2_method_3_code
def yX0_seekFaceOnes : MethodName := ⟨RX0, "seekFaceOnes", "(III)V"⟩
abbrev cX0_givenByFace : ByteArray := prog_2_method_4_code
def yX0_givenByFace : MethodName := ⟨RX0, "givenByFace", "(IIII)Z"⟩
abbrev cX0_leastFaceOneWith : ByteArray := prog_2_method_5_code
def yX0_leastFaceOneWith : MethodName := ⟨RX0, "leastFaceOneWith", "(I)I"⟩
abbrev cX0_leastToBeGiven : ByteArray := prog_2_method_6_code
def yX0_leastToBeGiven : MethodName := ⟨RX0, "leastToBeGiven", "()I"⟩
abbrev cX0_leastOfRivals : ByteArray := prog_2_method_7_code
def yX0_leastOfRivals : MethodName := ⟨RX0, "leastOfRivals", "()I"⟩
abbrev cX0_running : ByteArray := prog_2_method_8_code
def yX0_running : MethodName := ⟨RX0, "running", "(III)I"⟩
abbrev cX0_reached : ByteArray := prog_2_method_9_code
def yX0_reached : MethodName := ⟨RX0, "reached", "(IIII)I"⟩
abbrev cX0_meantBy : ByteArray := prog_2_method_10_code
def yX0_meantBy : MethodName := ⟨RX0, "meantBy", "(III)I"⟩
abbrev cX0_inPlaceOf : ByteArray := prog_2_method_11_code
def yX0_inPlaceOf : MethodName := ⟨RX0, "inPlaceOf", "(II)I"⟩
abbrev cX0_chainUpTo : ByteArray := prog_2_method_12_code
def yX0_chainUpTo : MethodName := ⟨RX0, "chainUpTo", "(II)I"⟩
abbrev cX0_overriderIn : ByteArray := prog_2_method_13_code
def yX0_overriderIn : MethodName := ⟨RX0, "overriderIn", "(II)I"⟩
abbrev cX0_takesPlace : ByteArray := prog_2_method_14_code
def yX0_takesPlace : MethodName := ⟨RX0, "takesPlace", "(II)Z"⟩
abbrev cX0_unlessAbstract : ByteArray := prog_2_method_15_code
def yX0_unlessAbstract : MethodName := ⟨RX0, "unlessAbstract", "(I)I"⟩
def RX1 : String := "ClassRules$Judge"
def TX1 : u_T := fun k => match k with
  | 0 => ("ClassRules$Judge", "types", "LClassRules$Types;", true)
  | 1 => ("ClassRules$Judge", "members", "LClassRules$Members;", true)
  | 2 => ("ClassRules$Judge", "choice", "LClassRules$Choice;", true)
  | 3 => ("ClassRules$Judge", "typeRules", "LClassRules$TypeRules;", true)
  | 4 => ("ClassRules$Judge", "memberRules", "LClassRules$MemberRules;", true)
  | 5 => ("ClassRules$Judge", "found", "[J", true)
  | 6 => ("ClassRules$Judge", "counts", "[I", true)
  | 7 => ("ClassRules$Judge", "counted", "I", false)
  | _ => ("ClassRules$Judge", "kept", "I", false)
def tyX1 : Nat → FieldType := fun k => match k with
  | 0 => .object "ClassRules$Types"
  | 1 => .object "ClassRules$Members"
  | 2 => .object "ClassRules$Choice"
  | 3 => .object "ClassRules$TypeRules"
  | 4 => .object "ClassRules$MemberRules"
  | 5 => .array .long
  | 6 => .array .int
  | 7 => .int
  | _ => .int
abbrev wsX10 : List Cond := u_ws RX1 TX1 9
theorem nmX1 : ∀ a, a < 9 → ∀ b, b < 9 → a ≠ b → (TX1 a).2.1 ≠ (TX1 b).2.1 := by decide +kernel
theorem tyX1_ok : ∀ k, k < 9 → parseFieldDescriptor (TX1 k).2.2.1 = some (tyX1 k) := by decide +kernel
abbrev cX1_init : ByteArray := prog_3_method_1_code
def yX1_init : MethodName := ⟨RX1, "<init>", "(LClassRules$Types;LClassRules$Members;LClassRules$Choice;)V"⟩
abbrev cX1_forget : ByteArray := prog_3_method_2_code
def yX1_forget : MethodName := ⟨RX1, "forget", "()V"⟩
abbrev cX1_countOf : ByteArray := prog_3_method_3_code
def yX1_countOf : MethodName := ⟨RX1, "countOf", "(I)I"⟩
abbrev cX1_kindAt : ByteArray := prog_3_method_4_code
def yX1_kindAt : MethodName := ⟨RX1, "kindAt", "(II)I"⟩
abbrev cX1_numberAt : ByteArray := prog_3_method_5_code
def yX1_numberAt : MethodName := ⟨RX1, "numberAt", "(II)I"⟩
abbrev cX1_placeAt : ByteArray := prog_3_method_6_code
def yX1_placeAt : MethodName := ⟨RX1, "placeAt", "(II)I"⟩
abbrev cX1_keep : ByteArray := prog_3_method_7_code
def yX1_keep : MethodName := ⟨RX1, "keep", "(I)V"⟩
abbrev cX1_findTypeFaults : ByteArray := prog_3_method_8_code
def yX1_findTypeFaults : MethodName := ⟨RX1, "findTypeFaults", "(I)V"⟩
abbrev cX1_findMemberFaults : ByteArray := prog_3_method_9_code
def yX1_findMemberFaults : MethodName := ⟨RX1, "findMemberFaults", "(I)V"⟩
abbrev cX1_findInheritedFaults : ByteArray := prog_3_method_10_code
def yX1_findInheritedFaults : MethodName := ⟨RX1, "findInheritedFaults", "(I)V"⟩
abbrev cX1_findOver : ByteArray := prog_3_method_11_code
def yX1_findOver : MethodName := ⟨RX1, "findOver", "(II)V"⟩
abbrev cX1_findGivenFaults : ByteArray := prog_3_method_12_code
def yX1_findGivenFaults : MethodName := ⟨RX1, "findGivenFaults", "(I)V"⟩
abbrev cX1_putTypes : ByteArray := prog_3_method_13_code
def yX1_putTypes : MethodName := ⟨RX1, "putTypes", "(II)V"⟩
abbrev cX1_putIf : ByteArray := prog_3_method_14_code
def yX1_putIf : MethodName := ⟨RX1, "putIf", "(ZII)V"⟩
abbrev cX1_isFound : ByteArray := prog_3_method_15_code
def yX1_isFound : MethodName := ⟨RX1, "isFound", "(II)Z"⟩
abbrev cX1_countFound : ByteArray := prog_3_method_16_code
def yX1_countFound : MethodName := ⟨RX1, "countFound", "()I"⟩
def RX2 : String := "ClassRules$MemberRules"
def TX2 : u_T := fun k => match k with
  | 0 => ("ClassRules$MemberRules", "types", "LClassRules$Types;", true)
  | _ => ("ClassRules$MemberRules", "members", "LClassRules$Members;", true)
def tyX2 : Nat → FieldType := fun k => match k with
  | 0 => .object "ClassRules$Types"
  | _ => .object "ClassRules$Members"
abbrev wsX20 : List Cond := u_ws RX2 TX2 2
theorem nmX2 : ∀ a, a < 2 → ∀ b, b < 2 → a ≠ b → (TX2 a).2.1 ≠ (TX2 b).2.1 := by decide +kernel
theorem tyX2_ok : ∀ k, k < 2 → parseFieldDescriptor (TX2 k).2.2.1 = some (tyX2 k) := by decide +kernel
abbrev cX2_init : ByteArray := prog_4_method_1_code
def yX2_init : MethodName := ⟨RX2, "<init>", "(LClassRules$Types;LClassRules$Members;)V"⟩
abbrev cX2_doubled : ByteArray := prog_4_method_2_code
def yX2_doubled : MethodName := ⟨RX2, "doubled", "(I)Z"⟩
abbrev cX2_wrongMarks : ByteArray := prog_4_method_3_code
def yX2_wrongMarks : MethodName := ⟨RX2, "wrongMarks", "(I)Z"⟩
abbrev cX2_wrongInFace : ByteArray := prog_4_method_4_code
def yX2_wrongInFace : MethodName := ⟨RX2, "wrongInFace", "(I)Z"⟩
abbrev cX2_wrongElsewhere : ByteArray := prog_4_method_5_code
def yX2_wrongElsewhere : MethodName := ⟨RX2, "wrongElsewhere", "(I)Z"⟩
abbrev cX2_resultFits : ByteArray := prog_4_method_6_code
def yX2_resultFits : MethodName := ⟨RX2, "resultFits", "(II)Z"⟩
def RX3 : String := "ClassRules$Members"
def TX3 : u_T := fun k => match k with
  | 0 => ("ClassRules$Members", "types", "LClassRules$Types;", true)
  | 1 => ("ClassRules$Members", "owners", "[I", true)
  | 2 => ("ClassRules$Members", "names", "[I", true)
  | 3 => ("ClassRules$Members", "params", "[I", true)
  | 4 => ("ClassRules$Members", "marks", "[I", true)
  | 5 => ("ClassRules$Members", "accesses", "[I", true)
  | 6 => ("ClassRules$Members", "results", "[I", true)
  | _ => ("ClassRules$Members", "count", "I", false)
def tyX3 : Nat → FieldType := fun k => match k with
  | 0 => .object "ClassRules$Types"
  | 1 => .array .int
  | 2 => .array .int
  | 3 => .array .int
  | 4 => .array .int
  | 5 => .array .int
  | 6 => .array .int
  | _ => .int
abbrev wsX30 : List Cond := u_ws RX3 TX3 8
theorem nmX3 : ∀ a, a < 8 → ∀ b, b < 8 → a ≠ b → (TX3 a).2.1 ≠ (TX3 b).2.1 := by decide +kernel
theorem tyX3_ok : ∀ k, k < 8 → parseFieldDescriptor (TX3 k).2.2.1 = some (tyX3 k) := by decide +kernel
abbrev cX3_init : ByteArray := prog_5_method_1_code
def yX3_init : MethodName := ⟨RX3, "<init>", "(LClassRules$Types;)V"⟩
abbrev cX3_addMember : ByteArray := prog_5_method_2_code
def yX3_addMember : MethodName := ⟨RX3, "addMember", "(IIIIII)I"⟩
abbrev cX3_marked : ByteArray := prog_5_method_3_code
def yX3_marked : MethodName := ⟨RX3, "marked", "(II)Z"⟩
abbrev cX3_named : ByteArray := prog_5_method_4_code
def yX3_named : MethodName := ⟨RX3, "named", "(III)Z"⟩
abbrev cX3_alike : ByteArray := prog_5_method_5_code
def yX3_alike : MethodName := ⟨RX3, "alike", "(II)Z"⟩
abbrev cX3_ofFace : ByteArray := prog_5_method_6_code
def yX3_ofFace : MethodName := ⟨RX3, "ofFace", "(I)Z"⟩
abbrev cX3_shared : ByteArray := prog_5_method_7_code
def yX3_shared : MethodName := ⟨RX3, "shared", "(II)Z"⟩
abbrev cX3_seenFrom : ByteArray := prog_5_method_8_code
def yX3_seenFrom : MethodName := ⟨RX3, "seenFrom", "(II)Z"⟩
abbrev cX3_firstOfItsSort : ByteArray := prog_5_method_9_code
def yX3_firstOfItsSort : MethodName := ⟨RX3, "firstOfItsSort", "(I)Z"⟩
def RX4 : String := "ClassRules$TypeRules"
def TX4 : u_T := fun k => match k with
  | _ => ("ClassRules$TypeRules", "types", "LClassRules$Types;", true)
def tyX4 : Nat → FieldType := fun k => match k with
  | _ => .object "ClassRules$Types"
abbrev wsX40 : List Cond := u_ws RX4 TX4 1
theorem nmX4 : ∀ a, a < 1 → ∀ b, b < 1 → a ≠ b → (TX4 a).2.1 ≠ (TX4 b).2.1 := by decide +kernel
theorem tyX4_ok : ∀ k, k < 1 → parseFieldDescriptor (TX4 k).2.2.1 = some (tyX4 k) := by decide +kernel
abbrev cX4_init : ByteArray := prog_6_method_1_code
def yX4_init : MethodName := ⟨RX4, "<init>", "(LClassRules$Types;)V"⟩
abbrev cX4_missing : ByteArray := prog_6_method_2_code
def yX4_missing : MethodName := ⟨RX4, "missing", "(I)I"⟩
abbrev cX4_ring : ByteArray := prog_6_method_3_code
def yX4_ring : MethodName := ⟨RX4, "ring", "(I)I"⟩
abbrev cX4_wrongKind : ByteArray := prog_6_method_4_code
def yX4_wrongKind : MethodName := ⟨RX4, "wrongKind", "(I)I"⟩
abbrev cX4_finalParent : ByteArray := prog_6_method_5_code
def yX4_finalParent : MethodName := ⟨RX4, "finalParent", "(I)I"⟩
abbrev cX4_wrongMarks : ByteArray := prog_6_method_6_code
def yX4_wrongMarks : MethodName := ⟨RX4, "wrongMarks", "(I)I"⟩
abbrev cX4_wrongUnderSealed : ByteArray := prog_6_method_7_code
def yX4_wrongUnderSealed : MethodName := ⟨RX4, "wrongUnderSealed", "(I)I"⟩
abbrev cX4_wrongPermits : ByteArray := prog_6_method_8_code
def yX4_wrongPermits : MethodName := ⟨RX4, "wrongPermits", "(I)I"⟩
abbrev cX4_twice : ByteArray := prog_6_method_9_code
def yX4_twice : MethodName := ⟨RX4, "twice", "(I)I"⟩
abbrev cX4_shaky : ByteArray := prog_6_method_10_code
def yX4_shaky : MethodName := ⟨RX4, "shaky", "(I)Z"⟩
def RX5 : String := "ClassRules$Types"
def TX5 : u_T := fun k => match k with
  | 0 => ("ClassRules$Types", "kinds", "[I", true)
  | 1 => ("ClassRules$Types", "marks", "[I", true)
  | 2 => ("ClassRules$Types", "packs", "[I", true)
  | 3 => ("ClassRules$Types", "parents", "[I", true)
  | 4 => ("ClassRules$Types", "parentSets", "[I", true)
  | 5 => ("ClassRules$Types", "uppers", "[I", true)
  | 6 => ("ClassRules$Types", "uppersTwice", "[I", true)
  | 7 => ("ClassRules$Types", "uppersTold", "[I", true)
  | 8 => ("ClassRules$Types", "permitted", "[I", true)
  | 9 => ("ClassRules$Types", "permittedTold", "[I", true)
  | 10 => ("ClassRules$Types", "above", "[I", true)
  | _ => ("ClassRules$Types", "count", "I", false)
def tyX5 : Nat → FieldType := fun k => match k with
  | 0 => .array .int
  | 1 => .array .int
  | 2 => .array .int
  | 3 => .array .int
  | 4 => .array .int
  | 5 => .array .int
  | 6 => .array .int
  | 7 => .array .int
  | 8 => .array .int
  | 9 => .array .int
  | 10 => .array .int
  | _ => .int
abbrev wsX50 : List Cond := u_ws RX5 TX5 12
theorem nmX5 : ∀ a, a < 12 → ∀ b, b < 12 → a ≠ b → (TX5 a).2.1 ≠ (TX5 b).2.1 := by decide +kernel
theorem tyX5_ok : ∀ k, k < 12 → parseFieldDescriptor (TX5 k).2.2.1 = some (tyX5 k) := by decide +kernel
abbrev cX5_init : ByteArray := prog_7_method_1_code
def yX5_init : MethodName := ⟨RX5, "<init>", "()V"⟩
abbrev cX5_addType : ByteArray := prog_7_method_2_code
def yX5_addType : MethodName := ⟨RX5, "addType", "(IIII)I"⟩
abbrev cX5_addUpper : ByteArray := prog_7_method_3_code
def yX5_addUpper : MethodName := ⟨RX5, "addUpper", "(II)I"⟩
abbrev cX5_addPermitted : ByteArray := prog_7_method_4_code
def yX5_addPermitted : MethodName := ⟨RX5, "addPermitted", "(II)I"⟩
abbrev cX5_settleAbove : ByteArray := prog_7_method_5_code
def yX5_settleAbove : MethodName := ⟨RX5, "settleAbove", "()V"⟩
abbrev cX5_there : ByteArray := prog_7_method_6_code
def yX5_there : MethodName := ⟨RX5, "there", "(I)Z"⟩
abbrev cX5_everyone : ByteArray := prog_7_method_7_code
def yX5_everyone : MethodName := ⟨RX5, "everyone", "()I"⟩
abbrev cX5_marked : ByteArray := prog_7_method_8_code
def yX5_marked : MethodName := ⟨RX5, "marked", "(II)Z"⟩
abbrev cX5_next : ByteArray := prog_7_method_9_code
def yX5_next : MethodName := ⟨RX5, "next", "(I)I"⟩
abbrev cX5_parentThere : ByteArray := prog_7_method_10_code
def yX5_parentThere : MethodName := ⟨RX5, "parentThere", "(I)I"⟩
abbrev cX5_stands : ByteArray := prog_7_method_11_code
def yX5_stands : MethodName := ⟨RX5, "stands", "(II)Z"⟩
abbrev cX5_ofKind : ByteArray := prog_7_method_12_code
def yX5_ofKind : MethodName := ⟨RX5, "ofKind", "(I)I"⟩
abbrev cX5_withMark : ByteArray := prog_7_method_13_code
def yX5_withMark : MethodName := ⟨RX5, "withMark", "(I)I"⟩
def RX6 : String := "ClassRules"
def TX6 : u_T := fun k => match k with
  | 0 => ("ClassRules", "types", "LClassRules$Types;", true)
  | 1 => ("ClassRules", "members", "LClassRules$Members;", true)
  | 2 => ("ClassRules", "choice", "LClassRules$Choice;", true)
  | _ => ("ClassRules", "judge", "LClassRules$Judge;", true)
def tyX6 : Nat → FieldType := fun k => match k with
  | 0 => .object "ClassRules$Types"
  | 1 => .object "ClassRules$Members"
  | 2 => .object "ClassRules$Choice"
  | _ => .object "ClassRules$Judge"
abbrev wsX60 : List Cond := u_ws RX6 TX6 4
theorem nmX6 : ∀ a, a < 4 → ∀ b, b < 4 → a ≠ b → (TX6 a).2.1 ≠ (TX6 b).2.1 := by decide +kernel
theorem tyX6_ok : ∀ k, k < 4 → parseFieldDescriptor (TX6 k).2.2.1 = some (tyX6 k) := by decide +kernel
abbrev cX6_init : ByteArray := prog_1_method_1_code
def yX6_init : MethodName := ⟨RX6, "<init>", "()V"⟩
abbrev cX6_type : ByteArray := prog_1_method_2_code
def yX6_type : MethodName := ⟨RX6, "type", "(IIII)I"⟩
abbrev cX6_upper : ByteArray := prog_1_method_3_code
def yX6_upper : MethodName := ⟨RX6, "upper", "(II)I"⟩
abbrev cX6_permit : ByteArray := prog_1_method_4_code
def yX6_permit : MethodName := ⟨RX6, "permit", "(II)I"⟩
abbrev cX6_member : ByteArray := prog_1_method_5_code
def yX6_member : MethodName := ⟨RX6, "member", "(IIIIII)I"⟩
abbrev cX6_faults : ByteArray := prog_1_method_6_code
def yX6_faults : MethodName := ⟨RX6, "faults", "(I)I"⟩
abbrev cX6_fault : ByteArray := prog_1_method_7_code
def yX6_fault : MethodName := ⟨RX6, "fault", "(III)I"⟩
abbrev cX6_all : ByteArray := prog_1_method_8_code
def yX6_all : MethodName := ⟨RX6, "all", "()I"⟩
abbrev cX6_is : ByteArray := prog_1_method_9_code
def yX6_is : MethodName := ⟨RX6, "is", "(II)I"⟩
abbrev cX6_runs : ByteArray := prog_1_method_10_code
def yX6_runs : MethodName := ⟨RX6, "runs", "(III)I"⟩
abbrev cX6_call : ByteArray := prog_1_method_11_code
def yX6_call : MethodName := ⟨RX6, "call", "(IIII)I"⟩
abbrev cX6_told : ByteArray := prog_1_method_12_code
def yX6_told : MethodName := ⟨RX6, "told", "(I)I"⟩
abbrev cX6_canBeMade : ByteArray := prog_1_method_13_code
def yX6_canBeMade : MethodName := ⟨RX6, "canBeMade", "(I)Z"⟩
abbrev cX6_within : ByteArray := prog_1_method_14_code
def yX6_within : MethodName := ⟨RX6, "within", "(II)Z"⟩
abbrev cX6_orNone : ByteArray := prog_1_method_15_code
def yX6_orNone : MethodName := ⟨RX6, "orNone", "(I)I"⟩
abbrev cX6_bit : ByteArray := prog_1_method_16_code
def yX6_bit : MethodName := ⟨RX6, "bit", "(I)I"⟩
abbrev cX6_holds : ByteArray := prog_1_method_17_code
def yX6_holds : MethodName := ⟨RX6, "holds", "(II)Z"⟩
def RX7 : String := "ClassRulesModel"
def TX7 : u_T := fun k => match k with
  | 0 => ("ClassRulesModel", "types", "I", false)
  | 1 => ("ClassRulesModel", "kind", "[I", true)
  | 2 => ("ClassRulesModel", "marks", "[I", true)
  | 3 => ("ClassRulesModel", "pack", "[I", true)
  | 4 => ("ClassRulesModel", "parent", "[I", true)
  | 5 => ("ClassRulesModel", "uppers", "[I", true)
  | 6 => ("ClassRulesModel", "upperMany", "[I", true)
  | 7 => ("ClassRulesModel", "permits", "[I", true)
  | 8 => ("ClassRulesModel", "permitMany", "[I", true)
  | 9 => ("ClassRulesModel", "members", "I", false)
  | 10 => ("ClassRulesModel", "of", "[I", true)
  | 11 => ("ClassRulesModel", "name", "[I", true)
  | 12 => ("ClassRulesModel", "params", "[I", true)
  | 13 => ("ClassRulesModel", "mMarks", "[I", true)
  | 14 => ("ClassRulesModel", "access", "[I", true)
  | 15 => ("ClassRulesModel", "result", "[I", true)
  | 16 => ("ClassRulesModel", "above", "[Z", true)
  | 17 => ("ClassRulesModel", "known", "Z", false)
  | 18 => ("ClassRulesModel", "fault", "[Z", true)
  | 19 => ("ClassRulesModel", "faceOnes", "[I", true)
  | 20 => ("ClassRulesModel", "faceMany", "I", false)
  | _ => ("ClassRulesModel", "takes", "[Z", true)
def tyX7 : Nat → FieldType := fun k => match k with
  | 0 => .int
  | 1 => .array .int
  | 2 => .array .int
  | 3 => .array .int
  | 4 => .array .int
  | 5 => .array .int
  | 6 => .array .int
  | 7 => .array .int
  | 8 => .array .int
  | 9 => .int
  | 10 => .array .int
  | 11 => .array .int
  | 12 => .array .int
  | 13 => .array .int
  | 14 => .array .int
  | 15 => .array .int
  | 16 => .array .boolean
  | 17 => .boolean
  | 18 => .array .boolean
  | 19 => .array .int
  | 20 => .int
  | _ => .array .boolean
abbrev wsX70 : List Cond := u_ws RX7 TX7 22
theorem nmX7 : ∀ a, a < 22 → ∀ b, b < 22 → a ≠ b → (TX7 a).2.1 ≠ (TX7 b).2.1 := by decide +kernel
theorem tyX7_ok : ∀ k, k < 22 → parseFieldDescriptor (TX7 k).2.2.1 = some (tyX7 k) := by decide +kernel
abbrev cX7_init : ByteArray := prog_9_method_1_code
def yX7_init : MethodName := ⟨RX7, "<init>", "()V"⟩
abbrev cX7_in : ByteArray := prog_9_method_2_code
def yX7_in : MethodName := ⟨RX7, "in", "(III)Z"⟩
abbrev cX7_isType : ByteArray := prog_9_method_3_code
def yX7_isType : MethodName := ⟨RX7, "isType", "(I)Z"⟩
abbrev cX7_marked : ByteArray := prog_9_method_4_code
def yX7_marked : MethodName := ⟨RX7, "marked", "(II)Z"⟩
abbrev cX7_is : ByteArray := prog_9_method_5_code
def yX7_is : MethodName := ⟨RX7, "is", "(IZI)Z"⟩
abbrev cX7_type : ByteArray := prog_9_method_6_code
def yX7_type : MethodName := ⟨RX7, "type", "(IIII)I"⟩
abbrev cX7_upper : ByteArray := prog_9_method_7_code
def yX7_upper : MethodName := ⟨RX7, "upper", "(II)I"⟩
abbrev cX7_permit : ByteArray := prog_9_method_8_code
def yX7_permit : MethodName := ⟨RX7, "permit", "(II)I"⟩
abbrev cX7_member : ByteArray := prog_9_method_9_code
def yX7_member : MethodName := ⟨RX7, "member", "(IIIIII)I"⟩
abbrev cX7_know : ByteArray := prog_9_method_10_code
def yX7_know : MethodName := ⟨RX7, "know", "()V"⟩
abbrev cX7_isOf : ByteArray := prog_9_method_11_code
def yX7_isOf : MethodName := ⟨RX7, "isOf", "(II)Z"⟩
abbrev cX7_areLike : ByteArray := prog_9_method_12_code
def yX7_areLike : MethodName := ⟨RX7, "areLike", "(II)Z"⟩
abbrev cX7_isShared : ByteArray := prog_9_method_13_code
def yX7_isShared : MethodName := ⟨RX7, "isShared", "(II)Z"⟩
abbrev cX7_mark : ByteArray := prog_9_method_14_code
def yX7_mark : MethodName := ⟨RX7, "mark", "(IIZ)V"⟩
abbrev cX7_firstFaults : ByteArray := prog_9_method_15_code
def yX7_firstFaults : MethodName := ⟨RX7, "firstFaults", "(I)V"⟩
abbrev cX7_haveAny : ByteArray := prog_9_method_16_code
def yX7_haveAny : MethodName := ⟨RX7, "haveAny", "()Z"⟩
abbrev cX7_permitsIt : ByteArray := prog_9_method_17_code
def yX7_permitsIt : MethodName := ⟨RX7, "permitsIt", "(II)Z"⟩
abbrev cX7_isUpper : ByteArray := prog_9_method_18_code
def yX7_isUpper : MethodName := ⟨RX7, "isUpper", "(II)Z"⟩
abbrev cX7_sealedBy : ByteArray := prog_9_method_19_code
def yX7_sealedBy : MethodName := ⟨RX7, "sealedBy", "(II)V"⟩
abbrev cX7_isSealed : ByteArray := prog_9_method_20_code
def yX7_isSealed : MethodName := ⟨RX7, "isSealed", "(I)Z"⟩
abbrev cX7_typeFaults : ByteArray := prog_9_method_21_code
def yX7_typeFaults : MethodName := ⟨RX7, "typeFaults", "(I)V"⟩
abbrev cX7_memberFaults : ByteArray := prog_9_method_22_code
def yX7_memberFaults : MethodName := ⟨RX7, "memberFaults", "(I)V"⟩
abbrev cX7_isWrong : ByteArray := prog_9_method_23_code
def yX7_isWrong : MethodName := ⟨RX7, "isWrong", "(II)Z"⟩
abbrev cX7_fitsResult : ByteArray := prog_9_method_24_code
def yX7_fitsResult : MethodName := ⟨RX7, "fitsResult", "(II)Z"⟩
abbrev cX7_overFaults : ByteArray := prog_9_method_25_code
def yX7_overFaults : MethodName := ⟨RX7, "overFaults", "(I)V"⟩
abbrev cX7_classOne : ByteArray := prog_9_method_26_code
def yX7_classOne : MethodName := ⟨RX7, "classOne", "(III)I"⟩
abbrev cX7_ofFace : ByteArray := prog_9_method_27_code
def yX7_ofFace : MethodName := ⟨RX7, "ofFace", "(III)I"⟩
abbrev cX7_findFaceOnes : ByteArray := prog_9_method_28_code
def yX7_findFaceOnes : MethodName := ⟨RX7, "findFaceOnes", "(III)V"⟩
abbrev cX7_leastFaceOne : ByteArray := prog_9_method_29_code
def yX7_leastFaceOne : MethodName := ⟨RX7, "leastFaceOne", "(Z)I"⟩
abbrev cX7_hasDefault : ByteArray := prog_9_method_30_code
def yX7_hasDefault : MethodName := ⟨RX7, "hasDefault", "()Z"⟩
abbrev cX7_givenFaults : ByteArray := prog_9_method_31_code
def yX7_givenFaults : MethodName := ⟨RX7, "givenFaults", "(I)V"⟩
abbrev cX7_faultsOf : ByteArray := prog_9_method_32_code
def yX7_faultsOf : MethodName := ⟨RX7, "faultsOf", "(I)V"⟩
abbrev cX7_count : ByteArray := prog_9_method_33_code
def yX7_count : MethodName := ⟨RX7, "count", "()I"⟩
abbrev cX7_faults : ByteArray := prog_9_method_34_code
def yX7_faults : MethodName := ⟨RX7, "faults", "(I)I"⟩
abbrev cX7_fault : ByteArray := prog_9_method_35_code
def yX7_fault : MethodName := ⟨RX7, "fault", "(III)I"⟩
abbrev cX7_all : ByteArray := prog_9_method_36_code
def yX7_all : MethodName := ⟨RX7, "all", "()I"⟩
abbrev cX7_is_ : ByteArray := prog_9_method_37_code
def yX7_is_ : MethodName := ⟨RX7, "is", "(II)I"⟩
abbrev cX7_isWrongType : ByteArray := prog_9_method_38_code
def yX7_isWrongType : MethodName := ⟨RX7, "isWrongType", "(I)Z"⟩
abbrev cX7_running : ByteArray := prog_9_method_39_code
def yX7_running : MethodName := ⟨RX7, "running", "(III)I"⟩
abbrev cX7_runs : ByteArray := prog_9_method_40_code
def yX7_runs : MethodName := ⟨RX7, "runs", "(III)I"⟩
abbrev cX7_mayTake : ByteArray := prog_9_method_41_code
def yX7_mayTake : MethodName := ⟨RX7, "mayTake", "(I)Z"⟩
abbrev cX7_findTaking : ByteArray := prog_9_method_42_code
def yX7_findTaking : MethodName := ⟨RX7, "findTaking", "(I)V"⟩
abbrev cX7_call : ByteArray := prog_9_method_43_code
def yX7_call : MethodName := ⟨RX7, "call", "(IIII)I"⟩
abbrev cX7_told : ByteArray := prog_9_method_44_code
def yX7_told : MethodName := ⟨RX7, "told", "(I)I"⟩
def RJ6 : String := "java/lang/Integer"
abbrev cJ6_bitCount_0f7a4 : ByteArray := prog_10_method_49_code
def yJ6_bitCount_0f7a4 : MethodName := ⟨RJ6, "bitCount", "(I)I"⟩
def RJ13 : String := "java/lang/Long"
abbrev cJ13_bitCount_95d88 : ByteArray := prog_11_method_50_code
def yJ13_bitCount_95d88 : MethodName := ⟨RJ13, "bitCount", "(J)I"⟩
def RJ7 : String := "java/util/Arrays"
abbrev cJ7_fill_d0a16 : ByteArray := prog_12_method_101_code
def yJ7_fill_d0a16 : MethodName := ⟨RJ7, "fill", "([JJ)V"⟩
def RL : String := "ClassRulesLaw"
abbrev cL_law : ByteArray := code
def wsX0_init : List Cond := .code yX0_init cX0_init 3 none :: ([.methodLink RX0 3 objectInit, .instanceMethod objectInit, .code objectInit ⟨#[0xb1]⟩ 1 none, .arrayClass .int, .fieldLink RX0 9 "ClassRules$Choice" "faceOnes" "[I", .fieldLink RX0 15 "ClassRules$Choice" "chain" "[I", .fieldLink RX0 18 "ClassRules$Choice" "takers" "[I", .fieldLink RX0 21 "ClassRules$Choice" "faceOnesCount" "I", .fieldLink RX0 25 "ClassRules$Choice" "classOne" "I", .fieldLink RX0 28 "ClassRules$Choice" "types" "LClassRules$Types;", .fieldLink RX0 32 "ClassRules$Choice" "members" "LClassRules$Members;"] ++ wsX00)
def wsX6_holds : List Cond := .code yX6_holds cX6_holds 2 (some .boolean) :: ([])
def wsX6_bit : List Cond := .code yX6_bit cX6_bit 1 (some .int) :: ([])
def wsX4_init : List Cond := .code yX4_init cX4_init 2 none :: ([.methodLink RX4 3 objectInit, .instanceMethod objectInit, .code objectInit ⟨#[0xb1]⟩ 1 none, .fieldLink RX4 9 "ClassRules$TypeRules" "types" "LClassRules$Types;"] ++ wsX40)
def wsX2_init : List Cond := .code yX2_init cX2_init 3 none :: ([.methodLink RX2 3 objectInit, .instanceMethod objectInit, .code objectInit ⟨#[0xb1]⟩ 1 none, .fieldLink RX2 9 "ClassRules$MemberRules" "types" "LClassRules$Types;", .fieldLink RX2 15 "ClassRules$MemberRules" "members" "LClassRules$Members;"] ++ wsX20)
def wsX1_init_r1 : List Cond := [Cond.methodLink RX1 3 objectInit, Cond.instanceMethod objectInit, Cond.code objectInit ⟨#[0xb1]⟩ 1 none, Cond.arrayClass .long, Cond.fieldLink RX1 11 "ClassRules$Judge" "found" "[J", Cond.arrayClass .int, Cond.fieldLink RX1 15 "ClassRules$Judge" "counts" "[I", Cond.fieldLink RX1 19 "ClassRules$Judge" "counted" "I", Cond.fieldLink RX1 23 "ClassRules$Judge" "kept" "I", Cond.fieldLink RX1 26 "ClassRules$Judge" "types" "LClassRules$Types;", Cond.fieldLink RX1 30 "ClassRules$Judge" "members" "LClassRules$Members;", Cond.fieldLink RX1 34 "ClassRules$Judge" "choice" "LClassRules$Choice;", Cond.classLink RX1 38 RX4, Cond.instantiable RX4 1, Cond.initialized RX4, Cond.fieldLink RX1 43 "ClassRules$Judge" "typeRules" "LClassRules$TypeRules;", Cond.classLink RX1 47 RX2, Cond.instantiable RX2 2, Cond.initialized RX2, Cond.fieldLink RX1 52 "ClassRules$Judge" "memberRules" "LClassRules$MemberRules;", Cond.methodLink RX1 40 yX4_init, Cond.instanceMethod yX4_init, Cond.code yX4_init cX4_init 2 none, Cond.methodLink RX4 3 objectInit]
def wsX1_init_r2 : List Cond := [Cond.fieldLink RX4 9 "ClassRules$TypeRules" "types" "LClassRules$Types;", Cond.methodLink RX1 49 yX2_init, Cond.instanceMethod yX2_init, Cond.code yX2_init cX2_init 3 none, Cond.methodLink RX2 3 objectInit, Cond.fieldLink RX2 9 "ClassRules$MemberRules" "types" "LClassRules$Types;", Cond.fieldLink RX2 15 "ClassRules$MemberRules" "members" "LClassRules$Members;"]
def wsX1_init : List Cond := .code yX1_init cX1_init 4 none :: ((wsX1_init_r1 ++ wsX1_init_r2) ++ wsX10 ++ wsX40 ++ wsX20)
def wsX1_forget : List Cond := .code yX1_forget cX1_forget 1 none :: ([.fieldLink RX1 19 "ClassRules$Judge" "counted" "I", .fieldLink RX1 23 "ClassRules$Judge" "kept" "I"] ++ wsX10)
def wsX5_next : List Cond := .code yX5_next cX5_next 2 (some .int) :: ([.fieldLink RX5 24 "ClassRules$Types" "parentSets" "[I", .fieldLink RX5 27 "ClassRules$Types" "uppers" "[I"] ++ wsX50)
def wsX5_everyone : List Cond := .code yX5_everyone cX5_everyone 1 (some .int) :: ([.fieldLink RX5 45 "ClassRules$Types" "count" "I", .static yX6_bit, .initialized RX6, .code yX6_bit cX6_bit 1 (some .int)] ++ wsX50)
def wsX5_there : List Cond := .code yX5_there cX5_there 2 (some .boolean) :: ([.fieldLink RX5 45 "ClassRules$Types" "count" "I"] ++ wsX50)
def wsX3_init : List Cond := .code yX3_init cX3_init 2 none :: ([.methodLink RX3 3 objectInit, .instanceMethod objectInit, .code objectInit ⟨#[0xb1]⟩ 1 none, .arrayClass .int, .fieldLink RX3 9 "ClassRules$Members" "owners" "[I", .fieldLink RX3 15 "ClassRules$Members" "names" "[I", .fieldLink RX3 18 "ClassRules$Members" "params" "[I", .fieldLink RX3 21 "ClassRules$Members" "marks" "[I", .fieldLink RX3 24 "ClassRules$Members" "accesses" "[I", .fieldLink RX3 27 "ClassRules$Members" "results" "[I", .fieldLink RX3 30 "ClassRules$Members" "count" "I", .fieldLink RX3 34 "ClassRules$Members" "types" "LClassRules$Types;"] ++ wsX30)
def wsX5_init : List Cond := .code yX5_init cX5_init 1 none :: ([.methodLink RX5 3 objectInit, .instanceMethod objectInit, .code objectInit ⟨#[0xb1]⟩ 1 none, .arrayClass .int, .fieldLink RX5 9 "ClassRules$Types" "kinds" "[I", .fieldLink RX5 15 "ClassRules$Types" "marks" "[I", .fieldLink RX5 18 "ClassRules$Types" "packs" "[I", .fieldLink RX5 21 "ClassRules$Types" "parents" "[I", .fieldLink RX5 24 "ClassRules$Types" "parentSets" "[I", .fieldLink RX5 27 "ClassRules$Types" "uppers" "[I", .fieldLink RX5 30 "ClassRules$Types" "uppersTwice" "[I", .fieldLink RX5 33 "ClassRules$Types" "uppersTold" "[I", .fieldLink RX5 36 "ClassRules$Types" "permitted" "[I", .fieldLink RX5 39 "ClassRules$Types" "permittedTold" "[I", .fieldLink RX5 42 "ClassRules$Types" "above" "[I", .fieldLink RX5 45 "ClassRules$Types" "count" "I"] ++ wsX50)
def wsX5_settleAbove : List Cond := .code yX5_settleAbove cX5_settleAbove 3 none :: ([.fieldLink RX5 45 "ClassRules$Types" "count" "I", .fieldLink RX5 42 "ClassRules$Types" "above" "[I", .methodLink RX5 56 yX5_next, .instanceMethod yX5_next, .selects RX5 yX5_next yX5_next, .initialized RX5, .code yX5_next cX5_next 2 (some .int), .fieldLink RX5 24 "ClassRules$Types" "parentSets" "[I", .fieldLink RX5 27 "ClassRules$Types" "uppers" "[I", .methodLink RX5 59 yX5_everyone, .instanceMethod yX5_everyone, .selects RX5 yX5_everyone yX5_everyone, .code yX5_everyone cX5_everyone 1 (some .int), .static yX6_bit, .initialized RX6, .code yX6_bit cX6_bit 1 (some .int), .static yX6_holds, .code yX6_holds cX6_holds 2 (some .boolean)] ++ wsX50)
def wsX5_addType_r1 : List Cond := [Cond.fieldLink RX5 45 "ClassRules$Types" "count" "I", Cond.fieldLink RX5 9 "ClassRules$Types" "kinds" "[I", Cond.fieldLink RX5 15 "ClassRules$Types" "marks" "[I", Cond.fieldLink RX5 18 "ClassRules$Types" "packs" "[I", Cond.fieldLink RX5 21 "ClassRules$Types" "parents" "[I", Cond.fieldLink RX5 24 "ClassRules$Types" "parentSets" "[I", Cond.static yX6_bit, Cond.initialized RX6, Cond.code yX6_bit cX6_bit 1 (some .int), Cond.methodLink RX5 53 yX5_settleAbove, Cond.instanceMethod yX5_settleAbove, Cond.selects RX5 yX5_settleAbove yX5_settleAbove, Cond.initialized RX5, Cond.code yX5_settleAbove cX5_settleAbove 3 none, Cond.fieldLink RX5 42 "ClassRules$Types" "above" "[I", Cond.methodLink RX5 56 yX5_next, Cond.instanceMethod yX5_next, Cond.selects RX5 yX5_next yX5_next, Cond.code yX5_next cX5_next 2 (some .int), Cond.fieldLink RX5 27 "ClassRules$Types" "uppers" "[I", Cond.methodLink RX5 59 yX5_everyone, Cond.instanceMethod yX5_everyone, Cond.selects RX5 yX5_everyone yX5_everyone, Cond.code yX5_everyone cX5_everyone 1 (some .int)]
def wsX5_addType_r2 : List Cond := [Cond.static yX6_holds, Cond.code yX6_holds cX6_holds 2 (some .boolean)]
def wsX5_addType : List Cond := .code yX5_addType cX5_addType 6 (some .int) :: ((wsX5_addType_r1 ++ wsX5_addType_r2) ++ wsX50)
def wsX6_init_r1 : List Cond := [Cond.methodLink RX6 3 objectInit, Cond.instanceMethod objectInit, Cond.code objectInit ⟨#[0xb1]⟩ 1 none, Cond.classLink RX6 9 RX5, Cond.instantiable RX5 12, Cond.initialized RX5, Cond.fieldLink RX6 12 "ClassRules" "types" "LClassRules$Types;", Cond.classLink RX6 16 RX3, Cond.instantiable RX3 8, Cond.initialized RX3, Cond.fieldLink RX6 21 "ClassRules" "members" "LClassRules$Members;", Cond.classLink RX6 25 RX0, Cond.instantiable RX0 7, Cond.initialized RX0, Cond.fieldLink RX6 30 "ClassRules" "choice" "LClassRules$Choice;", Cond.classLink RX6 34 RX1, Cond.instantiable RX1 9, Cond.initialized RX1, Cond.fieldLink RX6 39 "ClassRules" "judge" "LClassRules$Judge;", Cond.instanceMethod yX5_init, Cond.code yX5_init cX5_init 1 none, Cond.methodLink RX5 3 objectInit, Cond.arrayClass .int, Cond.fieldLink RX5 9 "ClassRules$Types" "kinds" "[I"]
def wsX6_init_r2 : List Cond := [Cond.fieldLink RX5 15 "ClassRules$Types" "marks" "[I", Cond.fieldLink RX5 18 "ClassRules$Types" "packs" "[I", Cond.fieldLink RX5 21 "ClassRules$Types" "parents" "[I", Cond.fieldLink RX5 24 "ClassRules$Types" "parentSets" "[I", Cond.fieldLink RX5 27 "ClassRules$Types" "uppers" "[I", Cond.fieldLink RX5 30 "ClassRules$Types" "uppersTwice" "[I", Cond.fieldLink RX5 33 "ClassRules$Types" "uppersTold" "[I", Cond.fieldLink RX5 36 "ClassRules$Types" "permitted" "[I", Cond.fieldLink RX5 39 "ClassRules$Types" "permittedTold" "[I", Cond.fieldLink RX5 42 "ClassRules$Types" "above" "[I", Cond.fieldLink RX5 45 "ClassRules$Types" "count" "I", Cond.methodLink RX6 18 yX3_init, Cond.instanceMethod yX3_init, Cond.code yX3_init cX3_init 2 none, Cond.methodLink RX3 3 objectInit, Cond.fieldLink RX3 9 "ClassRules$Members" "owners" "[I", Cond.fieldLink RX3 15 "ClassRules$Members" "names" "[I", Cond.fieldLink RX3 18 "ClassRules$Members" "params" "[I", Cond.fieldLink RX3 21 "ClassRules$Members" "marks" "[I", Cond.fieldLink RX3 24 "ClassRules$Members" "accesses" "[I", Cond.fieldLink RX3 27 "ClassRules$Members" "results" "[I", Cond.fieldLink RX3 30 "ClassRules$Members" "count" "I", Cond.fieldLink RX3 34 "ClassRules$Members" "types" "LClassRules$Types;", Cond.methodLink RX6 27 yX0_init]
def wsX6_init_r3 : List Cond := [Cond.instanceMethod yX0_init, Cond.code yX0_init cX0_init 3 none, Cond.methodLink RX0 3 objectInit, Cond.fieldLink RX0 9 "ClassRules$Choice" "faceOnes" "[I", Cond.fieldLink RX0 15 "ClassRules$Choice" "chain" "[I", Cond.fieldLink RX0 18 "ClassRules$Choice" "takers" "[I", Cond.fieldLink RX0 21 "ClassRules$Choice" "faceOnesCount" "I", Cond.fieldLink RX0 25 "ClassRules$Choice" "classOne" "I", Cond.fieldLink RX0 28 "ClassRules$Choice" "types" "LClassRules$Types;", Cond.fieldLink RX0 32 "ClassRules$Choice" "members" "LClassRules$Members;", Cond.methodLink RX6 36 yX1_init, Cond.instanceMethod yX1_init, Cond.code yX1_init cX1_init 4 none, Cond.methodLink RX1 3 objectInit, Cond.arrayClass .long, Cond.fieldLink RX1 11 "ClassRules$Judge" "found" "[J", Cond.fieldLink RX1 15 "ClassRules$Judge" "counts" "[I", Cond.fieldLink RX1 19 "ClassRules$Judge" "counted" "I", Cond.fieldLink RX1 23 "ClassRules$Judge" "kept" "I", Cond.fieldLink RX1 26 "ClassRules$Judge" "types" "LClassRules$Types;", Cond.fieldLink RX1 30 "ClassRules$Judge" "members" "LClassRules$Members;", Cond.fieldLink RX1 34 "ClassRules$Judge" "choice" "LClassRules$Choice;", Cond.classLink RX1 38 RX4, Cond.instantiable RX4 1]
def wsX6_init_r4 : List Cond := [Cond.initialized RX4, Cond.fieldLink RX1 43 "ClassRules$Judge" "typeRules" "LClassRules$TypeRules;", Cond.classLink RX1 47 RX2, Cond.instantiable RX2 2, Cond.initialized RX2, Cond.fieldLink RX1 52 "ClassRules$Judge" "memberRules" "LClassRules$MemberRules;", Cond.methodLink RX1 40 yX4_init, Cond.instanceMethod yX4_init, Cond.code yX4_init cX4_init 2 none, Cond.methodLink RX4 3 objectInit, Cond.fieldLink RX4 9 "ClassRules$TypeRules" "types" "LClassRules$Types;", Cond.methodLink RX1 49 yX2_init, Cond.instanceMethod yX2_init, Cond.code yX2_init cX2_init 3 none, Cond.methodLink RX2 3 objectInit, Cond.fieldLink RX2 9 "ClassRules$MemberRules" "types" "LClassRules$Types;", Cond.fieldLink RX2 15 "ClassRules$MemberRules" "members" "LClassRules$Members;"]
def wsX6_init : List Cond := .code yX6_init cX6_init 1 none :: ((wsX6_init_r1 ++ (wsX6_init_r2 ++ (wsX6_init_r3 ++ wsX6_init_r4))) ++ wsX50 ++ wsX60 ++ wsX30 ++ wsX00 ++ wsX10 ++ wsX40 ++ wsX20)
def wsX6_within : List Cond := .code yX6_within cX6_within 2 (some .boolean) :: ([])
def wsX6_type_r1 : List Cond := [Cond.fieldLink RX6 12 "ClassRules" "types" "LClassRules$Types;", Cond.fieldLink RX6 39 "ClassRules" "judge" "LClassRules$Judge;", Cond.methodLink RX6 43 yX6_within, Cond.static yX6_within, Cond.initialized RX6, Cond.code yX6_within cX6_within 2 (some .boolean), Cond.methodLink RX6 51 yX1_forget, Cond.instanceMethod yX1_forget, Cond.selects RX1 yX1_forget yX1_forget, Cond.initialized RX1, Cond.code yX1_forget cX1_forget 1 none, Cond.fieldLink RX1 19 "ClassRules$Judge" "counted" "I", Cond.fieldLink RX1 23 "ClassRules$Judge" "kept" "I", Cond.methodLink RX6 54 yX5_addType, Cond.instanceMethod yX5_addType, Cond.selects RX5 yX5_addType yX5_addType, Cond.initialized RX5, Cond.code yX5_addType cX5_addType 6 (some .int), Cond.fieldLink RX5 45 "ClassRules$Types" "count" "I", Cond.fieldLink RX5 9 "ClassRules$Types" "kinds" "[I", Cond.fieldLink RX5 15 "ClassRules$Types" "marks" "[I", Cond.fieldLink RX5 18 "ClassRules$Types" "packs" "[I", Cond.fieldLink RX5 21 "ClassRules$Types" "parents" "[I", Cond.fieldLink RX5 24 "ClassRules$Types" "parentSets" "[I"]
def wsX6_type_r2 : List Cond := [Cond.static yX6_bit, Cond.code yX6_bit cX6_bit 1 (some .int), Cond.methodLink RX5 53 yX5_settleAbove, Cond.instanceMethod yX5_settleAbove, Cond.selects RX5 yX5_settleAbove yX5_settleAbove, Cond.code yX5_settleAbove cX5_settleAbove 3 none, Cond.fieldLink RX5 42 "ClassRules$Types" "above" "[I", Cond.methodLink RX5 56 yX5_next, Cond.instanceMethod yX5_next, Cond.selects RX5 yX5_next yX5_next, Cond.code yX5_next cX5_next 2 (some .int), Cond.fieldLink RX5 27 "ClassRules$Types" "uppers" "[I", Cond.methodLink RX5 59 yX5_everyone, Cond.instanceMethod yX5_everyone, Cond.selects RX5 yX5_everyone yX5_everyone, Cond.code yX5_everyone cX5_everyone 1 (some .int), Cond.static yX6_holds, Cond.code yX6_holds cX6_holds 2 (some .boolean)]
def wsX6_type : List Cond := .code yX6_type cX6_type 5 (some .int) :: ((wsX6_type_r1 ++ wsX6_type_r2) ++ wsX60 ++ wsX50 ++ wsX10)
def wsX6_upper_r1 : List Cond := [Cond.fieldLink RX6 12 "ClassRules" "types" "LClassRules$Types;", Cond.fieldLink RX6 39 "ClassRules" "judge" "LClassRules$Judge;", Cond.methodLink RX6 58 yX5_there, Cond.instanceMethod yX5_there, Cond.selects RX5 yX5_there yX5_there, Cond.initialized RX5, Cond.code yX5_there cX5_there 2 (some .boolean), Cond.fieldLink RX5 45 "ClassRules$Types" "count" "I", Cond.methodLink RX6 43 yX6_within, Cond.static yX6_within, Cond.initialized RX6, Cond.code yX6_within cX6_within 2 (some .boolean), Cond.methodLink RX6 51 yX1_forget, Cond.instanceMethod yX1_forget, Cond.selects RX1 yX1_forget yX1_forget, Cond.initialized RX1, Cond.code yX1_forget cX1_forget 1 none, Cond.fieldLink RX1 19 "ClassRules$Judge" "counted" "I", Cond.fieldLink RX1 23 "ClassRules$Judge" "kept" "I", Cond.methodLink RX6 66 yX5_addUpper, Cond.instanceMethod yX5_addUpper, Cond.selects RX5 yX5_addUpper yX5_addUpper, Cond.code yX5_addUpper cX5_addUpper 3 (some .int), Cond.fieldLink RX5 30 "ClassRules$Types" "uppersTwice" "[I"]
def wsX6_upper_r2 : List Cond := [Cond.fieldLink RX5 27 "ClassRules$Types" "uppers" "[I", Cond.fieldLink RX5 33 "ClassRules$Types" "uppersTold" "[I", Cond.static yX6_bit, Cond.code yX6_bit cX6_bit 1 (some .int), Cond.methodLink RX5 53 yX5_settleAbove, Cond.instanceMethod yX5_settleAbove, Cond.selects RX5 yX5_settleAbove yX5_settleAbove, Cond.code yX5_settleAbove cX5_settleAbove 3 none, Cond.fieldLink RX5 42 "ClassRules$Types" "above" "[I", Cond.methodLink RX5 56 yX5_next, Cond.instanceMethod yX5_next, Cond.selects RX5 yX5_next yX5_next, Cond.code yX5_next cX5_next 2 (some .int), Cond.fieldLink RX5 24 "ClassRules$Types" "parentSets" "[I", Cond.methodLink RX5 59 yX5_everyone, Cond.instanceMethod yX5_everyone, Cond.selects RX5 yX5_everyone yX5_everyone, Cond.code yX5_everyone cX5_everyone 1 (some .int), Cond.static yX6_holds, Cond.code yX6_holds cX6_holds 2 (some .boolean)]
def wsX6_upper : List Cond := .code yX6_upper cX6_upper 3 (some .int) :: ((wsX6_upper_r1 ++ wsX6_upper_r2) ++ wsX60 ++ wsX50 ++ wsX10)
def wsX6_permit_r1 : List Cond := [Cond.fieldLink RX6 12 "ClassRules" "types" "LClassRules$Types;", Cond.fieldLink RX6 39 "ClassRules" "judge" "LClassRules$Judge;", Cond.methodLink RX6 58 yX5_there, Cond.instanceMethod yX5_there, Cond.selects RX5 yX5_there yX5_there, Cond.initialized RX5, Cond.code yX5_there cX5_there 2 (some .boolean), Cond.fieldLink RX5 45 "ClassRules$Types" "count" "I", Cond.methodLink RX6 43 yX6_within, Cond.static yX6_within, Cond.initialized RX6, Cond.code yX6_within cX6_within 2 (some .boolean), Cond.methodLink RX6 51 yX1_forget, Cond.instanceMethod yX1_forget, Cond.selects RX1 yX1_forget yX1_forget, Cond.initialized RX1, Cond.code yX1_forget cX1_forget 1 none, Cond.fieldLink RX1 19 "ClassRules$Judge" "counted" "I", Cond.fieldLink RX1 23 "ClassRules$Judge" "kept" "I", Cond.methodLink RX6 73 yX5_addPermitted, Cond.instanceMethod yX5_addPermitted, Cond.selects RX5 yX5_addPermitted yX5_addPermitted, Cond.code yX5_addPermitted cX5_addPermitted 3 (some .int), Cond.fieldLink RX5 36 "ClassRules$Types" "permitted" "[I"]
def wsX6_permit_r2 : List Cond := [Cond.fieldLink RX5 39 "ClassRules$Types" "permittedTold" "[I", Cond.static yX6_bit, Cond.code yX6_bit cX6_bit 1 (some .int)]
def wsX6_permit : List Cond := .code yX6_permit cX6_permit 3 (some .int) :: ((wsX6_permit_r1 ++ wsX6_permit_r2) ++ wsX60 ++ wsX50 ++ wsX10)
def wsX6_member_r1 : List Cond := [Cond.fieldLink RX6 12 "ClassRules" "types" "LClassRules$Types;", Cond.fieldLink RX6 21 "ClassRules" "members" "LClassRules$Members;", Cond.fieldLink RX6 39 "ClassRules" "judge" "LClassRules$Judge;", Cond.methodLink RX6 58 yX5_there, Cond.instanceMethod yX5_there, Cond.selects RX5 yX5_there yX5_there, Cond.initialized RX5, Cond.code yX5_there cX5_there 2 (some .boolean), Cond.fieldLink RX5 45 "ClassRules$Types" "count" "I", Cond.methodLink RX6 43 yX6_within, Cond.static yX6_within, Cond.initialized RX6, Cond.code yX6_within cX6_within 2 (some .boolean), Cond.methodLink RX6 51 yX1_forget, Cond.instanceMethod yX1_forget, Cond.selects RX1 yX1_forget yX1_forget, Cond.initialized RX1, Cond.code yX1_forget cX1_forget 1 none, Cond.fieldLink RX1 19 "ClassRules$Judge" "counted" "I", Cond.fieldLink RX1 23 "ClassRules$Judge" "kept" "I", Cond.methodLink RX6 77 yX3_addMember, Cond.instanceMethod yX3_addMember, Cond.selects RX3 yX3_addMember yX3_addMember, Cond.initialized RX3]
def wsX6_member_r2 : List Cond := [Cond.code yX3_addMember cX3_addMember 8 (some .int), Cond.fieldLink RX3 30 "ClassRules$Members" "count" "I", Cond.fieldLink RX3 9 "ClassRules$Members" "owners" "[I", Cond.fieldLink RX3 15 "ClassRules$Members" "names" "[I", Cond.fieldLink RX3 18 "ClassRules$Members" "params" "[I", Cond.fieldLink RX3 21 "ClassRules$Members" "marks" "[I", Cond.fieldLink RX3 24 "ClassRules$Members" "accesses" "[I", Cond.fieldLink RX3 27 "ClassRules$Members" "results" "[I"]
def wsX6_member : List Cond := .code yX6_member cX6_member 7 (some .int) :: ((wsX6_member_r1 ++ wsX6_member_r2) ++ wsX60 ++ wsX30 ++ wsX50 ++ wsX10)
def wsX6_faults_r1 : List Cond := [Cond.fieldLink RX6 12 "ClassRules" "types" "LClassRules$Types;", Cond.fieldLink RX6 39 "ClassRules" "judge" "LClassRules$Judge;", Cond.methodLink RX6 58 yX5_there, Cond.instanceMethod yX5_there, Cond.selects RX5 yX5_there yX5_there, Cond.initialized RX5, Cond.code yX5_there cX5_there 2 (some .boolean), Cond.fieldLink RX5 45 "ClassRules$Types" "count" "I", Cond.methodLink RX6 81 yX1_countOf, Cond.instanceMethod yX1_countOf, Cond.selects RX1 yX1_countOf yX1_countOf, Cond.initialized RX1, Cond.code yX1_countOf cX1_countOf 2 (some .int), Cond.fieldLink RX1 19 "ClassRules$Judge" "counted" "I", Cond.fieldLink RX1 15 "ClassRules$Judge" "counts" "[I", Cond.static yX6_holds, Cond.initialized RX6, Cond.code yX6_holds cX6_holds 2 (some .boolean), Cond.methodLink RX1 60 yX1_keep, Cond.instanceMethod yX1_keep, Cond.selects RX1 yX1_keep yX1_keep, Cond.code yX1_keep cX1_keep 2 none, Cond.fieldLink RX1 23 "ClassRules$Judge" "kept" "I", Cond.fieldLink RX1 11 "ClassRules$Judge" "found" "[J"]
def wsX6_faults_r2 : List Cond := [Cond.fieldLink RX1 43 "ClassRules$Judge" "typeRules" "LClassRules$TypeRules;", Cond.methodLink RX1 79 yJ7_fill_d0a16, Cond.static yJ7_fill_d0a16, Cond.initialized RJ7, Cond.code yJ7_fill_d0a16 cJ7_fill_d0a16 5 none, Cond.methodLink RX1 85 yX1_findTypeFaults, Cond.instanceMethod yX1_findTypeFaults, Cond.selects RX1 yX1_findTypeFaults yX1_findTypeFaults, Cond.code yX1_findTypeFaults cX1_findTypeFaults 2 none, Cond.methodLink RX1 101 yX4_missing, Cond.instanceMethod yX4_missing, Cond.selects RX4 yX4_missing yX4_missing, Cond.initialized RX4, Cond.code yX4_missing cX4_missing 2 (some .int), Cond.fieldLink RX4 9 "ClassRules$TypeRules" "types" "LClassRules$Types;", Cond.methodLink RX4 15 yX5_next, Cond.instanceMethod yX5_next, Cond.selects RX5 yX5_next yX5_next, Cond.code yX5_next cX5_next 2 (some .int), Cond.fieldLink RX5 24 "ClassRules$Types" "parentSets" "[I", Cond.fieldLink RX5 27 "ClassRules$Types" "uppers" "[I", Cond.methodLink RX4 25 yX5_everyone, Cond.instanceMethod yX5_everyone, Cond.selects RX5 yX5_everyone yX5_everyone]
def wsX6_faults_r3 : List Cond := [Cond.code yX5_everyone cX5_everyone 1 (some .int), Cond.static yX6_bit, Cond.code yX6_bit cX6_bit 1 (some .int), Cond.methodLink RX1 104 yX1_putTypes, Cond.instanceMethod yX1_putTypes, Cond.selects RX1 yX1_putTypes yX1_putTypes, Cond.code yX1_putTypes cX1_putTypes 3 none, Cond.methodLink RX1 108 yX4_ring, Cond.instanceMethod yX4_ring, Cond.selects RX4 yX4_ring yX4_ring, Cond.code yX4_ring cX4_ring 2 (some .int), Cond.methodLink RX1 111 yX4_wrongKind, Cond.instanceMethod yX4_wrongKind, Cond.selects RX4 yX4_wrongKind yX4_wrongKind, Cond.code yX4_wrongKind cX4_wrongKind 3 (some .int), Cond.methodLink RX4 41 yX5_ofKind, Cond.instanceMethod yX5_ofKind, Cond.selects RX5 yX5_ofKind yX5_ofKind, Cond.code yX5_ofKind cX5_ofKind 4 (some .int), Cond.fieldLink RX5 9 "ClassRules$Types" "kinds" "[I", Cond.methodLink RX1 114 yX4_finalParent, Cond.instanceMethod yX4_finalParent, Cond.selects RX4 yX4_finalParent yX4_finalParent, Cond.code yX4_finalParent cX4_finalParent 2 (some .int)]
def wsX6_faults_r4 : List Cond := [Cond.methodLink RX4 47 yX5_withMark, Cond.instanceMethod yX5_withMark, Cond.selects RX5 yX5_withMark yX5_withMark, Cond.code yX5_withMark cX5_withMark 4 (some .int), Cond.methodLink RX5 67 yX5_marked, Cond.instanceMethod yX5_marked, Cond.selects RX5 yX5_marked yX5_marked, Cond.code yX5_marked cX5_marked 3 (some .boolean), Cond.fieldLink RX5 15 "ClassRules$Types" "marks" "[I", Cond.methodLink RX1 117 yX4_wrongMarks, Cond.instanceMethod yX4_wrongMarks, Cond.selects RX4 yX4_wrongMarks yX4_wrongMarks, Cond.code yX4_wrongMarks cX4_wrongMarks 8 (some .int), Cond.methodLink RX4 53 yJ6_bitCount_0f7a4, Cond.static yJ6_bitCount_0f7a4, Cond.initialized RJ6, Cond.code yJ6_bitCount_0f7a4 cJ6_bitCount_0f7a4 1 (some .int), Cond.constant RJ6 265 (1431655765), Cond.constant RJ6 266 (858993459), Cond.constant RJ6 267 (252645135), Cond.methodLink RX1 120 yX4_wrongUnderSealed, Cond.instanceMethod yX4_wrongUnderSealed, Cond.selects RX4 yX4_wrongUnderSealed yX4_wrongUnderSealed, Cond.code yX4_wrongUnderSealed cX4_wrongUnderSealed 7 (some .int)]
def wsX6_faults_r5 : List Cond := [Cond.methodLink RX4 58 yX5_marked, Cond.methodLink RX1 123 yX4_wrongPermits, Cond.instanceMethod yX4_wrongPermits, Cond.selects RX4 yX4_wrongPermits yX4_wrongPermits, Cond.code yX4_wrongPermits cX4_wrongPermits 5 (some .int), Cond.methodLink RX1 126 yX4_twice, Cond.instanceMethod yX4_twice, Cond.selects RX4 yX4_twice yX4_twice, Cond.code yX4_twice cX4_twice 2 (some .int), Cond.methodLink RX1 88 yX1_findMemberFaults, Cond.instanceMethod yX1_findMemberFaults, Cond.selects RX1 yX1_findMemberFaults yX1_findMemberFaults, Cond.code yX1_findMemberFaults cX1_findMemberFaults 3 none, Cond.fieldLink RX1 30 "ClassRules$Judge" "members" "LClassRules$Members;", Cond.fieldLink RX1 52 "ClassRules$Judge" "memberRules" "LClassRules$MemberRules;", Cond.methodLink RX1 137 yX2_doubled, Cond.instanceMethod yX2_doubled, Cond.selects RX2 yX2_doubled yX2_doubled, Cond.initialized RX2, Cond.code yX2_doubled cX2_doubled 3 (some .boolean), Cond.fieldLink RX2 15 "ClassRules$MemberRules" "members" "LClassRules$Members;", Cond.methodLink RX2 25 yX3_alike, Cond.instanceMethod yX3_alike, Cond.selects RX3 yX3_alike yX3_alike]
def wsX6_faults_r6 : List Cond := [Cond.initialized RX3, Cond.code yX3_alike cX3_alike 3 (some .boolean), Cond.fieldLink RX3 15 "ClassRules$Members" "names" "[I", Cond.fieldLink RX3 18 "ClassRules$Members" "params" "[I", Cond.methodLink RX3 38 yX3_named, Cond.instanceMethod yX3_named, Cond.selects RX3 yX3_named yX3_named, Cond.code yX3_named cX3_named 4 (some .boolean), Cond.methodLink RX1 140 yX1_putIf, Cond.instanceMethod yX1_putIf, Cond.selects RX1 yX1_putIf yX1_putIf, Cond.code yX1_putIf cX1_putIf 4 none, Cond.methodLink RX1 144 yX2_wrongMarks, Cond.instanceMethod yX2_wrongMarks, Cond.selects RX2 yX2_wrongMarks yX2_wrongMarks, Cond.code yX2_wrongMarks cX2_wrongMarks 2 (some .boolean), Cond.methodLink RX2 29 yX3_ofFace, Cond.instanceMethod yX3_ofFace, Cond.selects RX3 yX3_ofFace yX3_ofFace, Cond.code yX3_ofFace cX3_ofFace 2 (some .boolean), Cond.fieldLink RX3 34 "ClassRules$Members" "types" "LClassRules$Types;", Cond.fieldLink RX3 9 "ClassRules$Members" "owners" "[I", Cond.methodLink RX2 33 yX2_wrongInFace, Cond.instanceMethod yX2_wrongInFace]
def wsX6_faults_r7 : List Cond := [Cond.selects RX2 yX2_wrongInFace yX2_wrongInFace, Cond.code yX2_wrongInFace cX2_wrongInFace 4 (some .boolean), Cond.methodLink RX2 42 yX3_marked, Cond.instanceMethod yX3_marked, Cond.selects RX3 yX3_marked yX3_marked, Cond.code yX3_marked cX3_marked 3 (some .boolean), Cond.fieldLink RX3 21 "ClassRules$Members" "marks" "[I", Cond.methodLink RX2 48 yJ6_bitCount_0f7a4, Cond.methodLink RX2 36 yX2_wrongElsewhere, Cond.instanceMethod yX2_wrongElsewhere, Cond.selects RX2 yX2_wrongElsewhere yX2_wrongElsewhere, Cond.code yX2_wrongElsewhere cX2_wrongElsewhere 3 (some .boolean), Cond.fieldLink RX2 9 "ClassRules$MemberRules" "types" "LClassRules$Types;", Cond.methodLink RX2 59 yX5_marked, Cond.methodLink RX1 91 yX4_shaky, Cond.instanceMethod yX4_shaky, Cond.selects RX4 yX4_shaky yX4_shaky, Cond.code yX4_shaky cX4_shaky 3 (some .boolean), Cond.methodLink RX4 72 yX5_stands, Cond.instanceMethod yX5_stands, Cond.selects RX5 yX5_stands yX5_stands, Cond.code yX5_stands cX5_stands 3 (some .boolean), Cond.fieldLink RX5 42 "ClassRules$Types" "above" "[I", Cond.methodLink RX4 75 yX4_missing]
def wsX6_faults_r8 : List Cond := [Cond.methodLink RX4 78 yX4_ring, Cond.methodLink RX4 81 yX4_wrongKind, Cond.methodLink RX1 95 yX1_findInheritedFaults, Cond.instanceMethod yX1_findInheritedFaults, Cond.selects RX1 yX1_findInheritedFaults yX1_findInheritedFaults, Cond.code yX1_findInheritedFaults cX1_findInheritedFaults 3 none, Cond.methodLink RX1 149 yX1_findOver, Cond.instanceMethod yX1_findOver, Cond.selects RX1 yX1_findOver yX1_findOver, Cond.code yX1_findOver cX1_findOver 4 none, Cond.methodLink RX1 152 yX3_alike, Cond.methodLink RX1 155 yX3_shared, Cond.instanceMethod yX3_shared, Cond.selects RX3 yX3_shared yX3_shared, Cond.code yX3_shared cX3_shared 4 (some .boolean), Cond.methodLink RX3 47 yX3_marked, Cond.methodLink RX3 51 yX3_ofFace, Cond.methodLink RX3 61 yX3_seenFrom, Cond.instanceMethod yX3_seenFrom, Cond.selects RX3 yX3_seenFrom yX3_seenFrom, Cond.code yX3_seenFrom cX3_seenFrom 3 (some .boolean), Cond.fieldLink RX3 24 "ClassRules$Members" "accesses" "[I", Cond.methodLink RX1 158 yX3_marked, Cond.methodLink RX1 164 yX2_resultFits]
def wsX6_faults_r9 : List Cond := [Cond.instanceMethod yX2_resultFits, Cond.selects RX2 yX2_resultFits yX2_resultFits, Cond.code yX2_resultFits cX2_resultFits 5 (some .boolean), Cond.methodLink RX2 60 yX5_there, Cond.methodLink RX2 63 yX5_stands, Cond.methodLink RX1 98 yX1_findGivenFaults, Cond.instanceMethod yX1_findGivenFaults, Cond.selects RX1 yX1_findGivenFaults yX1_findGivenFaults, Cond.code yX1_findGivenFaults cX1_findGivenFaults 6 none, Cond.fieldLink RX1 26 "ClassRules$Judge" "types" "LClassRules$Types;", Cond.fieldLink RX1 34 "ClassRules$Judge" "choice" "LClassRules$Choice;", Cond.methodLink RX1 172 yX5_marked, Cond.methodLink RX1 173 yX3_firstOfItsSort, Cond.instanceMethod yX3_firstOfItsSort, Cond.selects RX3 yX3_firstOfItsSort yX3_firstOfItsSort, Cond.code yX3_firstOfItsSort cX3_firstOfItsSort 3 (some .boolean), Cond.methodLink RX3 67 yX3_alike, Cond.methodLink RX1 182 yX0_seekClassOne, Cond.instanceMethod yX0_seekClassOne, Cond.selects RX0 yX0_seekClassOne yX0_seekClassOne, Cond.initialized RX0, Cond.code yX0_seekClassOne cX0_seekClassOne 7 none, Cond.fieldLink RX0 25 "ClassRules$Choice" "classOne" "I", Cond.fieldLink RX0 28 "ClassRules$Choice" "types" "LClassRules$Types;"]
def wsX6_faults_r10 : List Cond := [Cond.fieldLink RX0 32 "ClassRules$Choice" "members" "LClassRules$Members;", Cond.methodLink RX0 49 yX3_named, Cond.methodLink RX0 53 yX3_marked, Cond.methodLink RX0 57 yX3_shared, Cond.methodLink RX0 60 yX5_parentThere, Cond.instanceMethod yX5_parentThere, Cond.selects RX5 yX5_parentThere yX5_parentThere, Cond.code yX5_parentThere cX5_parentThere 2 (some .int), Cond.fieldLink RX5 21 "ClassRules$Types" "parents" "[I", Cond.methodLink RX1 188 yX0_seekFaceOnes, Cond.instanceMethod yX0_seekFaceOnes, Cond.selects RX0 yX0_seekFaceOnes yX0_seekFaceOnes, Cond.code yX0_seekFaceOnes cX0_seekFaceOnes 8 none, Cond.fieldLink RX0 21 "ClassRules$Choice" "faceOnesCount" "I", Cond.fieldLink RX0 9 "ClassRules$Choice" "faceOnes" "[I", Cond.methodLink RX0 64 yX0_givenByFace, Cond.instanceMethod yX0_givenByFace, Cond.selects RX0 yX0_givenByFace yX0_givenByFace, Cond.code yX0_givenByFace cX0_givenByFace 5 (some .boolean), Cond.methodLink RX0 77 yX3_ofFace, Cond.methodLink RX0 81 yX5_stands, Cond.methodLink RX1 191 yX0_leastToBeGiven, Cond.instanceMethod yX0_leastToBeGiven, Cond.selects RX0 yX0_leastToBeGiven yX0_leastToBeGiven]
def wsX6_faults_r11 : List Cond := [Cond.code yX0_leastToBeGiven cX0_leastToBeGiven 1 (some .int), Cond.methodLink RX0 87 yX0_leastFaceOneWith, Cond.instanceMethod yX0_leastFaceOneWith, Cond.selects RX0 yX0_leastFaceOneWith yX0_leastFaceOneWith, Cond.code yX0_leastFaceOneWith cX0_leastFaceOneWith 3 (some .int), Cond.methodLink RX1 194 yX0_leastOfRivals, Cond.instanceMethod yX0_leastOfRivals, Cond.selects RX0 yX0_leastOfRivals yX0_leastOfRivals, Cond.code yX0_leastOfRivals cX0_leastOfRivals 2 (some .int), Cond.methodLink RX1 64 yX1_countFound, Cond.instanceMethod yX1_countFound, Cond.selects RX1 yX1_countFound yX1_countFound, Cond.code yX1_countFound cX1_countFound 3 (some .int), Cond.methodLink RX1 197 yJ13_bitCount_95d88, Cond.static yJ13_bitCount_95d88, Cond.initialized RJ13, Cond.code yJ13_bitCount_95d88 cJ13_bitCount_95d88 2 (some .int), Cond.constantLong RJ13 314 (6148914691236517205), Cond.constantLong RJ13 316 (3689348814741910323), Cond.constantLong RJ13 318 (1085102592571150095)]
def wsX6_faults : List Cond := .code yX6_faults cX6_faults 2 (some .int) :: ((wsX6_faults_r1 ++ (wsX6_faults_r2 ++ (wsX6_faults_r3 ++ (wsX6_faults_r4 ++ (wsX6_faults_r5 ++ (wsX6_faults_r6 ++ (wsX6_faults_r7 ++ (wsX6_faults_r8 ++ (wsX6_faults_r9 ++ (wsX6_faults_r10 ++ wsX6_faults_r11)))))))))) ++ wsX60 ++ wsX50 ++ wsX10 ++ wsX40 ++ wsX30 ++ wsX20 ++ wsX00)
def wsX6_fault_r1 : List Cond := [Cond.fieldLink RX6 12 "ClassRules" "types" "LClassRules$Types;", Cond.fieldLink RX6 39 "ClassRules" "judge" "LClassRules$Judge;", Cond.methodLink RX6 58 yX5_there, Cond.instanceMethod yX5_there, Cond.selects RX5 yX5_there yX5_there, Cond.initialized RX5, Cond.code yX5_there cX5_there 2 (some .boolean), Cond.fieldLink RX5 45 "ClassRules$Types" "count" "I", Cond.methodLink RX6 43 yX6_within, Cond.static yX6_within, Cond.initialized RX6, Cond.code yX6_within cX6_within 2 (some .boolean), Cond.methodLink RX6 81 yX1_countOf, Cond.instanceMethod yX1_countOf, Cond.selects RX1 yX1_countOf yX1_countOf, Cond.initialized RX1, Cond.code yX1_countOf cX1_countOf 2 (some .int), Cond.fieldLink RX1 19 "ClassRules$Judge" "counted" "I", Cond.fieldLink RX1 15 "ClassRules$Judge" "counts" "[I", Cond.static yX6_holds, Cond.code yX6_holds cX6_holds 2 (some .boolean), Cond.methodLink RX1 60 yX1_keep, Cond.instanceMethod yX1_keep, Cond.selects RX1 yX1_keep yX1_keep]
def wsX6_fault_r2 : List Cond := [Cond.code yX1_keep cX1_keep 2 none, Cond.fieldLink RX1 23 "ClassRules$Judge" "kept" "I", Cond.fieldLink RX1 11 "ClassRules$Judge" "found" "[J", Cond.fieldLink RX1 43 "ClassRules$Judge" "typeRules" "LClassRules$TypeRules;", Cond.methodLink RX1 79 yJ7_fill_d0a16, Cond.static yJ7_fill_d0a16, Cond.initialized RJ7, Cond.code yJ7_fill_d0a16 cJ7_fill_d0a16 5 none, Cond.methodLink RX1 85 yX1_findTypeFaults, Cond.instanceMethod yX1_findTypeFaults, Cond.selects RX1 yX1_findTypeFaults yX1_findTypeFaults, Cond.code yX1_findTypeFaults cX1_findTypeFaults 2 none, Cond.methodLink RX1 101 yX4_missing, Cond.instanceMethod yX4_missing, Cond.selects RX4 yX4_missing yX4_missing, Cond.initialized RX4, Cond.code yX4_missing cX4_missing 2 (some .int), Cond.fieldLink RX4 9 "ClassRules$TypeRules" "types" "LClassRules$Types;", Cond.methodLink RX4 15 yX5_next, Cond.instanceMethod yX5_next, Cond.selects RX5 yX5_next yX5_next, Cond.code yX5_next cX5_next 2 (some .int), Cond.fieldLink RX5 24 "ClassRules$Types" "parentSets" "[I", Cond.fieldLink RX5 27 "ClassRules$Types" "uppers" "[I"]
def wsX6_fault_r3 : List Cond := [Cond.methodLink RX4 25 yX5_everyone, Cond.instanceMethod yX5_everyone, Cond.selects RX5 yX5_everyone yX5_everyone, Cond.code yX5_everyone cX5_everyone 1 (some .int), Cond.static yX6_bit, Cond.code yX6_bit cX6_bit 1 (some .int), Cond.methodLink RX1 104 yX1_putTypes, Cond.instanceMethod yX1_putTypes, Cond.selects RX1 yX1_putTypes yX1_putTypes, Cond.code yX1_putTypes cX1_putTypes 3 none, Cond.methodLink RX1 108 yX4_ring, Cond.instanceMethod yX4_ring, Cond.selects RX4 yX4_ring yX4_ring, Cond.code yX4_ring cX4_ring 2 (some .int), Cond.methodLink RX1 111 yX4_wrongKind, Cond.instanceMethod yX4_wrongKind, Cond.selects RX4 yX4_wrongKind yX4_wrongKind, Cond.code yX4_wrongKind cX4_wrongKind 3 (some .int), Cond.methodLink RX4 41 yX5_ofKind, Cond.instanceMethod yX5_ofKind, Cond.selects RX5 yX5_ofKind yX5_ofKind, Cond.code yX5_ofKind cX5_ofKind 4 (some .int), Cond.fieldLink RX5 9 "ClassRules$Types" "kinds" "[I", Cond.methodLink RX1 114 yX4_finalParent]
def wsX6_fault_r4 : List Cond := [Cond.instanceMethod yX4_finalParent, Cond.selects RX4 yX4_finalParent yX4_finalParent, Cond.code yX4_finalParent cX4_finalParent 2 (some .int), Cond.methodLink RX4 47 yX5_withMark, Cond.instanceMethod yX5_withMark, Cond.selects RX5 yX5_withMark yX5_withMark, Cond.code yX5_withMark cX5_withMark 4 (some .int), Cond.methodLink RX5 67 yX5_marked, Cond.instanceMethod yX5_marked, Cond.selects RX5 yX5_marked yX5_marked, Cond.code yX5_marked cX5_marked 3 (some .boolean), Cond.fieldLink RX5 15 "ClassRules$Types" "marks" "[I", Cond.methodLink RX1 117 yX4_wrongMarks, Cond.instanceMethod yX4_wrongMarks, Cond.selects RX4 yX4_wrongMarks yX4_wrongMarks, Cond.code yX4_wrongMarks cX4_wrongMarks 8 (some .int), Cond.methodLink RX4 53 yJ6_bitCount_0f7a4, Cond.static yJ6_bitCount_0f7a4, Cond.initialized RJ6, Cond.code yJ6_bitCount_0f7a4 cJ6_bitCount_0f7a4 1 (some .int), Cond.constant RJ6 265 (1431655765), Cond.constant RJ6 266 (858993459), Cond.constant RJ6 267 (252645135), Cond.methodLink RX1 120 yX4_wrongUnderSealed]
def wsX6_fault_r5 : List Cond := [Cond.instanceMethod yX4_wrongUnderSealed, Cond.selects RX4 yX4_wrongUnderSealed yX4_wrongUnderSealed, Cond.code yX4_wrongUnderSealed cX4_wrongUnderSealed 7 (some .int), Cond.methodLink RX4 58 yX5_marked, Cond.methodLink RX1 123 yX4_wrongPermits, Cond.instanceMethod yX4_wrongPermits, Cond.selects RX4 yX4_wrongPermits yX4_wrongPermits, Cond.code yX4_wrongPermits cX4_wrongPermits 5 (some .int), Cond.methodLink RX1 126 yX4_twice, Cond.instanceMethod yX4_twice, Cond.selects RX4 yX4_twice yX4_twice, Cond.code yX4_twice cX4_twice 2 (some .int), Cond.methodLink RX1 88 yX1_findMemberFaults, Cond.instanceMethod yX1_findMemberFaults, Cond.selects RX1 yX1_findMemberFaults yX1_findMemberFaults, Cond.code yX1_findMemberFaults cX1_findMemberFaults 3 none, Cond.fieldLink RX1 30 "ClassRules$Judge" "members" "LClassRules$Members;", Cond.fieldLink RX1 52 "ClassRules$Judge" "memberRules" "LClassRules$MemberRules;", Cond.methodLink RX1 137 yX2_doubled, Cond.instanceMethod yX2_doubled, Cond.selects RX2 yX2_doubled yX2_doubled, Cond.initialized RX2, Cond.code yX2_doubled cX2_doubled 3 (some .boolean), Cond.fieldLink RX2 15 "ClassRules$MemberRules" "members" "LClassRules$Members;"]
def wsX6_fault_r6 : List Cond := [Cond.methodLink RX2 25 yX3_alike, Cond.instanceMethod yX3_alike, Cond.selects RX3 yX3_alike yX3_alike, Cond.initialized RX3, Cond.code yX3_alike cX3_alike 3 (some .boolean), Cond.fieldLink RX3 15 "ClassRules$Members" "names" "[I", Cond.fieldLink RX3 18 "ClassRules$Members" "params" "[I", Cond.methodLink RX3 38 yX3_named, Cond.instanceMethod yX3_named, Cond.selects RX3 yX3_named yX3_named, Cond.code yX3_named cX3_named 4 (some .boolean), Cond.methodLink RX1 140 yX1_putIf, Cond.instanceMethod yX1_putIf, Cond.selects RX1 yX1_putIf yX1_putIf, Cond.code yX1_putIf cX1_putIf 4 none, Cond.methodLink RX1 144 yX2_wrongMarks, Cond.instanceMethod yX2_wrongMarks, Cond.selects RX2 yX2_wrongMarks yX2_wrongMarks, Cond.code yX2_wrongMarks cX2_wrongMarks 2 (some .boolean), Cond.methodLink RX2 29 yX3_ofFace, Cond.instanceMethod yX3_ofFace, Cond.selects RX3 yX3_ofFace yX3_ofFace, Cond.code yX3_ofFace cX3_ofFace 2 (some .boolean), Cond.fieldLink RX3 34 "ClassRules$Members" "types" "LClassRules$Types;"]
def wsX6_fault_r7 : List Cond := [Cond.fieldLink RX3 9 "ClassRules$Members" "owners" "[I", Cond.methodLink RX2 33 yX2_wrongInFace, Cond.instanceMethod yX2_wrongInFace, Cond.selects RX2 yX2_wrongInFace yX2_wrongInFace, Cond.code yX2_wrongInFace cX2_wrongInFace 4 (some .boolean), Cond.methodLink RX2 42 yX3_marked, Cond.instanceMethod yX3_marked, Cond.selects RX3 yX3_marked yX3_marked, Cond.code yX3_marked cX3_marked 3 (some .boolean), Cond.fieldLink RX3 21 "ClassRules$Members" "marks" "[I", Cond.methodLink RX2 48 yJ6_bitCount_0f7a4, Cond.methodLink RX2 36 yX2_wrongElsewhere, Cond.instanceMethod yX2_wrongElsewhere, Cond.selects RX2 yX2_wrongElsewhere yX2_wrongElsewhere, Cond.code yX2_wrongElsewhere cX2_wrongElsewhere 3 (some .boolean), Cond.fieldLink RX2 9 "ClassRules$MemberRules" "types" "LClassRules$Types;", Cond.methodLink RX2 59 yX5_marked, Cond.methodLink RX1 91 yX4_shaky, Cond.instanceMethod yX4_shaky, Cond.selects RX4 yX4_shaky yX4_shaky, Cond.code yX4_shaky cX4_shaky 3 (some .boolean), Cond.methodLink RX4 72 yX5_stands, Cond.instanceMethod yX5_stands, Cond.selects RX5 yX5_stands yX5_stands]
def wsX6_fault_r8 : List Cond := [Cond.code yX5_stands cX5_stands 3 (some .boolean), Cond.fieldLink RX5 42 "ClassRules$Types" "above" "[I", Cond.methodLink RX4 75 yX4_missing, Cond.methodLink RX4 78 yX4_ring, Cond.methodLink RX4 81 yX4_wrongKind, Cond.methodLink RX1 95 yX1_findInheritedFaults, Cond.instanceMethod yX1_findInheritedFaults, Cond.selects RX1 yX1_findInheritedFaults yX1_findInheritedFaults, Cond.code yX1_findInheritedFaults cX1_findInheritedFaults 3 none, Cond.methodLink RX1 149 yX1_findOver, Cond.instanceMethod yX1_findOver, Cond.selects RX1 yX1_findOver yX1_findOver, Cond.code yX1_findOver cX1_findOver 4 none, Cond.methodLink RX1 152 yX3_alike, Cond.methodLink RX1 155 yX3_shared, Cond.instanceMethod yX3_shared, Cond.selects RX3 yX3_shared yX3_shared, Cond.code yX3_shared cX3_shared 4 (some .boolean), Cond.methodLink RX3 47 yX3_marked, Cond.methodLink RX3 51 yX3_ofFace, Cond.methodLink RX3 61 yX3_seenFrom, Cond.instanceMethod yX3_seenFrom, Cond.selects RX3 yX3_seenFrom yX3_seenFrom, Cond.code yX3_seenFrom cX3_seenFrom 3 (some .boolean)]
def wsX6_fault_r9 : List Cond := [Cond.fieldLink RX3 24 "ClassRules$Members" "accesses" "[I", Cond.methodLink RX1 158 yX3_marked, Cond.methodLink RX1 164 yX2_resultFits, Cond.instanceMethod yX2_resultFits, Cond.selects RX2 yX2_resultFits yX2_resultFits, Cond.code yX2_resultFits cX2_resultFits 5 (some .boolean), Cond.methodLink RX2 60 yX5_there, Cond.methodLink RX2 63 yX5_stands, Cond.methodLink RX1 98 yX1_findGivenFaults, Cond.instanceMethod yX1_findGivenFaults, Cond.selects RX1 yX1_findGivenFaults yX1_findGivenFaults, Cond.code yX1_findGivenFaults cX1_findGivenFaults 6 none, Cond.fieldLink RX1 26 "ClassRules$Judge" "types" "LClassRules$Types;", Cond.fieldLink RX1 34 "ClassRules$Judge" "choice" "LClassRules$Choice;", Cond.methodLink RX1 172 yX5_marked, Cond.methodLink RX1 173 yX3_firstOfItsSort, Cond.instanceMethod yX3_firstOfItsSort, Cond.selects RX3 yX3_firstOfItsSort yX3_firstOfItsSort, Cond.code yX3_firstOfItsSort cX3_firstOfItsSort 3 (some .boolean), Cond.methodLink RX3 67 yX3_alike, Cond.methodLink RX1 182 yX0_seekClassOne, Cond.instanceMethod yX0_seekClassOne, Cond.selects RX0 yX0_seekClassOne yX0_seekClassOne, Cond.initialized RX0]
def wsX6_fault_r10 : List Cond := [Cond.code yX0_seekClassOne cX0_seekClassOne 7 none, Cond.fieldLink RX0 25 "ClassRules$Choice" "classOne" "I", Cond.fieldLink RX0 28 "ClassRules$Choice" "types" "LClassRules$Types;", Cond.fieldLink RX0 32 "ClassRules$Choice" "members" "LClassRules$Members;", Cond.methodLink RX0 49 yX3_named, Cond.methodLink RX0 53 yX3_marked, Cond.methodLink RX0 57 yX3_shared, Cond.methodLink RX0 60 yX5_parentThere, Cond.instanceMethod yX5_parentThere, Cond.selects RX5 yX5_parentThere yX5_parentThere, Cond.code yX5_parentThere cX5_parentThere 2 (some .int), Cond.fieldLink RX5 21 "ClassRules$Types" "parents" "[I", Cond.methodLink RX1 188 yX0_seekFaceOnes, Cond.instanceMethod yX0_seekFaceOnes, Cond.selects RX0 yX0_seekFaceOnes yX0_seekFaceOnes, Cond.code yX0_seekFaceOnes cX0_seekFaceOnes 8 none, Cond.fieldLink RX0 21 "ClassRules$Choice" "faceOnesCount" "I", Cond.fieldLink RX0 9 "ClassRules$Choice" "faceOnes" "[I", Cond.methodLink RX0 64 yX0_givenByFace, Cond.instanceMethod yX0_givenByFace, Cond.selects RX0 yX0_givenByFace yX0_givenByFace, Cond.code yX0_givenByFace cX0_givenByFace 5 (some .boolean), Cond.methodLink RX0 77 yX3_ofFace, Cond.methodLink RX0 81 yX5_stands]
def wsX6_fault_r11 : List Cond := [Cond.methodLink RX1 191 yX0_leastToBeGiven, Cond.instanceMethod yX0_leastToBeGiven, Cond.selects RX0 yX0_leastToBeGiven yX0_leastToBeGiven, Cond.code yX0_leastToBeGiven cX0_leastToBeGiven 1 (some .int), Cond.methodLink RX0 87 yX0_leastFaceOneWith, Cond.instanceMethod yX0_leastFaceOneWith, Cond.selects RX0 yX0_leastFaceOneWith yX0_leastFaceOneWith, Cond.code yX0_leastFaceOneWith cX0_leastFaceOneWith 3 (some .int), Cond.methodLink RX1 194 yX0_leastOfRivals, Cond.instanceMethod yX0_leastOfRivals, Cond.selects RX0 yX0_leastOfRivals yX0_leastOfRivals, Cond.code yX0_leastOfRivals cX0_leastOfRivals 2 (some .int), Cond.methodLink RX1 64 yX1_countFound, Cond.instanceMethod yX1_countFound, Cond.selects RX1 yX1_countFound yX1_countFound, Cond.code yX1_countFound cX1_countFound 3 (some .int), Cond.methodLink RX1 197 yJ13_bitCount_95d88, Cond.static yJ13_bitCount_95d88, Cond.initialized RJ13, Cond.code yJ13_bitCount_95d88 cJ13_bitCount_95d88 2 (some .int), Cond.constantLong RJ13 314 (6148914691236517205), Cond.constantLong RJ13 316 (3689348814741910323), Cond.constantLong RJ13 318 (1085102592571150095), Cond.methodLink RX6 85 yX1_kindAt]
def wsX6_fault_r12 : List Cond := [Cond.instanceMethod yX1_kindAt, Cond.selects RX1 yX1_kindAt yX1_kindAt, Cond.code yX1_kindAt cX1_kindAt 3 (some .int), Cond.methodLink RX1 72 yX1_placeAt, Cond.instanceMethod yX1_placeAt, Cond.selects RX1 yX1_placeAt yX1_placeAt, Cond.code yX1_placeAt cX1_placeAt 6 (some .int), Cond.methodLink RX1 76 yX1_isFound, Cond.instanceMethod yX1_isFound, Cond.selects RX1 yX1_isFound yX1_isFound, Cond.code yX1_isFound cX1_isFound 3 (some .boolean), Cond.methodLink RX6 88 yX1_numberAt, Cond.instanceMethod yX1_numberAt, Cond.selects RX1 yX1_numberAt yX1_numberAt, Cond.code yX1_numberAt cX1_numberAt 3 (some .int)]
def wsX6_fault : List Cond := .code yX6_fault cX6_fault 4 (some .int) :: ((wsX6_fault_r1 ++ (wsX6_fault_r2 ++ (wsX6_fault_r3 ++ (wsX6_fault_r4 ++ (wsX6_fault_r5 ++ (wsX6_fault_r6 ++ (wsX6_fault_r7 ++ (wsX6_fault_r8 ++ (wsX6_fault_r9 ++ (wsX6_fault_r10 ++ (wsX6_fault_r11 ++ wsX6_fault_r12))))))))))) ++ wsX60 ++ wsX50 ++ wsX10 ++ wsX40 ++ wsX30 ++ wsX20 ++ wsX00)
def wsX6_all_r1 : List Cond := [Cond.fieldLink RX6 12 "ClassRules" "types" "LClassRules$Types;", Cond.fieldLink RX6 39 "ClassRules" "judge" "LClassRules$Judge;", Cond.methodLink RX6 81 yX1_countOf, Cond.instanceMethod yX1_countOf, Cond.selects RX1 yX1_countOf yX1_countOf, Cond.initialized RX1, Cond.code yX1_countOf cX1_countOf 2 (some .int), Cond.fieldLink RX1 19 "ClassRules$Judge" "counted" "I", Cond.fieldLink RX1 15 "ClassRules$Judge" "counts" "[I", Cond.static yX6_holds, Cond.initialized RX6, Cond.code yX6_holds cX6_holds 2 (some .boolean), Cond.methodLink RX1 60 yX1_keep, Cond.instanceMethod yX1_keep, Cond.selects RX1 yX1_keep yX1_keep, Cond.code yX1_keep cX1_keep 2 none, Cond.fieldLink RX1 23 "ClassRules$Judge" "kept" "I", Cond.fieldLink RX1 11 "ClassRules$Judge" "found" "[J", Cond.fieldLink RX1 43 "ClassRules$Judge" "typeRules" "LClassRules$TypeRules;", Cond.methodLink RX1 79 yJ7_fill_d0a16, Cond.static yJ7_fill_d0a16, Cond.initialized RJ7, Cond.code yJ7_fill_d0a16 cJ7_fill_d0a16 5 none, Cond.methodLink RX1 85 yX1_findTypeFaults]
def wsX6_all_r2 : List Cond := [Cond.instanceMethod yX1_findTypeFaults, Cond.selects RX1 yX1_findTypeFaults yX1_findTypeFaults, Cond.code yX1_findTypeFaults cX1_findTypeFaults 2 none, Cond.methodLink RX1 101 yX4_missing, Cond.instanceMethod yX4_missing, Cond.selects RX4 yX4_missing yX4_missing, Cond.initialized RX4, Cond.code yX4_missing cX4_missing 2 (some .int), Cond.fieldLink RX4 9 "ClassRules$TypeRules" "types" "LClassRules$Types;", Cond.methodLink RX4 15 yX5_next, Cond.instanceMethod yX5_next, Cond.selects RX5 yX5_next yX5_next, Cond.initialized RX5, Cond.code yX5_next cX5_next 2 (some .int), Cond.fieldLink RX5 24 "ClassRules$Types" "parentSets" "[I", Cond.fieldLink RX5 27 "ClassRules$Types" "uppers" "[I", Cond.methodLink RX4 25 yX5_everyone, Cond.instanceMethod yX5_everyone, Cond.selects RX5 yX5_everyone yX5_everyone, Cond.code yX5_everyone cX5_everyone 1 (some .int), Cond.fieldLink RX5 45 "ClassRules$Types" "count" "I", Cond.static yX6_bit, Cond.code yX6_bit cX6_bit 1 (some .int), Cond.methodLink RX1 104 yX1_putTypes]
def wsX6_all_r3 : List Cond := [Cond.instanceMethod yX1_putTypes, Cond.selects RX1 yX1_putTypes yX1_putTypes, Cond.code yX1_putTypes cX1_putTypes 3 none, Cond.methodLink RX1 108 yX4_ring, Cond.instanceMethod yX4_ring, Cond.selects RX4 yX4_ring yX4_ring, Cond.code yX4_ring cX4_ring 2 (some .int), Cond.methodLink RX1 111 yX4_wrongKind, Cond.instanceMethod yX4_wrongKind, Cond.selects RX4 yX4_wrongKind yX4_wrongKind, Cond.code yX4_wrongKind cX4_wrongKind 3 (some .int), Cond.methodLink RX4 41 yX5_ofKind, Cond.instanceMethod yX5_ofKind, Cond.selects RX5 yX5_ofKind yX5_ofKind, Cond.code yX5_ofKind cX5_ofKind 4 (some .int), Cond.fieldLink RX5 9 "ClassRules$Types" "kinds" "[I", Cond.methodLink RX1 114 yX4_finalParent, Cond.instanceMethod yX4_finalParent, Cond.selects RX4 yX4_finalParent yX4_finalParent, Cond.code yX4_finalParent cX4_finalParent 2 (some .int), Cond.methodLink RX4 47 yX5_withMark, Cond.instanceMethod yX5_withMark, Cond.selects RX5 yX5_withMark yX5_withMark, Cond.code yX5_withMark cX5_withMark 4 (some .int)]
def wsX6_all_r4 : List Cond := [Cond.methodLink RX5 67 yX5_marked, Cond.instanceMethod yX5_marked, Cond.selects RX5 yX5_marked yX5_marked, Cond.code yX5_marked cX5_marked 3 (some .boolean), Cond.fieldLink RX5 15 "ClassRules$Types" "marks" "[I", Cond.methodLink RX1 117 yX4_wrongMarks, Cond.instanceMethod yX4_wrongMarks, Cond.selects RX4 yX4_wrongMarks yX4_wrongMarks, Cond.code yX4_wrongMarks cX4_wrongMarks 8 (some .int), Cond.methodLink RX4 53 yJ6_bitCount_0f7a4, Cond.static yJ6_bitCount_0f7a4, Cond.initialized RJ6, Cond.code yJ6_bitCount_0f7a4 cJ6_bitCount_0f7a4 1 (some .int), Cond.constant RJ6 265 (1431655765), Cond.constant RJ6 266 (858993459), Cond.constant RJ6 267 (252645135), Cond.methodLink RX1 120 yX4_wrongUnderSealed, Cond.instanceMethod yX4_wrongUnderSealed, Cond.selects RX4 yX4_wrongUnderSealed yX4_wrongUnderSealed, Cond.code yX4_wrongUnderSealed cX4_wrongUnderSealed 7 (some .int), Cond.methodLink RX4 58 yX5_marked, Cond.methodLink RX1 123 yX4_wrongPermits, Cond.instanceMethod yX4_wrongPermits, Cond.selects RX4 yX4_wrongPermits yX4_wrongPermits]
def wsX6_all_r5 : List Cond := [Cond.code yX4_wrongPermits cX4_wrongPermits 5 (some .int), Cond.methodLink RX1 126 yX4_twice, Cond.instanceMethod yX4_twice, Cond.selects RX4 yX4_twice yX4_twice, Cond.code yX4_twice cX4_twice 2 (some .int), Cond.methodLink RX1 88 yX1_findMemberFaults, Cond.instanceMethod yX1_findMemberFaults, Cond.selects RX1 yX1_findMemberFaults yX1_findMemberFaults, Cond.code yX1_findMemberFaults cX1_findMemberFaults 3 none, Cond.fieldLink RX1 30 "ClassRules$Judge" "members" "LClassRules$Members;", Cond.fieldLink RX1 52 "ClassRules$Judge" "memberRules" "LClassRules$MemberRules;", Cond.methodLink RX1 137 yX2_doubled, Cond.instanceMethod yX2_doubled, Cond.selects RX2 yX2_doubled yX2_doubled, Cond.initialized RX2, Cond.code yX2_doubled cX2_doubled 3 (some .boolean), Cond.fieldLink RX2 15 "ClassRules$MemberRules" "members" "LClassRules$Members;", Cond.methodLink RX2 25 yX3_alike, Cond.instanceMethod yX3_alike, Cond.selects RX3 yX3_alike yX3_alike, Cond.initialized RX3, Cond.code yX3_alike cX3_alike 3 (some .boolean), Cond.fieldLink RX3 15 "ClassRules$Members" "names" "[I", Cond.fieldLink RX3 18 "ClassRules$Members" "params" "[I"]
def wsX6_all_r6 : List Cond := [Cond.methodLink RX3 38 yX3_named, Cond.instanceMethod yX3_named, Cond.selects RX3 yX3_named yX3_named, Cond.code yX3_named cX3_named 4 (some .boolean), Cond.methodLink RX1 140 yX1_putIf, Cond.instanceMethod yX1_putIf, Cond.selects RX1 yX1_putIf yX1_putIf, Cond.code yX1_putIf cX1_putIf 4 none, Cond.methodLink RX1 144 yX2_wrongMarks, Cond.instanceMethod yX2_wrongMarks, Cond.selects RX2 yX2_wrongMarks yX2_wrongMarks, Cond.code yX2_wrongMarks cX2_wrongMarks 2 (some .boolean), Cond.methodLink RX2 29 yX3_ofFace, Cond.instanceMethod yX3_ofFace, Cond.selects RX3 yX3_ofFace yX3_ofFace, Cond.code yX3_ofFace cX3_ofFace 2 (some .boolean), Cond.fieldLink RX3 34 "ClassRules$Members" "types" "LClassRules$Types;", Cond.fieldLink RX3 9 "ClassRules$Members" "owners" "[I", Cond.methodLink RX2 33 yX2_wrongInFace, Cond.instanceMethod yX2_wrongInFace, Cond.selects RX2 yX2_wrongInFace yX2_wrongInFace, Cond.code yX2_wrongInFace cX2_wrongInFace 4 (some .boolean), Cond.methodLink RX2 42 yX3_marked, Cond.instanceMethod yX3_marked]
def wsX6_all_r7 : List Cond := [Cond.selects RX3 yX3_marked yX3_marked, Cond.code yX3_marked cX3_marked 3 (some .boolean), Cond.fieldLink RX3 21 "ClassRules$Members" "marks" "[I", Cond.methodLink RX2 48 yJ6_bitCount_0f7a4, Cond.methodLink RX2 36 yX2_wrongElsewhere, Cond.instanceMethod yX2_wrongElsewhere, Cond.selects RX2 yX2_wrongElsewhere yX2_wrongElsewhere, Cond.code yX2_wrongElsewhere cX2_wrongElsewhere 3 (some .boolean), Cond.fieldLink RX2 9 "ClassRules$MemberRules" "types" "LClassRules$Types;", Cond.methodLink RX2 59 yX5_marked, Cond.methodLink RX1 91 yX4_shaky, Cond.instanceMethod yX4_shaky, Cond.selects RX4 yX4_shaky yX4_shaky, Cond.code yX4_shaky cX4_shaky 3 (some .boolean), Cond.methodLink RX4 72 yX5_stands, Cond.instanceMethod yX5_stands, Cond.selects RX5 yX5_stands yX5_stands, Cond.code yX5_stands cX5_stands 3 (some .boolean), Cond.fieldLink RX5 42 "ClassRules$Types" "above" "[I", Cond.methodLink RX4 75 yX4_missing, Cond.methodLink RX4 78 yX4_ring, Cond.methodLink RX4 81 yX4_wrongKind, Cond.methodLink RX1 95 yX1_findInheritedFaults, Cond.instanceMethod yX1_findInheritedFaults]
def wsX6_all_r8 : List Cond := [Cond.selects RX1 yX1_findInheritedFaults yX1_findInheritedFaults, Cond.code yX1_findInheritedFaults cX1_findInheritedFaults 3 none, Cond.methodLink RX1 149 yX1_findOver, Cond.instanceMethod yX1_findOver, Cond.selects RX1 yX1_findOver yX1_findOver, Cond.code yX1_findOver cX1_findOver 4 none, Cond.methodLink RX1 152 yX3_alike, Cond.methodLink RX1 155 yX3_shared, Cond.instanceMethod yX3_shared, Cond.selects RX3 yX3_shared yX3_shared, Cond.code yX3_shared cX3_shared 4 (some .boolean), Cond.methodLink RX3 47 yX3_marked, Cond.methodLink RX3 51 yX3_ofFace, Cond.methodLink RX3 61 yX3_seenFrom, Cond.instanceMethod yX3_seenFrom, Cond.selects RX3 yX3_seenFrom yX3_seenFrom, Cond.code yX3_seenFrom cX3_seenFrom 3 (some .boolean), Cond.fieldLink RX3 24 "ClassRules$Members" "accesses" "[I", Cond.methodLink RX1 158 yX3_marked, Cond.methodLink RX1 164 yX2_resultFits, Cond.instanceMethod yX2_resultFits, Cond.selects RX2 yX2_resultFits yX2_resultFits, Cond.code yX2_resultFits cX2_resultFits 5 (some .boolean), Cond.methodLink RX2 60 yX5_there]
def wsX6_all_r9 : List Cond := [Cond.instanceMethod yX5_there, Cond.selects RX5 yX5_there yX5_there, Cond.code yX5_there cX5_there 2 (some .boolean), Cond.methodLink RX2 63 yX5_stands, Cond.methodLink RX1 98 yX1_findGivenFaults, Cond.instanceMethod yX1_findGivenFaults, Cond.selects RX1 yX1_findGivenFaults yX1_findGivenFaults, Cond.code yX1_findGivenFaults cX1_findGivenFaults 6 none, Cond.fieldLink RX1 26 "ClassRules$Judge" "types" "LClassRules$Types;", Cond.fieldLink RX1 34 "ClassRules$Judge" "choice" "LClassRules$Choice;", Cond.methodLink RX1 172 yX5_marked, Cond.methodLink RX1 173 yX3_firstOfItsSort, Cond.instanceMethod yX3_firstOfItsSort, Cond.selects RX3 yX3_firstOfItsSort yX3_firstOfItsSort, Cond.code yX3_firstOfItsSort cX3_firstOfItsSort 3 (some .boolean), Cond.methodLink RX3 67 yX3_alike, Cond.methodLink RX1 182 yX0_seekClassOne, Cond.instanceMethod yX0_seekClassOne, Cond.selects RX0 yX0_seekClassOne yX0_seekClassOne, Cond.initialized RX0, Cond.code yX0_seekClassOne cX0_seekClassOne 7 none, Cond.fieldLink RX0 25 "ClassRules$Choice" "classOne" "I", Cond.fieldLink RX0 28 "ClassRules$Choice" "types" "LClassRules$Types;", Cond.fieldLink RX0 32 "ClassRules$Choice" "members" "LClassRules$Members;"]
def wsX6_all_r10 : List Cond := [Cond.methodLink RX0 49 yX3_named, Cond.methodLink RX0 53 yX3_marked, Cond.methodLink RX0 57 yX3_shared, Cond.methodLink RX0 60 yX5_parentThere, Cond.instanceMethod yX5_parentThere, Cond.selects RX5 yX5_parentThere yX5_parentThere, Cond.code yX5_parentThere cX5_parentThere 2 (some .int), Cond.fieldLink RX5 21 "ClassRules$Types" "parents" "[I", Cond.methodLink RX1 188 yX0_seekFaceOnes, Cond.instanceMethod yX0_seekFaceOnes, Cond.selects RX0 yX0_seekFaceOnes yX0_seekFaceOnes, Cond.code yX0_seekFaceOnes cX0_seekFaceOnes 8 none, Cond.fieldLink RX0 21 "ClassRules$Choice" "faceOnesCount" "I", Cond.fieldLink RX0 9 "ClassRules$Choice" "faceOnes" "[I", Cond.methodLink RX0 64 yX0_givenByFace, Cond.instanceMethod yX0_givenByFace, Cond.selects RX0 yX0_givenByFace yX0_givenByFace, Cond.code yX0_givenByFace cX0_givenByFace 5 (some .boolean), Cond.methodLink RX0 77 yX3_ofFace, Cond.methodLink RX0 81 yX5_stands, Cond.methodLink RX1 191 yX0_leastToBeGiven, Cond.instanceMethod yX0_leastToBeGiven, Cond.selects RX0 yX0_leastToBeGiven yX0_leastToBeGiven, Cond.code yX0_leastToBeGiven cX0_leastToBeGiven 1 (some .int)]
def wsX6_all_r11 : List Cond := [Cond.methodLink RX0 87 yX0_leastFaceOneWith, Cond.instanceMethod yX0_leastFaceOneWith, Cond.selects RX0 yX0_leastFaceOneWith yX0_leastFaceOneWith, Cond.code yX0_leastFaceOneWith cX0_leastFaceOneWith 3 (some .int), Cond.methodLink RX1 194 yX0_leastOfRivals, Cond.instanceMethod yX0_leastOfRivals, Cond.selects RX0 yX0_leastOfRivals yX0_leastOfRivals, Cond.code yX0_leastOfRivals cX0_leastOfRivals 2 (some .int), Cond.methodLink RX1 64 yX1_countFound, Cond.instanceMethod yX1_countFound, Cond.selects RX1 yX1_countFound yX1_countFound, Cond.code yX1_countFound cX1_countFound 3 (some .int), Cond.methodLink RX1 197 yJ13_bitCount_95d88, Cond.static yJ13_bitCount_95d88, Cond.initialized RJ13, Cond.code yJ13_bitCount_95d88 cJ13_bitCount_95d88 2 (some .int), Cond.constantLong RJ13 314 (6148914691236517205), Cond.constantLong RJ13 316 (3689348814741910323), Cond.constantLong RJ13 318 (1085102592571150095)]
def wsX6_all : List Cond := .code yX6_all cX6_all 3 (some .int) :: ((wsX6_all_r1 ++ (wsX6_all_r2 ++ (wsX6_all_r3 ++ (wsX6_all_r4 ++ (wsX6_all_r5 ++ (wsX6_all_r6 ++ (wsX6_all_r7 ++ (wsX6_all_r8 ++ (wsX6_all_r9 ++ (wsX6_all_r10 ++ wsX6_all_r11)))))))))) ++ wsX60 ++ wsX50 ++ wsX10 ++ wsX40 ++ wsX30 ++ wsX20 ++ wsX00)
def wsX6_is : List Cond := .code yX6_is cX6_is 3 (some .int) :: ([.fieldLink RX6 12 "ClassRules" "types" "LClassRules$Types;", .methodLink RX6 58 yX5_there, .instanceMethod yX5_there, .selects RX5 yX5_there yX5_there, .initialized RX5, .code yX5_there cX5_there 2 (some .boolean), .fieldLink RX5 45 "ClassRules$Types" "count" "I", .methodLink RX6 91 yX5_stands, .instanceMethod yX5_stands, .selects RX5 yX5_stands yX5_stands, .code yX5_stands cX5_stands 3 (some .boolean), .fieldLink RX5 42 "ClassRules$Types" "above" "[I"] ++ wsX60 ++ wsX50)
def wsX6_runs_r1 : List Cond := [Cond.fieldLink RX6 12 "ClassRules" "types" "LClassRules$Types;", Cond.fieldLink RX6 30 "ClassRules" "choice" "LClassRules$Choice;", Cond.methodLink RX6 58 yX5_there, Cond.instanceMethod yX5_there, Cond.selects RX5 yX5_there yX5_there, Cond.initialized RX5, Cond.code yX5_there cX5_there 2 (some .boolean), Cond.fieldLink RX5 45 "ClassRules$Types" "count" "I", Cond.methodLink RX6 43 yX6_within, Cond.static yX6_within, Cond.initialized RX6, Cond.code yX6_within cX6_within 2 (some .boolean), Cond.methodLink RX6 94 yX6_canBeMade, Cond.instanceMethod yX6_canBeMade, Cond.selects RX6 yX6_canBeMade yX6_canBeMade, Cond.code yX6_canBeMade cX6_canBeMade 3 (some .boolean), Cond.fieldLink RX6 39 "ClassRules" "judge" "LClassRules$Judge;", Cond.methodLink RX6 110 yX5_marked, Cond.instanceMethod yX5_marked, Cond.selects RX5 yX5_marked yX5_marked, Cond.code yX5_marked cX5_marked 3 (some .boolean), Cond.fieldLink RX5 15 "ClassRules$Types" "marks" "[I", Cond.methodLink RX6 91 yX5_stands, Cond.instanceMethod yX5_stands]
def wsX6_runs_r2 : List Cond := [Cond.selects RX5 yX5_stands yX5_stands, Cond.code yX5_stands cX5_stands 3 (some .boolean), Cond.fieldLink RX5 42 "ClassRules$Types" "above" "[I", Cond.methodLink RX6 81 yX1_countOf, Cond.instanceMethod yX1_countOf, Cond.selects RX1 yX1_countOf yX1_countOf, Cond.initialized RX1, Cond.code yX1_countOf cX1_countOf 2 (some .int), Cond.fieldLink RX1 19 "ClassRules$Judge" "counted" "I", Cond.fieldLink RX1 15 "ClassRules$Judge" "counts" "[I", Cond.static yX6_holds, Cond.code yX6_holds cX6_holds 2 (some .boolean), Cond.methodLink RX1 60 yX1_keep, Cond.instanceMethod yX1_keep, Cond.selects RX1 yX1_keep yX1_keep, Cond.code yX1_keep cX1_keep 2 none, Cond.fieldLink RX1 23 "ClassRules$Judge" "kept" "I", Cond.fieldLink RX1 11 "ClassRules$Judge" "found" "[J", Cond.fieldLink RX1 43 "ClassRules$Judge" "typeRules" "LClassRules$TypeRules;", Cond.methodLink RX1 79 yJ7_fill_d0a16, Cond.static yJ7_fill_d0a16, Cond.initialized RJ7, Cond.code yJ7_fill_d0a16 cJ7_fill_d0a16 5 none, Cond.methodLink RX1 85 yX1_findTypeFaults]
def wsX6_runs_r3 : List Cond := [Cond.instanceMethod yX1_findTypeFaults, Cond.selects RX1 yX1_findTypeFaults yX1_findTypeFaults, Cond.code yX1_findTypeFaults cX1_findTypeFaults 2 none, Cond.methodLink RX1 101 yX4_missing, Cond.instanceMethod yX4_missing, Cond.selects RX4 yX4_missing yX4_missing, Cond.initialized RX4, Cond.code yX4_missing cX4_missing 2 (some .int), Cond.fieldLink RX4 9 "ClassRules$TypeRules" "types" "LClassRules$Types;", Cond.methodLink RX4 15 yX5_next, Cond.instanceMethod yX5_next, Cond.selects RX5 yX5_next yX5_next, Cond.code yX5_next cX5_next 2 (some .int), Cond.fieldLink RX5 24 "ClassRules$Types" "parentSets" "[I", Cond.fieldLink RX5 27 "ClassRules$Types" "uppers" "[I", Cond.methodLink RX4 25 yX5_everyone, Cond.instanceMethod yX5_everyone, Cond.selects RX5 yX5_everyone yX5_everyone, Cond.code yX5_everyone cX5_everyone 1 (some .int), Cond.static yX6_bit, Cond.code yX6_bit cX6_bit 1 (some .int), Cond.methodLink RX1 104 yX1_putTypes, Cond.instanceMethod yX1_putTypes, Cond.selects RX1 yX1_putTypes yX1_putTypes]
def wsX6_runs_r4 : List Cond := [Cond.code yX1_putTypes cX1_putTypes 3 none, Cond.methodLink RX1 108 yX4_ring, Cond.instanceMethod yX4_ring, Cond.selects RX4 yX4_ring yX4_ring, Cond.code yX4_ring cX4_ring 2 (some .int), Cond.methodLink RX1 111 yX4_wrongKind, Cond.instanceMethod yX4_wrongKind, Cond.selects RX4 yX4_wrongKind yX4_wrongKind, Cond.code yX4_wrongKind cX4_wrongKind 3 (some .int), Cond.methodLink RX4 41 yX5_ofKind, Cond.instanceMethod yX5_ofKind, Cond.selects RX5 yX5_ofKind yX5_ofKind, Cond.code yX5_ofKind cX5_ofKind 4 (some .int), Cond.fieldLink RX5 9 "ClassRules$Types" "kinds" "[I", Cond.methodLink RX1 114 yX4_finalParent, Cond.instanceMethod yX4_finalParent, Cond.selects RX4 yX4_finalParent yX4_finalParent, Cond.code yX4_finalParent cX4_finalParent 2 (some .int), Cond.methodLink RX4 47 yX5_withMark, Cond.instanceMethod yX5_withMark, Cond.selects RX5 yX5_withMark yX5_withMark, Cond.code yX5_withMark cX5_withMark 4 (some .int), Cond.methodLink RX5 67 yX5_marked, Cond.methodLink RX1 117 yX4_wrongMarks]
def wsX6_runs_r5 : List Cond := [Cond.instanceMethod yX4_wrongMarks, Cond.selects RX4 yX4_wrongMarks yX4_wrongMarks, Cond.code yX4_wrongMarks cX4_wrongMarks 8 (some .int), Cond.methodLink RX4 53 yJ6_bitCount_0f7a4, Cond.static yJ6_bitCount_0f7a4, Cond.initialized RJ6, Cond.code yJ6_bitCount_0f7a4 cJ6_bitCount_0f7a4 1 (some .int), Cond.constant RJ6 265 (1431655765), Cond.constant RJ6 266 (858993459), Cond.constant RJ6 267 (252645135), Cond.methodLink RX1 120 yX4_wrongUnderSealed, Cond.instanceMethod yX4_wrongUnderSealed, Cond.selects RX4 yX4_wrongUnderSealed yX4_wrongUnderSealed, Cond.code yX4_wrongUnderSealed cX4_wrongUnderSealed 7 (some .int), Cond.methodLink RX4 58 yX5_marked, Cond.methodLink RX1 123 yX4_wrongPermits, Cond.instanceMethod yX4_wrongPermits, Cond.selects RX4 yX4_wrongPermits yX4_wrongPermits, Cond.code yX4_wrongPermits cX4_wrongPermits 5 (some .int), Cond.methodLink RX1 126 yX4_twice, Cond.instanceMethod yX4_twice, Cond.selects RX4 yX4_twice yX4_twice, Cond.code yX4_twice cX4_twice 2 (some .int), Cond.methodLink RX1 88 yX1_findMemberFaults]
def wsX6_runs_r6 : List Cond := [Cond.instanceMethod yX1_findMemberFaults, Cond.selects RX1 yX1_findMemberFaults yX1_findMemberFaults, Cond.code yX1_findMemberFaults cX1_findMemberFaults 3 none, Cond.fieldLink RX1 30 "ClassRules$Judge" "members" "LClassRules$Members;", Cond.fieldLink RX1 52 "ClassRules$Judge" "memberRules" "LClassRules$MemberRules;", Cond.methodLink RX1 137 yX2_doubled, Cond.instanceMethod yX2_doubled, Cond.selects RX2 yX2_doubled yX2_doubled, Cond.initialized RX2, Cond.code yX2_doubled cX2_doubled 3 (some .boolean), Cond.fieldLink RX2 15 "ClassRules$MemberRules" "members" "LClassRules$Members;", Cond.methodLink RX2 25 yX3_alike, Cond.instanceMethod yX3_alike, Cond.selects RX3 yX3_alike yX3_alike, Cond.initialized RX3, Cond.code yX3_alike cX3_alike 3 (some .boolean), Cond.fieldLink RX3 15 "ClassRules$Members" "names" "[I", Cond.fieldLink RX3 18 "ClassRules$Members" "params" "[I", Cond.methodLink RX3 38 yX3_named, Cond.instanceMethod yX3_named, Cond.selects RX3 yX3_named yX3_named, Cond.code yX3_named cX3_named 4 (some .boolean), Cond.methodLink RX1 140 yX1_putIf, Cond.instanceMethod yX1_putIf]
def wsX6_runs_r7 : List Cond := [Cond.selects RX1 yX1_putIf yX1_putIf, Cond.code yX1_putIf cX1_putIf 4 none, Cond.methodLink RX1 144 yX2_wrongMarks, Cond.instanceMethod yX2_wrongMarks, Cond.selects RX2 yX2_wrongMarks yX2_wrongMarks, Cond.code yX2_wrongMarks cX2_wrongMarks 2 (some .boolean), Cond.methodLink RX2 29 yX3_ofFace, Cond.instanceMethod yX3_ofFace, Cond.selects RX3 yX3_ofFace yX3_ofFace, Cond.code yX3_ofFace cX3_ofFace 2 (some .boolean), Cond.fieldLink RX3 34 "ClassRules$Members" "types" "LClassRules$Types;", Cond.fieldLink RX3 9 "ClassRules$Members" "owners" "[I", Cond.methodLink RX2 33 yX2_wrongInFace, Cond.instanceMethod yX2_wrongInFace, Cond.selects RX2 yX2_wrongInFace yX2_wrongInFace, Cond.code yX2_wrongInFace cX2_wrongInFace 4 (some .boolean), Cond.methodLink RX2 42 yX3_marked, Cond.instanceMethod yX3_marked, Cond.selects RX3 yX3_marked yX3_marked, Cond.code yX3_marked cX3_marked 3 (some .boolean), Cond.fieldLink RX3 21 "ClassRules$Members" "marks" "[I", Cond.methodLink RX2 48 yJ6_bitCount_0f7a4, Cond.methodLink RX2 36 yX2_wrongElsewhere, Cond.instanceMethod yX2_wrongElsewhere]
def wsX6_runs_r8 : List Cond := [Cond.selects RX2 yX2_wrongElsewhere yX2_wrongElsewhere, Cond.code yX2_wrongElsewhere cX2_wrongElsewhere 3 (some .boolean), Cond.fieldLink RX2 9 "ClassRules$MemberRules" "types" "LClassRules$Types;", Cond.methodLink RX2 59 yX5_marked, Cond.methodLink RX1 91 yX4_shaky, Cond.instanceMethod yX4_shaky, Cond.selects RX4 yX4_shaky yX4_shaky, Cond.code yX4_shaky cX4_shaky 3 (some .boolean), Cond.methodLink RX4 72 yX5_stands, Cond.methodLink RX4 75 yX4_missing, Cond.methodLink RX4 78 yX4_ring, Cond.methodLink RX4 81 yX4_wrongKind, Cond.methodLink RX1 95 yX1_findInheritedFaults, Cond.instanceMethod yX1_findInheritedFaults, Cond.selects RX1 yX1_findInheritedFaults yX1_findInheritedFaults, Cond.code yX1_findInheritedFaults cX1_findInheritedFaults 3 none, Cond.methodLink RX1 149 yX1_findOver, Cond.instanceMethod yX1_findOver, Cond.selects RX1 yX1_findOver yX1_findOver, Cond.code yX1_findOver cX1_findOver 4 none, Cond.methodLink RX1 152 yX3_alike, Cond.methodLink RX1 155 yX3_shared, Cond.instanceMethod yX3_shared, Cond.selects RX3 yX3_shared yX3_shared]
def wsX6_runs_r9 : List Cond := [Cond.code yX3_shared cX3_shared 4 (some .boolean), Cond.methodLink RX3 47 yX3_marked, Cond.methodLink RX3 51 yX3_ofFace, Cond.methodLink RX3 61 yX3_seenFrom, Cond.instanceMethod yX3_seenFrom, Cond.selects RX3 yX3_seenFrom yX3_seenFrom, Cond.code yX3_seenFrom cX3_seenFrom 3 (some .boolean), Cond.fieldLink RX3 24 "ClassRules$Members" "accesses" "[I", Cond.methodLink RX1 158 yX3_marked, Cond.methodLink RX1 164 yX2_resultFits, Cond.instanceMethod yX2_resultFits, Cond.selects RX2 yX2_resultFits yX2_resultFits, Cond.code yX2_resultFits cX2_resultFits 5 (some .boolean), Cond.methodLink RX2 60 yX5_there, Cond.methodLink RX2 63 yX5_stands, Cond.methodLink RX1 98 yX1_findGivenFaults, Cond.instanceMethod yX1_findGivenFaults, Cond.selects RX1 yX1_findGivenFaults yX1_findGivenFaults, Cond.code yX1_findGivenFaults cX1_findGivenFaults 6 none, Cond.fieldLink RX1 26 "ClassRules$Judge" "types" "LClassRules$Types;", Cond.fieldLink RX1 34 "ClassRules$Judge" "choice" "LClassRules$Choice;", Cond.methodLink RX1 172 yX5_marked, Cond.methodLink RX1 173 yX3_firstOfItsSort, Cond.instanceMethod yX3_firstOfItsSort]
def wsX6_runs_r10 : List Cond := [Cond.selects RX3 yX3_firstOfItsSort yX3_firstOfItsSort, Cond.code yX3_firstOfItsSort cX3_firstOfItsSort 3 (some .boolean), Cond.methodLink RX3 67 yX3_alike, Cond.methodLink RX1 182 yX0_seekClassOne, Cond.instanceMethod yX0_seekClassOne, Cond.selects RX0 yX0_seekClassOne yX0_seekClassOne, Cond.initialized RX0, Cond.code yX0_seekClassOne cX0_seekClassOne 7 none, Cond.fieldLink RX0 25 "ClassRules$Choice" "classOne" "I", Cond.fieldLink RX0 28 "ClassRules$Choice" "types" "LClassRules$Types;", Cond.fieldLink RX0 32 "ClassRules$Choice" "members" "LClassRules$Members;", Cond.methodLink RX0 49 yX3_named, Cond.methodLink RX0 53 yX3_marked, Cond.methodLink RX0 57 yX3_shared, Cond.methodLink RX0 60 yX5_parentThere, Cond.instanceMethod yX5_parentThere, Cond.selects RX5 yX5_parentThere yX5_parentThere, Cond.code yX5_parentThere cX5_parentThere 2 (some .int), Cond.fieldLink RX5 21 "ClassRules$Types" "parents" "[I", Cond.methodLink RX1 188 yX0_seekFaceOnes, Cond.instanceMethod yX0_seekFaceOnes, Cond.selects RX0 yX0_seekFaceOnes yX0_seekFaceOnes, Cond.code yX0_seekFaceOnes cX0_seekFaceOnes 8 none, Cond.fieldLink RX0 21 "ClassRules$Choice" "faceOnesCount" "I"]
def wsX6_runs_r11 : List Cond := [Cond.fieldLink RX0 9 "ClassRules$Choice" "faceOnes" "[I", Cond.methodLink RX0 64 yX0_givenByFace, Cond.instanceMethod yX0_givenByFace, Cond.selects RX0 yX0_givenByFace yX0_givenByFace, Cond.code yX0_givenByFace cX0_givenByFace 5 (some .boolean), Cond.methodLink RX0 77 yX3_ofFace, Cond.methodLink RX0 81 yX5_stands, Cond.methodLink RX1 191 yX0_leastToBeGiven, Cond.instanceMethod yX0_leastToBeGiven, Cond.selects RX0 yX0_leastToBeGiven yX0_leastToBeGiven, Cond.code yX0_leastToBeGiven cX0_leastToBeGiven 1 (some .int), Cond.methodLink RX0 87 yX0_leastFaceOneWith, Cond.instanceMethod yX0_leastFaceOneWith, Cond.selects RX0 yX0_leastFaceOneWith yX0_leastFaceOneWith, Cond.code yX0_leastFaceOneWith cX0_leastFaceOneWith 3 (some .int), Cond.methodLink RX1 194 yX0_leastOfRivals, Cond.instanceMethod yX0_leastOfRivals, Cond.selects RX0 yX0_leastOfRivals yX0_leastOfRivals, Cond.code yX0_leastOfRivals cX0_leastOfRivals 2 (some .int), Cond.methodLink RX1 64 yX1_countFound, Cond.instanceMethod yX1_countFound, Cond.selects RX1 yX1_countFound yX1_countFound, Cond.code yX1_countFound cX1_countFound 3 (some .int), Cond.methodLink RX1 197 yJ13_bitCount_95d88]
def wsX6_runs_r12 : List Cond := [Cond.static yJ13_bitCount_95d88, Cond.initialized RJ13, Cond.code yJ13_bitCount_95d88 cJ13_bitCount_95d88 2 (some .int), Cond.constantLong RJ13 314 (6148914691236517205), Cond.constantLong RJ13 316 (3689348814741910323), Cond.constantLong RJ13 318 (1085102592571150095), Cond.methodLink RX6 97 yX0_running, Cond.instanceMethod yX0_running, Cond.selects RX0 yX0_running yX0_running, Cond.code yX0_running cX0_running 4 (some .int), Cond.methodLink RX0 90 yX0_seekClassOne, Cond.methodLink RX0 94 yX0_unlessAbstract, Cond.instanceMethod yX0_unlessAbstract, Cond.selects RX0 yX0_unlessAbstract yX0_unlessAbstract, Cond.code yX0_unlessAbstract cX0_unlessAbstract 2 (some .int), Cond.methodLink RX0 97 yX0_seekFaceOnes, Cond.methodLink RX6 101 yX6_orNone, Cond.static yX6_orNone, Cond.code yX6_orNone cX6_orNone 1 (some .int)]
def wsX6_runs : List Cond := .code yX6_runs cX6_runs 4 (some .int) :: ((wsX6_runs_r1 ++ (wsX6_runs_r2 ++ (wsX6_runs_r3 ++ (wsX6_runs_r4 ++ (wsX6_runs_r5 ++ (wsX6_runs_r6 ++ (wsX6_runs_r7 ++ (wsX6_runs_r8 ++ (wsX6_runs_r9 ++ (wsX6_runs_r10 ++ (wsX6_runs_r11 ++ wsX6_runs_r12))))))))))) ++ wsX60 ++ wsX50 ++ wsX10 ++ wsX40 ++ wsX30 ++ wsX20 ++ wsX00)
def wsX6_call_r1 : List Cond := [Cond.fieldLink RX6 12 "ClassRules" "types" "LClassRules$Types;", Cond.fieldLink RX6 30 "ClassRules" "choice" "LClassRules$Choice;", Cond.methodLink RX6 58 yX5_there, Cond.instanceMethod yX5_there, Cond.selects RX5 yX5_there yX5_there, Cond.initialized RX5, Cond.code yX5_there cX5_there 2 (some .boolean), Cond.fieldLink RX5 45 "ClassRules$Types" "count" "I", Cond.methodLink RX6 43 yX6_within, Cond.static yX6_within, Cond.initialized RX6, Cond.code yX6_within cX6_within 2 (some .boolean), Cond.methodLink RX6 94 yX6_canBeMade, Cond.instanceMethod yX6_canBeMade, Cond.selects RX6 yX6_canBeMade yX6_canBeMade, Cond.code yX6_canBeMade cX6_canBeMade 3 (some .boolean), Cond.fieldLink RX6 39 "ClassRules" "judge" "LClassRules$Judge;", Cond.methodLink RX6 110 yX5_marked, Cond.instanceMethod yX5_marked, Cond.selects RX5 yX5_marked yX5_marked, Cond.code yX5_marked cX5_marked 3 (some .boolean), Cond.fieldLink RX5 15 "ClassRules$Types" "marks" "[I", Cond.methodLink RX6 91 yX5_stands, Cond.instanceMethod yX5_stands]
def wsX6_call_r2 : List Cond := [Cond.selects RX5 yX5_stands yX5_stands, Cond.code yX5_stands cX5_stands 3 (some .boolean), Cond.fieldLink RX5 42 "ClassRules$Types" "above" "[I", Cond.methodLink RX6 81 yX1_countOf, Cond.instanceMethod yX1_countOf, Cond.selects RX1 yX1_countOf yX1_countOf, Cond.initialized RX1, Cond.code yX1_countOf cX1_countOf 2 (some .int), Cond.fieldLink RX1 19 "ClassRules$Judge" "counted" "I", Cond.fieldLink RX1 15 "ClassRules$Judge" "counts" "[I", Cond.static yX6_holds, Cond.code yX6_holds cX6_holds 2 (some .boolean), Cond.methodLink RX1 60 yX1_keep, Cond.instanceMethod yX1_keep, Cond.selects RX1 yX1_keep yX1_keep, Cond.code yX1_keep cX1_keep 2 none, Cond.fieldLink RX1 23 "ClassRules$Judge" "kept" "I", Cond.fieldLink RX1 11 "ClassRules$Judge" "found" "[J", Cond.fieldLink RX1 43 "ClassRules$Judge" "typeRules" "LClassRules$TypeRules;", Cond.methodLink RX1 79 yJ7_fill_d0a16, Cond.static yJ7_fill_d0a16, Cond.initialized RJ7, Cond.code yJ7_fill_d0a16 cJ7_fill_d0a16 5 none, Cond.methodLink RX1 85 yX1_findTypeFaults]
def wsX6_call_r3 : List Cond := [Cond.instanceMethod yX1_findTypeFaults, Cond.selects RX1 yX1_findTypeFaults yX1_findTypeFaults, Cond.code yX1_findTypeFaults cX1_findTypeFaults 2 none, Cond.methodLink RX1 101 yX4_missing, Cond.instanceMethod yX4_missing, Cond.selects RX4 yX4_missing yX4_missing, Cond.initialized RX4, Cond.code yX4_missing cX4_missing 2 (some .int), Cond.fieldLink RX4 9 "ClassRules$TypeRules" "types" "LClassRules$Types;", Cond.methodLink RX4 15 yX5_next, Cond.instanceMethod yX5_next, Cond.selects RX5 yX5_next yX5_next, Cond.code yX5_next cX5_next 2 (some .int), Cond.fieldLink RX5 24 "ClassRules$Types" "parentSets" "[I", Cond.fieldLink RX5 27 "ClassRules$Types" "uppers" "[I", Cond.methodLink RX4 25 yX5_everyone, Cond.instanceMethod yX5_everyone, Cond.selects RX5 yX5_everyone yX5_everyone, Cond.code yX5_everyone cX5_everyone 1 (some .int), Cond.static yX6_bit, Cond.code yX6_bit cX6_bit 1 (some .int), Cond.methodLink RX1 104 yX1_putTypes, Cond.instanceMethod yX1_putTypes, Cond.selects RX1 yX1_putTypes yX1_putTypes]
def wsX6_call_r4 : List Cond := [Cond.code yX1_putTypes cX1_putTypes 3 none, Cond.methodLink RX1 108 yX4_ring, Cond.instanceMethod yX4_ring, Cond.selects RX4 yX4_ring yX4_ring, Cond.code yX4_ring cX4_ring 2 (some .int), Cond.methodLink RX1 111 yX4_wrongKind, Cond.instanceMethod yX4_wrongKind, Cond.selects RX4 yX4_wrongKind yX4_wrongKind, Cond.code yX4_wrongKind cX4_wrongKind 3 (some .int), Cond.methodLink RX4 41 yX5_ofKind, Cond.instanceMethod yX5_ofKind, Cond.selects RX5 yX5_ofKind yX5_ofKind, Cond.code yX5_ofKind cX5_ofKind 4 (some .int), Cond.fieldLink RX5 9 "ClassRules$Types" "kinds" "[I", Cond.methodLink RX1 114 yX4_finalParent, Cond.instanceMethod yX4_finalParent, Cond.selects RX4 yX4_finalParent yX4_finalParent, Cond.code yX4_finalParent cX4_finalParent 2 (some .int), Cond.methodLink RX4 47 yX5_withMark, Cond.instanceMethod yX5_withMark, Cond.selects RX5 yX5_withMark yX5_withMark, Cond.code yX5_withMark cX5_withMark 4 (some .int), Cond.methodLink RX5 67 yX5_marked, Cond.methodLink RX1 117 yX4_wrongMarks]
def wsX6_call_r5 : List Cond := [Cond.instanceMethod yX4_wrongMarks, Cond.selects RX4 yX4_wrongMarks yX4_wrongMarks, Cond.code yX4_wrongMarks cX4_wrongMarks 8 (some .int), Cond.methodLink RX4 53 yJ6_bitCount_0f7a4, Cond.static yJ6_bitCount_0f7a4, Cond.initialized RJ6, Cond.code yJ6_bitCount_0f7a4 cJ6_bitCount_0f7a4 1 (some .int), Cond.constant RJ6 265 (1431655765), Cond.constant RJ6 266 (858993459), Cond.constant RJ6 267 (252645135), Cond.methodLink RX1 120 yX4_wrongUnderSealed, Cond.instanceMethod yX4_wrongUnderSealed, Cond.selects RX4 yX4_wrongUnderSealed yX4_wrongUnderSealed, Cond.code yX4_wrongUnderSealed cX4_wrongUnderSealed 7 (some .int), Cond.methodLink RX4 58 yX5_marked, Cond.methodLink RX1 123 yX4_wrongPermits, Cond.instanceMethod yX4_wrongPermits, Cond.selects RX4 yX4_wrongPermits yX4_wrongPermits, Cond.code yX4_wrongPermits cX4_wrongPermits 5 (some .int), Cond.methodLink RX1 126 yX4_twice, Cond.instanceMethod yX4_twice, Cond.selects RX4 yX4_twice yX4_twice, Cond.code yX4_twice cX4_twice 2 (some .int), Cond.methodLink RX1 88 yX1_findMemberFaults]
def wsX6_call_r6 : List Cond := [Cond.instanceMethod yX1_findMemberFaults, Cond.selects RX1 yX1_findMemberFaults yX1_findMemberFaults, Cond.code yX1_findMemberFaults cX1_findMemberFaults 3 none, Cond.fieldLink RX1 30 "ClassRules$Judge" "members" "LClassRules$Members;", Cond.fieldLink RX1 52 "ClassRules$Judge" "memberRules" "LClassRules$MemberRules;", Cond.methodLink RX1 137 yX2_doubled, Cond.instanceMethod yX2_doubled, Cond.selects RX2 yX2_doubled yX2_doubled, Cond.initialized RX2, Cond.code yX2_doubled cX2_doubled 3 (some .boolean), Cond.fieldLink RX2 15 "ClassRules$MemberRules" "members" "LClassRules$Members;", Cond.methodLink RX2 25 yX3_alike, Cond.instanceMethod yX3_alike, Cond.selects RX3 yX3_alike yX3_alike, Cond.initialized RX3, Cond.code yX3_alike cX3_alike 3 (some .boolean), Cond.fieldLink RX3 15 "ClassRules$Members" "names" "[I", Cond.fieldLink RX3 18 "ClassRules$Members" "params" "[I", Cond.methodLink RX3 38 yX3_named, Cond.instanceMethod yX3_named, Cond.selects RX3 yX3_named yX3_named, Cond.code yX3_named cX3_named 4 (some .boolean), Cond.methodLink RX1 140 yX1_putIf, Cond.instanceMethod yX1_putIf]
def wsX6_call_r7 : List Cond := [Cond.selects RX1 yX1_putIf yX1_putIf, Cond.code yX1_putIf cX1_putIf 4 none, Cond.methodLink RX1 144 yX2_wrongMarks, Cond.instanceMethod yX2_wrongMarks, Cond.selects RX2 yX2_wrongMarks yX2_wrongMarks, Cond.code yX2_wrongMarks cX2_wrongMarks 2 (some .boolean), Cond.methodLink RX2 29 yX3_ofFace, Cond.instanceMethod yX3_ofFace, Cond.selects RX3 yX3_ofFace yX3_ofFace, Cond.code yX3_ofFace cX3_ofFace 2 (some .boolean), Cond.fieldLink RX3 34 "ClassRules$Members" "types" "LClassRules$Types;", Cond.fieldLink RX3 9 "ClassRules$Members" "owners" "[I", Cond.methodLink RX2 33 yX2_wrongInFace, Cond.instanceMethod yX2_wrongInFace, Cond.selects RX2 yX2_wrongInFace yX2_wrongInFace, Cond.code yX2_wrongInFace cX2_wrongInFace 4 (some .boolean), Cond.methodLink RX2 42 yX3_marked, Cond.instanceMethod yX3_marked, Cond.selects RX3 yX3_marked yX3_marked, Cond.code yX3_marked cX3_marked 3 (some .boolean), Cond.fieldLink RX3 21 "ClassRules$Members" "marks" "[I", Cond.methodLink RX2 48 yJ6_bitCount_0f7a4, Cond.methodLink RX2 36 yX2_wrongElsewhere, Cond.instanceMethod yX2_wrongElsewhere]
def wsX6_call_r8 : List Cond := [Cond.selects RX2 yX2_wrongElsewhere yX2_wrongElsewhere, Cond.code yX2_wrongElsewhere cX2_wrongElsewhere 3 (some .boolean), Cond.fieldLink RX2 9 "ClassRules$MemberRules" "types" "LClassRules$Types;", Cond.methodLink RX2 59 yX5_marked, Cond.methodLink RX1 91 yX4_shaky, Cond.instanceMethod yX4_shaky, Cond.selects RX4 yX4_shaky yX4_shaky, Cond.code yX4_shaky cX4_shaky 3 (some .boolean), Cond.methodLink RX4 72 yX5_stands, Cond.methodLink RX4 75 yX4_missing, Cond.methodLink RX4 78 yX4_ring, Cond.methodLink RX4 81 yX4_wrongKind, Cond.methodLink RX1 95 yX1_findInheritedFaults, Cond.instanceMethod yX1_findInheritedFaults, Cond.selects RX1 yX1_findInheritedFaults yX1_findInheritedFaults, Cond.code yX1_findInheritedFaults cX1_findInheritedFaults 3 none, Cond.methodLink RX1 149 yX1_findOver, Cond.instanceMethod yX1_findOver, Cond.selects RX1 yX1_findOver yX1_findOver, Cond.code yX1_findOver cX1_findOver 4 none, Cond.methodLink RX1 152 yX3_alike, Cond.methodLink RX1 155 yX3_shared, Cond.instanceMethod yX3_shared, Cond.selects RX3 yX3_shared yX3_shared]
def wsX6_call_r9 : List Cond := [Cond.code yX3_shared cX3_shared 4 (some .boolean), Cond.methodLink RX3 47 yX3_marked, Cond.methodLink RX3 51 yX3_ofFace, Cond.methodLink RX3 61 yX3_seenFrom, Cond.instanceMethod yX3_seenFrom, Cond.selects RX3 yX3_seenFrom yX3_seenFrom, Cond.code yX3_seenFrom cX3_seenFrom 3 (some .boolean), Cond.fieldLink RX3 24 "ClassRules$Members" "accesses" "[I", Cond.methodLink RX1 158 yX3_marked, Cond.methodLink RX1 164 yX2_resultFits, Cond.instanceMethod yX2_resultFits, Cond.selects RX2 yX2_resultFits yX2_resultFits, Cond.code yX2_resultFits cX2_resultFits 5 (some .boolean), Cond.methodLink RX2 60 yX5_there, Cond.methodLink RX2 63 yX5_stands, Cond.methodLink RX1 98 yX1_findGivenFaults, Cond.instanceMethod yX1_findGivenFaults, Cond.selects RX1 yX1_findGivenFaults yX1_findGivenFaults, Cond.code yX1_findGivenFaults cX1_findGivenFaults 6 none, Cond.fieldLink RX1 26 "ClassRules$Judge" "types" "LClassRules$Types;", Cond.fieldLink RX1 34 "ClassRules$Judge" "choice" "LClassRules$Choice;", Cond.methodLink RX1 172 yX5_marked, Cond.methodLink RX1 173 yX3_firstOfItsSort, Cond.instanceMethod yX3_firstOfItsSort]
def wsX6_call_r10 : List Cond := [Cond.selects RX3 yX3_firstOfItsSort yX3_firstOfItsSort, Cond.code yX3_firstOfItsSort cX3_firstOfItsSort 3 (some .boolean), Cond.methodLink RX3 67 yX3_alike, Cond.methodLink RX1 182 yX0_seekClassOne, Cond.instanceMethod yX0_seekClassOne, Cond.selects RX0 yX0_seekClassOne yX0_seekClassOne, Cond.initialized RX0, Cond.code yX0_seekClassOne cX0_seekClassOne 7 none, Cond.fieldLink RX0 25 "ClassRules$Choice" "classOne" "I", Cond.fieldLink RX0 28 "ClassRules$Choice" "types" "LClassRules$Types;", Cond.fieldLink RX0 32 "ClassRules$Choice" "members" "LClassRules$Members;", Cond.methodLink RX0 49 yX3_named, Cond.methodLink RX0 53 yX3_marked, Cond.methodLink RX0 57 yX3_shared, Cond.methodLink RX0 60 yX5_parentThere, Cond.instanceMethod yX5_parentThere, Cond.selects RX5 yX5_parentThere yX5_parentThere, Cond.code yX5_parentThere cX5_parentThere 2 (some .int), Cond.fieldLink RX5 21 "ClassRules$Types" "parents" "[I", Cond.methodLink RX1 188 yX0_seekFaceOnes, Cond.instanceMethod yX0_seekFaceOnes, Cond.selects RX0 yX0_seekFaceOnes yX0_seekFaceOnes, Cond.code yX0_seekFaceOnes cX0_seekFaceOnes 8 none, Cond.fieldLink RX0 21 "ClassRules$Choice" "faceOnesCount" "I"]
def wsX6_call_r11 : List Cond := [Cond.fieldLink RX0 9 "ClassRules$Choice" "faceOnes" "[I", Cond.methodLink RX0 64 yX0_givenByFace, Cond.instanceMethod yX0_givenByFace, Cond.selects RX0 yX0_givenByFace yX0_givenByFace, Cond.code yX0_givenByFace cX0_givenByFace 5 (some .boolean), Cond.methodLink RX0 77 yX3_ofFace, Cond.methodLink RX0 81 yX5_stands, Cond.methodLink RX1 191 yX0_leastToBeGiven, Cond.instanceMethod yX0_leastToBeGiven, Cond.selects RX0 yX0_leastToBeGiven yX0_leastToBeGiven, Cond.code yX0_leastToBeGiven cX0_leastToBeGiven 1 (some .int), Cond.methodLink RX0 87 yX0_leastFaceOneWith, Cond.instanceMethod yX0_leastFaceOneWith, Cond.selects RX0 yX0_leastFaceOneWith yX0_leastFaceOneWith, Cond.code yX0_leastFaceOneWith cX0_leastFaceOneWith 3 (some .int), Cond.methodLink RX1 194 yX0_leastOfRivals, Cond.instanceMethod yX0_leastOfRivals, Cond.selects RX0 yX0_leastOfRivals yX0_leastOfRivals, Cond.code yX0_leastOfRivals cX0_leastOfRivals 2 (some .int), Cond.methodLink RX1 64 yX1_countFound, Cond.instanceMethod yX1_countFound, Cond.selects RX1 yX1_countFound yX1_countFound, Cond.code yX1_countFound cX1_countFound 3 (some .int), Cond.methodLink RX1 197 yJ13_bitCount_95d88]
def wsX6_call_r12 : List Cond := [Cond.static yJ13_bitCount_95d88, Cond.initialized RJ13, Cond.code yJ13_bitCount_95d88 cJ13_bitCount_95d88 2 (some .int), Cond.constantLong RJ13 314 (6148914691236517205), Cond.constantLong RJ13 316 (3689348814741910323), Cond.constantLong RJ13 318 (1085102592571150095), Cond.methodLink RX6 104 yX0_reached, Cond.instanceMethod yX0_reached, Cond.selects RX0 yX0_reached yX0_reached, Cond.code yX0_reached cX0_reached 6 (some .int), Cond.methodLink RX0 100 yX0_meantBy, Cond.instanceMethod yX0_meantBy, Cond.selects RX0 yX0_meantBy yX0_meantBy, Cond.code yX0_meantBy cX0_meantBy 4 (some .int), Cond.methodLink RX0 90 yX0_seekClassOne, Cond.methodLink RX0 97 yX0_seekFaceOnes, Cond.methodLink RX0 104 yX0_running, Cond.instanceMethod yX0_running, Cond.selects RX0 yX0_running yX0_running, Cond.code yX0_running cX0_running 4 (some .int), Cond.methodLink RX0 94 yX0_unlessAbstract, Cond.instanceMethod yX0_unlessAbstract, Cond.selects RX0 yX0_unlessAbstract yX0_unlessAbstract, Cond.code yX0_unlessAbstract cX0_unlessAbstract 2 (some .int)]
def wsX6_call_r13 : List Cond := [Cond.methodLink RX0 107 yX0_inPlaceOf, Cond.instanceMethod yX0_inPlaceOf, Cond.selects RX0 yX0_inPlaceOf yX0_inPlaceOf, Cond.code yX0_inPlaceOf cX0_inPlaceOf 7 (some .int), Cond.fieldLink RX0 18 "ClassRules$Choice" "takers" "[I", Cond.fieldLink RX0 15 "ClassRules$Choice" "chain" "[I", Cond.methodLink RX0 111 yX0_chainUpTo, Cond.instanceMethod yX0_chainUpTo, Cond.selects RX0 yX0_chainUpTo yX0_chainUpTo, Cond.code yX0_chainUpTo cX0_chainUpTo 5 (some .int), Cond.methodLink RX0 114 yX0_overriderIn, Cond.instanceMethod yX0_overriderIn, Cond.selects RX0 yX0_overriderIn yX0_overriderIn, Cond.code yX0_overriderIn cX0_overriderIn 4 (some .int), Cond.methodLink RX0 120 yX3_alike, Cond.methodLink RX0 117 yX0_takesPlace, Cond.instanceMethod yX0_takesPlace, Cond.selects RX0 yX0_takesPlace yX0_takesPlace, Cond.code yX0_takesPlace cX0_takesPlace 4 (some .boolean), Cond.methodLink RX0 123 yX3_seenFrom, Cond.methodLink RX6 101 yX6_orNone, Cond.static yX6_orNone, Cond.code yX6_orNone cX6_orNone 1 (some .int)]
def wsX6_call : List Cond := .code yX6_call cX6_call 5 (some .int) :: ((wsX6_call_r1 ++ (wsX6_call_r2 ++ (wsX6_call_r3 ++ (wsX6_call_r4 ++ (wsX6_call_r5 ++ (wsX6_call_r6 ++ (wsX6_call_r7 ++ (wsX6_call_r8 ++ (wsX6_call_r9 ++ (wsX6_call_r10 ++ (wsX6_call_r11 ++ (wsX6_call_r12 ++ wsX6_call_r13)))))))))))) ++ wsX60 ++ wsX50 ++ wsX10 ++ wsX40 ++ wsX30 ++ wsX20 ++ wsX00)
def wsX6_told : List Cond := .code yX6_told cX6_told 2 (some .int) :: ([.fieldLink RX6 12 "ClassRules" "types" "LClassRules$Types;", .fieldLink RX6 21 "ClassRules" "members" "LClassRules$Members;"] ++ wsX60 ++ wsX50 ++ wsX30)
def wsX7_init : List Cond := .code yX7_init cX7_init 1 none :: ([.methodLink RX7 1 objectInit, .instanceMethod objectInit, .code objectInit ⟨#[0xb1]⟩ 1 none, .arrayClass .int, .fieldLink RX7 7 "ClassRulesModel" "kind" "[I", .fieldLink RX7 13 "ClassRulesModel" "marks" "[I", .fieldLink RX7 16 "ClassRulesModel" "pack" "[I", .fieldLink RX7 19 "ClassRulesModel" "parent" "[I", .fieldLink RX7 22 "ClassRulesModel" "uppers" "[I", .fieldLink RX7 25 "ClassRulesModel" "upperMany" "[I", .fieldLink RX7 28 "ClassRulesModel" "permits" "[I", .fieldLink RX7 31 "ClassRulesModel" "permitMany" "[I", .fieldLink RX7 34 "ClassRulesModel" "of" "[I", .fieldLink RX7 37 "ClassRulesModel" "name" "[I", .fieldLink RX7 40 "ClassRulesModel" "params" "[I", .fieldLink RX7 43 "ClassRulesModel" "mMarks" "[I", .fieldLink RX7 46 "ClassRulesModel" "access" "[I", .fieldLink RX7 49 "ClassRulesModel" "result" "[I", .arrayClass .boolean, .fieldLink RX7 52 "ClassRulesModel" "above" "[Z", .fieldLink RX7 56 "ClassRulesModel" "fault" "[Z", .fieldLink RX7 59 "ClassRulesModel" "faceOnes" "[I", .fieldLink RX7 62 "ClassRulesModel" "takes" "[Z"] ++ wsX70)
def wsX7_in : List Cond := .code yX7_in cX7_in 3 (some .boolean) :: ([])
def wsX7_isType : List Cond := .code yX7_isType cX7_isType 2 (some .boolean) :: ([.fieldLink RX7 65 "ClassRulesModel" "types" "I", .methodLink RX7 69 yX7_in, .static yX7_in, .initialized RX7, .code yX7_in cX7_in 3 (some .boolean)] ++ wsX70)
def wsX7_type : List Cond := .code yX7_type cX7_type 5 (some .int) :: ([.fieldLink RX7 65 "ClassRulesModel" "types" "I", .fieldLink RX7 7 "ClassRulesModel" "kind" "[I", .fieldLink RX7 13 "ClassRulesModel" "marks" "[I", .fieldLink RX7 16 "ClassRulesModel" "pack" "[I", .fieldLink RX7 19 "ClassRulesModel" "parent" "[I", .fieldLink RX7 73 "ClassRulesModel" "known" "Z", .methodLink RX7 69 yX7_in, .static yX7_in, .initialized RX7, .code yX7_in cX7_in 3 (some .boolean)] ++ wsX70)
def wsX7_upper : List Cond := .code yX7_upper cX7_upper 3 (some .int) :: ([.fieldLink RX7 25 "ClassRulesModel" "upperMany" "[I", .fieldLink RX7 22 "ClassRulesModel" "uppers" "[I", .fieldLink RX7 73 "ClassRulesModel" "known" "Z", .methodLink RX7 77 yX7_isType, .instanceMethod yX7_isType, .selects RX7 yX7_isType yX7_isType, .initialized RX7, .code yX7_isType cX7_isType 2 (some .boolean), .fieldLink RX7 65 "ClassRulesModel" "types" "I", .methodLink RX7 69 yX7_in, .static yX7_in, .code yX7_in cX7_in 3 (some .boolean)] ++ wsX70)
def wsX7_permit : List Cond := .code yX7_permit cX7_permit 3 (some .int) :: ([.fieldLink RX7 31 "ClassRulesModel" "permitMany" "[I", .fieldLink RX7 28 "ClassRulesModel" "permits" "[I", .methodLink RX7 77 yX7_isType, .instanceMethod yX7_isType, .selects RX7 yX7_isType yX7_isType, .initialized RX7, .code yX7_isType cX7_isType 2 (some .boolean), .fieldLink RX7 65 "ClassRulesModel" "types" "I", .methodLink RX7 69 yX7_in, .static yX7_in, .code yX7_in cX7_in 3 (some .boolean)] ++ wsX70)
def wsX7_member : List Cond := .code yX7_member cX7_member 7 (some .int) :: ([.fieldLink RX7 81 "ClassRulesModel" "members" "I", .fieldLink RX7 34 "ClassRulesModel" "of" "[I", .fieldLink RX7 37 "ClassRulesModel" "name" "[I", .fieldLink RX7 40 "ClassRulesModel" "params" "[I", .fieldLink RX7 43 "ClassRulesModel" "mMarks" "[I", .fieldLink RX7 46 "ClassRulesModel" "access" "[I", .fieldLink RX7 49 "ClassRulesModel" "result" "[I", .methodLink RX7 77 yX7_isType, .instanceMethod yX7_isType, .selects RX7 yX7_isType yX7_isType, .initialized RX7, .code yX7_isType cX7_isType 2 (some .boolean), .fieldLink RX7 65 "ClassRulesModel" "types" "I", .methodLink RX7 69 yX7_in, .static yX7_in, .code yX7_in cX7_in 3 (some .boolean)] ++ wsX70)
def wsX7_faults_r1 : List Cond := [Cond.methodLink RX7 77 yX7_isType, Cond.instanceMethod yX7_isType, Cond.selects RX7 yX7_isType yX7_isType, Cond.initialized RX7, Cond.code yX7_isType cX7_isType 2 (some .boolean), Cond.fieldLink RX7 65 "ClassRulesModel" "types" "I", Cond.methodLink RX7 69 yX7_in, Cond.static yX7_in, Cond.code yX7_in cX7_in 3 (some .boolean), Cond.methodLink RX7 168 yX7_faultsOf, Cond.instanceMethod yX7_faultsOf, Cond.selects RX7 yX7_faultsOf yX7_faultsOf, Cond.code yX7_faultsOf cX7_faultsOf 4 none, Cond.fieldLink RX7 52 "ClassRulesModel" "above" "[Z", Cond.methodLink RX7 84 yX7_know, Cond.instanceMethod yX7_know, Cond.selects RX7 yX7_know yX7_know, Cond.code yX7_know cX7_know 4 none, Cond.fieldLink RX7 73 "ClassRulesModel" "known" "Z", Cond.fieldLink RX7 19 "ClassRulesModel" "parent" "[I", Cond.fieldLink RX7 25 "ClassRulesModel" "upperMany" "[I", Cond.fieldLink RX7 22 "ClassRulesModel" "uppers" "[I", Cond.methodLink RX7 149 yX7_firstFaults, Cond.instanceMethod yX7_firstFaults]
def wsX7_faults_r2 : List Cond := [Cond.selects RX7 yX7_firstFaults yX7_firstFaults, Cond.code yX7_firstFaults cX7_firstFaults 5 none, Cond.fieldLink RX7 56 "ClassRulesModel" "fault" "[Z", Cond.fieldLink RX7 7 "ClassRulesModel" "kind" "[I", Cond.fieldLink RX7 31 "ClassRulesModel" "permitMany" "[I", Cond.fieldLink RX7 28 "ClassRulesModel" "permits" "[I", Cond.methodLink RX7 91 yX7_mark, Cond.instanceMethod yX7_mark, Cond.selects RX7 yX7_mark yX7_mark, Cond.code yX7_mark cX7_mark 4 none, Cond.methodLink RX7 153 yX7_haveAny, Cond.instanceMethod yX7_haveAny, Cond.selects RX7 yX7_haveAny yX7_haveAny, Cond.code yX7_haveAny cX7_haveAny 3 (some .boolean), Cond.methodLink RX7 156 yX7_typeFaults, Cond.instanceMethod yX7_typeFaults, Cond.selects RX7 yX7_typeFaults yX7_typeFaults, Cond.code yX7_typeFaults cX7_typeFaults 8 none, Cond.fieldLink RX7 13 "ClassRulesModel" "marks" "[I", Cond.methodLink RX7 95 yX7_marked, Cond.instanceMethod yX7_marked, Cond.selects RX7 yX7_marked yX7_marked, Cond.code yX7_marked cX7_marked 3 (some .boolean), Cond.methodLink RX7 102 yX7_sealedBy]
def wsX7_faults_r3 : List Cond := [Cond.instanceMethod yX7_sealedBy, Cond.selects RX7 yX7_sealedBy yX7_sealedBy, Cond.code yX7_sealedBy cX7_sealedBy 4 none, Cond.methodLink RX7 99 yX7_permitsIt, Cond.instanceMethod yX7_permitsIt, Cond.selects RX7 yX7_permitsIt yX7_permitsIt, Cond.code yX7_permitsIt cX7_permitsIt 5 (some .boolean), Cond.methodLink RX7 106 yX7_isSealed, Cond.instanceMethod yX7_isSealed, Cond.selects RX7 yX7_isSealed yX7_isSealed, Cond.code yX7_isSealed cX7_isSealed 2 (some .boolean), Cond.methodLink RX7 109 yX7_isUpper, Cond.instanceMethod yX7_isUpper, Cond.selects RX7 yX7_isUpper yX7_isUpper, Cond.code yX7_isUpper cX7_isUpper 5 (some .boolean), Cond.methodLink RX7 159 yX7_memberFaults, Cond.instanceMethod yX7_memberFaults, Cond.selects RX7 yX7_memberFaults yX7_memberFaults, Cond.code yX7_memberFaults cX7_memberFaults 4 none, Cond.fieldLink RX7 81 "ClassRulesModel" "members" "I", Cond.fieldLink RX7 34 "ClassRulesModel" "of" "[I", Cond.methodLink RX7 112 yX7_areLike, Cond.instanceMethod yX7_areLike, Cond.selects RX7 yX7_areLike yX7_areLike]
def wsX7_faults_r4 : List Cond := [Cond.code yX7_areLike cX7_areLike 3 (some .boolean), Cond.fieldLink RX7 37 "ClassRulesModel" "name" "[I", Cond.fieldLink RX7 40 "ClassRulesModel" "params" "[I", Cond.methodLink RX7 115 yX7_isWrong, Cond.instanceMethod yX7_isWrong, Cond.selects RX7 yX7_isWrong yX7_isWrong, Cond.code yX7_isWrong cX7_isWrong 6 (some .boolean), Cond.fieldLink RX7 46 "ClassRulesModel" "access" "[I", Cond.methodLink RX7 87 yX7_is, Cond.instanceMethod yX7_is, Cond.selects RX7 yX7_is yX7_is, Cond.code yX7_is cX7_is 4 (some .boolean), Cond.fieldLink RX7 43 "ClassRulesModel" "mMarks" "[I", Cond.methodLink RX7 162 yX7_overFaults, Cond.instanceMethod yX7_overFaults, Cond.selects RX7 yX7_overFaults yX7_overFaults, Cond.code yX7_overFaults cX7_overFaults 4 none, Cond.fieldLink RX7 49 "ClassRulesModel" "result" "[I", Cond.methodLink RX7 121 yX7_isShared, Cond.instanceMethod yX7_isShared, Cond.selects RX7 yX7_isShared yX7_isShared, Cond.code yX7_isShared cX7_isShared 4 (some .boolean), Cond.fieldLink RX7 16 "ClassRulesModel" "pack" "[I", Cond.methodLink RX7 124 yX7_fitsResult]
def wsX7_faults_r5 : List Cond := [Cond.instanceMethod yX7_fitsResult, Cond.selects RX7 yX7_fitsResult yX7_fitsResult, Cond.code yX7_fitsResult cX7_fitsResult 3 (some .boolean), Cond.methodLink RX7 118 yX7_isOf, Cond.instanceMethod yX7_isOf, Cond.selects RX7 yX7_isOf yX7_isOf, Cond.code yX7_isOf cX7_isOf 3 (some .boolean), Cond.methodLink RX7 165 yX7_givenFaults, Cond.instanceMethod yX7_givenFaults, Cond.selects RX7 yX7_givenFaults yX7_givenFaults, Cond.code yX7_givenFaults cX7_givenFaults 7 none, Cond.fieldLink RX7 127 "ClassRulesModel" "faceMany" "I", Cond.methodLink RX7 134 yX7_classOne, Cond.instanceMethod yX7_classOne, Cond.selects RX7 yX7_classOne yX7_classOne, Cond.code yX7_classOne cX7_classOne 7 (some .int), Cond.methodLink RX7 137 yX7_findFaceOnes, Cond.instanceMethod yX7_findFaceOnes, Cond.selects RX7 yX7_findFaceOnes yX7_findFaceOnes, Cond.code yX7_findFaceOnes cX7_findFaceOnes 7 none, Cond.fieldLink RX7 59 "ClassRulesModel" "faceOnes" "[I", Cond.methodLink RX7 130 yX7_ofFace, Cond.instanceMethod yX7_ofFace, Cond.selects RX7 yX7_ofFace yX7_ofFace]
def wsX7_faults_r6 : List Cond := [Cond.code yX7_ofFace cX7_ofFace 5 (some .int), Cond.methodLink RX7 141 yX7_hasDefault, Cond.instanceMethod yX7_hasDefault, Cond.selects RX7 yX7_hasDefault yX7_hasDefault, Cond.code yX7_hasDefault cX7_hasDefault 3 (some .boolean), Cond.methodLink RX7 145 yX7_leastFaceOne, Cond.instanceMethod yX7_leastFaceOne, Cond.selects RX7 yX7_leastFaceOne yX7_leastFaceOne, Cond.code yX7_leastFaceOne cX7_leastFaceOne 6 (some .int), Cond.methodLink RX7 171 yX7_count, Cond.instanceMethod yX7_count, Cond.selects RX7 yX7_count yX7_count, Cond.code yX7_count cX7_count 3 (some .int)]
def wsX7_faults : List Cond := .code yX7_faults cX7_faults 2 (some .int) :: ((wsX7_faults_r1 ++ (wsX7_faults_r2 ++ (wsX7_faults_r3 ++ (wsX7_faults_r4 ++ (wsX7_faults_r5 ++ wsX7_faults_r6))))) ++ wsX70)
def wsX7_fault_r1 : List Cond := [Cond.fieldLink RX7 56 "ClassRulesModel" "fault" "[Z", Cond.methodLink RX7 77 yX7_isType, Cond.instanceMethod yX7_isType, Cond.selects RX7 yX7_isType yX7_isType, Cond.initialized RX7, Cond.code yX7_isType cX7_isType 2 (some .boolean), Cond.fieldLink RX7 65 "ClassRulesModel" "types" "I", Cond.methodLink RX7 69 yX7_in, Cond.static yX7_in, Cond.code yX7_in cX7_in 3 (some .boolean), Cond.methodLink RX7 168 yX7_faultsOf, Cond.instanceMethod yX7_faultsOf, Cond.selects RX7 yX7_faultsOf yX7_faultsOf, Cond.code yX7_faultsOf cX7_faultsOf 4 none, Cond.fieldLink RX7 52 "ClassRulesModel" "above" "[Z", Cond.methodLink RX7 84 yX7_know, Cond.instanceMethod yX7_know, Cond.selects RX7 yX7_know yX7_know, Cond.code yX7_know cX7_know 4 none, Cond.fieldLink RX7 73 "ClassRulesModel" "known" "Z", Cond.fieldLink RX7 19 "ClassRulesModel" "parent" "[I", Cond.fieldLink RX7 25 "ClassRulesModel" "upperMany" "[I", Cond.fieldLink RX7 22 "ClassRulesModel" "uppers" "[I", Cond.methodLink RX7 149 yX7_firstFaults]
def wsX7_fault_r2 : List Cond := [Cond.instanceMethod yX7_firstFaults, Cond.selects RX7 yX7_firstFaults yX7_firstFaults, Cond.code yX7_firstFaults cX7_firstFaults 5 none, Cond.fieldLink RX7 7 "ClassRulesModel" "kind" "[I", Cond.fieldLink RX7 31 "ClassRulesModel" "permitMany" "[I", Cond.fieldLink RX7 28 "ClassRulesModel" "permits" "[I", Cond.methodLink RX7 91 yX7_mark, Cond.instanceMethod yX7_mark, Cond.selects RX7 yX7_mark yX7_mark, Cond.code yX7_mark cX7_mark 4 none, Cond.methodLink RX7 153 yX7_haveAny, Cond.instanceMethod yX7_haveAny, Cond.selects RX7 yX7_haveAny yX7_haveAny, Cond.code yX7_haveAny cX7_haveAny 3 (some .boolean), Cond.methodLink RX7 156 yX7_typeFaults, Cond.instanceMethod yX7_typeFaults, Cond.selects RX7 yX7_typeFaults yX7_typeFaults, Cond.code yX7_typeFaults cX7_typeFaults 8 none, Cond.fieldLink RX7 13 "ClassRulesModel" "marks" "[I", Cond.methodLink RX7 95 yX7_marked, Cond.instanceMethod yX7_marked, Cond.selects RX7 yX7_marked yX7_marked, Cond.code yX7_marked cX7_marked 3 (some .boolean), Cond.methodLink RX7 102 yX7_sealedBy]
def wsX7_fault_r3 : List Cond := [Cond.instanceMethod yX7_sealedBy, Cond.selects RX7 yX7_sealedBy yX7_sealedBy, Cond.code yX7_sealedBy cX7_sealedBy 4 none, Cond.methodLink RX7 99 yX7_permitsIt, Cond.instanceMethod yX7_permitsIt, Cond.selects RX7 yX7_permitsIt yX7_permitsIt, Cond.code yX7_permitsIt cX7_permitsIt 5 (some .boolean), Cond.methodLink RX7 106 yX7_isSealed, Cond.instanceMethod yX7_isSealed, Cond.selects RX7 yX7_isSealed yX7_isSealed, Cond.code yX7_isSealed cX7_isSealed 2 (some .boolean), Cond.methodLink RX7 109 yX7_isUpper, Cond.instanceMethod yX7_isUpper, Cond.selects RX7 yX7_isUpper yX7_isUpper, Cond.code yX7_isUpper cX7_isUpper 5 (some .boolean), Cond.methodLink RX7 159 yX7_memberFaults, Cond.instanceMethod yX7_memberFaults, Cond.selects RX7 yX7_memberFaults yX7_memberFaults, Cond.code yX7_memberFaults cX7_memberFaults 4 none, Cond.fieldLink RX7 81 "ClassRulesModel" "members" "I", Cond.fieldLink RX7 34 "ClassRulesModel" "of" "[I", Cond.methodLink RX7 112 yX7_areLike, Cond.instanceMethod yX7_areLike, Cond.selects RX7 yX7_areLike yX7_areLike]
def wsX7_fault_r4 : List Cond := [Cond.code yX7_areLike cX7_areLike 3 (some .boolean), Cond.fieldLink RX7 37 "ClassRulesModel" "name" "[I", Cond.fieldLink RX7 40 "ClassRulesModel" "params" "[I", Cond.methodLink RX7 115 yX7_isWrong, Cond.instanceMethod yX7_isWrong, Cond.selects RX7 yX7_isWrong yX7_isWrong, Cond.code yX7_isWrong cX7_isWrong 6 (some .boolean), Cond.fieldLink RX7 46 "ClassRulesModel" "access" "[I", Cond.methodLink RX7 87 yX7_is, Cond.instanceMethod yX7_is, Cond.selects RX7 yX7_is yX7_is, Cond.code yX7_is cX7_is 4 (some .boolean), Cond.fieldLink RX7 43 "ClassRulesModel" "mMarks" "[I", Cond.methodLink RX7 162 yX7_overFaults, Cond.instanceMethod yX7_overFaults, Cond.selects RX7 yX7_overFaults yX7_overFaults, Cond.code yX7_overFaults cX7_overFaults 4 none, Cond.fieldLink RX7 49 "ClassRulesModel" "result" "[I", Cond.methodLink RX7 121 yX7_isShared, Cond.instanceMethod yX7_isShared, Cond.selects RX7 yX7_isShared yX7_isShared, Cond.code yX7_isShared cX7_isShared 4 (some .boolean), Cond.fieldLink RX7 16 "ClassRulesModel" "pack" "[I", Cond.methodLink RX7 124 yX7_fitsResult]
def wsX7_fault_r5 : List Cond := [Cond.instanceMethod yX7_fitsResult, Cond.selects RX7 yX7_fitsResult yX7_fitsResult, Cond.code yX7_fitsResult cX7_fitsResult 3 (some .boolean), Cond.methodLink RX7 118 yX7_isOf, Cond.instanceMethod yX7_isOf, Cond.selects RX7 yX7_isOf yX7_isOf, Cond.code yX7_isOf cX7_isOf 3 (some .boolean), Cond.methodLink RX7 165 yX7_givenFaults, Cond.instanceMethod yX7_givenFaults, Cond.selects RX7 yX7_givenFaults yX7_givenFaults, Cond.code yX7_givenFaults cX7_givenFaults 7 none, Cond.fieldLink RX7 127 "ClassRulesModel" "faceMany" "I", Cond.methodLink RX7 134 yX7_classOne, Cond.instanceMethod yX7_classOne, Cond.selects RX7 yX7_classOne yX7_classOne, Cond.code yX7_classOne cX7_classOne 7 (some .int), Cond.methodLink RX7 137 yX7_findFaceOnes, Cond.instanceMethod yX7_findFaceOnes, Cond.selects RX7 yX7_findFaceOnes yX7_findFaceOnes, Cond.code yX7_findFaceOnes cX7_findFaceOnes 7 none, Cond.fieldLink RX7 59 "ClassRulesModel" "faceOnes" "[I", Cond.methodLink RX7 130 yX7_ofFace, Cond.instanceMethod yX7_ofFace, Cond.selects RX7 yX7_ofFace yX7_ofFace]
def wsX7_fault_r6 : List Cond := [Cond.code yX7_ofFace cX7_ofFace 5 (some .int), Cond.methodLink RX7 141 yX7_hasDefault, Cond.instanceMethod yX7_hasDefault, Cond.selects RX7 yX7_hasDefault yX7_hasDefault, Cond.code yX7_hasDefault cX7_hasDefault 3 (some .boolean), Cond.methodLink RX7 145 yX7_leastFaceOne, Cond.instanceMethod yX7_leastFaceOne, Cond.selects RX7 yX7_leastFaceOne yX7_leastFaceOne, Cond.code yX7_leastFaceOne cX7_leastFaceOne 6 (some .int)]
def wsX7_fault : List Cond := .code yX7_fault cX7_fault 6 (some .int) :: ((wsX7_fault_r1 ++ (wsX7_fault_r2 ++ (wsX7_fault_r3 ++ (wsX7_fault_r4 ++ (wsX7_fault_r5 ++ wsX7_fault_r6))))) ++ wsX70)
def wsX7_all_r1 : List Cond := [Cond.fieldLink RX7 65 "ClassRulesModel" "types" "I", Cond.methodLink RX7 175 yX7_faults, Cond.instanceMethod yX7_faults, Cond.selects RX7 yX7_faults yX7_faults, Cond.initialized RX7, Cond.code yX7_faults cX7_faults 2 (some .int), Cond.methodLink RX7 77 yX7_isType, Cond.instanceMethod yX7_isType, Cond.selects RX7 yX7_isType yX7_isType, Cond.code yX7_isType cX7_isType 2 (some .boolean), Cond.methodLink RX7 69 yX7_in, Cond.static yX7_in, Cond.code yX7_in cX7_in 3 (some .boolean), Cond.methodLink RX7 168 yX7_faultsOf, Cond.instanceMethod yX7_faultsOf, Cond.selects RX7 yX7_faultsOf yX7_faultsOf, Cond.code yX7_faultsOf cX7_faultsOf 4 none, Cond.fieldLink RX7 52 "ClassRulesModel" "above" "[Z", Cond.methodLink RX7 84 yX7_know, Cond.instanceMethod yX7_know, Cond.selects RX7 yX7_know yX7_know, Cond.code yX7_know cX7_know 4 none, Cond.fieldLink RX7 73 "ClassRulesModel" "known" "Z", Cond.fieldLink RX7 19 "ClassRulesModel" "parent" "[I"]
def wsX7_all_r2 : List Cond := [Cond.fieldLink RX7 25 "ClassRulesModel" "upperMany" "[I", Cond.fieldLink RX7 22 "ClassRulesModel" "uppers" "[I", Cond.methodLink RX7 149 yX7_firstFaults, Cond.instanceMethod yX7_firstFaults, Cond.selects RX7 yX7_firstFaults yX7_firstFaults, Cond.code yX7_firstFaults cX7_firstFaults 5 none, Cond.fieldLink RX7 56 "ClassRulesModel" "fault" "[Z", Cond.fieldLink RX7 7 "ClassRulesModel" "kind" "[I", Cond.fieldLink RX7 31 "ClassRulesModel" "permitMany" "[I", Cond.fieldLink RX7 28 "ClassRulesModel" "permits" "[I", Cond.methodLink RX7 91 yX7_mark, Cond.instanceMethod yX7_mark, Cond.selects RX7 yX7_mark yX7_mark, Cond.code yX7_mark cX7_mark 4 none, Cond.methodLink RX7 153 yX7_haveAny, Cond.instanceMethod yX7_haveAny, Cond.selects RX7 yX7_haveAny yX7_haveAny, Cond.code yX7_haveAny cX7_haveAny 3 (some .boolean), Cond.methodLink RX7 156 yX7_typeFaults, Cond.instanceMethod yX7_typeFaults, Cond.selects RX7 yX7_typeFaults yX7_typeFaults, Cond.code yX7_typeFaults cX7_typeFaults 8 none, Cond.fieldLink RX7 13 "ClassRulesModel" "marks" "[I", Cond.methodLink RX7 95 yX7_marked]
def wsX7_all_r3 : List Cond := [Cond.instanceMethod yX7_marked, Cond.selects RX7 yX7_marked yX7_marked, Cond.code yX7_marked cX7_marked 3 (some .boolean), Cond.methodLink RX7 102 yX7_sealedBy, Cond.instanceMethod yX7_sealedBy, Cond.selects RX7 yX7_sealedBy yX7_sealedBy, Cond.code yX7_sealedBy cX7_sealedBy 4 none, Cond.methodLink RX7 99 yX7_permitsIt, Cond.instanceMethod yX7_permitsIt, Cond.selects RX7 yX7_permitsIt yX7_permitsIt, Cond.code yX7_permitsIt cX7_permitsIt 5 (some .boolean), Cond.methodLink RX7 106 yX7_isSealed, Cond.instanceMethod yX7_isSealed, Cond.selects RX7 yX7_isSealed yX7_isSealed, Cond.code yX7_isSealed cX7_isSealed 2 (some .boolean), Cond.methodLink RX7 109 yX7_isUpper, Cond.instanceMethod yX7_isUpper, Cond.selects RX7 yX7_isUpper yX7_isUpper, Cond.code yX7_isUpper cX7_isUpper 5 (some .boolean), Cond.methodLink RX7 159 yX7_memberFaults, Cond.instanceMethod yX7_memberFaults, Cond.selects RX7 yX7_memberFaults yX7_memberFaults, Cond.code yX7_memberFaults cX7_memberFaults 4 none, Cond.fieldLink RX7 81 "ClassRulesModel" "members" "I"]
def wsX7_all_r4 : List Cond := [Cond.fieldLink RX7 34 "ClassRulesModel" "of" "[I", Cond.methodLink RX7 112 yX7_areLike, Cond.instanceMethod yX7_areLike, Cond.selects RX7 yX7_areLike yX7_areLike, Cond.code yX7_areLike cX7_areLike 3 (some .boolean), Cond.fieldLink RX7 37 "ClassRulesModel" "name" "[I", Cond.fieldLink RX7 40 "ClassRulesModel" "params" "[I", Cond.methodLink RX7 115 yX7_isWrong, Cond.instanceMethod yX7_isWrong, Cond.selects RX7 yX7_isWrong yX7_isWrong, Cond.code yX7_isWrong cX7_isWrong 6 (some .boolean), Cond.fieldLink RX7 46 "ClassRulesModel" "access" "[I", Cond.methodLink RX7 87 yX7_is, Cond.instanceMethod yX7_is, Cond.selects RX7 yX7_is yX7_is, Cond.code yX7_is cX7_is 4 (some .boolean), Cond.fieldLink RX7 43 "ClassRulesModel" "mMarks" "[I", Cond.methodLink RX7 162 yX7_overFaults, Cond.instanceMethod yX7_overFaults, Cond.selects RX7 yX7_overFaults yX7_overFaults, Cond.code yX7_overFaults cX7_overFaults 4 none, Cond.fieldLink RX7 49 "ClassRulesModel" "result" "[I", Cond.methodLink RX7 121 yX7_isShared, Cond.instanceMethod yX7_isShared]
def wsX7_all_r5 : List Cond := [Cond.selects RX7 yX7_isShared yX7_isShared, Cond.code yX7_isShared cX7_isShared 4 (some .boolean), Cond.fieldLink RX7 16 "ClassRulesModel" "pack" "[I", Cond.methodLink RX7 124 yX7_fitsResult, Cond.instanceMethod yX7_fitsResult, Cond.selects RX7 yX7_fitsResult yX7_fitsResult, Cond.code yX7_fitsResult cX7_fitsResult 3 (some .boolean), Cond.methodLink RX7 118 yX7_isOf, Cond.instanceMethod yX7_isOf, Cond.selects RX7 yX7_isOf yX7_isOf, Cond.code yX7_isOf cX7_isOf 3 (some .boolean), Cond.methodLink RX7 165 yX7_givenFaults, Cond.instanceMethod yX7_givenFaults, Cond.selects RX7 yX7_givenFaults yX7_givenFaults, Cond.code yX7_givenFaults cX7_givenFaults 7 none, Cond.fieldLink RX7 127 "ClassRulesModel" "faceMany" "I", Cond.methodLink RX7 134 yX7_classOne, Cond.instanceMethod yX7_classOne, Cond.selects RX7 yX7_classOne yX7_classOne, Cond.code yX7_classOne cX7_classOne 7 (some .int), Cond.methodLink RX7 137 yX7_findFaceOnes, Cond.instanceMethod yX7_findFaceOnes, Cond.selects RX7 yX7_findFaceOnes yX7_findFaceOnes, Cond.code yX7_findFaceOnes cX7_findFaceOnes 7 none]
def wsX7_all_r6 : List Cond := [Cond.fieldLink RX7 59 "ClassRulesModel" "faceOnes" "[I", Cond.methodLink RX7 130 yX7_ofFace, Cond.instanceMethod yX7_ofFace, Cond.selects RX7 yX7_ofFace yX7_ofFace, Cond.code yX7_ofFace cX7_ofFace 5 (some .int), Cond.methodLink RX7 141 yX7_hasDefault, Cond.instanceMethod yX7_hasDefault, Cond.selects RX7 yX7_hasDefault yX7_hasDefault, Cond.code yX7_hasDefault cX7_hasDefault 3 (some .boolean), Cond.methodLink RX7 145 yX7_leastFaceOne, Cond.instanceMethod yX7_leastFaceOne, Cond.selects RX7 yX7_leastFaceOne yX7_leastFaceOne, Cond.code yX7_leastFaceOne cX7_leastFaceOne 6 (some .int), Cond.methodLink RX7 171 yX7_count, Cond.instanceMethod yX7_count, Cond.selects RX7 yX7_count yX7_count, Cond.code yX7_count cX7_count 3 (some .int)]
def wsX7_all : List Cond := .code yX7_all cX7_all 3 (some .int) :: ((wsX7_all_r1 ++ (wsX7_all_r2 ++ (wsX7_all_r3 ++ (wsX7_all_r4 ++ (wsX7_all_r5 ++ wsX7_all_r6))))) ++ wsX70)
def wsX7_is_ : List Cond := .code yX7_is_ cX7_is_ 3 (some .int) :: ([.methodLink RX7 77 yX7_isType, .instanceMethod yX7_isType, .selects RX7 yX7_isType yX7_isType, .initialized RX7, .code yX7_isType cX7_isType 2 (some .boolean), .fieldLink RX7 65 "ClassRulesModel" "types" "I", .methodLink RX7 69 yX7_in, .static yX7_in, .code yX7_in cX7_in 3 (some .boolean), .methodLink RX7 118 yX7_isOf, .instanceMethod yX7_isOf, .selects RX7 yX7_isOf yX7_isOf, .code yX7_isOf cX7_isOf 3 (some .boolean), .fieldLink RX7 52 "ClassRulesModel" "above" "[Z", .methodLink RX7 84 yX7_know, .instanceMethod yX7_know, .selects RX7 yX7_know yX7_know, .code yX7_know cX7_know 4 none, .fieldLink RX7 73 "ClassRulesModel" "known" "Z", .fieldLink RX7 19 "ClassRulesModel" "parent" "[I", .fieldLink RX7 25 "ClassRulesModel" "upperMany" "[I", .fieldLink RX7 22 "ClassRulesModel" "uppers" "[I"] ++ wsX70)
def wsX7_runs_r1 : List Cond := [Cond.methodLink RX7 77 yX7_isType, Cond.instanceMethod yX7_isType, Cond.selects RX7 yX7_isType yX7_isType, Cond.initialized RX7, Cond.code yX7_isType cX7_isType 2 (some .boolean), Cond.fieldLink RX7 65 "ClassRulesModel" "types" "I", Cond.methodLink RX7 69 yX7_in, Cond.static yX7_in, Cond.code yX7_in cX7_in 3 (some .boolean), Cond.methodLink RX7 179 yX7_isWrongType, Cond.instanceMethod yX7_isWrongType, Cond.selects RX7 yX7_isWrongType yX7_isWrongType, Cond.code yX7_isWrongType cX7_isWrongType 4 (some .boolean), Cond.fieldLink RX7 7 "ClassRulesModel" "kind" "[I", Cond.methodLink RX7 95 yX7_marked, Cond.instanceMethod yX7_marked, Cond.selects RX7 yX7_marked yX7_marked, Cond.code yX7_marked cX7_marked 3 (some .boolean), Cond.fieldLink RX7 13 "ClassRulesModel" "marks" "[I", Cond.methodLink RX7 118 yX7_isOf, Cond.instanceMethod yX7_isOf, Cond.selects RX7 yX7_isOf yX7_isOf, Cond.code yX7_isOf cX7_isOf 3 (some .boolean), Cond.fieldLink RX7 52 "ClassRulesModel" "above" "[Z"]
def wsX7_runs_r2 : List Cond := [Cond.methodLink RX7 84 yX7_know, Cond.instanceMethod yX7_know, Cond.selects RX7 yX7_know yX7_know, Cond.code yX7_know cX7_know 4 none, Cond.fieldLink RX7 73 "ClassRulesModel" "known" "Z", Cond.fieldLink RX7 19 "ClassRulesModel" "parent" "[I", Cond.fieldLink RX7 25 "ClassRulesModel" "upperMany" "[I", Cond.fieldLink RX7 22 "ClassRulesModel" "uppers" "[I", Cond.methodLink RX7 168 yX7_faultsOf, Cond.instanceMethod yX7_faultsOf, Cond.selects RX7 yX7_faultsOf yX7_faultsOf, Cond.code yX7_faultsOf cX7_faultsOf 4 none, Cond.methodLink RX7 149 yX7_firstFaults, Cond.instanceMethod yX7_firstFaults, Cond.selects RX7 yX7_firstFaults yX7_firstFaults, Cond.code yX7_firstFaults cX7_firstFaults 5 none, Cond.fieldLink RX7 56 "ClassRulesModel" "fault" "[Z", Cond.fieldLink RX7 31 "ClassRulesModel" "permitMany" "[I", Cond.fieldLink RX7 28 "ClassRulesModel" "permits" "[I", Cond.methodLink RX7 91 yX7_mark, Cond.instanceMethod yX7_mark, Cond.selects RX7 yX7_mark yX7_mark, Cond.code yX7_mark cX7_mark 4 none, Cond.methodLink RX7 153 yX7_haveAny]
def wsX7_runs_r3 : List Cond := [Cond.instanceMethod yX7_haveAny, Cond.selects RX7 yX7_haveAny yX7_haveAny, Cond.code yX7_haveAny cX7_haveAny 3 (some .boolean), Cond.methodLink RX7 156 yX7_typeFaults, Cond.instanceMethod yX7_typeFaults, Cond.selects RX7 yX7_typeFaults yX7_typeFaults, Cond.code yX7_typeFaults cX7_typeFaults 8 none, Cond.methodLink RX7 102 yX7_sealedBy, Cond.instanceMethod yX7_sealedBy, Cond.selects RX7 yX7_sealedBy yX7_sealedBy, Cond.code yX7_sealedBy cX7_sealedBy 4 none, Cond.methodLink RX7 99 yX7_permitsIt, Cond.instanceMethod yX7_permitsIt, Cond.selects RX7 yX7_permitsIt yX7_permitsIt, Cond.code yX7_permitsIt cX7_permitsIt 5 (some .boolean), Cond.methodLink RX7 106 yX7_isSealed, Cond.instanceMethod yX7_isSealed, Cond.selects RX7 yX7_isSealed yX7_isSealed, Cond.code yX7_isSealed cX7_isSealed 2 (some .boolean), Cond.methodLink RX7 109 yX7_isUpper, Cond.instanceMethod yX7_isUpper, Cond.selects RX7 yX7_isUpper yX7_isUpper, Cond.code yX7_isUpper cX7_isUpper 5 (some .boolean), Cond.methodLink RX7 159 yX7_memberFaults]
def wsX7_runs_r4 : List Cond := [Cond.instanceMethod yX7_memberFaults, Cond.selects RX7 yX7_memberFaults yX7_memberFaults, Cond.code yX7_memberFaults cX7_memberFaults 4 none, Cond.fieldLink RX7 81 "ClassRulesModel" "members" "I", Cond.fieldLink RX7 34 "ClassRulesModel" "of" "[I", Cond.methodLink RX7 112 yX7_areLike, Cond.instanceMethod yX7_areLike, Cond.selects RX7 yX7_areLike yX7_areLike, Cond.code yX7_areLike cX7_areLike 3 (some .boolean), Cond.fieldLink RX7 37 "ClassRulesModel" "name" "[I", Cond.fieldLink RX7 40 "ClassRulesModel" "params" "[I", Cond.methodLink RX7 115 yX7_isWrong, Cond.instanceMethod yX7_isWrong, Cond.selects RX7 yX7_isWrong yX7_isWrong, Cond.code yX7_isWrong cX7_isWrong 6 (some .boolean), Cond.fieldLink RX7 46 "ClassRulesModel" "access" "[I", Cond.methodLink RX7 87 yX7_is, Cond.instanceMethod yX7_is, Cond.selects RX7 yX7_is yX7_is, Cond.code yX7_is cX7_is 4 (some .boolean), Cond.fieldLink RX7 43 "ClassRulesModel" "mMarks" "[I", Cond.methodLink RX7 162 yX7_overFaults, Cond.instanceMethod yX7_overFaults, Cond.selects RX7 yX7_overFaults yX7_overFaults]
def wsX7_runs_r5 : List Cond := [Cond.code yX7_overFaults cX7_overFaults 4 none, Cond.fieldLink RX7 49 "ClassRulesModel" "result" "[I", Cond.methodLink RX7 121 yX7_isShared, Cond.instanceMethod yX7_isShared, Cond.selects RX7 yX7_isShared yX7_isShared, Cond.code yX7_isShared cX7_isShared 4 (some .boolean), Cond.fieldLink RX7 16 "ClassRulesModel" "pack" "[I", Cond.methodLink RX7 124 yX7_fitsResult, Cond.instanceMethod yX7_fitsResult, Cond.selects RX7 yX7_fitsResult yX7_fitsResult, Cond.code yX7_fitsResult cX7_fitsResult 3 (some .boolean), Cond.methodLink RX7 165 yX7_givenFaults, Cond.instanceMethod yX7_givenFaults, Cond.selects RX7 yX7_givenFaults yX7_givenFaults, Cond.code yX7_givenFaults cX7_givenFaults 7 none, Cond.fieldLink RX7 127 "ClassRulesModel" "faceMany" "I", Cond.methodLink RX7 134 yX7_classOne, Cond.instanceMethod yX7_classOne, Cond.selects RX7 yX7_classOne yX7_classOne, Cond.code yX7_classOne cX7_classOne 7 (some .int), Cond.methodLink RX7 137 yX7_findFaceOnes, Cond.instanceMethod yX7_findFaceOnes, Cond.selects RX7 yX7_findFaceOnes yX7_findFaceOnes, Cond.code yX7_findFaceOnes cX7_findFaceOnes 7 none]
def wsX7_runs_r6 : List Cond := [Cond.fieldLink RX7 59 "ClassRulesModel" "faceOnes" "[I", Cond.methodLink RX7 130 yX7_ofFace, Cond.instanceMethod yX7_ofFace, Cond.selects RX7 yX7_ofFace yX7_ofFace, Cond.code yX7_ofFace cX7_ofFace 5 (some .int), Cond.methodLink RX7 141 yX7_hasDefault, Cond.instanceMethod yX7_hasDefault, Cond.selects RX7 yX7_hasDefault yX7_hasDefault, Cond.code yX7_hasDefault cX7_hasDefault 3 (some .boolean), Cond.methodLink RX7 145 yX7_leastFaceOne, Cond.instanceMethod yX7_leastFaceOne, Cond.selects RX7 yX7_leastFaceOne yX7_leastFaceOne, Cond.code yX7_leastFaceOne cX7_leastFaceOne 6 (some .int), Cond.methodLink RX7 182 yX7_running, Cond.instanceMethod yX7_running, Cond.selects RX7 yX7_running yX7_running, Cond.code yX7_running cX7_running 5 (some .int)]
def wsX7_runs : List Cond := .code yX7_runs cX7_runs 4 (some .int) :: ((wsX7_runs_r1 ++ (wsX7_runs_r2 ++ (wsX7_runs_r3 ++ (wsX7_runs_r4 ++ (wsX7_runs_r5 ++ wsX7_runs_r6))))) ++ wsX70)
def wsX7_call_r1 : List Cond := [Cond.fieldLink RX7 46 "ClassRulesModel" "access" "[I", Cond.fieldLink RX7 7 "ClassRulesModel" "kind" "[I", Cond.fieldLink RX7 34 "ClassRulesModel" "of" "[I", Cond.fieldLink RX7 81 "ClassRulesModel" "members" "I", Cond.fieldLink RX7 62 "ClassRulesModel" "takes" "[Z", Cond.fieldLink RX7 19 "ClassRulesModel" "parent" "[I", Cond.methodLink RX7 77 yX7_isType, Cond.instanceMethod yX7_isType, Cond.selects RX7 yX7_isType yX7_isType, Cond.initialized RX7, Cond.code yX7_isType cX7_isType 2 (some .boolean), Cond.fieldLink RX7 65 "ClassRulesModel" "types" "I", Cond.methodLink RX7 69 yX7_in, Cond.static yX7_in, Cond.code yX7_in cX7_in 3 (some .boolean), Cond.methodLink RX7 179 yX7_isWrongType, Cond.instanceMethod yX7_isWrongType, Cond.selects RX7 yX7_isWrongType yX7_isWrongType, Cond.code yX7_isWrongType cX7_isWrongType 4 (some .boolean), Cond.methodLink RX7 95 yX7_marked, Cond.instanceMethod yX7_marked, Cond.selects RX7 yX7_marked yX7_marked, Cond.code yX7_marked cX7_marked 3 (some .boolean), Cond.fieldLink RX7 13 "ClassRulesModel" "marks" "[I"]
def wsX7_call_r2 : List Cond := [Cond.methodLink RX7 118 yX7_isOf, Cond.instanceMethod yX7_isOf, Cond.selects RX7 yX7_isOf yX7_isOf, Cond.code yX7_isOf cX7_isOf 3 (some .boolean), Cond.fieldLink RX7 52 "ClassRulesModel" "above" "[Z", Cond.methodLink RX7 84 yX7_know, Cond.instanceMethod yX7_know, Cond.selects RX7 yX7_know yX7_know, Cond.code yX7_know cX7_know 4 none, Cond.fieldLink RX7 73 "ClassRulesModel" "known" "Z", Cond.fieldLink RX7 25 "ClassRulesModel" "upperMany" "[I", Cond.fieldLink RX7 22 "ClassRulesModel" "uppers" "[I", Cond.methodLink RX7 168 yX7_faultsOf, Cond.instanceMethod yX7_faultsOf, Cond.selects RX7 yX7_faultsOf yX7_faultsOf, Cond.code yX7_faultsOf cX7_faultsOf 4 none, Cond.methodLink RX7 149 yX7_firstFaults, Cond.instanceMethod yX7_firstFaults, Cond.selects RX7 yX7_firstFaults yX7_firstFaults, Cond.code yX7_firstFaults cX7_firstFaults 5 none, Cond.fieldLink RX7 56 "ClassRulesModel" "fault" "[Z", Cond.fieldLink RX7 31 "ClassRulesModel" "permitMany" "[I", Cond.fieldLink RX7 28 "ClassRulesModel" "permits" "[I", Cond.methodLink RX7 91 yX7_mark]
def wsX7_call_r3 : List Cond := [Cond.instanceMethod yX7_mark, Cond.selects RX7 yX7_mark yX7_mark, Cond.code yX7_mark cX7_mark 4 none, Cond.methodLink RX7 153 yX7_haveAny, Cond.instanceMethod yX7_haveAny, Cond.selects RX7 yX7_haveAny yX7_haveAny, Cond.code yX7_haveAny cX7_haveAny 3 (some .boolean), Cond.methodLink RX7 156 yX7_typeFaults, Cond.instanceMethod yX7_typeFaults, Cond.selects RX7 yX7_typeFaults yX7_typeFaults, Cond.code yX7_typeFaults cX7_typeFaults 8 none, Cond.methodLink RX7 102 yX7_sealedBy, Cond.instanceMethod yX7_sealedBy, Cond.selects RX7 yX7_sealedBy yX7_sealedBy, Cond.code yX7_sealedBy cX7_sealedBy 4 none, Cond.methodLink RX7 99 yX7_permitsIt, Cond.instanceMethod yX7_permitsIt, Cond.selects RX7 yX7_permitsIt yX7_permitsIt, Cond.code yX7_permitsIt cX7_permitsIt 5 (some .boolean), Cond.methodLink RX7 106 yX7_isSealed, Cond.instanceMethod yX7_isSealed, Cond.selects RX7 yX7_isSealed yX7_isSealed, Cond.code yX7_isSealed cX7_isSealed 2 (some .boolean), Cond.methodLink RX7 109 yX7_isUpper]
def wsX7_call_r4 : List Cond := [Cond.instanceMethod yX7_isUpper, Cond.selects RX7 yX7_isUpper yX7_isUpper, Cond.code yX7_isUpper cX7_isUpper 5 (some .boolean), Cond.methodLink RX7 159 yX7_memberFaults, Cond.instanceMethod yX7_memberFaults, Cond.selects RX7 yX7_memberFaults yX7_memberFaults, Cond.code yX7_memberFaults cX7_memberFaults 4 none, Cond.methodLink RX7 112 yX7_areLike, Cond.instanceMethod yX7_areLike, Cond.selects RX7 yX7_areLike yX7_areLike, Cond.code yX7_areLike cX7_areLike 3 (some .boolean), Cond.fieldLink RX7 37 "ClassRulesModel" "name" "[I", Cond.fieldLink RX7 40 "ClassRulesModel" "params" "[I", Cond.methodLink RX7 115 yX7_isWrong, Cond.instanceMethod yX7_isWrong, Cond.selects RX7 yX7_isWrong yX7_isWrong, Cond.code yX7_isWrong cX7_isWrong 6 (some .boolean), Cond.methodLink RX7 87 yX7_is, Cond.instanceMethod yX7_is, Cond.selects RX7 yX7_is yX7_is, Cond.code yX7_is cX7_is 4 (some .boolean), Cond.fieldLink RX7 43 "ClassRulesModel" "mMarks" "[I", Cond.methodLink RX7 162 yX7_overFaults, Cond.instanceMethod yX7_overFaults]
def wsX7_call_r5 : List Cond := [Cond.selects RX7 yX7_overFaults yX7_overFaults, Cond.code yX7_overFaults cX7_overFaults 4 none, Cond.fieldLink RX7 49 "ClassRulesModel" "result" "[I", Cond.methodLink RX7 121 yX7_isShared, Cond.instanceMethod yX7_isShared, Cond.selects RX7 yX7_isShared yX7_isShared, Cond.code yX7_isShared cX7_isShared 4 (some .boolean), Cond.fieldLink RX7 16 "ClassRulesModel" "pack" "[I", Cond.methodLink RX7 124 yX7_fitsResult, Cond.instanceMethod yX7_fitsResult, Cond.selects RX7 yX7_fitsResult yX7_fitsResult, Cond.code yX7_fitsResult cX7_fitsResult 3 (some .boolean), Cond.methodLink RX7 165 yX7_givenFaults, Cond.instanceMethod yX7_givenFaults, Cond.selects RX7 yX7_givenFaults yX7_givenFaults, Cond.code yX7_givenFaults cX7_givenFaults 7 none, Cond.fieldLink RX7 127 "ClassRulesModel" "faceMany" "I", Cond.methodLink RX7 134 yX7_classOne, Cond.instanceMethod yX7_classOne, Cond.selects RX7 yX7_classOne yX7_classOne, Cond.code yX7_classOne cX7_classOne 7 (some .int), Cond.methodLink RX7 137 yX7_findFaceOnes, Cond.instanceMethod yX7_findFaceOnes, Cond.selects RX7 yX7_findFaceOnes yX7_findFaceOnes]
def wsX7_call_r6 : List Cond := [Cond.code yX7_findFaceOnes cX7_findFaceOnes 7 none, Cond.fieldLink RX7 59 "ClassRulesModel" "faceOnes" "[I", Cond.methodLink RX7 130 yX7_ofFace, Cond.instanceMethod yX7_ofFace, Cond.selects RX7 yX7_ofFace yX7_ofFace, Cond.code yX7_ofFace cX7_ofFace 5 (some .int), Cond.methodLink RX7 141 yX7_hasDefault, Cond.instanceMethod yX7_hasDefault, Cond.selects RX7 yX7_hasDefault yX7_hasDefault, Cond.code yX7_hasDefault cX7_hasDefault 3 (some .boolean), Cond.methodLink RX7 145 yX7_leastFaceOne, Cond.instanceMethod yX7_leastFaceOne, Cond.selects RX7 yX7_leastFaceOne yX7_leastFaceOne, Cond.code yX7_leastFaceOne cX7_leastFaceOne 6 (some .int), Cond.methodLink RX7 182 yX7_running, Cond.instanceMethod yX7_running, Cond.selects RX7 yX7_running yX7_running, Cond.code yX7_running cX7_running 5 (some .int), Cond.methodLink RX7 188 yX7_findTaking, Cond.instanceMethod yX7_findTaking, Cond.selects RX7 yX7_findTaking yX7_findTaking, Cond.code yX7_findTaking cX7_findTaking 5 none, Cond.methodLink RX7 185 yX7_mayTake, Cond.instanceMethod yX7_mayTake]
def wsX7_call_r7 : List Cond := [Cond.selects RX7 yX7_mayTake yX7_mayTake, Cond.code yX7_mayTake cX7_mayTake 2 (some .boolean)]
def wsX7_call : List Cond := .code yX7_call cX7_call 9 (some .int) :: ((wsX7_call_r1 ++ (wsX7_call_r2 ++ (wsX7_call_r3 ++ (wsX7_call_r4 ++ (wsX7_call_r5 ++ (wsX7_call_r6 ++ wsX7_call_r7)))))) ++ wsX70)
def wsX7_told : List Cond := .code yX7_told cX7_told 2 (some .int) :: ([.fieldLink RX7 65 "ClassRulesModel" "types" "I", .fieldLink RX7 81 "ClassRulesModel" "members" "I"] ++ wsX70)
def wsL_law_r1 : List Cond := [Cond.classLink RL 7 RX6, Cond.instantiable RX6 4, Cond.initialized RX6, Cond.classLink RL 10 RX7, Cond.instantiable RX7 22, Cond.initialized RX7, Cond.methodLink RL 9 yX6_init, Cond.instanceMethod yX6_init, Cond.code yX6_init cX6_init 1 none, Cond.methodLink RX6 3 objectInit, Cond.instanceMethod objectInit, Cond.code objectInit ⟨#[0xb1]⟩ 1 none, Cond.classLink RX6 9 RX5, Cond.instantiable RX5 12, Cond.initialized RX5, Cond.fieldLink RX6 12 "ClassRules" "types" "LClassRules$Types;", Cond.classLink RX6 16 RX3, Cond.instantiable RX3 8, Cond.initialized RX3, Cond.fieldLink RX6 21 "ClassRules" "members" "LClassRules$Members;", Cond.classLink RX6 25 RX0, Cond.instantiable RX0 7, Cond.initialized RX0, Cond.fieldLink RX6 30 "ClassRules" "choice" "LClassRules$Choice;"]
def wsL_law_r2 : List Cond := [Cond.classLink RX6 34 RX1, Cond.instantiable RX1 9, Cond.initialized RX1, Cond.fieldLink RX6 39 "ClassRules" "judge" "LClassRules$Judge;", Cond.instanceMethod yX5_init, Cond.code yX5_init cX5_init 1 none, Cond.methodLink RX5 3 objectInit, Cond.arrayClass .int, Cond.fieldLink RX5 9 "ClassRules$Types" "kinds" "[I", Cond.fieldLink RX5 15 "ClassRules$Types" "marks" "[I", Cond.fieldLink RX5 18 "ClassRules$Types" "packs" "[I", Cond.fieldLink RX5 21 "ClassRules$Types" "parents" "[I", Cond.fieldLink RX5 24 "ClassRules$Types" "parentSets" "[I", Cond.fieldLink RX5 27 "ClassRules$Types" "uppers" "[I", Cond.fieldLink RX5 30 "ClassRules$Types" "uppersTwice" "[I", Cond.fieldLink RX5 33 "ClassRules$Types" "uppersTold" "[I", Cond.fieldLink RX5 36 "ClassRules$Types" "permitted" "[I", Cond.fieldLink RX5 39 "ClassRules$Types" "permittedTold" "[I", Cond.fieldLink RX5 42 "ClassRules$Types" "above" "[I", Cond.fieldLink RX5 45 "ClassRules$Types" "count" "I", Cond.methodLink RX6 18 yX3_init, Cond.instanceMethod yX3_init, Cond.code yX3_init cX3_init 2 none, Cond.methodLink RX3 3 objectInit]
def wsL_law_r3 : List Cond := [Cond.fieldLink RX3 9 "ClassRules$Members" "owners" "[I", Cond.fieldLink RX3 15 "ClassRules$Members" "names" "[I", Cond.fieldLink RX3 18 "ClassRules$Members" "params" "[I", Cond.fieldLink RX3 21 "ClassRules$Members" "marks" "[I", Cond.fieldLink RX3 24 "ClassRules$Members" "accesses" "[I", Cond.fieldLink RX3 27 "ClassRules$Members" "results" "[I", Cond.fieldLink RX3 30 "ClassRules$Members" "count" "I", Cond.fieldLink RX3 34 "ClassRules$Members" "types" "LClassRules$Types;", Cond.methodLink RX6 27 yX0_init, Cond.instanceMethod yX0_init, Cond.code yX0_init cX0_init 3 none, Cond.methodLink RX0 3 objectInit, Cond.fieldLink RX0 9 "ClassRules$Choice" "faceOnes" "[I", Cond.fieldLink RX0 15 "ClassRules$Choice" "chain" "[I", Cond.fieldLink RX0 18 "ClassRules$Choice" "takers" "[I", Cond.fieldLink RX0 21 "ClassRules$Choice" "faceOnesCount" "I", Cond.fieldLink RX0 25 "ClassRules$Choice" "classOne" "I", Cond.fieldLink RX0 28 "ClassRules$Choice" "types" "LClassRules$Types;", Cond.fieldLink RX0 32 "ClassRules$Choice" "members" "LClassRules$Members;", Cond.methodLink RX6 36 yX1_init, Cond.instanceMethod yX1_init, Cond.code yX1_init cX1_init 4 none, Cond.methodLink RX1 3 objectInit, Cond.arrayClass .long]
def wsL_law_r4 : List Cond := [Cond.fieldLink RX1 11 "ClassRules$Judge" "found" "[J", Cond.fieldLink RX1 15 "ClassRules$Judge" "counts" "[I", Cond.fieldLink RX1 19 "ClassRules$Judge" "counted" "I", Cond.fieldLink RX1 23 "ClassRules$Judge" "kept" "I", Cond.fieldLink RX1 26 "ClassRules$Judge" "types" "LClassRules$Types;", Cond.fieldLink RX1 30 "ClassRules$Judge" "members" "LClassRules$Members;", Cond.fieldLink RX1 34 "ClassRules$Judge" "choice" "LClassRules$Choice;", Cond.classLink RX1 38 RX4, Cond.instantiable RX4 1, Cond.initialized RX4, Cond.fieldLink RX1 43 "ClassRules$Judge" "typeRules" "LClassRules$TypeRules;", Cond.classLink RX1 47 RX2, Cond.instantiable RX2 2, Cond.initialized RX2, Cond.fieldLink RX1 52 "ClassRules$Judge" "memberRules" "LClassRules$MemberRules;", Cond.methodLink RX1 40 yX4_init, Cond.instanceMethod yX4_init, Cond.code yX4_init cX4_init 2 none, Cond.methodLink RX4 3 objectInit, Cond.fieldLink RX4 9 "ClassRules$TypeRules" "types" "LClassRules$Types;", Cond.methodLink RX1 49 yX2_init, Cond.instanceMethod yX2_init, Cond.code yX2_init cX2_init 3 none, Cond.methodLink RX2 3 objectInit]
def wsL_law_r5 : List Cond := [Cond.fieldLink RX2 9 "ClassRules$MemberRules" "types" "LClassRules$Types;", Cond.fieldLink RX2 15 "ClassRules$MemberRules" "members" "LClassRules$Members;", Cond.methodLink RL 12 yX7_init, Cond.instanceMethod yX7_init, Cond.code yX7_init cX7_init 1 none, Cond.methodLink RX7 1 objectInit, Cond.fieldLink RX7 7 "ClassRulesModel" "kind" "[I", Cond.fieldLink RX7 13 "ClassRulesModel" "marks" "[I", Cond.fieldLink RX7 16 "ClassRulesModel" "pack" "[I", Cond.fieldLink RX7 19 "ClassRulesModel" "parent" "[I", Cond.fieldLink RX7 22 "ClassRulesModel" "uppers" "[I", Cond.fieldLink RX7 25 "ClassRulesModel" "upperMany" "[I", Cond.fieldLink RX7 28 "ClassRulesModel" "permits" "[I", Cond.fieldLink RX7 31 "ClassRulesModel" "permitMany" "[I", Cond.fieldLink RX7 34 "ClassRulesModel" "of" "[I", Cond.fieldLink RX7 37 "ClassRulesModel" "name" "[I", Cond.fieldLink RX7 40 "ClassRulesModel" "params" "[I", Cond.fieldLink RX7 43 "ClassRulesModel" "mMarks" "[I", Cond.fieldLink RX7 46 "ClassRulesModel" "access" "[I", Cond.fieldLink RX7 49 "ClassRulesModel" "result" "[I", Cond.arrayClass .boolean, Cond.fieldLink RX7 52 "ClassRulesModel" "above" "[Z", Cond.fieldLink RX7 56 "ClassRulesModel" "fault" "[Z", Cond.fieldLink RX7 59 "ClassRulesModel" "faceOnes" "[I"]
def wsL_law_r6 : List Cond := [Cond.fieldLink RX7 62 "ClassRulesModel" "takes" "[Z", Cond.methodLink RL 13 yX6_type, Cond.instanceMethod yX6_type, Cond.selects RX6 yX6_type yX6_type, Cond.code yX6_type cX6_type 5 (some .int), Cond.methodLink RX6 43 yX6_within, Cond.static yX6_within, Cond.code yX6_within cX6_within 2 (some .boolean), Cond.methodLink RX6 51 yX1_forget, Cond.instanceMethod yX1_forget, Cond.selects RX1 yX1_forget yX1_forget, Cond.code yX1_forget cX1_forget 1 none, Cond.methodLink RX6 54 yX5_addType, Cond.instanceMethod yX5_addType, Cond.selects RX5 yX5_addType yX5_addType, Cond.code yX5_addType cX5_addType 6 (some .int), Cond.static yX6_bit, Cond.code yX6_bit cX6_bit 1 (some .int), Cond.methodLink RX5 53 yX5_settleAbove, Cond.instanceMethod yX5_settleAbove, Cond.selects RX5 yX5_settleAbove yX5_settleAbove, Cond.code yX5_settleAbove cX5_settleAbove 3 none, Cond.methodLink RX5 56 yX5_next, Cond.instanceMethod yX5_next]
def wsL_law_r7 : List Cond := [Cond.selects RX5 yX5_next yX5_next, Cond.code yX5_next cX5_next 2 (some .int), Cond.methodLink RX5 59 yX5_everyone, Cond.instanceMethod yX5_everyone, Cond.selects RX5 yX5_everyone yX5_everyone, Cond.code yX5_everyone cX5_everyone 1 (some .int), Cond.static yX6_holds, Cond.code yX6_holds cX6_holds 2 (some .boolean), Cond.methodLink RL 17 yX7_type, Cond.instanceMethod yX7_type, Cond.selects RX7 yX7_type yX7_type, Cond.code yX7_type cX7_type 5 (some .int), Cond.fieldLink RX7 65 "ClassRulesModel" "types" "I", Cond.fieldLink RX7 73 "ClassRulesModel" "known" "Z", Cond.methodLink RX7 69 yX7_in, Cond.static yX7_in, Cond.code yX7_in cX7_in 3 (some .boolean), Cond.methodLink RL 18 yX6_upper, Cond.instanceMethod yX6_upper, Cond.selects RX6 yX6_upper yX6_upper, Cond.code yX6_upper cX6_upper 3 (some .int), Cond.methodLink RX6 58 yX5_there, Cond.instanceMethod yX5_there, Cond.selects RX5 yX5_there yX5_there]
def wsL_law_r8 : List Cond := [Cond.code yX5_there cX5_there 2 (some .boolean), Cond.methodLink RX6 66 yX5_addUpper, Cond.instanceMethod yX5_addUpper, Cond.selects RX5 yX5_addUpper yX5_addUpper, Cond.code yX5_addUpper cX5_addUpper 3 (some .int), Cond.methodLink RL 22 yX7_upper, Cond.instanceMethod yX7_upper, Cond.selects RX7 yX7_upper yX7_upper, Cond.code yX7_upper cX7_upper 3 (some .int), Cond.methodLink RX7 77 yX7_isType, Cond.instanceMethod yX7_isType, Cond.selects RX7 yX7_isType yX7_isType, Cond.code yX7_isType cX7_isType 2 (some .boolean), Cond.methodLink RL 23 yX6_permit, Cond.instanceMethod yX6_permit, Cond.selects RX6 yX6_permit yX6_permit, Cond.code yX6_permit cX6_permit 3 (some .int), Cond.methodLink RX6 73 yX5_addPermitted, Cond.instanceMethod yX5_addPermitted, Cond.selects RX5 yX5_addPermitted yX5_addPermitted, Cond.code yX5_addPermitted cX5_addPermitted 3 (some .int), Cond.methodLink RL 26 yX7_permit, Cond.instanceMethod yX7_permit, Cond.selects RX7 yX7_permit yX7_permit]
def wsL_law_r9 : List Cond := [Cond.code yX7_permit cX7_permit 3 (some .int), Cond.methodLink RL 27 yX6_member, Cond.instanceMethod yX6_member, Cond.selects RX6 yX6_member yX6_member, Cond.code yX6_member cX6_member 7 (some .int), Cond.methodLink RX6 77 yX3_addMember, Cond.instanceMethod yX3_addMember, Cond.selects RX3 yX3_addMember yX3_addMember, Cond.code yX3_addMember cX3_addMember 8 (some .int), Cond.methodLink RL 31 yX7_member, Cond.instanceMethod yX7_member, Cond.selects RX7 yX7_member yX7_member, Cond.code yX7_member cX7_member 7 (some .int), Cond.fieldLink RX7 81 "ClassRulesModel" "members" "I", Cond.methodLink RL 32 yX6_faults, Cond.instanceMethod yX6_faults, Cond.selects RX6 yX6_faults yX6_faults, Cond.code yX6_faults cX6_faults 2 (some .int), Cond.methodLink RX6 81 yX1_countOf, Cond.instanceMethod yX1_countOf, Cond.selects RX1 yX1_countOf yX1_countOf, Cond.code yX1_countOf cX1_countOf 2 (some .int), Cond.methodLink RX1 60 yX1_keep, Cond.instanceMethod yX1_keep]
def wsL_law_r10 : List Cond := [Cond.selects RX1 yX1_keep yX1_keep, Cond.code yX1_keep cX1_keep 2 none, Cond.methodLink RX1 79 yJ7_fill_d0a16, Cond.static yJ7_fill_d0a16, Cond.initialized RJ7, Cond.code yJ7_fill_d0a16 cJ7_fill_d0a16 5 none, Cond.methodLink RX1 85 yX1_findTypeFaults, Cond.instanceMethod yX1_findTypeFaults, Cond.selects RX1 yX1_findTypeFaults yX1_findTypeFaults, Cond.code yX1_findTypeFaults cX1_findTypeFaults 2 none, Cond.methodLink RX1 101 yX4_missing, Cond.instanceMethod yX4_missing, Cond.selects RX4 yX4_missing yX4_missing, Cond.code yX4_missing cX4_missing 2 (some .int), Cond.methodLink RX4 15 yX5_next, Cond.methodLink RX4 25 yX5_everyone, Cond.methodLink RX1 104 yX1_putTypes, Cond.instanceMethod yX1_putTypes, Cond.selects RX1 yX1_putTypes yX1_putTypes, Cond.code yX1_putTypes cX1_putTypes 3 none, Cond.methodLink RX1 108 yX4_ring, Cond.instanceMethod yX4_ring, Cond.selects RX4 yX4_ring yX4_ring, Cond.code yX4_ring cX4_ring 2 (some .int)]
def wsL_law_r11 : List Cond := [Cond.methodLink RX1 111 yX4_wrongKind, Cond.instanceMethod yX4_wrongKind, Cond.selects RX4 yX4_wrongKind yX4_wrongKind, Cond.code yX4_wrongKind cX4_wrongKind 3 (some .int), Cond.methodLink RX4 41 yX5_ofKind, Cond.instanceMethod yX5_ofKind, Cond.selects RX5 yX5_ofKind yX5_ofKind, Cond.code yX5_ofKind cX5_ofKind 4 (some .int), Cond.methodLink RX1 114 yX4_finalParent, Cond.instanceMethod yX4_finalParent, Cond.selects RX4 yX4_finalParent yX4_finalParent, Cond.code yX4_finalParent cX4_finalParent 2 (some .int), Cond.methodLink RX4 47 yX5_withMark, Cond.instanceMethod yX5_withMark, Cond.selects RX5 yX5_withMark yX5_withMark, Cond.code yX5_withMark cX5_withMark 4 (some .int), Cond.methodLink RX5 67 yX5_marked, Cond.instanceMethod yX5_marked, Cond.selects RX5 yX5_marked yX5_marked, Cond.code yX5_marked cX5_marked 3 (some .boolean), Cond.methodLink RX1 117 yX4_wrongMarks, Cond.instanceMethod yX4_wrongMarks, Cond.selects RX4 yX4_wrongMarks yX4_wrongMarks, Cond.code yX4_wrongMarks cX4_wrongMarks 8 (some .int)]
def wsL_law_r12 : List Cond := [Cond.methodLink RX4 53 yJ6_bitCount_0f7a4, Cond.static yJ6_bitCount_0f7a4, Cond.initialized RJ6, Cond.code yJ6_bitCount_0f7a4 cJ6_bitCount_0f7a4 1 (some .int), Cond.constant RJ6 265 (1431655765), Cond.constant RJ6 266 (858993459), Cond.constant RJ6 267 (252645135), Cond.methodLink RX1 120 yX4_wrongUnderSealed, Cond.instanceMethod yX4_wrongUnderSealed, Cond.selects RX4 yX4_wrongUnderSealed yX4_wrongUnderSealed, Cond.code yX4_wrongUnderSealed cX4_wrongUnderSealed 7 (some .int), Cond.methodLink RX4 58 yX5_marked, Cond.methodLink RX1 123 yX4_wrongPermits, Cond.instanceMethod yX4_wrongPermits, Cond.selects RX4 yX4_wrongPermits yX4_wrongPermits, Cond.code yX4_wrongPermits cX4_wrongPermits 5 (some .int), Cond.methodLink RX1 126 yX4_twice, Cond.instanceMethod yX4_twice, Cond.selects RX4 yX4_twice yX4_twice, Cond.code yX4_twice cX4_twice 2 (some .int), Cond.methodLink RX1 88 yX1_findMemberFaults, Cond.instanceMethod yX1_findMemberFaults, Cond.selects RX1 yX1_findMemberFaults yX1_findMemberFaults, Cond.code yX1_findMemberFaults cX1_findMemberFaults 3 none]
def wsL_law_r13 : List Cond := [Cond.methodLink RX1 137 yX2_doubled, Cond.instanceMethod yX2_doubled, Cond.selects RX2 yX2_doubled yX2_doubled, Cond.code yX2_doubled cX2_doubled 3 (some .boolean), Cond.methodLink RX2 25 yX3_alike, Cond.instanceMethod yX3_alike, Cond.selects RX3 yX3_alike yX3_alike, Cond.code yX3_alike cX3_alike 3 (some .boolean), Cond.methodLink RX3 38 yX3_named, Cond.instanceMethod yX3_named, Cond.selects RX3 yX3_named yX3_named, Cond.code yX3_named cX3_named 4 (some .boolean), Cond.methodLink RX1 140 yX1_putIf, Cond.instanceMethod yX1_putIf, Cond.selects RX1 yX1_putIf yX1_putIf, Cond.code yX1_putIf cX1_putIf 4 none, Cond.methodLink RX1 144 yX2_wrongMarks, Cond.instanceMethod yX2_wrongMarks, Cond.selects RX2 yX2_wrongMarks yX2_wrongMarks, Cond.code yX2_wrongMarks cX2_wrongMarks 2 (some .boolean), Cond.methodLink RX2 29 yX3_ofFace, Cond.instanceMethod yX3_ofFace, Cond.selects RX3 yX3_ofFace yX3_ofFace, Cond.code yX3_ofFace cX3_ofFace 2 (some .boolean)]
def wsL_law_r14 : List Cond := [Cond.methodLink RX2 33 yX2_wrongInFace, Cond.instanceMethod yX2_wrongInFace, Cond.selects RX2 yX2_wrongInFace yX2_wrongInFace, Cond.code yX2_wrongInFace cX2_wrongInFace 4 (some .boolean), Cond.methodLink RX2 42 yX3_marked, Cond.instanceMethod yX3_marked, Cond.selects RX3 yX3_marked yX3_marked, Cond.code yX3_marked cX3_marked 3 (some .boolean), Cond.methodLink RX2 48 yJ6_bitCount_0f7a4, Cond.methodLink RX2 36 yX2_wrongElsewhere, Cond.instanceMethod yX2_wrongElsewhere, Cond.selects RX2 yX2_wrongElsewhere yX2_wrongElsewhere, Cond.code yX2_wrongElsewhere cX2_wrongElsewhere 3 (some .boolean), Cond.methodLink RX2 59 yX5_marked, Cond.methodLink RX1 91 yX4_shaky, Cond.instanceMethod yX4_shaky, Cond.selects RX4 yX4_shaky yX4_shaky, Cond.code yX4_shaky cX4_shaky 3 (some .boolean), Cond.methodLink RX4 72 yX5_stands, Cond.instanceMethod yX5_stands, Cond.selects RX5 yX5_stands yX5_stands, Cond.code yX5_stands cX5_stands 3 (some .boolean), Cond.methodLink RX4 75 yX4_missing, Cond.methodLink RX4 78 yX4_ring]
def wsL_law_r15 : List Cond := [Cond.methodLink RX4 81 yX4_wrongKind, Cond.methodLink RX1 95 yX1_findInheritedFaults, Cond.instanceMethod yX1_findInheritedFaults, Cond.selects RX1 yX1_findInheritedFaults yX1_findInheritedFaults, Cond.code yX1_findInheritedFaults cX1_findInheritedFaults 3 none, Cond.methodLink RX1 149 yX1_findOver, Cond.instanceMethod yX1_findOver, Cond.selects RX1 yX1_findOver yX1_findOver, Cond.code yX1_findOver cX1_findOver 4 none, Cond.methodLink RX1 152 yX3_alike, Cond.methodLink RX1 155 yX3_shared, Cond.instanceMethod yX3_shared, Cond.selects RX3 yX3_shared yX3_shared, Cond.code yX3_shared cX3_shared 4 (some .boolean), Cond.methodLink RX3 47 yX3_marked, Cond.methodLink RX3 51 yX3_ofFace, Cond.methodLink RX3 61 yX3_seenFrom, Cond.instanceMethod yX3_seenFrom, Cond.selects RX3 yX3_seenFrom yX3_seenFrom, Cond.code yX3_seenFrom cX3_seenFrom 3 (some .boolean), Cond.methodLink RX1 158 yX3_marked, Cond.methodLink RX1 164 yX2_resultFits, Cond.instanceMethod yX2_resultFits, Cond.selects RX2 yX2_resultFits yX2_resultFits]
def wsL_law_r16 : List Cond := [Cond.code yX2_resultFits cX2_resultFits 5 (some .boolean), Cond.methodLink RX2 60 yX5_there, Cond.methodLink RX2 63 yX5_stands, Cond.methodLink RX1 98 yX1_findGivenFaults, Cond.instanceMethod yX1_findGivenFaults, Cond.selects RX1 yX1_findGivenFaults yX1_findGivenFaults, Cond.code yX1_findGivenFaults cX1_findGivenFaults 6 none, Cond.methodLink RX1 172 yX5_marked, Cond.methodLink RX1 173 yX3_firstOfItsSort, Cond.instanceMethod yX3_firstOfItsSort, Cond.selects RX3 yX3_firstOfItsSort yX3_firstOfItsSort, Cond.code yX3_firstOfItsSort cX3_firstOfItsSort 3 (some .boolean), Cond.methodLink RX3 67 yX3_alike, Cond.methodLink RX1 182 yX0_seekClassOne, Cond.instanceMethod yX0_seekClassOne, Cond.selects RX0 yX0_seekClassOne yX0_seekClassOne, Cond.code yX0_seekClassOne cX0_seekClassOne 7 none, Cond.methodLink RX0 49 yX3_named, Cond.methodLink RX0 53 yX3_marked, Cond.methodLink RX0 57 yX3_shared, Cond.methodLink RX0 60 yX5_parentThere, Cond.instanceMethod yX5_parentThere, Cond.selects RX5 yX5_parentThere yX5_parentThere, Cond.code yX5_parentThere cX5_parentThere 2 (some .int)]
def wsL_law_r17 : List Cond := [Cond.methodLink RX1 188 yX0_seekFaceOnes, Cond.instanceMethod yX0_seekFaceOnes, Cond.selects RX0 yX0_seekFaceOnes yX0_seekFaceOnes, Cond.code yX0_seekFaceOnes cX0_seekFaceOnes 8 none, Cond.methodLink RX0 64 yX0_givenByFace, Cond.instanceMethod yX0_givenByFace, Cond.selects RX0 yX0_givenByFace yX0_givenByFace, Cond.code yX0_givenByFace cX0_givenByFace 5 (some .boolean), Cond.methodLink RX0 77 yX3_ofFace, Cond.methodLink RX0 81 yX5_stands, Cond.methodLink RX1 191 yX0_leastToBeGiven, Cond.instanceMethod yX0_leastToBeGiven, Cond.selects RX0 yX0_leastToBeGiven yX0_leastToBeGiven, Cond.code yX0_leastToBeGiven cX0_leastToBeGiven 1 (some .int), Cond.methodLink RX0 87 yX0_leastFaceOneWith, Cond.instanceMethod yX0_leastFaceOneWith, Cond.selects RX0 yX0_leastFaceOneWith yX0_leastFaceOneWith, Cond.code yX0_leastFaceOneWith cX0_leastFaceOneWith 3 (some .int), Cond.methodLink RX1 194 yX0_leastOfRivals, Cond.instanceMethod yX0_leastOfRivals, Cond.selects RX0 yX0_leastOfRivals yX0_leastOfRivals, Cond.code yX0_leastOfRivals cX0_leastOfRivals 2 (some .int), Cond.methodLink RX1 64 yX1_countFound, Cond.instanceMethod yX1_countFound]
def wsL_law_r18 : List Cond := [Cond.selects RX1 yX1_countFound yX1_countFound, Cond.code yX1_countFound cX1_countFound 3 (some .int), Cond.methodLink RX1 197 yJ13_bitCount_95d88, Cond.static yJ13_bitCount_95d88, Cond.initialized RJ13, Cond.code yJ13_bitCount_95d88 cJ13_bitCount_95d88 2 (some .int), Cond.constantLong RJ13 314 (6148914691236517205), Cond.constantLong RJ13 316 (3689348814741910323), Cond.constantLong RJ13 318 (1085102592571150095), Cond.methodLink RL 36 yX7_faults, Cond.instanceMethod yX7_faults, Cond.selects RX7 yX7_faults yX7_faults, Cond.code yX7_faults cX7_faults 2 (some .int), Cond.methodLink RX7 168 yX7_faultsOf, Cond.instanceMethod yX7_faultsOf, Cond.selects RX7 yX7_faultsOf yX7_faultsOf, Cond.code yX7_faultsOf cX7_faultsOf 4 none, Cond.methodLink RX7 84 yX7_know, Cond.instanceMethod yX7_know, Cond.selects RX7 yX7_know yX7_know, Cond.code yX7_know cX7_know 4 none, Cond.methodLink RX7 149 yX7_firstFaults, Cond.instanceMethod yX7_firstFaults, Cond.selects RX7 yX7_firstFaults yX7_firstFaults]
def wsL_law_r19 : List Cond := [Cond.code yX7_firstFaults cX7_firstFaults 5 none, Cond.methodLink RX7 91 yX7_mark, Cond.instanceMethod yX7_mark, Cond.selects RX7 yX7_mark yX7_mark, Cond.code yX7_mark cX7_mark 4 none, Cond.methodLink RX7 153 yX7_haveAny, Cond.instanceMethod yX7_haveAny, Cond.selects RX7 yX7_haveAny yX7_haveAny, Cond.code yX7_haveAny cX7_haveAny 3 (some .boolean), Cond.methodLink RX7 156 yX7_typeFaults, Cond.instanceMethod yX7_typeFaults, Cond.selects RX7 yX7_typeFaults yX7_typeFaults, Cond.code yX7_typeFaults cX7_typeFaults 8 none, Cond.methodLink RX7 95 yX7_marked, Cond.instanceMethod yX7_marked, Cond.selects RX7 yX7_marked yX7_marked, Cond.code yX7_marked cX7_marked 3 (some .boolean), Cond.methodLink RX7 102 yX7_sealedBy, Cond.instanceMethod yX7_sealedBy, Cond.selects RX7 yX7_sealedBy yX7_sealedBy, Cond.code yX7_sealedBy cX7_sealedBy 4 none, Cond.methodLink RX7 99 yX7_permitsIt, Cond.instanceMethod yX7_permitsIt, Cond.selects RX7 yX7_permitsIt yX7_permitsIt]
def wsL_law_r20 : List Cond := [Cond.code yX7_permitsIt cX7_permitsIt 5 (some .boolean), Cond.methodLink RX7 106 yX7_isSealed, Cond.instanceMethod yX7_isSealed, Cond.selects RX7 yX7_isSealed yX7_isSealed, Cond.code yX7_isSealed cX7_isSealed 2 (some .boolean), Cond.methodLink RX7 109 yX7_isUpper, Cond.instanceMethod yX7_isUpper, Cond.selects RX7 yX7_isUpper yX7_isUpper, Cond.code yX7_isUpper cX7_isUpper 5 (some .boolean), Cond.methodLink RX7 159 yX7_memberFaults, Cond.instanceMethod yX7_memberFaults, Cond.selects RX7 yX7_memberFaults yX7_memberFaults, Cond.code yX7_memberFaults cX7_memberFaults 4 none, Cond.methodLink RX7 112 yX7_areLike, Cond.instanceMethod yX7_areLike, Cond.selects RX7 yX7_areLike yX7_areLike, Cond.code yX7_areLike cX7_areLike 3 (some .boolean), Cond.methodLink RX7 115 yX7_isWrong, Cond.instanceMethod yX7_isWrong, Cond.selects RX7 yX7_isWrong yX7_isWrong, Cond.code yX7_isWrong cX7_isWrong 6 (some .boolean), Cond.methodLink RX7 87 yX7_is, Cond.instanceMethod yX7_is, Cond.selects RX7 yX7_is yX7_is]
def wsL_law_r21 : List Cond := [Cond.code yX7_is cX7_is 4 (some .boolean), Cond.methodLink RX7 162 yX7_overFaults, Cond.instanceMethod yX7_overFaults, Cond.selects RX7 yX7_overFaults yX7_overFaults, Cond.code yX7_overFaults cX7_overFaults 4 none, Cond.methodLink RX7 121 yX7_isShared, Cond.instanceMethod yX7_isShared, Cond.selects RX7 yX7_isShared yX7_isShared, Cond.code yX7_isShared cX7_isShared 4 (some .boolean), Cond.methodLink RX7 124 yX7_fitsResult, Cond.instanceMethod yX7_fitsResult, Cond.selects RX7 yX7_fitsResult yX7_fitsResult, Cond.code yX7_fitsResult cX7_fitsResult 3 (some .boolean), Cond.methodLink RX7 118 yX7_isOf, Cond.instanceMethod yX7_isOf, Cond.selects RX7 yX7_isOf yX7_isOf, Cond.code yX7_isOf cX7_isOf 3 (some .boolean), Cond.methodLink RX7 165 yX7_givenFaults, Cond.instanceMethod yX7_givenFaults, Cond.selects RX7 yX7_givenFaults yX7_givenFaults, Cond.code yX7_givenFaults cX7_givenFaults 7 none, Cond.fieldLink RX7 127 "ClassRulesModel" "faceMany" "I", Cond.methodLink RX7 134 yX7_classOne, Cond.instanceMethod yX7_classOne]
def wsL_law_r22 : List Cond := [Cond.selects RX7 yX7_classOne yX7_classOne, Cond.code yX7_classOne cX7_classOne 7 (some .int), Cond.methodLink RX7 137 yX7_findFaceOnes, Cond.instanceMethod yX7_findFaceOnes, Cond.selects RX7 yX7_findFaceOnes yX7_findFaceOnes, Cond.code yX7_findFaceOnes cX7_findFaceOnes 7 none, Cond.methodLink RX7 130 yX7_ofFace, Cond.instanceMethod yX7_ofFace, Cond.selects RX7 yX7_ofFace yX7_ofFace, Cond.code yX7_ofFace cX7_ofFace 5 (some .int), Cond.methodLink RX7 141 yX7_hasDefault, Cond.instanceMethod yX7_hasDefault, Cond.selects RX7 yX7_hasDefault yX7_hasDefault, Cond.code yX7_hasDefault cX7_hasDefault 3 (some .boolean), Cond.methodLink RX7 145 yX7_leastFaceOne, Cond.instanceMethod yX7_leastFaceOne, Cond.selects RX7 yX7_leastFaceOne yX7_leastFaceOne, Cond.code yX7_leastFaceOne cX7_leastFaceOne 6 (some .int), Cond.methodLink RX7 171 yX7_count, Cond.instanceMethod yX7_count, Cond.selects RX7 yX7_count yX7_count, Cond.code yX7_count cX7_count 3 (some .int), Cond.methodLink RL 37 yX6_fault, Cond.instanceMethod yX6_fault]
def wsL_law_r23 : List Cond := [Cond.selects RX6 yX6_fault yX6_fault, Cond.code yX6_fault cX6_fault 4 (some .int), Cond.methodLink RX6 85 yX1_kindAt, Cond.instanceMethod yX1_kindAt, Cond.selects RX1 yX1_kindAt yX1_kindAt, Cond.code yX1_kindAt cX1_kindAt 3 (some .int), Cond.methodLink RX1 72 yX1_placeAt, Cond.instanceMethod yX1_placeAt, Cond.selects RX1 yX1_placeAt yX1_placeAt, Cond.code yX1_placeAt cX1_placeAt 6 (some .int), Cond.methodLink RX1 76 yX1_isFound, Cond.instanceMethod yX1_isFound, Cond.selects RX1 yX1_isFound yX1_isFound, Cond.code yX1_isFound cX1_isFound 3 (some .boolean), Cond.methodLink RX6 88 yX1_numberAt, Cond.instanceMethod yX1_numberAt, Cond.selects RX1 yX1_numberAt yX1_numberAt, Cond.code yX1_numberAt cX1_numberAt 3 (some .int), Cond.methodLink RL 41 yX7_fault, Cond.instanceMethod yX7_fault, Cond.selects RX7 yX7_fault yX7_fault, Cond.code yX7_fault cX7_fault 6 (some .int), Cond.methodLink RL 42 yX6_all, Cond.instanceMethod yX6_all]
def wsL_law_r24 : List Cond := [Cond.selects RX6 yX6_all yX6_all, Cond.code yX6_all cX6_all 3 (some .int), Cond.methodLink RL 46 yX7_all, Cond.instanceMethod yX7_all, Cond.selects RX7 yX7_all yX7_all, Cond.code yX7_all cX7_all 3 (some .int), Cond.methodLink RX7 175 yX7_faults, Cond.methodLink RL 47 yX6_is, Cond.instanceMethod yX6_is, Cond.selects RX6 yX6_is yX6_is, Cond.code yX6_is cX6_is 3 (some .int), Cond.methodLink RX6 91 yX5_stands, Cond.methodLink RL 50 yX7_is_, Cond.instanceMethod yX7_is_, Cond.selects RX7 yX7_is_ yX7_is_, Cond.code yX7_is_ cX7_is_ 3 (some .int), Cond.methodLink RL 51 yX6_runs, Cond.instanceMethod yX6_runs, Cond.selects RX6 yX6_runs yX6_runs, Cond.code yX6_runs cX6_runs 4 (some .int), Cond.methodLink RX6 94 yX6_canBeMade, Cond.instanceMethod yX6_canBeMade, Cond.selects RX6 yX6_canBeMade yX6_canBeMade, Cond.code yX6_canBeMade cX6_canBeMade 3 (some .boolean)]
def wsL_law_r25 : List Cond := [Cond.methodLink RX6 110 yX5_marked, Cond.methodLink RX6 97 yX0_running, Cond.instanceMethod yX0_running, Cond.selects RX0 yX0_running yX0_running, Cond.code yX0_running cX0_running 4 (some .int), Cond.methodLink RX0 90 yX0_seekClassOne, Cond.methodLink RX0 94 yX0_unlessAbstract, Cond.instanceMethod yX0_unlessAbstract, Cond.selects RX0 yX0_unlessAbstract yX0_unlessAbstract, Cond.code yX0_unlessAbstract cX0_unlessAbstract 2 (some .int), Cond.methodLink RX0 97 yX0_seekFaceOnes, Cond.methodLink RX6 101 yX6_orNone, Cond.static yX6_orNone, Cond.code yX6_orNone cX6_orNone 1 (some .int), Cond.methodLink RL 54 yX7_runs, Cond.instanceMethod yX7_runs, Cond.selects RX7 yX7_runs yX7_runs, Cond.code yX7_runs cX7_runs 4 (some .int), Cond.methodLink RX7 179 yX7_isWrongType, Cond.instanceMethod yX7_isWrongType, Cond.selects RX7 yX7_isWrongType yX7_isWrongType, Cond.code yX7_isWrongType cX7_isWrongType 4 (some .boolean), Cond.methodLink RX7 182 yX7_running, Cond.instanceMethod yX7_running]
def wsL_law_r26 : List Cond := [Cond.selects RX7 yX7_running yX7_running, Cond.code yX7_running cX7_running 5 (some .int), Cond.methodLink RL 55 yX6_call, Cond.instanceMethod yX6_call, Cond.selects RX6 yX6_call yX6_call, Cond.code yX6_call cX6_call 5 (some .int), Cond.methodLink RX6 104 yX0_reached, Cond.instanceMethod yX0_reached, Cond.selects RX0 yX0_reached yX0_reached, Cond.code yX0_reached cX0_reached 6 (some .int), Cond.methodLink RX0 100 yX0_meantBy, Cond.instanceMethod yX0_meantBy, Cond.selects RX0 yX0_meantBy yX0_meantBy, Cond.code yX0_meantBy cX0_meantBy 4 (some .int), Cond.methodLink RX0 104 yX0_running, Cond.methodLink RX0 107 yX0_inPlaceOf, Cond.instanceMethod yX0_inPlaceOf, Cond.selects RX0 yX0_inPlaceOf yX0_inPlaceOf, Cond.code yX0_inPlaceOf cX0_inPlaceOf 7 (some .int), Cond.methodLink RX0 111 yX0_chainUpTo, Cond.instanceMethod yX0_chainUpTo, Cond.selects RX0 yX0_chainUpTo yX0_chainUpTo, Cond.code yX0_chainUpTo cX0_chainUpTo 5 (some .int), Cond.methodLink RX0 114 yX0_overriderIn]
def wsL_law_r27 : List Cond := [Cond.instanceMethod yX0_overriderIn, Cond.selects RX0 yX0_overriderIn yX0_overriderIn, Cond.code yX0_overriderIn cX0_overriderIn 4 (some .int), Cond.methodLink RX0 120 yX3_alike, Cond.methodLink RX0 117 yX0_takesPlace, Cond.instanceMethod yX0_takesPlace, Cond.selects RX0 yX0_takesPlace yX0_takesPlace, Cond.code yX0_takesPlace cX0_takesPlace 4 (some .boolean), Cond.methodLink RX0 123 yX3_seenFrom, Cond.methodLink RL 58 yX7_call, Cond.instanceMethod yX7_call, Cond.selects RX7 yX7_call yX7_call, Cond.code yX7_call cX7_call 9 (some .int), Cond.methodLink RX7 188 yX7_findTaking, Cond.instanceMethod yX7_findTaking, Cond.selects RX7 yX7_findTaking yX7_findTaking, Cond.code yX7_findTaking cX7_findTaking 5 none, Cond.methodLink RX7 185 yX7_mayTake, Cond.instanceMethod yX7_mayTake, Cond.selects RX7 yX7_mayTake yX7_mayTake, Cond.code yX7_mayTake cX7_mayTake 2 (some .boolean), Cond.methodLink RL 59 yX6_told, Cond.instanceMethod yX6_told, Cond.selects RX6 yX6_told yX6_told]
def wsL_law_r28 : List Cond := [Cond.code yX6_told cX6_told 2 (some .int), Cond.methodLink RL 62 yX7_told, Cond.instanceMethod yX7_told, Cond.selects RX7 yX7_told yX7_told, Cond.code yX7_told cX7_told 2 (some .int)]
def wsL_law : List Cond := (wsL_law_r1 ++ (wsL_law_r2 ++ (wsL_law_r3 ++ (wsL_law_r4 ++ (wsL_law_r5 ++ (wsL_law_r6 ++ (wsL_law_r7 ++ (wsL_law_r8 ++ (wsL_law_r9 ++ (wsL_law_r10 ++ (wsL_law_r11 ++ (wsL_law_r12 ++ (wsL_law_r13 ++ (wsL_law_r14 ++ (wsL_law_r15 ++ (wsL_law_r16 ++ (wsL_law_r17 ++ (wsL_law_r18 ++ (wsL_law_r19 ++ (wsL_law_r20 ++ (wsL_law_r21 ++ (wsL_law_r22 ++ (wsL_law_r23 ++ (wsL_law_r24 ++ (wsL_law_r25 ++ (wsL_law_r26 ++ (wsL_law_r27 ++ wsL_law_r28))))))))))))))))))))))))))) ++ wsX60 ++ wsX70 ++ wsX50 ++ wsX30 ++ wsX00 ++ wsX10 ++ wsX40 ++ wsX20 ++ ([] : List Cond)
theorem dX0_init_0 : decode cX0_init 0 = .ok (.aload_n 0, 1) := by decide +kernel
theorem dX0_init_1 : decode cX0_init 1 = .ok (.invokespecial 3, 3) := by decide +kernel
theorem dX0_init_4 : decode cX0_init 4 = .ok (.aload_n 0, 1) := by decide +kernel
theorem dX0_init_5 : decode cX0_init 5 = .ok (.bipush 20, 2) := by decide +kernel
theorem dX0_init_7 : decode cX0_init 7 = .ok (.newarray .int, 2) := by decide +kernel
theorem dX0_init_9 : decode cX0_init 9 = .ok (.putfield 9, 3) := by decide +kernel
theorem dX0_init_12 : decode cX0_init 12 = .ok (.aload_n 0, 1) := by decide +kernel
theorem dX0_init_13 : decode cX0_init 13 = .ok (.bipush 20, 2) := by decide +kernel
theorem dX0_init_15 : decode cX0_init 15 = .ok (.newarray .int, 2) := by decide +kernel
theorem dX0_init_17 : decode cX0_init 17 = .ok (.putfield 15, 3) := by decide +kernel
theorem dX0_init_20 : decode cX0_init 20 = .ok (.aload_n 0, 1) := by decide +kernel
theorem dX0_init_21 : decode cX0_init 21 = .ok (.bipush 20, 2) := by decide +kernel
theorem dX0_init_23 : decode cX0_init 23 = .ok (.newarray .int, 2) := by decide +kernel
theorem dX0_init_25 : decode cX0_init 25 = .ok (.putfield 18, 3) := by decide +kernel
theorem dX0_init_28 : decode cX0_init 28 = .ok (.aload_n 0, 1) := by decide +kernel
theorem dX0_init_29 : decode cX0_init 29 = .ok (.iconst 0, 1) := by decide +kernel
theorem dX0_init_30 : decode cX0_init 30 = .ok (.putfield 21, 3) := by decide +kernel
theorem dX0_init_33 : decode cX0_init 33 = .ok (.aload_n 0, 1) := by decide +kernel
theorem dX0_init_34 : decode cX0_init 34 = .ok (.iconst (-1), 1) := by decide +kernel
theorem dX0_init_35 : decode cX0_init 35 = .ok (.putfield 25, 3) := by decide +kernel
theorem dX0_init_38 : decode cX0_init 38 = .ok (.aload_n 0, 1) := by decide +kernel
theorem dX0_init_39 : decode cX0_init 39 = .ok (.aload_n 1, 1) := by decide +kernel
theorem dX0_init_40 : decode cX0_init 40 = .ok (.putfield 28, 3) := by decide +kernel
theorem dX0_init_43 : decode cX0_init 43 = .ok (.aload_n 0, 1) := by decide +kernel
theorem dX0_init_44 : decode cX0_init 44 = .ok (.aload_n 2, 1) := by decide +kernel
theorem dX0_init_45 : decode cX0_init 45 = .ok (.putfield 32, 3) := by decide +kernel
theorem dX0_init_48 : decode cX0_init 48 = .ok (.return_, 1) := by decide +kernel
theorem dX1_init_0 : decode cX1_init 0 = .ok (.aload_n 0, 1) := by decide +kernel
theorem dX1_init_1 : decode cX1_init 1 = .ok (.invokespecial 3, 3) := by decide +kernel
theorem dX1_init_4 : decode cX1_init 4 = .ok (.aload_n 0, 1) := by decide +kernel
theorem dX1_init_5 : decode cX1_init 5 = .ok (.bipush 36, 2) := by decide +kernel
theorem dX1_init_7 : decode cX1_init 7 = .ok (.newarray .long, 2) := by decide +kernel
theorem dX1_init_9 : decode cX1_init 9 = .ok (.putfield 11, 3) := by decide +kernel
theorem dX1_init_12 : decode cX1_init 12 = .ok (.aload_n 0, 1) := by decide +kernel
theorem dX1_init_13 : decode cX1_init 13 = .ok (.bipush 20, 2) := by decide +kernel
theorem dX1_init_15 : decode cX1_init 15 = .ok (.newarray .int, 2) := by decide +kernel
theorem dX1_init_17 : decode cX1_init 17 = .ok (.putfield 15, 3) := by decide +kernel
theorem dX1_init_20 : decode cX1_init 20 = .ok (.aload_n 0, 1) := by decide +kernel
theorem dX1_init_21 : decode cX1_init 21 = .ok (.iconst 0, 1) := by decide +kernel
theorem dX1_init_22 : decode cX1_init 22 = .ok (.putfield 19, 3) := by decide +kernel
theorem dX1_init_25 : decode cX1_init 25 = .ok (.aload_n 0, 1) := by decide +kernel
theorem dX1_init_26 : decode cX1_init 26 = .ok (.iconst (-1), 1) := by decide +kernel
theorem dX1_init_27 : decode cX1_init 27 = .ok (.putfield 23, 3) := by decide +kernel
theorem dX1_init_30 : decode cX1_init 30 = .ok (.aload_n 0, 1) := by decide +kernel
theorem dX1_init_31 : decode cX1_init 31 = .ok (.aload_n 1, 1) := by decide +kernel
theorem dX1_init_32 : decode cX1_init 32 = .ok (.putfield 26, 3) := by decide +kernel
theorem dX1_init_35 : decode cX1_init 35 = .ok (.aload_n 0, 1) := by decide +kernel
theorem dX1_init_36 : decode cX1_init 36 = .ok (.aload_n 2, 1) := by decide +kernel
theorem dX1_init_37 : decode cX1_init 37 = .ok (.putfield 30, 3) := by decide +kernel
theorem dX1_init_40 : decode cX1_init 40 = .ok (.aload_n 0, 1) := by decide +kernel
theorem dX1_init_41 : decode cX1_init 41 = .ok (.aload_n 3, 1) := by decide +kernel
theorem dX1_init_42 : decode cX1_init 42 = .ok (.putfield 34, 3) := by decide +kernel
theorem dX1_init_45 : decode cX1_init 45 = .ok (.aload_n 0, 1) := by decide +kernel
theorem dX1_init_46 : decode cX1_init 46 = .ok (.new 38, 3) := by decide +kernel
theorem dX1_init_49 : decode cX1_init 49 = .ok (.dup, 1) := by decide +kernel
theorem dX1_init_50 : decode cX1_init 50 = .ok (.aload_n 1, 1) := by decide +kernel
theorem dX1_init_51 : decode cX1_init 51 = .ok (.invokespecial 40, 3) := by decide +kernel
theorem dX1_init_54 : decode cX1_init 54 = .ok (.putfield 43, 3) := by decide +kernel
theorem dX1_init_57 : decode cX1_init 57 = .ok (.aload_n 0, 1) := by decide +kernel
theorem dX1_init_58 : decode cX1_init 58 = .ok (.new 47, 3) := by decide +kernel
theorem dX1_init_61 : decode cX1_init 61 = .ok (.dup, 1) := by decide +kernel
theorem dX1_init_62 : decode cX1_init 62 = .ok (.aload_n 1, 1) := by decide +kernel
theorem dX1_init_63 : decode cX1_init 63 = .ok (.aload_n 2, 1) := by decide +kernel
theorem dX1_init_64 : decode cX1_init 64 = .ok (.invokespecial 49, 3) := by decide +kernel
theorem dX1_init_67 : decode cX1_init 67 = .ok (.putfield 52, 3) := by decide +kernel
theorem dX1_init_70 : decode cX1_init 70 = .ok (.return_, 1) := by decide +kernel
theorem dX1_forget_0 : decode cX1_forget 0 = .ok (.aload_n 0, 1) := by decide +kernel
theorem dX1_forget_1 : decode cX1_forget 1 = .ok (.iconst 0, 1) := by decide +kernel
theorem dX1_forget_2 : decode cX1_forget 2 = .ok (.putfield 19, 3) := by decide +kernel
theorem dX1_forget_5 : decode cX1_forget 5 = .ok (.aload_n 0, 1) := by decide +kernel
theorem dX1_forget_6 : decode cX1_forget 6 = .ok (.iconst (-1), 1) := by decide +kernel
theorem dX1_forget_7 : decode cX1_forget 7 = .ok (.putfield 23, 3) := by decide +kernel
theorem dX1_forget_10 : decode cX1_forget 10 = .ok (.return_, 1) := by decide +kernel
theorem dX2_init_0 : decode cX2_init 0 = .ok (.aload_n 0, 1) := by decide +kernel
theorem dX2_init_1 : decode cX2_init 1 = .ok (.invokespecial 3, 3) := by decide +kernel
theorem dX2_init_4 : decode cX2_init 4 = .ok (.aload_n 0, 1) := by decide +kernel
theorem dX2_init_5 : decode cX2_init 5 = .ok (.aload_n 1, 1) := by decide +kernel
theorem dX2_init_6 : decode cX2_init 6 = .ok (.putfield 9, 3) := by decide +kernel
theorem dX2_init_9 : decode cX2_init 9 = .ok (.aload_n 0, 1) := by decide +kernel
theorem dX2_init_10 : decode cX2_init 10 = .ok (.aload_n 2, 1) := by decide +kernel
theorem dX2_init_11 : decode cX2_init 11 = .ok (.putfield 15, 3) := by decide +kernel
theorem dX2_init_14 : decode cX2_init 14 = .ok (.return_, 1) := by decide +kernel
theorem dX3_init_0 : decode cX3_init 0 = .ok (.aload_n 0, 1) := by decide +kernel
theorem dX3_init_1 : decode cX3_init 1 = .ok (.invokespecial 3, 3) := by decide +kernel
theorem dX3_init_4 : decode cX3_init 4 = .ok (.aload_n 0, 1) := by decide +kernel
theorem dX3_init_5 : decode cX3_init 5 = .ok (.bipush 80, 2) := by decide +kernel
theorem dX3_init_7 : decode cX3_init 7 = .ok (.newarray .int, 2) := by decide +kernel
theorem dX3_init_9 : decode cX3_init 9 = .ok (.putfield 9, 3) := by decide +kernel
theorem dX3_init_12 : decode cX3_init 12 = .ok (.aload_n 0, 1) := by decide +kernel
theorem dX3_init_13 : decode cX3_init 13 = .ok (.bipush 80, 2) := by decide +kernel
theorem dX3_init_15 : decode cX3_init 15 = .ok (.newarray .int, 2) := by decide +kernel
theorem dX3_init_17 : decode cX3_init 17 = .ok (.putfield 15, 3) := by decide +kernel
theorem dX3_init_20 : decode cX3_init 20 = .ok (.aload_n 0, 1) := by decide +kernel
theorem dX3_init_21 : decode cX3_init 21 = .ok (.bipush 80, 2) := by decide +kernel
theorem dX3_init_23 : decode cX3_init 23 = .ok (.newarray .int, 2) := by decide +kernel
theorem dX3_init_25 : decode cX3_init 25 = .ok (.putfield 18, 3) := by decide +kernel
theorem dX3_init_28 : decode cX3_init 28 = .ok (.aload_n 0, 1) := by decide +kernel
theorem dX3_init_29 : decode cX3_init 29 = .ok (.bipush 80, 2) := by decide +kernel
theorem dX3_init_31 : decode cX3_init 31 = .ok (.newarray .int, 2) := by decide +kernel
theorem dX3_init_33 : decode cX3_init 33 = .ok (.putfield 21, 3) := by decide +kernel
theorem dX3_init_36 : decode cX3_init 36 = .ok (.aload_n 0, 1) := by decide +kernel
theorem dX3_init_37 : decode cX3_init 37 = .ok (.bipush 80, 2) := by decide +kernel
theorem dX3_init_39 : decode cX3_init 39 = .ok (.newarray .int, 2) := by decide +kernel
theorem dX3_init_41 : decode cX3_init 41 = .ok (.putfield 24, 3) := by decide +kernel
theorem dX3_init_44 : decode cX3_init 44 = .ok (.aload_n 0, 1) := by decide +kernel
theorem dX3_init_45 : decode cX3_init 45 = .ok (.bipush 80, 2) := by decide +kernel
theorem dX3_init_47 : decode cX3_init 47 = .ok (.newarray .int, 2) := by decide +kernel
theorem dX3_init_49 : decode cX3_init 49 = .ok (.putfield 27, 3) := by decide +kernel
theorem dX3_init_52 : decode cX3_init 52 = .ok (.aload_n 0, 1) := by decide +kernel
theorem dX3_init_53 : decode cX3_init 53 = .ok (.iconst 0, 1) := by decide +kernel
theorem dX3_init_54 : decode cX3_init 54 = .ok (.putfield 30, 3) := by decide +kernel
theorem dX3_init_57 : decode cX3_init 57 = .ok (.aload_n 0, 1) := by decide +kernel
theorem dX3_init_58 : decode cX3_init 58 = .ok (.aload_n 1, 1) := by decide +kernel
theorem dX3_init_59 : decode cX3_init 59 = .ok (.putfield 34, 3) := by decide +kernel
theorem dX3_init_62 : decode cX3_init 62 = .ok (.return_, 1) := by decide +kernel
theorem dX4_init_0 : decode cX4_init 0 = .ok (.aload_n 0, 1) := by decide +kernel
theorem dX4_init_1 : decode cX4_init 1 = .ok (.invokespecial 3, 3) := by decide +kernel
theorem dX4_init_4 : decode cX4_init 4 = .ok (.aload_n 0, 1) := by decide +kernel
theorem dX4_init_5 : decode cX4_init 5 = .ok (.aload_n 1, 1) := by decide +kernel
theorem dX4_init_6 : decode cX4_init 6 = .ok (.putfield 9, 3) := by decide +kernel
theorem dX4_init_9 : decode cX4_init 9 = .ok (.return_, 1) := by decide +kernel
theorem dX5_init_0 : decode cX5_init 0 = .ok (.aload_n 0, 1) := by decide +kernel
theorem dX5_init_1 : decode cX5_init 1 = .ok (.invokespecial 3, 3) := by decide +kernel
theorem dX5_init_4 : decode cX5_init 4 = .ok (.aload_n 0, 1) := by decide +kernel
theorem dX5_init_5 : decode cX5_init 5 = .ok (.bipush 20, 2) := by decide +kernel
theorem dX5_init_7 : decode cX5_init 7 = .ok (.newarray .int, 2) := by decide +kernel
theorem dX5_init_9 : decode cX5_init 9 = .ok (.putfield 9, 3) := by decide +kernel
theorem dX5_init_12 : decode cX5_init 12 = .ok (.aload_n 0, 1) := by decide +kernel
theorem dX5_init_13 : decode cX5_init 13 = .ok (.bipush 20, 2) := by decide +kernel
theorem dX5_init_15 : decode cX5_init 15 = .ok (.newarray .int, 2) := by decide +kernel
theorem dX5_init_17 : decode cX5_init 17 = .ok (.putfield 15, 3) := by decide +kernel
theorem dX5_init_20 : decode cX5_init 20 = .ok (.aload_n 0, 1) := by decide +kernel
theorem dX5_init_21 : decode cX5_init 21 = .ok (.bipush 20, 2) := by decide +kernel
theorem dX5_init_23 : decode cX5_init 23 = .ok (.newarray .int, 2) := by decide +kernel
theorem dX5_init_25 : decode cX5_init 25 = .ok (.putfield 18, 3) := by decide +kernel
theorem dX5_init_28 : decode cX5_init 28 = .ok (.aload_n 0, 1) := by decide +kernel
theorem dX5_init_29 : decode cX5_init 29 = .ok (.bipush 20, 2) := by decide +kernel
theorem dX5_init_31 : decode cX5_init 31 = .ok (.newarray .int, 2) := by decide +kernel
theorem dX5_init_33 : decode cX5_init 33 = .ok (.putfield 21, 3) := by decide +kernel
theorem dX5_init_36 : decode cX5_init 36 = .ok (.aload_n 0, 1) := by decide +kernel
theorem dX5_init_37 : decode cX5_init 37 = .ok (.bipush 20, 2) := by decide +kernel
theorem dX5_init_39 : decode cX5_init 39 = .ok (.newarray .int, 2) := by decide +kernel
theorem dX5_init_41 : decode cX5_init 41 = .ok (.putfield 24, 3) := by decide +kernel
theorem dX5_init_44 : decode cX5_init 44 = .ok (.aload_n 0, 1) := by decide +kernel
theorem dX5_init_45 : decode cX5_init 45 = .ok (.bipush 20, 2) := by decide +kernel
theorem dX5_init_47 : decode cX5_init 47 = .ok (.newarray .int, 2) := by decide +kernel
theorem dX5_init_49 : decode cX5_init 49 = .ok (.putfield 27, 3) := by decide +kernel
theorem dX5_init_52 : decode cX5_init 52 = .ok (.aload_n 0, 1) := by decide +kernel
theorem dX5_init_53 : decode cX5_init 53 = .ok (.bipush 20, 2) := by decide +kernel
theorem dX5_init_55 : decode cX5_init 55 = .ok (.newarray .int, 2) := by decide +kernel
theorem dX5_init_57 : decode cX5_init 57 = .ok (.putfield 30, 3) := by decide +kernel
theorem dX5_init_60 : decode cX5_init 60 = .ok (.aload_n 0, 1) := by decide +kernel
theorem dX5_init_61 : decode cX5_init 61 = .ok (.bipush 20, 2) := by decide +kernel
theorem dX5_init_63 : decode cX5_init 63 = .ok (.newarray .int, 2) := by decide +kernel
theorem dX5_init_65 : decode cX5_init 65 = .ok (.putfield 33, 3) := by decide +kernel
theorem dX5_init_68 : decode cX5_init 68 = .ok (.aload_n 0, 1) := by decide +kernel
theorem dX5_init_69 : decode cX5_init 69 = .ok (.bipush 20, 2) := by decide +kernel
theorem dX5_init_71 : decode cX5_init 71 = .ok (.newarray .int, 2) := by decide +kernel
theorem dX5_init_73 : decode cX5_init 73 = .ok (.putfield 36, 3) := by decide +kernel
theorem dX5_init_76 : decode cX5_init 76 = .ok (.aload_n 0, 1) := by decide +kernel
theorem dX5_init_77 : decode cX5_init 77 = .ok (.bipush 20, 2) := by decide +kernel
theorem dX5_init_79 : decode cX5_init 79 = .ok (.newarray .int, 2) := by decide +kernel
theorem dX5_init_81 : decode cX5_init 81 = .ok (.putfield 39, 3) := by decide +kernel
theorem dX5_init_84 : decode cX5_init 84 = .ok (.aload_n 0, 1) := by decide +kernel
theorem dX5_init_85 : decode cX5_init 85 = .ok (.bipush 20, 2) := by decide +kernel
theorem dX5_init_87 : decode cX5_init 87 = .ok (.newarray .int, 2) := by decide +kernel
theorem dX5_init_89 : decode cX5_init 89 = .ok (.putfield 42, 3) := by decide +kernel
theorem dX5_init_92 : decode cX5_init 92 = .ok (.aload_n 0, 1) := by decide +kernel
theorem dX5_init_93 : decode cX5_init 93 = .ok (.iconst 0, 1) := by decide +kernel
theorem dX5_init_94 : decode cX5_init 94 = .ok (.putfield 45, 3) := by decide +kernel
theorem dX5_init_97 : decode cX5_init 97 = .ok (.return_, 1) := by decide +kernel
theorem dX5_addType_0 : decode cX5_addType 0 = .ok (.aload_n 0, 1) := by decide +kernel
theorem dX5_addType_1 : decode cX5_addType 1 = .ok (.getfield 45, 3) := by decide +kernel
theorem dX5_addType_4 : decode cX5_addType 4 = .ok (.istore 5, 2) := by decide +kernel
theorem dX5_addType_6 : decode cX5_addType 6 = .ok (.aload_n 0, 1) := by decide +kernel
theorem dX5_addType_7 : decode cX5_addType 7 = .ok (.getfield 9, 3) := by decide +kernel
theorem dX5_addType_10 : decode cX5_addType 10 = .ok (.iload 5, 2) := by decide +kernel
theorem dX5_addType_12 : decode cX5_addType 12 = .ok (.iload_n 1, 1) := by decide +kernel
theorem dX5_addType_13 : decode cX5_addType 13 = .ok (.iastore, 1) := by decide +kernel
theorem dX5_addType_14 : decode cX5_addType 14 = .ok (.aload_n 0, 1) := by decide +kernel
theorem dX5_addType_15 : decode cX5_addType 15 = .ok (.getfield 15, 3) := by decide +kernel
theorem dX5_addType_18 : decode cX5_addType 18 = .ok (.iload 5, 2) := by decide +kernel
theorem dX5_addType_20 : decode cX5_addType 20 = .ok (.iload_n 2, 1) := by decide +kernel
theorem dX5_addType_21 : decode cX5_addType 21 = .ok (.iastore, 1) := by decide +kernel
theorem dX5_addType_22 : decode cX5_addType 22 = .ok (.aload_n 0, 1) := by decide +kernel
theorem dX5_addType_23 : decode cX5_addType 23 = .ok (.getfield 18, 3) := by decide +kernel
theorem dX5_addType_26 : decode cX5_addType 26 = .ok (.iload 5, 2) := by decide +kernel
theorem dX5_addType_28 : decode cX5_addType 28 = .ok (.iload_n 3, 1) := by decide +kernel
theorem dX5_addType_29 : decode cX5_addType 29 = .ok (.iastore, 1) := by decide +kernel
theorem dX5_addType_30 : decode cX5_addType 30 = .ok (.aload_n 0, 1) := by decide +kernel
theorem dX5_addType_31 : decode cX5_addType 31 = .ok (.getfield 21, 3) := by decide +kernel
theorem dX5_addType_34 : decode cX5_addType 34 = .ok (.iload 5, 2) := by decide +kernel
theorem dX5_addType_36 : decode cX5_addType 36 = .ok (.iload 4, 2) := by decide +kernel
theorem dX5_addType_38 : decode cX5_addType 38 = .ok (.iastore, 1) := by decide +kernel
theorem dX5_addType_39 : decode cX5_addType 39 = .ok (.aload_n 0, 1) := by decide +kernel
theorem dX5_addType_40 : decode cX5_addType 40 = .ok (.getfield 24, 3) := by decide +kernel
theorem dX5_addType_43 : decode cX5_addType 43 = .ok (.iload 5, 2) := by decide +kernel
theorem dX5_addType_45 : decode cX5_addType 45 = .ok (.iload 4, 2) := by decide +kernel
theorem dX5_addType_47 : decode cX5_addType 47 = .ok (.iconst (-1), 1) := by decide +kernel
theorem dX5_addType_48 : decode cX5_addType 48 = .ok (.if_icmp .ne 7, 3) := by decide +kernel
theorem dX5_addType_51 : decode cX5_addType 51 = .ok (.iconst 0, 1) := by decide +kernel
theorem dX5_addType_52 : decode cX5_addType 52 = .ok (.goto 8, 3) := by decide +kernel
theorem dX5_addType_55 : decode cX5_addType 55 = .ok (.iload 4, 2) := by decide +kernel
theorem dX5_addType_57 : decode cX5_addType 57 = .ok (.invokestatic 49, 3) := by decide +kernel
theorem dX5_addType_60 : decode cX5_addType 60 = .ok (.iastore, 1) := by decide +kernel
theorem dX5_addType_61 : decode cX5_addType 61 = .ok (.aload_n 0, 1) := by decide +kernel
theorem dX5_addType_62 : decode cX5_addType 62 = .ok (.dup, 1) := by decide +kernel
theorem dX5_addType_63 : decode cX5_addType 63 = .ok (.getfield 45, 3) := by decide +kernel
theorem dX5_addType_66 : decode cX5_addType 66 = .ok (.iconst 1, 1) := by decide +kernel
theorem dX5_addType_67 : decode cX5_addType 67 = .ok (.iadd, 1) := by decide +kernel
theorem dX5_addType_68 : decode cX5_addType 68 = .ok (.putfield 45, 3) := by decide +kernel
theorem dX5_addType_71 : decode cX5_addType 71 = .ok (.aload_n 0, 1) := by decide +kernel
theorem dX5_addType_72 : decode cX5_addType 72 = .ok (.invokevirtual 53, 3) := by decide +kernel
theorem dX5_addType_75 : decode cX5_addType 75 = .ok (.iload 5, 2) := by decide +kernel
theorem dX5_addType_77 : decode cX5_addType 77 = .ok (.ireturn, 1) := by decide +kernel
theorem dX5_settleAbove_0 : decode cX5_settleAbove 0 = .ok (.iconst 0, 1) := by decide +kernel
theorem dX5_settleAbove_1 : decode cX5_settleAbove 1 = .ok (.istore_n 1, 1) := by decide +kernel
theorem dX5_settleAbove_2 : decode cX5_settleAbove 2 = .ok (.iload_n 1, 1) := by decide +kernel
theorem dX5_settleAbove_3 : decode cX5_settleAbove 3 = .ok (.aload_n 0, 1) := by decide +kernel
theorem dX5_settleAbove_4 : decode cX5_settleAbove 4 = .ok (.getfield 45, 3) := by decide +kernel
theorem dX5_settleAbove_7 : decode cX5_settleAbove 7 = .ok (.if_icmp .ge 25, 3) := by decide +kernel
theorem dX5_settleAbove_10 : decode cX5_settleAbove 10 = .ok (.aload_n 0, 1) := by decide +kernel
theorem dX5_settleAbove_11 : decode cX5_settleAbove 11 = .ok (.getfield 42, 3) := by decide +kernel
theorem dX5_settleAbove_14 : decode cX5_settleAbove 14 = .ok (.iload_n 1, 1) := by decide +kernel
theorem dX5_settleAbove_15 : decode cX5_settleAbove 15 = .ok (.aload_n 0, 1) := by decide +kernel
theorem dX5_settleAbove_16 : decode cX5_settleAbove 16 = .ok (.iload_n 1, 1) := by decide +kernel
theorem dX5_settleAbove_17 : decode cX5_settleAbove 17 = .ok (.invokevirtual 56, 3) := by decide +kernel
theorem dX5_settleAbove_20 : decode cX5_settleAbove 20 = .ok (.aload_n 0, 1) := by decide +kernel
theorem dX5_settleAbove_21 : decode cX5_settleAbove 21 = .ok (.invokevirtual 59, 3) := by decide +kernel
theorem dX5_settleAbove_24 : decode cX5_settleAbove 24 = .ok (.iand, 1) := by decide +kernel
theorem dX5_settleAbove_25 : decode cX5_settleAbove 25 = .ok (.iastore, 1) := by decide +kernel
theorem dX5_settleAbove_26 : decode cX5_settleAbove 26 = .ok (.iinc 1 1, 3) := by decide +kernel
theorem dX5_settleAbove_29 : decode cX5_settleAbove 29 = .ok (.goto (-27), 3) := by decide +kernel
theorem dX5_settleAbove_32 : decode cX5_settleAbove 32 = .ok (.iconst 0, 1) := by decide +kernel
theorem dX5_settleAbove_33 : decode cX5_settleAbove 33 = .ok (.istore_n 1, 1) := by decide +kernel
theorem dX5_settleAbove_34 : decode cX5_settleAbove 34 = .ok (.iload_n 1, 1) := by decide +kernel
theorem dX5_settleAbove_35 : decode cX5_settleAbove 35 = .ok (.aload_n 0, 1) := by decide +kernel
theorem dX5_settleAbove_36 : decode cX5_settleAbove 36 = .ok (.getfield 45, 3) := by decide +kernel
theorem dX5_settleAbove_39 : decode cX5_settleAbove 39 = .ok (.if_icmp .ge 53, 3) := by decide +kernel
theorem dX5_settleAbove_42 : decode cX5_settleAbove 42 = .ok (.iconst 0, 1) := by decide +kernel
theorem dX5_settleAbove_43 : decode cX5_settleAbove 43 = .ok (.istore_n 2, 1) := by decide +kernel
theorem dX5_settleAbove_44 : decode cX5_settleAbove 44 = .ok (.iload_n 2, 1) := by decide +kernel
theorem dX5_settleAbove_45 : decode cX5_settleAbove 45 = .ok (.aload_n 0, 1) := by decide +kernel
theorem dX5_settleAbove_46 : decode cX5_settleAbove 46 = .ok (.getfield 45, 3) := by decide +kernel
theorem dX5_settleAbove_49 : decode cX5_settleAbove 49 = .ok (.if_icmp .ge 37, 3) := by decide +kernel
theorem dX5_settleAbove_52 : decode cX5_settleAbove 52 = .ok (.aload_n 0, 1) := by decide +kernel
theorem dX5_settleAbove_53 : decode cX5_settleAbove 53 = .ok (.getfield 42, 3) := by decide +kernel
theorem dX5_settleAbove_56 : decode cX5_settleAbove 56 = .ok (.iload_n 2, 1) := by decide +kernel
theorem dX5_settleAbove_57 : decode cX5_settleAbove 57 = .ok (.iaload, 1) := by decide +kernel
theorem dX5_settleAbove_58 : decode cX5_settleAbove 58 = .ok (.iload_n 1, 1) := by decide +kernel
theorem dX5_settleAbove_59 : decode cX5_settleAbove 59 = .ok (.invokestatic 63, 3) := by decide +kernel
theorem dX5_settleAbove_62 : decode cX5_settleAbove 62 = .ok (.ifCond .eq 18, 3) := by decide +kernel
theorem dX5_settleAbove_65 : decode cX5_settleAbove 65 = .ok (.aload_n 0, 1) := by decide +kernel
theorem dX5_settleAbove_66 : decode cX5_settleAbove 66 = .ok (.getfield 42, 3) := by decide +kernel
theorem dX5_settleAbove_69 : decode cX5_settleAbove 69 = .ok (.iload_n 2, 1) := by decide +kernel
theorem dX5_settleAbove_70 : decode cX5_settleAbove 70 = .ok (.dup2, 1) := by decide +kernel
theorem dX5_settleAbove_71 : decode cX5_settleAbove 71 = .ok (.iaload, 1) := by decide +kernel
theorem dX5_settleAbove_72 : decode cX5_settleAbove 72 = .ok (.aload_n 0, 1) := by decide +kernel
theorem dX5_settleAbove_73 : decode cX5_settleAbove 73 = .ok (.getfield 42, 3) := by decide +kernel
theorem dX5_settleAbove_76 : decode cX5_settleAbove 76 = .ok (.iload_n 1, 1) := by decide +kernel
theorem dX5_settleAbove_77 : decode cX5_settleAbove 77 = .ok (.iaload, 1) := by decide +kernel
theorem dX5_settleAbove_78 : decode cX5_settleAbove 78 = .ok (.ior, 1) := by decide +kernel
theorem dX5_settleAbove_79 : decode cX5_settleAbove 79 = .ok (.iastore, 1) := by decide +kernel
theorem dX5_settleAbove_80 : decode cX5_settleAbove 80 = .ok (.iinc 2 1, 3) := by decide +kernel
theorem dX5_settleAbove_83 : decode cX5_settleAbove 83 = .ok (.goto (-39), 3) := by decide +kernel
theorem dX5_settleAbove_86 : decode cX5_settleAbove 86 = .ok (.iinc 1 1, 3) := by decide +kernel
theorem dX5_settleAbove_89 : decode cX5_settleAbove 89 = .ok (.goto (-55), 3) := by decide +kernel
theorem dX5_settleAbove_92 : decode cX5_settleAbove 92 = .ok (.return_, 1) := by decide +kernel
theorem dX5_there_0 : decode cX5_there 0 = .ok (.iload_n 1, 1) := by decide +kernel
theorem dX5_there_1 : decode cX5_there 1 = .ok (.ifCond .lt 15, 3) := by decide +kernel
theorem dX5_there_4 : decode cX5_there 4 = .ok (.iload_n 1, 1) := by decide +kernel
theorem dX5_there_5 : decode cX5_there 5 = .ok (.aload_n 0, 1) := by decide +kernel
theorem dX5_there_6 : decode cX5_there 6 = .ok (.getfield 45, 3) := by decide +kernel
theorem dX5_there_9 : decode cX5_there 9 = .ok (.if_icmp .ge 7, 3) := by decide +kernel
theorem dX5_there_12 : decode cX5_there 12 = .ok (.iconst 1, 1) := by decide +kernel
theorem dX5_there_13 : decode cX5_there 13 = .ok (.goto 4, 3) := by decide +kernel
theorem dX5_there_16 : decode cX5_there 16 = .ok (.iconst 0, 1) := by decide +kernel
theorem dX5_there_17 : decode cX5_there 17 = .ok (.ireturn, 1) := by decide +kernel
theorem dX5_everyone_0 : decode cX5_everyone 0 = .ok (.aload_n 0, 1) := by decide +kernel
theorem dX5_everyone_1 : decode cX5_everyone 1 = .ok (.getfield 45, 3) := by decide +kernel
theorem dX5_everyone_4 : decode cX5_everyone 4 = .ok (.invokestatic 49, 3) := by decide +kernel
theorem dX5_everyone_7 : decode cX5_everyone 7 = .ok (.iconst 1, 1) := by decide +kernel
theorem dX5_everyone_8 : decode cX5_everyone 8 = .ok (.isub, 1) := by decide +kernel
theorem dX5_everyone_9 : decode cX5_everyone 9 = .ok (.ireturn, 1) := by decide +kernel
theorem dX5_next_0 : decode cX5_next 0 = .ok (.aload_n 0, 1) := by decide +kernel
theorem dX5_next_1 : decode cX5_next 1 = .ok (.getfield 24, 3) := by decide +kernel
theorem dX5_next_4 : decode cX5_next 4 = .ok (.iload_n 1, 1) := by decide +kernel
theorem dX5_next_5 : decode cX5_next 5 = .ok (.iaload, 1) := by decide +kernel
theorem dX5_next_6 : decode cX5_next 6 = .ok (.aload_n 0, 1) := by decide +kernel
theorem dX5_next_7 : decode cX5_next 7 = .ok (.getfield 27, 3) := by decide +kernel
theorem dX5_next_10 : decode cX5_next 10 = .ok (.iload_n 1, 1) := by decide +kernel
theorem dX5_next_11 : decode cX5_next 11 = .ok (.iaload, 1) := by decide +kernel
theorem dX5_next_12 : decode cX5_next 12 = .ok (.ior, 1) := by decide +kernel
theorem dX5_next_13 : decode cX5_next 13 = .ok (.ireturn, 1) := by decide +kernel
theorem dX6_init_0 : decode cX6_init 0 = .ok (.aload_n 0, 1) := by decide +kernel
theorem dX6_init_1 : decode cX6_init 1 = .ok (.invokespecial 3, 3) := by decide +kernel
theorem dX6_init_4 : decode cX6_init 4 = .ok (.aload_n 0, 1) := by decide +kernel
theorem dX6_init_5 : decode cX6_init 5 = .ok (.new 9, 3) := by decide +kernel
theorem dX6_init_8 : decode cX6_init 8 = .ok (.dup, 1) := by decide +kernel
theorem dX6_init_9 : decode cX6_init 9 = .ok (.invokespecial 11, 3) := by decide +kernel
theorem dX6_init_12 : decode cX6_init 12 = .ok (.putfield 12, 3) := by decide +kernel
theorem dX6_init_15 : decode cX6_init 15 = .ok (.aload_n 0, 1) := by decide +kernel
theorem dX6_init_16 : decode cX6_init 16 = .ok (.new 16, 3) := by decide +kernel
theorem dX6_init_19 : decode cX6_init 19 = .ok (.dup, 1) := by decide +kernel
theorem dX6_init_20 : decode cX6_init 20 = .ok (.aload_n 0, 1) := by decide +kernel
theorem dX6_init_21 : decode cX6_init 21 = .ok (.getfield 12, 3) := by decide +kernel
theorem dX6_init_24 : decode cX6_init 24 = .ok (.invokespecial 18, 3) := by decide +kernel
theorem dX6_init_27 : decode cX6_init 27 = .ok (.putfield 21, 3) := by decide +kernel
theorem dX6_init_30 : decode cX6_init 30 = .ok (.aload_n 0, 1) := by decide +kernel
theorem dX6_init_31 : decode cX6_init 31 = .ok (.new 25, 3) := by decide +kernel
theorem dX6_init_34 : decode cX6_init 34 = .ok (.dup, 1) := by decide +kernel
theorem dX6_init_35 : decode cX6_init 35 = .ok (.aload_n 0, 1) := by decide +kernel
theorem dX6_init_36 : decode cX6_init 36 = .ok (.getfield 12, 3) := by decide +kernel
theorem dX6_init_39 : decode cX6_init 39 = .ok (.aload_n 0, 1) := by decide +kernel
theorem dX6_init_40 : decode cX6_init 40 = .ok (.getfield 21, 3) := by decide +kernel
theorem dX6_init_43 : decode cX6_init 43 = .ok (.invokespecial 27, 3) := by decide +kernel
theorem dX6_init_46 : decode cX6_init 46 = .ok (.putfield 30, 3) := by decide +kernel
theorem dX6_init_49 : decode cX6_init 49 = .ok (.aload_n 0, 1) := by decide +kernel
theorem dX6_init_50 : decode cX6_init 50 = .ok (.new 34, 3) := by decide +kernel
theorem dX6_init_53 : decode cX6_init 53 = .ok (.dup, 1) := by decide +kernel
theorem dX6_init_54 : decode cX6_init 54 = .ok (.aload_n 0, 1) := by decide +kernel
theorem dX6_init_55 : decode cX6_init 55 = .ok (.getfield 12, 3) := by decide +kernel
theorem dX6_init_58 : decode cX6_init 58 = .ok (.aload_n 0, 1) := by decide +kernel
theorem dX6_init_59 : decode cX6_init 59 = .ok (.getfield 21, 3) := by decide +kernel
theorem dX6_init_62 : decode cX6_init 62 = .ok (.aload_n 0, 1) := by decide +kernel
theorem dX6_init_63 : decode cX6_init 63 = .ok (.getfield 30, 3) := by decide +kernel
theorem dX6_init_66 : decode cX6_init 66 = .ok (.invokespecial 36, 3) := by decide +kernel
theorem dX6_init_69 : decode cX6_init 69 = .ok (.putfield 39, 3) := by decide +kernel
theorem dX6_init_72 : decode cX6_init 72 = .ok (.return_, 1) := by decide +kernel
theorem dX6_type_0 : decode cX6_type 0 = .ok (.iload_n 1, 1) := by decide +kernel
theorem dX6_type_1 : decode cX6_type 1 = .ok (.iconst 4, 1) := by decide +kernel
theorem dX6_type_2 : decode cX6_type 2 = .ok (.invokestatic 43, 3) := by decide +kernel
theorem dX6_type_5 : decode cX6_type 5 = .ok (.ifCond .eq 20, 3) := by decide +kernel
theorem dX6_type_8 : decode cX6_type 8 = .ok (.iload_n 2, 1) := by decide +kernel
theorem dX6_type_9 : decode cX6_type 9 = .ok (.bipush 16, 2) := by decide +kernel
theorem dX6_type_11 : decode cX6_type 11 = .ok (.invokestatic 43, 3) := by decide +kernel
theorem dX6_type_14 : decode cX6_type 14 = .ok (.ifCond .eq 11, 3) := by decide +kernel
theorem dX6_type_17 : decode cX6_type 17 = .ok (.iload_n 3, 1) := by decide +kernel
theorem dX6_type_18 : decode cX6_type 18 = .ok (.iconst 4, 1) := by decide +kernel
theorem dX6_type_19 : decode cX6_type 19 = .ok (.invokestatic 43, 3) := by decide +kernel
theorem dX6_type_22 : decode cX6_type 22 = .ok (.ifCond .ne 5, 3) := by decide +kernel
theorem dX6_type_25 : decode cX6_type 25 = .ok (.iconst (-1), 1) := by decide +kernel
theorem dX6_type_26 : decode cX6_type 26 = .ok (.ireturn, 1) := by decide +kernel
theorem dX6_type_27 : decode cX6_type 27 = .ok (.iload 4, 2) := by decide +kernel
theorem dX6_type_29 : decode cX6_type 29 = .ok (.iconst (-1), 1) := by decide +kernel
theorem dX6_type_30 : decode cX6_type 30 = .ok (.if_icmp .eq 15, 3) := by decide +kernel
theorem dX6_type_33 : decode cX6_type 33 = .ok (.iload 4, 2) := by decide +kernel
theorem dX6_type_35 : decode cX6_type 35 = .ok (.bipush 20, 2) := by decide +kernel
theorem dX6_type_37 : decode cX6_type 37 = .ok (.invokestatic 43, 3) := by decide +kernel
theorem dX6_type_40 : decode cX6_type 40 = .ok (.ifCond .ne 5, 3) := by decide +kernel
theorem dX6_type_43 : decode cX6_type 43 = .ok (.iconst (-1), 1) := by decide +kernel
theorem dX6_type_44 : decode cX6_type 44 = .ok (.ireturn, 1) := by decide +kernel
theorem dX6_type_45 : decode cX6_type 45 = .ok (.aload_n 0, 1) := by decide +kernel
theorem dX6_type_46 : decode cX6_type 46 = .ok (.getfield 12, 3) := by decide +kernel
theorem dX6_type_49 : decode cX6_type 49 = .ok (.getfield 47, 3) := by decide +kernel
theorem dX6_type_52 : decode cX6_type 52 = .ok (.bipush 20, 2) := by decide +kernel
theorem dX6_type_54 : decode cX6_type 54 = .ok (.if_icmp .lt 6, 3) := by decide +kernel
theorem dX6_type_57 : decode cX6_type 57 = .ok (.bipush (-2), 2) := by decide +kernel
theorem dX6_type_59 : decode cX6_type 59 = .ok (.ireturn, 1) := by decide +kernel
theorem dX6_type_60 : decode cX6_type 60 = .ok (.aload_n 0, 1) := by decide +kernel
theorem dX6_type_61 : decode cX6_type 61 = .ok (.getfield 39, 3) := by decide +kernel
theorem dX6_type_64 : decode cX6_type 64 = .ok (.invokevirtual 51, 3) := by decide +kernel
theorem dX6_type_67 : decode cX6_type 67 = .ok (.aload_n 0, 1) := by decide +kernel
theorem dX6_type_68 : decode cX6_type 68 = .ok (.getfield 12, 3) := by decide +kernel
theorem dX6_type_71 : decode cX6_type 71 = .ok (.iload_n 1, 1) := by decide +kernel
theorem dX6_type_72 : decode cX6_type 72 = .ok (.iload_n 2, 1) := by decide +kernel
theorem dX6_type_73 : decode cX6_type 73 = .ok (.iload_n 3, 1) := by decide +kernel
theorem dX6_type_74 : decode cX6_type 74 = .ok (.iload 4, 2) := by decide +kernel
theorem dX6_type_76 : decode cX6_type 76 = .ok (.invokevirtual 54, 3) := by decide +kernel
theorem dX6_type_79 : decode cX6_type 79 = .ok (.ireturn, 1) := by decide +kernel
theorem dX6_upper_0 : decode cX6_upper 0 = .ok (.aload_n 0, 1) := by decide +kernel
theorem dX6_upper_1 : decode cX6_upper 1 = .ok (.getfield 12, 3) := by decide +kernel
theorem dX6_upper_4 : decode cX6_upper 4 = .ok (.iload_n 1, 1) := by decide +kernel
theorem dX6_upper_5 : decode cX6_upper 5 = .ok (.invokevirtual 58, 3) := by decide +kernel
theorem dX6_upper_8 : decode cX6_upper 8 = .ok (.ifCond .eq 12, 3) := by decide +kernel
theorem dX6_upper_20 : decode cX6_upper 20 = .ok (.iconst (-1), 1) := by decide +kernel
theorem dX6_upper_21 : decode cX6_upper 21 = .ok (.ireturn, 1) := by decide +kernel
theorem dX6_permit_0 : decode cX6_permit 0 = .ok (.aload_n 0, 1) := by decide +kernel
theorem dX6_permit_1 : decode cX6_permit 1 = .ok (.getfield 12, 3) := by decide +kernel
theorem dX6_permit_4 : decode cX6_permit 4 = .ok (.iload_n 1, 1) := by decide +kernel
theorem dX6_permit_5 : decode cX6_permit 5 = .ok (.invokevirtual 58, 3) := by decide +kernel
theorem dX6_permit_8 : decode cX6_permit 8 = .ok (.ifCond .eq 12, 3) := by decide +kernel
theorem dX6_permit_20 : decode cX6_permit 20 = .ok (.iconst (-1), 1) := by decide +kernel
theorem dX6_permit_21 : decode cX6_permit 21 = .ok (.ireturn, 1) := by decide +kernel
theorem dX6_member_0 : decode cX6_member 0 = .ok (.aload_n 0, 1) := by decide +kernel
theorem dX6_member_1 : decode cX6_member 1 = .ok (.getfield 12, 3) := by decide +kernel
theorem dX6_member_4 : decode cX6_member 4 = .ok (.iload_n 1, 1) := by decide +kernel
theorem dX6_member_5 : decode cX6_member 5 = .ok (.invokevirtual 58, 3) := by decide +kernel
theorem dX6_member_8 : decode cX6_member 8 = .ok (.ifCond .eq 20, 3) := by decide +kernel
theorem dX6_member_28 : decode cX6_member 28 = .ok (.iconst (-1), 1) := by decide +kernel
theorem dX6_member_29 : decode cX6_member 29 = .ok (.ireturn, 1) := by decide +kernel
theorem dX6_faults_0 : decode cX6_faults 0 = .ok (.aload_n 0, 1) := by decide +kernel
theorem dX6_faults_1 : decode cX6_faults 1 = .ok (.getfield 12, 3) := by decide +kernel
theorem dX6_faults_4 : decode cX6_faults 4 = .ok (.iload_n 1, 1) := by decide +kernel
theorem dX6_faults_5 : decode cX6_faults 5 = .ok (.invokevirtual 58, 3) := by decide +kernel
theorem dX6_faults_8 : decode cX6_faults 8 = .ok (.ifCond .eq 14, 3) := by decide +kernel
theorem dX6_faults_22 : decode cX6_faults 22 = .ok (.iconst (-1), 1) := by decide +kernel
theorem dX6_faults_23 : decode cX6_faults 23 = .ok (.ireturn, 1) := by decide +kernel
theorem dX6_fault_0 : decode cX6_fault 0 = .ok (.aload_n 0, 1) := by decide +kernel
theorem dX6_fault_1 : decode cX6_fault 1 = .ok (.getfield 12, 3) := by decide +kernel
theorem dX6_fault_4 : decode cX6_fault 4 = .ok (.iload_n 1, 1) := by decide +kernel
theorem dX6_fault_5 : decode cX6_fault 5 = .ok (.invokevirtual 58, 3) := by decide +kernel
theorem dX6_fault_8 : decode cX6_fault 8 = .ok (.ifCond .eq 26, 3) := by decide +kernel
theorem dX6_fault_34 : decode cX6_fault 34 = .ok (.iconst (-1), 1) := by decide +kernel
theorem dX6_fault_35 : decode cX6_fault 35 = .ok (.ireturn, 1) := by decide +kernel
theorem dX6_all_0 : decode cX6_all 0 = .ok (.iconst 0, 1) := by decide +kernel
theorem dX6_all_1 : decode cX6_all 1 = .ok (.istore_n 1, 1) := by decide +kernel
theorem dX6_all_2 : decode cX6_all 2 = .ok (.iconst 0, 1) := by decide +kernel
theorem dX6_all_3 : decode cX6_all 3 = .ok (.istore_n 2, 1) := by decide +kernel
theorem dX6_all_4 : decode cX6_all 4 = .ok (.iload_n 2, 1) := by decide +kernel
theorem dX6_all_5 : decode cX6_all 5 = .ok (.aload_n 0, 1) := by decide +kernel
theorem dX6_all_6 : decode cX6_all 6 = .ok (.getfield 12, 3) := by decide +kernel
theorem dX6_all_9 : decode cX6_all 9 = .ok (.getfield 47, 3) := by decide +kernel
theorem dX6_all_12 : decode cX6_all 12 = .ok (.if_icmp .ge 20, 3) := by decide +kernel
theorem dX6_all_32 : decode cX6_all 32 = .ok (.iload_n 1, 1) := by decide +kernel
theorem dX6_all_33 : decode cX6_all 33 = .ok (.ireturn, 1) := by decide +kernel
theorem dX6_is_0 : decode cX6_is 0 = .ok (.aload_n 0, 1) := by decide +kernel
theorem dX6_is_1 : decode cX6_is 1 = .ok (.getfield 12, 3) := by decide +kernel
theorem dX6_is_4 : decode cX6_is 4 = .ok (.iload_n 1, 1) := by decide +kernel
theorem dX6_is_5 : decode cX6_is 5 = .ok (.invokevirtual 58, 3) := by decide +kernel
theorem dX6_is_8 : decode cX6_is 8 = .ok (.ifCond .eq 14, 3) := by decide +kernel
theorem dX6_is_22 : decode cX6_is 22 = .ok (.iconst (-1), 1) := by decide +kernel
theorem dX6_is_23 : decode cX6_is 23 = .ok (.ireturn, 1) := by decide +kernel
theorem dX6_runs_0 : decode cX6_runs 0 = .ok (.aload_n 0, 1) := by decide +kernel
theorem dX6_runs_1 : decode cX6_runs 1 = .ok (.getfield 12, 3) := by decide +kernel
theorem dX6_runs_4 : decode cX6_runs 4 = .ok (.iload_n 1, 1) := by decide +kernel
theorem dX6_runs_5 : decode cX6_runs 5 = .ok (.invokevirtual 58, 3) := by decide +kernel
theorem dX6_runs_8 : decode cX6_runs 8 = .ok (.ifCond .eq 20, 3) := by decide +kernel
theorem dX6_runs_28 : decode cX6_runs 28 = .ok (.iconst (-1), 1) := by decide +kernel
theorem dX6_runs_29 : decode cX6_runs 29 = .ok (.ireturn, 1) := by decide +kernel
theorem dX6_call_0 : decode cX6_call 0 = .ok (.aload_n 0, 1) := by decide +kernel
theorem dX6_call_1 : decode cX6_call 1 = .ok (.getfield 12, 3) := by decide +kernel
theorem dX6_call_4 : decode cX6_call 4 = .ok (.iload_n 1, 1) := by decide +kernel
theorem dX6_call_5 : decode cX6_call 5 = .ok (.invokevirtual 58, 3) := by decide +kernel
theorem dX6_call_8 : decode cX6_call 8 = .ok (.ifCond .eq 32, 3) := by decide +kernel
theorem dX6_call_40 : decode cX6_call 40 = .ok (.iconst (-1), 1) := by decide +kernel
theorem dX6_call_41 : decode cX6_call 41 = .ok (.ireturn, 1) := by decide +kernel
theorem dX6_told_0 : decode cX6_told 0 = .ok (.iload_n 1, 1) := by decide +kernel
theorem dX6_told_1 : decode cX6_told 1 = .ok (.ifCond .ne 11, 3) := by decide +kernel
theorem dX6_told_4 : decode cX6_told 4 = .ok (.aload_n 0, 1) := by decide +kernel
theorem dX6_told_5 : decode cX6_told 5 = .ok (.getfield 12, 3) := by decide +kernel
theorem dX6_told_8 : decode cX6_told 8 = .ok (.getfield 47, 3) := by decide +kernel
theorem dX6_told_11 : decode cX6_told 11 = .ok (.ireturn, 1) := by decide +kernel
theorem dX6_told_12 : decode cX6_told 12 = .ok (.iload_n 1, 1) := by decide +kernel
theorem dX6_told_13 : decode cX6_told 13 = .ok (.iconst 1, 1) := by decide +kernel
theorem dX6_told_14 : decode cX6_told 14 = .ok (.if_icmp .ne 13, 3) := by decide +kernel
theorem dX6_told_17 : decode cX6_told 17 = .ok (.aload_n 0, 1) := by decide +kernel
theorem dX6_told_18 : decode cX6_told 18 = .ok (.getfield 21, 3) := by decide +kernel
theorem dX6_told_21 : decode cX6_told 21 = .ok (.getfield 76, 3) := by decide +kernel
theorem dX6_told_24 : decode cX6_told 24 = .ok (.goto 4, 3) := by decide +kernel
theorem dX6_told_27 : decode cX6_told 27 = .ok (.iconst (-1), 1) := by decide +kernel
theorem dX6_told_28 : decode cX6_told 28 = .ok (.ireturn, 1) := by decide +kernel
theorem dX6_within_0 : decode cX6_within 0 = .ok (.iload_n 0, 1) := by decide +kernel
theorem dX6_within_1 : decode cX6_within 1 = .ok (.ifCond .lt 12, 3) := by decide +kernel
theorem dX6_within_4 : decode cX6_within 4 = .ok (.iload_n 0, 1) := by decide +kernel
theorem dX6_within_5 : decode cX6_within 5 = .ok (.iload_n 1, 1) := by decide +kernel
theorem dX6_within_6 : decode cX6_within 6 = .ok (.if_icmp .ge 7, 3) := by decide +kernel
theorem dX6_within_9 : decode cX6_within 9 = .ok (.iconst 1, 1) := by decide +kernel
theorem dX6_within_10 : decode cX6_within 10 = .ok (.goto 4, 3) := by decide +kernel
theorem dX6_within_13 : decode cX6_within 13 = .ok (.iconst 0, 1) := by decide +kernel
theorem dX6_within_14 : decode cX6_within 14 = .ok (.ireturn, 1) := by decide +kernel
theorem dX6_bit_0 : decode cX6_bit 0 = .ok (.iconst 1, 1) := by decide +kernel
theorem dX6_bit_1 : decode cX6_bit 1 = .ok (.iload_n 0, 1) := by decide +kernel
theorem dX6_bit_2 : decode cX6_bit 2 = .ok (.ishl, 1) := by decide +kernel
theorem dX6_bit_3 : decode cX6_bit 3 = .ok (.ireturn, 1) := by decide +kernel
theorem dX6_holds_0 : decode cX6_holds 0 = .ok (.iload_n 0, 1) := by decide +kernel
theorem dX6_holds_1 : decode cX6_holds 1 = .ok (.iload_n 1, 1) := by decide +kernel
theorem dX6_holds_2 : decode cX6_holds 2 = .ok (.ishr, 1) := by decide +kernel
theorem dX6_holds_3 : decode cX6_holds 3 = .ok (.iconst 1, 1) := by decide +kernel
theorem dX6_holds_4 : decode cX6_holds 4 = .ok (.iand, 1) := by decide +kernel
theorem dX6_holds_5 : decode cX6_holds 5 = .ok (.ifCond .eq 7, 3) := by decide +kernel
theorem dX6_holds_8 : decode cX6_holds 8 = .ok (.iconst 1, 1) := by decide +kernel
theorem dX6_holds_9 : decode cX6_holds 9 = .ok (.goto 4, 3) := by decide +kernel
theorem dX6_holds_12 : decode cX6_holds 12 = .ok (.iconst 0, 1) := by decide +kernel
theorem dX6_holds_13 : decode cX6_holds 13 = .ok (.ireturn, 1) := by decide +kernel
theorem dX7_init_0 : decode cX7_init 0 = .ok (.aload_n 0, 1) := by decide +kernel
theorem dX7_init_1 : decode cX7_init 1 = .ok (.invokespecial 1, 3) := by decide +kernel
theorem dX7_init_4 : decode cX7_init 4 = .ok (.aload_n 0, 1) := by decide +kernel
theorem dX7_init_5 : decode cX7_init 5 = .ok (.bipush 20, 2) := by decide +kernel
theorem dX7_init_7 : decode cX7_init 7 = .ok (.newarray .int, 2) := by decide +kernel
theorem dX7_init_9 : decode cX7_init 9 = .ok (.putfield 7, 3) := by decide +kernel
theorem dX7_init_12 : decode cX7_init 12 = .ok (.aload_n 0, 1) := by decide +kernel
theorem dX7_init_13 : decode cX7_init 13 = .ok (.bipush 20, 2) := by decide +kernel
theorem dX7_init_15 : decode cX7_init 15 = .ok (.newarray .int, 2) := by decide +kernel
theorem dX7_init_17 : decode cX7_init 17 = .ok (.putfield 13, 3) := by decide +kernel
theorem dX7_init_20 : decode cX7_init 20 = .ok (.aload_n 0, 1) := by decide +kernel
theorem dX7_init_21 : decode cX7_init 21 = .ok (.bipush 20, 2) := by decide +kernel
theorem dX7_init_23 : decode cX7_init 23 = .ok (.newarray .int, 2) := by decide +kernel
theorem dX7_init_25 : decode cX7_init 25 = .ok (.putfield 16, 3) := by decide +kernel
theorem dX7_init_28 : decode cX7_init 28 = .ok (.aload_n 0, 1) := by decide +kernel
theorem dX7_init_29 : decode cX7_init 29 = .ok (.bipush 20, 2) := by decide +kernel
theorem dX7_init_31 : decode cX7_init 31 = .ok (.newarray .int, 2) := by decide +kernel
theorem dX7_init_33 : decode cX7_init 33 = .ok (.putfield 19, 3) := by decide +kernel
theorem dX7_init_36 : decode cX7_init 36 = .ok (.aload_n 0, 1) := by decide +kernel
theorem dX7_init_37 : decode cX7_init 37 = .ok (.bipush 60, 2) := by decide +kernel
theorem dX7_init_39 : decode cX7_init 39 = .ok (.newarray .int, 2) := by decide +kernel
theorem dX7_init_41 : decode cX7_init 41 = .ok (.putfield 22, 3) := by decide +kernel
theorem dX7_init_44 : decode cX7_init 44 = .ok (.aload_n 0, 1) := by decide +kernel
theorem dX7_init_45 : decode cX7_init 45 = .ok (.bipush 20, 2) := by decide +kernel
theorem dX7_init_47 : decode cX7_init 47 = .ok (.newarray .int, 2) := by decide +kernel
theorem dX7_init_49 : decode cX7_init 49 = .ok (.putfield 25, 3) := by decide +kernel
theorem dX7_init_52 : decode cX7_init 52 = .ok (.aload_n 0, 1) := by decide +kernel
theorem dX7_init_53 : decode cX7_init 53 = .ok (.bipush 60, 2) := by decide +kernel
theorem dX7_init_55 : decode cX7_init 55 = .ok (.newarray .int, 2) := by decide +kernel
theorem dX7_init_57 : decode cX7_init 57 = .ok (.putfield 28, 3) := by decide +kernel
theorem dX7_init_60 : decode cX7_init 60 = .ok (.aload_n 0, 1) := by decide +kernel
theorem dX7_init_61 : decode cX7_init 61 = .ok (.bipush 20, 2) := by decide +kernel
theorem dX7_init_63 : decode cX7_init 63 = .ok (.newarray .int, 2) := by decide +kernel
theorem dX7_init_65 : decode cX7_init 65 = .ok (.putfield 31, 3) := by decide +kernel
theorem dX7_init_68 : decode cX7_init 68 = .ok (.aload_n 0, 1) := by decide +kernel
theorem dX7_init_69 : decode cX7_init 69 = .ok (.bipush 80, 2) := by decide +kernel
theorem dX7_init_71 : decode cX7_init 71 = .ok (.newarray .int, 2) := by decide +kernel
theorem dX7_init_73 : decode cX7_init 73 = .ok (.putfield 34, 3) := by decide +kernel
theorem dX7_init_76 : decode cX7_init 76 = .ok (.aload_n 0, 1) := by decide +kernel
theorem dX7_init_77 : decode cX7_init 77 = .ok (.bipush 80, 2) := by decide +kernel
theorem dX7_init_79 : decode cX7_init 79 = .ok (.newarray .int, 2) := by decide +kernel
theorem dX7_init_81 : decode cX7_init 81 = .ok (.putfield 37, 3) := by decide +kernel
theorem dX7_init_84 : decode cX7_init 84 = .ok (.aload_n 0, 1) := by decide +kernel
theorem dX7_init_85 : decode cX7_init 85 = .ok (.bipush 80, 2) := by decide +kernel
theorem dX7_init_87 : decode cX7_init 87 = .ok (.newarray .int, 2) := by decide +kernel
theorem dX7_init_89 : decode cX7_init 89 = .ok (.putfield 40, 3) := by decide +kernel
theorem dX7_init_92 : decode cX7_init 92 = .ok (.aload_n 0, 1) := by decide +kernel
theorem dX7_init_93 : decode cX7_init 93 = .ok (.bipush 80, 2) := by decide +kernel
theorem dX7_init_95 : decode cX7_init 95 = .ok (.newarray .int, 2) := by decide +kernel
theorem dX7_init_97 : decode cX7_init 97 = .ok (.putfield 43, 3) := by decide +kernel
theorem dX7_init_100 : decode cX7_init 100 = .ok (.aload_n 0, 1) := by decide +kernel
theorem dX7_init_101 : decode cX7_init 101 = .ok (.bipush 80, 2) := by decide +kernel
theorem dX7_init_103 : decode cX7_init 103 = .ok (.newarray .int, 2) := by decide +kernel
theorem dX7_init_105 : decode cX7_init 105 = .ok (.putfield 46, 3) := by decide +kernel
theorem dX7_init_108 : decode cX7_init 108 = .ok (.aload_n 0, 1) := by decide +kernel
theorem dX7_init_109 : decode cX7_init 109 = .ok (.bipush 80, 2) := by decide +kernel
theorem dX7_init_111 : decode cX7_init 111 = .ok (.newarray .int, 2) := by decide +kernel
theorem dX7_init_113 : decode cX7_init 113 = .ok (.putfield 49, 3) := by decide +kernel
theorem dX7_init_116 : decode cX7_init 116 = .ok (.aload_n 0, 1) := by decide +kernel
theorem dX7_init_117 : decode cX7_init 117 = .ok (.sipush 400, 3) := by decide +kernel
theorem dX7_init_120 : decode cX7_init 120 = .ok (.newarray .boolean, 2) := by decide +kernel
theorem dX7_init_122 : decode cX7_init 122 = .ok (.putfield 52, 3) := by decide +kernel
theorem dX7_init_125 : decode cX7_init 125 = .ok (.aload_n 0, 1) := by decide +kernel
theorem dX7_init_126 : decode cX7_init 126 = .ok (.sipush 1600, 3) := by decide +kernel
theorem dX7_init_129 : decode cX7_init 129 = .ok (.newarray .boolean, 2) := by decide +kernel
theorem dX7_init_131 : decode cX7_init 131 = .ok (.putfield 56, 3) := by decide +kernel
theorem dX7_init_134 : decode cX7_init 134 = .ok (.aload_n 0, 1) := by decide +kernel
theorem dX7_init_135 : decode cX7_init 135 = .ok (.bipush 20, 2) := by decide +kernel
theorem dX7_init_137 : decode cX7_init 137 = .ok (.newarray .int, 2) := by decide +kernel
theorem dX7_init_139 : decode cX7_init 139 = .ok (.putfield 59, 3) := by decide +kernel
theorem dX7_init_142 : decode cX7_init 142 = .ok (.aload_n 0, 1) := by decide +kernel
theorem dX7_init_143 : decode cX7_init 143 = .ok (.sipush 6400, 3) := by decide +kernel
theorem dX7_init_146 : decode cX7_init 146 = .ok (.newarray .boolean, 2) := by decide +kernel
theorem dX7_init_148 : decode cX7_init 148 = .ok (.putfield 62, 3) := by decide +kernel
theorem dX7_init_151 : decode cX7_init 151 = .ok (.return_, 1) := by decide +kernel
theorem dX7_in_0 : decode cX7_in 0 = .ok (.iload_n 0, 1) := by decide +kernel
theorem dX7_in_1 : decode cX7_in 1 = .ok (.iload_n 1, 1) := by decide +kernel
theorem dX7_in_2 : decode cX7_in 2 = .ok (.if_icmp .lt 12, 3) := by decide +kernel
theorem dX7_in_5 : decode cX7_in 5 = .ok (.iload_n 0, 1) := by decide +kernel
theorem dX7_in_6 : decode cX7_in 6 = .ok (.iload_n 2, 1) := by decide +kernel
theorem dX7_in_7 : decode cX7_in 7 = .ok (.if_icmp .gt 7, 3) := by decide +kernel
theorem dX7_in_10 : decode cX7_in 10 = .ok (.iconst 1, 1) := by decide +kernel
theorem dX7_in_11 : decode cX7_in 11 = .ok (.goto 4, 3) := by decide +kernel
theorem dX7_in_14 : decode cX7_in 14 = .ok (.iconst 0, 1) := by decide +kernel
theorem dX7_in_15 : decode cX7_in 15 = .ok (.ireturn, 1) := by decide +kernel
theorem dX7_isType_0 : decode cX7_isType 0 = .ok (.iload_n 1, 1) := by decide +kernel
theorem dX7_isType_1 : decode cX7_isType 1 = .ok (.iconst 0, 1) := by decide +kernel
theorem dX7_isType_2 : decode cX7_isType 2 = .ok (.aload_n 0, 1) := by decide +kernel
theorem dX7_isType_3 : decode cX7_isType 3 = .ok (.getfield 65, 3) := by decide +kernel
theorem dX7_isType_6 : decode cX7_isType 6 = .ok (.iconst 1, 1) := by decide +kernel
theorem dX7_isType_7 : decode cX7_isType 7 = .ok (.isub, 1) := by decide +kernel
theorem dX7_isType_8 : decode cX7_isType 8 = .ok (.invokestatic 69, 3) := by decide +kernel
theorem dX7_isType_11 : decode cX7_isType 11 = .ok (.ireturn, 1) := by decide +kernel
theorem dX7_type_0 : decode cX7_type 0 = .ok (.iload_n 1, 1) := by decide +kernel
theorem dX7_type_1 : decode cX7_type 1 = .ok (.iconst 0, 1) := by decide +kernel
theorem dX7_type_2 : decode cX7_type 2 = .ok (.iconst 3, 1) := by decide +kernel
theorem dX7_type_3 : decode cX7_type 3 = .ok (.invokestatic 69, 3) := by decide +kernel
theorem dX7_type_6 : decode cX7_type 6 = .ok (.ifCond .eq 33, 3) := by decide +kernel
theorem dX7_type_9 : decode cX7_type 9 = .ok (.iload_n 2, 1) := by decide +kernel
theorem dX7_type_10 : decode cX7_type 10 = .ok (.iconst 0, 1) := by decide +kernel
theorem dX7_type_11 : decode cX7_type 11 = .ok (.bipush 15, 2) := by decide +kernel
theorem dX7_type_13 : decode cX7_type 13 = .ok (.invokestatic 69, 3) := by decide +kernel
theorem dX7_type_16 : decode cX7_type 16 = .ok (.ifCond .eq 23, 3) := by decide +kernel
theorem dX7_type_19 : decode cX7_type 19 = .ok (.iload_n 3, 1) := by decide +kernel
theorem dX7_type_20 : decode cX7_type 20 = .ok (.iconst 0, 1) := by decide +kernel
theorem dX7_type_21 : decode cX7_type 21 = .ok (.iconst 3, 1) := by decide +kernel
theorem dX7_type_22 : decode cX7_type 22 = .ok (.invokestatic 69, 3) := by decide +kernel
theorem dX7_type_25 : decode cX7_type 25 = .ok (.ifCond .eq 14, 3) := by decide +kernel
theorem dX7_type_28 : decode cX7_type 28 = .ok (.iload 4, 2) := by decide +kernel
theorem dX7_type_30 : decode cX7_type 30 = .ok (.iconst (-1), 1) := by decide +kernel
theorem dX7_type_31 : decode cX7_type 31 = .ok (.bipush 19, 2) := by decide +kernel
theorem dX7_type_33 : decode cX7_type 33 = .ok (.invokestatic 69, 3) := by decide +kernel
theorem dX7_type_36 : decode cX7_type 36 = .ok (.ifCond .ne 5, 3) := by decide +kernel
theorem dX7_type_39 : decode cX7_type 39 = .ok (.iconst (-1), 1) := by decide +kernel
theorem dX7_type_40 : decode cX7_type 40 = .ok (.ireturn, 1) := by decide +kernel
theorem dX7_type_41 : decode cX7_type 41 = .ok (.aload_n 0, 1) := by decide +kernel
theorem dX7_type_42 : decode cX7_type 42 = .ok (.getfield 65, 3) := by decide +kernel
theorem dX7_type_45 : decode cX7_type 45 = .ok (.bipush 20, 2) := by decide +kernel
theorem dX7_type_47 : decode cX7_type 47 = .ok (.if_icmp .ne 6, 3) := by decide +kernel
theorem dX7_type_50 : decode cX7_type 50 = .ok (.bipush (-2), 2) := by decide +kernel
theorem dX7_type_52 : decode cX7_type 52 = .ok (.ireturn, 1) := by decide +kernel
theorem dX7_type_53 : decode cX7_type 53 = .ok (.aload_n 0, 1) := by decide +kernel
theorem dX7_type_54 : decode cX7_type 54 = .ok (.getfield 7, 3) := by decide +kernel
theorem dX7_type_57 : decode cX7_type 57 = .ok (.aload_n 0, 1) := by decide +kernel
theorem dX7_type_58 : decode cX7_type 58 = .ok (.getfield 65, 3) := by decide +kernel
theorem dX7_type_61 : decode cX7_type 61 = .ok (.iload_n 1, 1) := by decide +kernel
theorem dX7_type_62 : decode cX7_type 62 = .ok (.iastore, 1) := by decide +kernel
theorem dX7_type_63 : decode cX7_type 63 = .ok (.aload_n 0, 1) := by decide +kernel
theorem dX7_type_64 : decode cX7_type 64 = .ok (.getfield 13, 3) := by decide +kernel
theorem dX7_type_67 : decode cX7_type 67 = .ok (.aload_n 0, 1) := by decide +kernel
theorem dX7_type_68 : decode cX7_type 68 = .ok (.getfield 65, 3) := by decide +kernel
theorem dX7_type_71 : decode cX7_type 71 = .ok (.iload_n 2, 1) := by decide +kernel
theorem dX7_type_72 : decode cX7_type 72 = .ok (.iastore, 1) := by decide +kernel
theorem dX7_type_73 : decode cX7_type 73 = .ok (.aload_n 0, 1) := by decide +kernel
theorem dX7_type_74 : decode cX7_type 74 = .ok (.getfield 16, 3) := by decide +kernel
theorem dX7_type_77 : decode cX7_type 77 = .ok (.aload_n 0, 1) := by decide +kernel
theorem dX7_type_78 : decode cX7_type 78 = .ok (.getfield 65, 3) := by decide +kernel
theorem dX7_type_81 : decode cX7_type 81 = .ok (.iload_n 3, 1) := by decide +kernel
theorem dX7_type_82 : decode cX7_type 82 = .ok (.iastore, 1) := by decide +kernel
theorem dX7_type_83 : decode cX7_type 83 = .ok (.aload_n 0, 1) := by decide +kernel
theorem dX7_type_84 : decode cX7_type 84 = .ok (.getfield 19, 3) := by decide +kernel
theorem dX7_type_87 : decode cX7_type 87 = .ok (.aload_n 0, 1) := by decide +kernel
theorem dX7_type_88 : decode cX7_type 88 = .ok (.getfield 65, 3) := by decide +kernel
theorem dX7_type_91 : decode cX7_type 91 = .ok (.iload 4, 2) := by decide +kernel
theorem dX7_type_93 : decode cX7_type 93 = .ok (.iastore, 1) := by decide +kernel
theorem dX7_type_94 : decode cX7_type 94 = .ok (.aload_n 0, 1) := by decide +kernel
theorem dX7_type_95 : decode cX7_type 95 = .ok (.dup, 1) := by decide +kernel
theorem dX7_type_96 : decode cX7_type 96 = .ok (.getfield 65, 3) := by decide +kernel
theorem dX7_type_99 : decode cX7_type 99 = .ok (.iconst 1, 1) := by decide +kernel
theorem dX7_type_100 : decode cX7_type 100 = .ok (.iadd, 1) := by decide +kernel
theorem dX7_type_101 : decode cX7_type 101 = .ok (.putfield 65, 3) := by decide +kernel
theorem dX7_type_104 : decode cX7_type 104 = .ok (.aload_n 0, 1) := by decide +kernel
theorem dX7_type_105 : decode cX7_type 105 = .ok (.iconst 0, 1) := by decide +kernel
theorem dX7_type_106 : decode cX7_type 106 = .ok (.putfield 73, 3) := by decide +kernel
theorem dX7_type_109 : decode cX7_type 109 = .ok (.aload_n 0, 1) := by decide +kernel
theorem dX7_type_110 : decode cX7_type 110 = .ok (.getfield 65, 3) := by decide +kernel
theorem dX7_type_113 : decode cX7_type 113 = .ok (.iconst 1, 1) := by decide +kernel
theorem dX7_type_114 : decode cX7_type 114 = .ok (.isub, 1) := by decide +kernel
theorem dX7_type_115 : decode cX7_type 115 = .ok (.ireturn, 1) := by decide +kernel
theorem dX7_upper_0 : decode cX7_upper 0 = .ok (.aload_n 0, 1) := by decide +kernel
theorem dX7_upper_1 : decode cX7_upper 1 = .ok (.iload_n 1, 1) := by decide +kernel
theorem dX7_upper_2 : decode cX7_upper 2 = .ok (.invokevirtual 77, 3) := by decide +kernel
theorem dX7_upper_5 : decode cX7_upper 5 = .ok (.ifCond .eq 13, 3) := by decide +kernel
theorem dX7_upper_18 : decode cX7_upper 18 = .ok (.iconst (-1), 1) := by decide +kernel
theorem dX7_upper_19 : decode cX7_upper 19 = .ok (.ireturn, 1) := by decide +kernel
theorem dX7_permit_0 : decode cX7_permit 0 = .ok (.aload_n 0, 1) := by decide +kernel
theorem dX7_permit_1 : decode cX7_permit 1 = .ok (.iload_n 1, 1) := by decide +kernel
theorem dX7_permit_2 : decode cX7_permit 2 = .ok (.invokevirtual 77, 3) := by decide +kernel
theorem dX7_permit_5 : decode cX7_permit 5 = .ok (.ifCond .eq 13, 3) := by decide +kernel
theorem dX7_permit_18 : decode cX7_permit 18 = .ok (.iconst (-1), 1) := by decide +kernel
theorem dX7_permit_19 : decode cX7_permit 19 = .ok (.ireturn, 1) := by decide +kernel
theorem dX7_member_0 : decode cX7_member 0 = .ok (.aload_n 0, 1) := by decide +kernel
theorem dX7_member_1 : decode cX7_member 1 = .ok (.iload_n 1, 1) := by decide +kernel
theorem dX7_member_2 : decode cX7_member 2 = .ok (.invokevirtual 77, 3) := by decide +kernel
theorem dX7_member_5 : decode cX7_member 5 = .ok (.ifCond .eq 54, 3) := by decide +kernel
theorem dX7_member_59 : decode cX7_member 59 = .ok (.iconst (-1), 1) := by decide +kernel
theorem dX7_member_60 : decode cX7_member 60 = .ok (.ireturn, 1) := by decide +kernel
theorem dX7_faults_0 : decode cX7_faults 0 = .ok (.aload_n 0, 1) := by decide +kernel
theorem dX7_faults_1 : decode cX7_faults 1 = .ok (.iload_n 1, 1) := by decide +kernel
theorem dX7_faults_2 : decode cX7_faults 2 = .ok (.invokevirtual 77, 3) := by decide +kernel
theorem dX7_faults_5 : decode cX7_faults 5 = .ok (.ifCond .ne 5, 3) := by decide +kernel
theorem dX7_faults_8 : decode cX7_faults 8 = .ok (.iconst (-1), 1) := by decide +kernel
theorem dX7_faults_9 : decode cX7_faults 9 = .ok (.ireturn, 1) := by decide +kernel
theorem dX7_fault_0 : decode cX7_fault 0 = .ok (.aload_n 0, 1) := by decide +kernel
theorem dX7_fault_1 : decode cX7_fault 1 = .ok (.iload_n 1, 1) := by decide +kernel
theorem dX7_fault_2 : decode cX7_fault 2 = .ok (.invokevirtual 77, 3) := by decide +kernel
theorem dX7_fault_5 : decode cX7_fault 5 = .ok (.ifCond .eq 16, 3) := by decide +kernel
theorem dX7_fault_21 : decode cX7_fault 21 = .ok (.iconst (-1), 1) := by decide +kernel
theorem dX7_fault_22 : decode cX7_fault 22 = .ok (.ireturn, 1) := by decide +kernel
theorem dX7_all_0 : decode cX7_all 0 = .ok (.iconst 0, 1) := by decide +kernel
theorem dX7_all_1 : decode cX7_all 1 = .ok (.istore_n 1, 1) := by decide +kernel
theorem dX7_all_2 : decode cX7_all 2 = .ok (.iconst 0, 1) := by decide +kernel
theorem dX7_all_3 : decode cX7_all 3 = .ok (.istore_n 2, 1) := by decide +kernel
theorem dX7_all_4 : decode cX7_all 4 = .ok (.iload_n 2, 1) := by decide +kernel
theorem dX7_all_5 : decode cX7_all 5 = .ok (.aload_n 0, 1) := by decide +kernel
theorem dX7_all_6 : decode cX7_all 6 = .ok (.getfield 65, 3) := by decide +kernel
theorem dX7_all_9 : decode cX7_all 9 = .ok (.if_icmp .ge 17, 3) := by decide +kernel
theorem dX7_all_26 : decode cX7_all 26 = .ok (.iload_n 1, 1) := by decide +kernel
theorem dX7_all_27 : decode cX7_all 27 = .ok (.ireturn, 1) := by decide +kernel
theorem dX7_is__0 : decode cX7_is_ 0 = .ok (.aload_n 0, 1) := by decide +kernel
theorem dX7_is__1 : decode cX7_is_ 1 = .ok (.iload_n 1, 1) := by decide +kernel
theorem dX7_is__2 : decode cX7_is_ 2 = .ok (.invokevirtual 77, 3) := by decide +kernel
theorem dX7_is__5 : decode cX7_is_ 5 = .ok (.ifCond .eq 28, 3) := by decide +kernel
theorem dX7_is__33 : decode cX7_is_ 33 = .ok (.iconst (-1), 1) := by decide +kernel
theorem dX7_is__34 : decode cX7_is_ 34 = .ok (.ireturn, 1) := by decide +kernel
theorem dX7_runs_0 : decode cX7_runs 0 = .ok (.aload_n 0, 1) := by decide +kernel
theorem dX7_runs_1 : decode cX7_runs 1 = .ok (.iload_n 1, 1) := by decide +kernel
theorem dX7_runs_2 : decode cX7_runs 2 = .ok (.invokevirtual 77, 3) := by decide +kernel
theorem dX7_runs_5 : decode cX7_runs 5 = .ok (.ifCond .eq 22, 3) := by decide +kernel
theorem dX7_runs_27 : decode cX7_runs 27 = .ok (.iconst (-1), 1) := by decide +kernel
theorem dX7_runs_28 : decode cX7_runs 28 = .ok (.ireturn, 1) := by decide +kernel
theorem dX7_call_0 : decode cX7_call 0 = .ok (.aload_n 0, 1) := by decide +kernel
theorem dX7_call_1 : decode cX7_call 1 = .ok (.iload_n 1, 1) := by decide +kernel
theorem dX7_call_2 : decode cX7_call 2 = .ok (.invokevirtual 77, 3) := by decide +kernel
theorem dX7_call_5 : decode cX7_call 5 = .ok (.ifCond .eq 31, 3) := by decide +kernel
theorem dX7_call_36 : decode cX7_call 36 = .ok (.iconst (-1), 1) := by decide +kernel
theorem dX7_call_37 : decode cX7_call 37 = .ok (.ireturn, 1) := by decide +kernel
theorem dX7_told_0 : decode cX7_told 0 = .ok (.iload_n 1, 1) := by decide +kernel
theorem dX7_told_1 : decode cX7_told 1 = .ok (.ifCond .ne 10, 3) := by decide +kernel
theorem dX7_told_4 : decode cX7_told 4 = .ok (.aload_n 0, 1) := by decide +kernel
theorem dX7_told_5 : decode cX7_told 5 = .ok (.getfield 65, 3) := by decide +kernel
theorem dX7_told_8 : decode cX7_told 8 = .ok (.goto 16, 3) := by decide +kernel
theorem dX7_told_11 : decode cX7_told 11 = .ok (.iload_n 1, 1) := by decide +kernel
theorem dX7_told_12 : decode cX7_told 12 = .ok (.iconst 1, 1) := by decide +kernel
theorem dX7_told_13 : decode cX7_told 13 = .ok (.if_icmp .ne 10, 3) := by decide +kernel
theorem dX7_told_16 : decode cX7_told 16 = .ok (.aload_n 0, 1) := by decide +kernel
theorem dX7_told_17 : decode cX7_told 17 = .ok (.getfield 81, 3) := by decide +kernel
theorem dX7_told_20 : decode cX7_told 20 = .ok (.goto 4, 3) := by decide +kernel
theorem dX7_told_23 : decode cX7_told 23 = .ok (.iconst (-1), 1) := by decide +kernel
theorem dX7_told_24 : decode cX7_told 24 = .ok (.ireturn, 1) := by decide +kernel
theorem dL_law_0 : decode cL_law 0 = .ok (.new 7, 3) := by decide +kernel
theorem dL_law_3 : decode cL_law 3 = .ok (.dup, 1) := by decide +kernel
theorem dL_law_4 : decode cL_law 4 = .ok (.invokespecial 9, 3) := by decide +kernel
theorem dL_law_7 : decode cL_law 7 = .ok (.astore_n 1, 1) := by decide +kernel
theorem dL_law_8 : decode cL_law 8 = .ok (.new 10, 3) := by decide +kernel
theorem dL_law_11 : decode cL_law 11 = .ok (.dup, 1) := by decide +kernel
theorem dL_law_12 : decode cL_law 12 = .ok (.invokespecial 12, 3) := by decide +kernel
theorem dL_law_15 : decode cL_law 15 = .ok (.astore_n 2, 1) := by decide +kernel
theorem dL_law_16 : decode cL_law 16 = .ok (.iconst 0, 1) := by decide +kernel
theorem dL_law_17 : decode cL_law 17 = .ok (.istore_n 3, 1) := by decide +kernel
theorem dL_law_18 : decode cL_law 18 = .ok (.iload_n 3, 1) := by decide +kernel
theorem dL_law_19 : decode cL_law 19 = .ok (.aload_n 0, 1) := by decide +kernel
theorem dL_law_20 : decode cL_law 20 = .ok (.arraylength, 1) := by decide +kernel
theorem dL_law_21 : decode cL_law 21 = .ok (.bipush 7, 2) := by decide +kernel
theorem dL_law_23 : decode cL_law 23 = .ok (.isub, 1) := by decide +kernel
theorem dL_law_24 : decode cL_law 24 = .ok (.if_icmp .gt 499, 3) := by decide +kernel
theorem dL_law_27 : decode cL_law 27 = .ok (.aload_n 0, 1) := by decide +kernel
theorem dL_law_28 : decode cL_law 28 = .ok (.iload_n 3, 1) := by decide +kernel
theorem dL_law_29 : decode cL_law 29 = .ok (.iaload, 1) := by decide +kernel
theorem dL_law_30 : decode cL_law 30 = .ok (.bipush 15, 2) := by decide +kernel
theorem dL_law_32 : decode cL_law 32 = .ok (.iand, 1) := by decide +kernel
theorem dL_law_33 : decode cL_law 33 = .ok (.tableswitch 484 0 10 #[59, 112, 145, 178, 253, 276, 319, 332, 365, 408, 461], 59) := by decide +kernel
theorem dL_law_92 : decode cL_law 92 = .ok (.aload_n 1, 1) := by decide +kernel
theorem dL_law_93 : decode cL_law 93 = .ok (.aload_n 0, 1) := by decide +kernel
theorem dL_law_94 : decode cL_law 94 = .ok (.iload_n 3, 1) := by decide +kernel
theorem dL_law_95 : decode cL_law 95 = .ok (.iconst 1, 1) := by decide +kernel
theorem dL_law_96 : decode cL_law 96 = .ok (.iadd, 1) := by decide +kernel
theorem dL_law_97 : decode cL_law 97 = .ok (.iaload, 1) := by decide +kernel
theorem dL_law_98 : decode cL_law 98 = .ok (.aload_n 0, 1) := by decide +kernel
theorem dL_law_99 : decode cL_law 99 = .ok (.iload_n 3, 1) := by decide +kernel
theorem dL_law_100 : decode cL_law 100 = .ok (.iconst 2, 1) := by decide +kernel
theorem dL_law_101 : decode cL_law 101 = .ok (.iadd, 1) := by decide +kernel
theorem dL_law_102 : decode cL_law 102 = .ok (.iaload, 1) := by decide +kernel
theorem dL_law_103 : decode cL_law 103 = .ok (.aload_n 0, 1) := by decide +kernel
theorem dL_law_104 : decode cL_law 104 = .ok (.iload_n 3, 1) := by decide +kernel
theorem dL_law_105 : decode cL_law 105 = .ok (.iconst 3, 1) := by decide +kernel
theorem dL_law_106 : decode cL_law 106 = .ok (.iadd, 1) := by decide +kernel
theorem dL_law_107 : decode cL_law 107 = .ok (.iaload, 1) := by decide +kernel
theorem dL_law_108 : decode cL_law 108 = .ok (.aload_n 0, 1) := by decide +kernel
theorem dL_law_109 : decode cL_law 109 = .ok (.iload_n 3, 1) := by decide +kernel
theorem dL_law_110 : decode cL_law 110 = .ok (.iconst 4, 1) := by decide +kernel
theorem dL_law_111 : decode cL_law 111 = .ok (.iadd, 1) := by decide +kernel
theorem dL_law_112 : decode cL_law 112 = .ok (.iaload, 1) := by decide +kernel
theorem dL_law_113 : decode cL_law 113 = .ok (.invokevirtual 13, 3) := by decide +kernel
theorem dL_law_116 : decode cL_law 116 = .ok (.aload_n 2, 1) := by decide +kernel
theorem dL_law_117 : decode cL_law 117 = .ok (.aload_n 0, 1) := by decide +kernel
theorem dL_law_118 : decode cL_law 118 = .ok (.iload_n 3, 1) := by decide +kernel
theorem dL_law_119 : decode cL_law 119 = .ok (.iconst 1, 1) := by decide +kernel
theorem dL_law_120 : decode cL_law 120 = .ok (.iadd, 1) := by decide +kernel
theorem dL_law_121 : decode cL_law 121 = .ok (.iaload, 1) := by decide +kernel
theorem dL_law_122 : decode cL_law 122 = .ok (.aload_n 0, 1) := by decide +kernel
theorem dL_law_123 : decode cL_law 123 = .ok (.iload_n 3, 1) := by decide +kernel
theorem dL_law_124 : decode cL_law 124 = .ok (.iconst 2, 1) := by decide +kernel
theorem dL_law_125 : decode cL_law 125 = .ok (.iadd, 1) := by decide +kernel
theorem dL_law_126 : decode cL_law 126 = .ok (.iaload, 1) := by decide +kernel
theorem dL_law_127 : decode cL_law 127 = .ok (.aload_n 0, 1) := by decide +kernel
theorem dL_law_128 : decode cL_law 128 = .ok (.iload_n 3, 1) := by decide +kernel
theorem dL_law_129 : decode cL_law 129 = .ok (.iconst 3, 1) := by decide +kernel
theorem dL_law_130 : decode cL_law 130 = .ok (.iadd, 1) := by decide +kernel
theorem dL_law_131 : decode cL_law 131 = .ok (.iaload, 1) := by decide +kernel
theorem dL_law_132 : decode cL_law 132 = .ok (.aload_n 0, 1) := by decide +kernel
theorem dL_law_133 : decode cL_law 133 = .ok (.iload_n 3, 1) := by decide +kernel
theorem dL_law_134 : decode cL_law 134 = .ok (.iconst 4, 1) := by decide +kernel
theorem dL_law_135 : decode cL_law 135 = .ok (.iadd, 1) := by decide +kernel
theorem dL_law_136 : decode cL_law 136 = .ok (.iaload, 1) := by decide +kernel
theorem dL_law_137 : decode cL_law 137 = .ok (.invokevirtual 17, 3) := by decide +kernel
theorem dL_law_140 : decode cL_law 140 = .ok (.if_icmp .eq 377, 3) := by decide +kernel
theorem dL_law_145 : decode cL_law 145 = .ok (.aload_n 1, 1) := by decide +kernel
theorem dL_law_146 : decode cL_law 146 = .ok (.aload_n 0, 1) := by decide +kernel
theorem dL_law_147 : decode cL_law 147 = .ok (.iload_n 3, 1) := by decide +kernel
theorem dL_law_148 : decode cL_law 148 = .ok (.iconst 1, 1) := by decide +kernel
theorem dL_law_149 : decode cL_law 149 = .ok (.iadd, 1) := by decide +kernel
theorem dL_law_150 : decode cL_law 150 = .ok (.iaload, 1) := by decide +kernel
theorem dL_law_151 : decode cL_law 151 = .ok (.aload_n 0, 1) := by decide +kernel
theorem dL_law_152 : decode cL_law 152 = .ok (.iload_n 3, 1) := by decide +kernel
theorem dL_law_153 : decode cL_law 153 = .ok (.iconst 2, 1) := by decide +kernel
theorem dL_law_154 : decode cL_law 154 = .ok (.iadd, 1) := by decide +kernel
theorem dL_law_155 : decode cL_law 155 = .ok (.iaload, 1) := by decide +kernel
theorem dL_law_156 : decode cL_law 156 = .ok (.invokevirtual 18, 3) := by decide +kernel
theorem dL_law_159 : decode cL_law 159 = .ok (.aload_n 2, 1) := by decide +kernel
theorem dL_law_160 : decode cL_law 160 = .ok (.aload_n 0, 1) := by decide +kernel
theorem dL_law_161 : decode cL_law 161 = .ok (.iload_n 3, 1) := by decide +kernel
theorem dL_law_162 : decode cL_law 162 = .ok (.iconst 1, 1) := by decide +kernel
theorem dL_law_163 : decode cL_law 163 = .ok (.iadd, 1) := by decide +kernel
theorem dL_law_164 : decode cL_law 164 = .ok (.iaload, 1) := by decide +kernel
theorem dL_law_165 : decode cL_law 165 = .ok (.aload_n 0, 1) := by decide +kernel
theorem dL_law_166 : decode cL_law 166 = .ok (.iload_n 3, 1) := by decide +kernel
theorem dL_law_167 : decode cL_law 167 = .ok (.iconst 2, 1) := by decide +kernel
theorem dL_law_168 : decode cL_law 168 = .ok (.iadd, 1) := by decide +kernel
theorem dL_law_169 : decode cL_law 169 = .ok (.iaload, 1) := by decide +kernel
theorem dL_law_170 : decode cL_law 170 = .ok (.invokevirtual 22, 3) := by decide +kernel
theorem dL_law_173 : decode cL_law 173 = .ok (.if_icmp .eq 344, 3) := by decide +kernel
theorem dL_law_178 : decode cL_law 178 = .ok (.aload_n 1, 1) := by decide +kernel
theorem dL_law_179 : decode cL_law 179 = .ok (.aload_n 0, 1) := by decide +kernel
theorem dL_law_180 : decode cL_law 180 = .ok (.iload_n 3, 1) := by decide +kernel
theorem dL_law_181 : decode cL_law 181 = .ok (.iconst 1, 1) := by decide +kernel
theorem dL_law_182 : decode cL_law 182 = .ok (.iadd, 1) := by decide +kernel
theorem dL_law_183 : decode cL_law 183 = .ok (.iaload, 1) := by decide +kernel
theorem dL_law_184 : decode cL_law 184 = .ok (.aload_n 0, 1) := by decide +kernel
theorem dL_law_185 : decode cL_law 185 = .ok (.iload_n 3, 1) := by decide +kernel
theorem dL_law_186 : decode cL_law 186 = .ok (.iconst 2, 1) := by decide +kernel
theorem dL_law_187 : decode cL_law 187 = .ok (.iadd, 1) := by decide +kernel
theorem dL_law_188 : decode cL_law 188 = .ok (.iaload, 1) := by decide +kernel
theorem dL_law_189 : decode cL_law 189 = .ok (.invokevirtual 23, 3) := by decide +kernel
theorem dL_law_192 : decode cL_law 192 = .ok (.aload_n 2, 1) := by decide +kernel
theorem dL_law_193 : decode cL_law 193 = .ok (.aload_n 0, 1) := by decide +kernel
theorem dL_law_194 : decode cL_law 194 = .ok (.iload_n 3, 1) := by decide +kernel
theorem dL_law_195 : decode cL_law 195 = .ok (.iconst 1, 1) := by decide +kernel
theorem dL_law_196 : decode cL_law 196 = .ok (.iadd, 1) := by decide +kernel
theorem dL_law_197 : decode cL_law 197 = .ok (.iaload, 1) := by decide +kernel
theorem dL_law_198 : decode cL_law 198 = .ok (.aload_n 0, 1) := by decide +kernel
theorem dL_law_199 : decode cL_law 199 = .ok (.iload_n 3, 1) := by decide +kernel
theorem dL_law_200 : decode cL_law 200 = .ok (.iconst 2, 1) := by decide +kernel
theorem dL_law_201 : decode cL_law 201 = .ok (.iadd, 1) := by decide +kernel
theorem dL_law_202 : decode cL_law 202 = .ok (.iaload, 1) := by decide +kernel
theorem dL_law_203 : decode cL_law 203 = .ok (.invokevirtual 26, 3) := by decide +kernel
theorem dL_law_206 : decode cL_law 206 = .ok (.if_icmp .eq 311, 3) := by decide +kernel
theorem dL_law_211 : decode cL_law 211 = .ok (.aload_n 1, 1) := by decide +kernel
theorem dL_law_212 : decode cL_law 212 = .ok (.aload_n 0, 1) := by decide +kernel
theorem dL_law_213 : decode cL_law 213 = .ok (.iload_n 3, 1) := by decide +kernel
theorem dL_law_214 : decode cL_law 214 = .ok (.iconst 1, 1) := by decide +kernel
theorem dL_law_215 : decode cL_law 215 = .ok (.iadd, 1) := by decide +kernel
theorem dL_law_216 : decode cL_law 216 = .ok (.iaload, 1) := by decide +kernel
theorem dL_law_217 : decode cL_law 217 = .ok (.aload_n 0, 1) := by decide +kernel
theorem dL_law_218 : decode cL_law 218 = .ok (.iload_n 3, 1) := by decide +kernel
theorem dL_law_219 : decode cL_law 219 = .ok (.iconst 2, 1) := by decide +kernel
theorem dL_law_220 : decode cL_law 220 = .ok (.iadd, 1) := by decide +kernel
theorem dL_law_221 : decode cL_law 221 = .ok (.iaload, 1) := by decide +kernel
theorem dL_law_222 : decode cL_law 222 = .ok (.aload_n 0, 1) := by decide +kernel
theorem dL_law_223 : decode cL_law 223 = .ok (.iload_n 3, 1) := by decide +kernel
theorem dL_law_224 : decode cL_law 224 = .ok (.iconst 3, 1) := by decide +kernel
theorem dL_law_225 : decode cL_law 225 = .ok (.iadd, 1) := by decide +kernel
theorem dL_law_226 : decode cL_law 226 = .ok (.iaload, 1) := by decide +kernel
theorem dL_law_227 : decode cL_law 227 = .ok (.aload_n 0, 1) := by decide +kernel
theorem dL_law_228 : decode cL_law 228 = .ok (.iload_n 3, 1) := by decide +kernel
theorem dL_law_229 : decode cL_law 229 = .ok (.iconst 4, 1) := by decide +kernel
theorem dL_law_230 : decode cL_law 230 = .ok (.iadd, 1) := by decide +kernel
theorem dL_law_231 : decode cL_law 231 = .ok (.iaload, 1) := by decide +kernel
theorem dL_law_232 : decode cL_law 232 = .ok (.aload_n 0, 1) := by decide +kernel
theorem dL_law_233 : decode cL_law 233 = .ok (.iload_n 3, 1) := by decide +kernel
theorem dL_law_234 : decode cL_law 234 = .ok (.iconst 5, 1) := by decide +kernel
theorem dL_law_235 : decode cL_law 235 = .ok (.iadd, 1) := by decide +kernel
theorem dL_law_236 : decode cL_law 236 = .ok (.iaload, 1) := by decide +kernel
theorem dL_law_237 : decode cL_law 237 = .ok (.aload_n 0, 1) := by decide +kernel
theorem dL_law_238 : decode cL_law 238 = .ok (.iload_n 3, 1) := by decide +kernel
theorem dL_law_239 : decode cL_law 239 = .ok (.bipush 6, 2) := by decide +kernel
theorem dL_law_241 : decode cL_law 241 = .ok (.iadd, 1) := by decide +kernel
theorem dL_law_242 : decode cL_law 242 = .ok (.iaload, 1) := by decide +kernel
theorem dL_law_243 : decode cL_law 243 = .ok (.invokevirtual 27, 3) := by decide +kernel
theorem dL_law_246 : decode cL_law 246 = .ok (.aload_n 2, 1) := by decide +kernel
theorem dL_law_247 : decode cL_law 247 = .ok (.aload_n 0, 1) := by decide +kernel
theorem dL_law_248 : decode cL_law 248 = .ok (.iload_n 3, 1) := by decide +kernel
theorem dL_law_249 : decode cL_law 249 = .ok (.iconst 1, 1) := by decide +kernel
theorem dL_law_250 : decode cL_law 250 = .ok (.iadd, 1) := by decide +kernel
theorem dL_law_251 : decode cL_law 251 = .ok (.iaload, 1) := by decide +kernel
theorem dL_law_252 : decode cL_law 252 = .ok (.aload_n 0, 1) := by decide +kernel
theorem dL_law_253 : decode cL_law 253 = .ok (.iload_n 3, 1) := by decide +kernel
theorem dL_law_254 : decode cL_law 254 = .ok (.iconst 2, 1) := by decide +kernel
theorem dL_law_255 : decode cL_law 255 = .ok (.iadd, 1) := by decide +kernel
theorem dL_law_256 : decode cL_law 256 = .ok (.iaload, 1) := by decide +kernel
theorem dL_law_257 : decode cL_law 257 = .ok (.aload_n 0, 1) := by decide +kernel
theorem dL_law_258 : decode cL_law 258 = .ok (.iload_n 3, 1) := by decide +kernel
theorem dL_law_259 : decode cL_law 259 = .ok (.iconst 3, 1) := by decide +kernel
theorem dL_law_260 : decode cL_law 260 = .ok (.iadd, 1) := by decide +kernel
theorem dL_law_261 : decode cL_law 261 = .ok (.iaload, 1) := by decide +kernel
theorem dL_law_262 : decode cL_law 262 = .ok (.aload_n 0, 1) := by decide +kernel
theorem dL_law_263 : decode cL_law 263 = .ok (.iload_n 3, 1) := by decide +kernel
theorem dL_law_264 : decode cL_law 264 = .ok (.iconst 4, 1) := by decide +kernel
theorem dL_law_265 : decode cL_law 265 = .ok (.iadd, 1) := by decide +kernel
theorem dL_law_266 : decode cL_law 266 = .ok (.iaload, 1) := by decide +kernel
theorem dL_law_267 : decode cL_law 267 = .ok (.aload_n 0, 1) := by decide +kernel
theorem dL_law_268 : decode cL_law 268 = .ok (.iload_n 3, 1) := by decide +kernel
theorem dL_law_269 : decode cL_law 269 = .ok (.iconst 5, 1) := by decide +kernel
theorem dL_law_270 : decode cL_law 270 = .ok (.iadd, 1) := by decide +kernel
theorem dL_law_271 : decode cL_law 271 = .ok (.iaload, 1) := by decide +kernel
theorem dL_law_272 : decode cL_law 272 = .ok (.aload_n 0, 1) := by decide +kernel
theorem dL_law_273 : decode cL_law 273 = .ok (.iload_n 3, 1) := by decide +kernel
theorem dL_law_274 : decode cL_law 274 = .ok (.bipush 6, 2) := by decide +kernel
theorem dL_law_276 : decode cL_law 276 = .ok (.iadd, 1) := by decide +kernel
theorem dL_law_277 : decode cL_law 277 = .ok (.iaload, 1) := by decide +kernel
theorem dL_law_278 : decode cL_law 278 = .ok (.invokevirtual 31, 3) := by decide +kernel
theorem dL_law_281 : decode cL_law 281 = .ok (.if_icmp .eq 236, 3) := by decide +kernel
theorem dL_law_286 : decode cL_law 286 = .ok (.aload_n 1, 1) := by decide +kernel
theorem dL_law_287 : decode cL_law 287 = .ok (.aload_n 0, 1) := by decide +kernel
theorem dL_law_288 : decode cL_law 288 = .ok (.iload_n 3, 1) := by decide +kernel
theorem dL_law_289 : decode cL_law 289 = .ok (.iconst 1, 1) := by decide +kernel
theorem dL_law_290 : decode cL_law 290 = .ok (.iadd, 1) := by decide +kernel
theorem dL_law_291 : decode cL_law 291 = .ok (.iaload, 1) := by decide +kernel
theorem dL_law_292 : decode cL_law 292 = .ok (.invokevirtual 32, 3) := by decide +kernel
theorem dL_law_295 : decode cL_law 295 = .ok (.aload_n 2, 1) := by decide +kernel
theorem dL_law_296 : decode cL_law 296 = .ok (.aload_n 0, 1) := by decide +kernel
theorem dL_law_297 : decode cL_law 297 = .ok (.iload_n 3, 1) := by decide +kernel
theorem dL_law_298 : decode cL_law 298 = .ok (.iconst 1, 1) := by decide +kernel
theorem dL_law_299 : decode cL_law 299 = .ok (.iadd, 1) := by decide +kernel
theorem dL_law_300 : decode cL_law 300 = .ok (.iaload, 1) := by decide +kernel
theorem dL_law_301 : decode cL_law 301 = .ok (.invokevirtual 36, 3) := by decide +kernel
theorem dL_law_304 : decode cL_law 304 = .ok (.if_icmp .eq 213, 3) := by decide +kernel
theorem dL_law_309 : decode cL_law 309 = .ok (.aload_n 1, 1) := by decide +kernel
theorem dL_law_310 : decode cL_law 310 = .ok (.aload_n 0, 1) := by decide +kernel
theorem dL_law_311 : decode cL_law 311 = .ok (.iload_n 3, 1) := by decide +kernel
theorem dL_law_312 : decode cL_law 312 = .ok (.iconst 1, 1) := by decide +kernel
theorem dL_law_313 : decode cL_law 313 = .ok (.iadd, 1) := by decide +kernel
theorem dL_law_314 : decode cL_law 314 = .ok (.iaload, 1) := by decide +kernel
theorem dL_law_315 : decode cL_law 315 = .ok (.aload_n 0, 1) := by decide +kernel
theorem dL_law_316 : decode cL_law 316 = .ok (.iload_n 3, 1) := by decide +kernel
theorem dL_law_317 : decode cL_law 317 = .ok (.iconst 2, 1) := by decide +kernel
theorem dL_law_318 : decode cL_law 318 = .ok (.iadd, 1) := by decide +kernel
theorem dL_law_319 : decode cL_law 319 = .ok (.iaload, 1) := by decide +kernel
theorem dL_law_320 : decode cL_law 320 = .ok (.aload_n 0, 1) := by decide +kernel
theorem dL_law_321 : decode cL_law 321 = .ok (.iload_n 3, 1) := by decide +kernel
theorem dL_law_322 : decode cL_law 322 = .ok (.iconst 3, 1) := by decide +kernel
theorem dL_law_323 : decode cL_law 323 = .ok (.iadd, 1) := by decide +kernel
theorem dL_law_324 : decode cL_law 324 = .ok (.iaload, 1) := by decide +kernel
theorem dL_law_325 : decode cL_law 325 = .ok (.invokevirtual 37, 3) := by decide +kernel
theorem dL_law_328 : decode cL_law 328 = .ok (.aload_n 2, 1) := by decide +kernel
theorem dL_law_329 : decode cL_law 329 = .ok (.aload_n 0, 1) := by decide +kernel
theorem dL_law_330 : decode cL_law 330 = .ok (.iload_n 3, 1) := by decide +kernel
theorem dL_law_331 : decode cL_law 331 = .ok (.iconst 1, 1) := by decide +kernel
theorem dL_law_332 : decode cL_law 332 = .ok (.iadd, 1) := by decide +kernel
theorem dL_law_333 : decode cL_law 333 = .ok (.iaload, 1) := by decide +kernel
theorem dL_law_334 : decode cL_law 334 = .ok (.aload_n 0, 1) := by decide +kernel
theorem dL_law_335 : decode cL_law 335 = .ok (.iload_n 3, 1) := by decide +kernel
theorem dL_law_336 : decode cL_law 336 = .ok (.iconst 2, 1) := by decide +kernel
theorem dL_law_337 : decode cL_law 337 = .ok (.iadd, 1) := by decide +kernel
theorem dL_law_338 : decode cL_law 338 = .ok (.iaload, 1) := by decide +kernel
theorem dL_law_339 : decode cL_law 339 = .ok (.aload_n 0, 1) := by decide +kernel
theorem dL_law_340 : decode cL_law 340 = .ok (.iload_n 3, 1) := by decide +kernel
theorem dL_law_341 : decode cL_law 341 = .ok (.iconst 3, 1) := by decide +kernel
theorem dL_law_342 : decode cL_law 342 = .ok (.iadd, 1) := by decide +kernel
theorem dL_law_343 : decode cL_law 343 = .ok (.iaload, 1) := by decide +kernel
theorem dL_law_344 : decode cL_law 344 = .ok (.invokevirtual 41, 3) := by decide +kernel
theorem dL_law_347 : decode cL_law 347 = .ok (.if_icmp .eq 170, 3) := by decide +kernel
theorem dL_law_352 : decode cL_law 352 = .ok (.aload_n 1, 1) := by decide +kernel
theorem dL_law_353 : decode cL_law 353 = .ok (.invokevirtual 42, 3) := by decide +kernel
theorem dL_law_356 : decode cL_law 356 = .ok (.aload_n 2, 1) := by decide +kernel
theorem dL_law_357 : decode cL_law 357 = .ok (.invokevirtual 46, 3) := by decide +kernel
theorem dL_law_360 : decode cL_law 360 = .ok (.if_icmp .eq 157, 3) := by decide +kernel
theorem dL_law_365 : decode cL_law 365 = .ok (.aload_n 1, 1) := by decide +kernel
theorem dL_law_366 : decode cL_law 366 = .ok (.aload_n 0, 1) := by decide +kernel
theorem dL_law_367 : decode cL_law 367 = .ok (.iload_n 3, 1) := by decide +kernel
theorem dL_law_368 : decode cL_law 368 = .ok (.iconst 1, 1) := by decide +kernel
theorem dL_law_369 : decode cL_law 369 = .ok (.iadd, 1) := by decide +kernel
theorem dL_law_370 : decode cL_law 370 = .ok (.iaload, 1) := by decide +kernel
theorem dL_law_371 : decode cL_law 371 = .ok (.aload_n 0, 1) := by decide +kernel
theorem dL_law_372 : decode cL_law 372 = .ok (.iload_n 3, 1) := by decide +kernel
theorem dL_law_373 : decode cL_law 373 = .ok (.iconst 2, 1) := by decide +kernel
theorem dL_law_374 : decode cL_law 374 = .ok (.iadd, 1) := by decide +kernel
theorem dL_law_375 : decode cL_law 375 = .ok (.iaload, 1) := by decide +kernel
theorem dL_law_376 : decode cL_law 376 = .ok (.invokevirtual 47, 3) := by decide +kernel
theorem dL_law_379 : decode cL_law 379 = .ok (.aload_n 2, 1) := by decide +kernel
theorem dL_law_380 : decode cL_law 380 = .ok (.aload_n 0, 1) := by decide +kernel
theorem dL_law_381 : decode cL_law 381 = .ok (.iload_n 3, 1) := by decide +kernel
theorem dL_law_382 : decode cL_law 382 = .ok (.iconst 1, 1) := by decide +kernel
theorem dL_law_383 : decode cL_law 383 = .ok (.iadd, 1) := by decide +kernel
theorem dL_law_384 : decode cL_law 384 = .ok (.iaload, 1) := by decide +kernel
theorem dL_law_385 : decode cL_law 385 = .ok (.aload_n 0, 1) := by decide +kernel
theorem dL_law_386 : decode cL_law 386 = .ok (.iload_n 3, 1) := by decide +kernel
theorem dL_law_387 : decode cL_law 387 = .ok (.iconst 2, 1) := by decide +kernel
theorem dL_law_388 : decode cL_law 388 = .ok (.iadd, 1) := by decide +kernel
theorem dL_law_389 : decode cL_law 389 = .ok (.iaload, 1) := by decide +kernel
theorem dL_law_390 : decode cL_law 390 = .ok (.invokevirtual 50, 3) := by decide +kernel
theorem dL_law_393 : decode cL_law 393 = .ok (.if_icmp .eq 124, 3) := by decide +kernel
theorem dL_law_398 : decode cL_law 398 = .ok (.aload_n 1, 1) := by decide +kernel
theorem dL_law_399 : decode cL_law 399 = .ok (.aload_n 0, 1) := by decide +kernel
theorem dL_law_400 : decode cL_law 400 = .ok (.iload_n 3, 1) := by decide +kernel
theorem dL_law_401 : decode cL_law 401 = .ok (.iconst 1, 1) := by decide +kernel
theorem dL_law_402 : decode cL_law 402 = .ok (.iadd, 1) := by decide +kernel
theorem dL_law_403 : decode cL_law 403 = .ok (.iaload, 1) := by decide +kernel
theorem dL_law_404 : decode cL_law 404 = .ok (.aload_n 0, 1) := by decide +kernel
theorem dL_law_405 : decode cL_law 405 = .ok (.iload_n 3, 1) := by decide +kernel
theorem dL_law_406 : decode cL_law 406 = .ok (.iconst 2, 1) := by decide +kernel
theorem dL_law_407 : decode cL_law 407 = .ok (.iadd, 1) := by decide +kernel
theorem dL_law_408 : decode cL_law 408 = .ok (.iaload, 1) := by decide +kernel
theorem dL_law_409 : decode cL_law 409 = .ok (.aload_n 0, 1) := by decide +kernel
theorem dL_law_410 : decode cL_law 410 = .ok (.iload_n 3, 1) := by decide +kernel
theorem dL_law_411 : decode cL_law 411 = .ok (.iconst 3, 1) := by decide +kernel
theorem dL_law_412 : decode cL_law 412 = .ok (.iadd, 1) := by decide +kernel
theorem dL_law_413 : decode cL_law 413 = .ok (.iaload, 1) := by decide +kernel
theorem dL_law_414 : decode cL_law 414 = .ok (.invokevirtual 51, 3) := by decide +kernel
theorem dL_law_417 : decode cL_law 417 = .ok (.aload_n 2, 1) := by decide +kernel
theorem dL_law_418 : decode cL_law 418 = .ok (.aload_n 0, 1) := by decide +kernel
theorem dL_law_419 : decode cL_law 419 = .ok (.iload_n 3, 1) := by decide +kernel
theorem dL_law_420 : decode cL_law 420 = .ok (.iconst 1, 1) := by decide +kernel
theorem dL_law_421 : decode cL_law 421 = .ok (.iadd, 1) := by decide +kernel
theorem dL_law_422 : decode cL_law 422 = .ok (.iaload, 1) := by decide +kernel
theorem dL_law_423 : decode cL_law 423 = .ok (.aload_n 0, 1) := by decide +kernel
theorem dL_law_424 : decode cL_law 424 = .ok (.iload_n 3, 1) := by decide +kernel
theorem dL_law_425 : decode cL_law 425 = .ok (.iconst 2, 1) := by decide +kernel
theorem dL_law_426 : decode cL_law 426 = .ok (.iadd, 1) := by decide +kernel
theorem dL_law_427 : decode cL_law 427 = .ok (.iaload, 1) := by decide +kernel
theorem dL_law_428 : decode cL_law 428 = .ok (.aload_n 0, 1) := by decide +kernel
theorem dL_law_429 : decode cL_law 429 = .ok (.iload_n 3, 1) := by decide +kernel
theorem dL_law_430 : decode cL_law 430 = .ok (.iconst 3, 1) := by decide +kernel
theorem dL_law_431 : decode cL_law 431 = .ok (.iadd, 1) := by decide +kernel
theorem dL_law_432 : decode cL_law 432 = .ok (.iaload, 1) := by decide +kernel
theorem dL_law_433 : decode cL_law 433 = .ok (.invokevirtual 54, 3) := by decide +kernel
theorem dL_law_436 : decode cL_law 436 = .ok (.if_icmp .eq 81, 3) := by decide +kernel
theorem dL_law_441 : decode cL_law 441 = .ok (.aload_n 1, 1) := by decide +kernel
theorem dL_law_442 : decode cL_law 442 = .ok (.aload_n 0, 1) := by decide +kernel
theorem dL_law_443 : decode cL_law 443 = .ok (.iload_n 3, 1) := by decide +kernel
theorem dL_law_444 : decode cL_law 444 = .ok (.iconst 1, 1) := by decide +kernel
theorem dL_law_445 : decode cL_law 445 = .ok (.iadd, 1) := by decide +kernel
theorem dL_law_446 : decode cL_law 446 = .ok (.iaload, 1) := by decide +kernel
theorem dL_law_447 : decode cL_law 447 = .ok (.aload_n 0, 1) := by decide +kernel
theorem dL_law_448 : decode cL_law 448 = .ok (.iload_n 3, 1) := by decide +kernel
theorem dL_law_449 : decode cL_law 449 = .ok (.iconst 2, 1) := by decide +kernel
theorem dL_law_450 : decode cL_law 450 = .ok (.iadd, 1) := by decide +kernel
theorem dL_law_451 : decode cL_law 451 = .ok (.iaload, 1) := by decide +kernel
theorem dL_law_452 : decode cL_law 452 = .ok (.aload_n 0, 1) := by decide +kernel
theorem dL_law_453 : decode cL_law 453 = .ok (.iload_n 3, 1) := by decide +kernel
theorem dL_law_454 : decode cL_law 454 = .ok (.iconst 3, 1) := by decide +kernel
theorem dL_law_455 : decode cL_law 455 = .ok (.iadd, 1) := by decide +kernel
theorem dL_law_456 : decode cL_law 456 = .ok (.iaload, 1) := by decide +kernel
theorem dL_law_457 : decode cL_law 457 = .ok (.aload_n 0, 1) := by decide +kernel
theorem dL_law_458 : decode cL_law 458 = .ok (.iload_n 3, 1) := by decide +kernel
theorem dL_law_459 : decode cL_law 459 = .ok (.iconst 4, 1) := by decide +kernel
theorem dL_law_460 : decode cL_law 460 = .ok (.iadd, 1) := by decide +kernel
theorem dL_law_461 : decode cL_law 461 = .ok (.iaload, 1) := by decide +kernel
theorem dL_law_462 : decode cL_law 462 = .ok (.invokevirtual 55, 3) := by decide +kernel
theorem dL_law_465 : decode cL_law 465 = .ok (.aload_n 2, 1) := by decide +kernel
theorem dL_law_466 : decode cL_law 466 = .ok (.aload_n 0, 1) := by decide +kernel
theorem dL_law_467 : decode cL_law 467 = .ok (.iload_n 3, 1) := by decide +kernel
theorem dL_law_468 : decode cL_law 468 = .ok (.iconst 1, 1) := by decide +kernel
theorem dL_law_469 : decode cL_law 469 = .ok (.iadd, 1) := by decide +kernel
theorem dL_law_470 : decode cL_law 470 = .ok (.iaload, 1) := by decide +kernel
theorem dL_law_471 : decode cL_law 471 = .ok (.aload_n 0, 1) := by decide +kernel
theorem dL_law_472 : decode cL_law 472 = .ok (.iload_n 3, 1) := by decide +kernel
theorem dL_law_473 : decode cL_law 473 = .ok (.iconst 2, 1) := by decide +kernel
theorem dL_law_474 : decode cL_law 474 = .ok (.iadd, 1) := by decide +kernel
theorem dL_law_475 : decode cL_law 475 = .ok (.iaload, 1) := by decide +kernel
theorem dL_law_476 : decode cL_law 476 = .ok (.aload_n 0, 1) := by decide +kernel
theorem dL_law_477 : decode cL_law 477 = .ok (.iload_n 3, 1) := by decide +kernel
theorem dL_law_478 : decode cL_law 478 = .ok (.iconst 3, 1) := by decide +kernel
theorem dL_law_479 : decode cL_law 479 = .ok (.iadd, 1) := by decide +kernel
theorem dL_law_480 : decode cL_law 480 = .ok (.iaload, 1) := by decide +kernel
theorem dL_law_481 : decode cL_law 481 = .ok (.aload_n 0, 1) := by decide +kernel
theorem dL_law_482 : decode cL_law 482 = .ok (.iload_n 3, 1) := by decide +kernel
theorem dL_law_483 : decode cL_law 483 = .ok (.iconst 4, 1) := by decide +kernel
theorem dL_law_484 : decode cL_law 484 = .ok (.iadd, 1) := by decide +kernel
theorem dL_law_485 : decode cL_law 485 = .ok (.iaload, 1) := by decide +kernel
theorem dL_law_486 : decode cL_law 486 = .ok (.invokevirtual 58, 3) := by decide +kernel
theorem dL_law_489 : decode cL_law 489 = .ok (.if_icmp .eq 28, 3) := by decide +kernel
theorem dL_law_494 : decode cL_law 494 = .ok (.aload_n 1, 1) := by decide +kernel
theorem dL_law_495 : decode cL_law 495 = .ok (.aload_n 0, 1) := by decide +kernel
theorem dL_law_496 : decode cL_law 496 = .ok (.iload_n 3, 1) := by decide +kernel
theorem dL_law_497 : decode cL_law 497 = .ok (.iconst 1, 1) := by decide +kernel
theorem dL_law_498 : decode cL_law 498 = .ok (.iadd, 1) := by decide +kernel
theorem dL_law_499 : decode cL_law 499 = .ok (.iaload, 1) := by decide +kernel
theorem dL_law_500 : decode cL_law 500 = .ok (.invokevirtual 59, 3) := by decide +kernel
theorem dL_law_503 : decode cL_law 503 = .ok (.aload_n 2, 1) := by decide +kernel
theorem dL_law_504 : decode cL_law 504 = .ok (.aload_n 0, 1) := by decide +kernel
theorem dL_law_505 : decode cL_law 505 = .ok (.iload_n 3, 1) := by decide +kernel
theorem dL_law_506 : decode cL_law 506 = .ok (.iconst 1, 1) := by decide +kernel
theorem dL_law_507 : decode cL_law 507 = .ok (.iadd, 1) := by decide +kernel
theorem dL_law_508 : decode cL_law 508 = .ok (.iaload, 1) := by decide +kernel
theorem dL_law_509 : decode cL_law 509 = .ok (.invokevirtual 62, 3) := by decide +kernel
theorem dL_law_512 : decode cL_law 512 = .ok (.if_icmp .eq 5, 3) := by decide +kernel
theorem dL_law_517 : decode cL_law 517 = .ok (.iinc 3 7, 3) := by decide +kernel
theorem dL_law_520 : decode cL_law 520 = .ok (.goto (-502), 3) := by decide +kernel
theorem dL_law_523 : decode cL_law 523 = .ok (.iconst 1, 1) := by decide +kernel
theorem dL_law_524 : decode cL_law 524 = .ok (.ireturn, 1) := by decide +kernel
abbrev vwCl : List vw_C := [(RX0, TX0, 7), (RX1, TX1, 9), (RX2, TX2, 2), (RX3, TX3, 8), (RX4, TX4, 1), (RX5, TX5, 12), (RX6, TX6, 4), (RX7, TX7, 22)]

