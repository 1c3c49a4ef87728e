theorem goodIn_r {big : List Cond} (ws : List Cond) (ps : List Nat) (hp : ws = ps.filterMap (fun i => big[i]?)) (h : ws.all goodWord = true) : GoodIn big ws := by
  intro w hw
  have h1 := List.all_eq_true.mp h w hw
  rw [hp] at hw
  obtain ⟨i, -, hi⟩ := List.mem_filterMap.mp hw
  have hm : w ∈ big := by first | exact List.mem_of_getElem? hi | exact List.getElem?_mem hi
  exact ⟨hm, good_of_word h1⟩
theorem goodIn_app {big a b : List Cond} (ha : GoodIn big a) (hb : GoodIn big b) : GoodIn big (a ++ b) := fun w h => (List.mem_append.mp h).elim (ha w) (hb w)
theorem goodIn_ca {big a b : List Cond} {c : Cond} (ha : GoodIn big (c :: a)) (hb : GoodIn big b) : GoodIn big (c :: (a ++ b)) := fun w h => (List.mem_cons.mp h).elim (fun e => ha w (List.mem_cons.mpr (Or.inl e))) (fun h => (List.mem_append.mp h).elim (fun h => ha w (List.mem_cons.mpr (Or.inr h))) (hb w))
theorem goodIn_sub {big ws : List Cond} (hm : ∀ w ∈ ws, w ∈ big) (h : ws.all goodWord = true) : GoodIn big ws := fun w hw => ⟨hm w hw, good_of_word (List.all_eq_true.mp h w hw)⟩
def RX0 : String := "ClassRules$Choice"
def TX0 : u_T := fun k => match k with
  | 0 => ("ClassRules$Choice", "types", "LClassRules$Types;", true)
  | 1 => ("ClassRules$Choice", "members", "LClassRules$Members;", true)
  | 2 => ("ClassRules$Choice", "faceOnes", "[I", true)
  | 3 => ("ClassRules$Choice", "chain", "[I", true)
  | 4 => ("ClassRules$Choice", "takers", "[I", true)
  | 5 => ("ClassRules$Choice", "faceOnesCount", "I", false)
  | _ => ("ClassRules$Choice", "classOne", "I", false)
def tyX0 : Nat → FieldType := fun k => match k with
  | 0 => .object "ClassRules$Types"
  | 1 => .object "ClassRules$Members"
  | 2 => .array .int
  | 3 => .array .int
  | 4 => .array .int
  | 5 => .int
  | _ => .int
abbrev wsX00 : List Cond := u_ws RX0 TX0 7
theorem nmX0 : ∀ a, a < 7 → ∀ b, b < 7 → a ≠ b → (TX0 a).2.1 ≠ (TX0 b).2.1 := by decide +kernel
theorem tyX0_ok : ∀ k, k < 7 → parseFieldDescriptor (TX0 k).2.2.1 = some (tyX0 k) := by decide +kernel
abbrev cX0_init : ByteArray := prog_2_method_1_code
def yX0_init : MethodName := ⟨RX0, "<init>", "(LClassRules$Types;LClassRules$Members;)V"⟩
abbrev cX0_seekClassOne : ByteArray := prog_2_method_2_code
def yX0_seekClassOne : MethodName := ⟨RX0, "seekClassOne", "(III)V"⟩
abbrev cX0_seekFaceOnes : ByteArray := prog_2_method_3_code
def yX0_seekFaceOnes : MethodName := ⟨RX0, "seekFaceOnes", "(III)V"⟩
abbrev cX0_givenByFace : ByteArray := prog_2_method_4_code
def yX0_givenByFace : MethodName := ⟨RX0, "givenByFace", "(IIII)Z"⟩
abbrev cX0_leastFaceOneWith : ByteArray := prog_2_method_5_code
def yX0_leastFaceOneWith : MethodName := ⟨RX0, "leastFaceOneWith", "(I)I"⟩
abbrev cX0_leastToBeGiven : ByteArray := prog_2_method_6_code
def yX0_leastToBeGiven : MethodName := ⟨RX0, "leastToBeGiven", "()I"⟩
abbrev cX0_leastOfRivals : ByteArray := prog_2_method_7_code
def yX0_leastOfRivals : MethodName := ⟨RX0, "leastOfRivals", "()I"⟩
abbrev cX0_running : ByteArray := prog_2_method_8_code
def yX0_running : MethodName := ⟨RX0, "running", "(III)I"⟩
abbrev cX0_reached : ByteArray := prog_2_method_9_code
def yX0_reached : MethodName := ⟨RX0, "reached", "(IIII)I"⟩
abbrev cX0_meantBy : ByteArray := prog_2_method_10_code
def yX0_meantBy : MethodName := ⟨RX0, "meantBy", "(III)I"⟩
abbrev cX0_inPlaceOf : ByteArray := prog_2_method_11_code
def yX0_inPlaceOf : MethodName := ⟨RX0, "inPlaceOf", "(II)I"⟩
abbrev cX0_chainUpTo : ByteArray := prog_2_method_12_code
def yX0_chainUpTo : MethodName := ⟨RX0, "chainUpTo", "(II)I"⟩
abbrev cX0_overriderIn : ByteArray := prog_2_method_13_code
def yX0_overriderIn : MethodName := ⟨RX0, "overriderIn", "(II)I"⟩
abbrev cX0_takesPlace : ByteArray := prog_2_method_14_code
def yX0_takesPlace : MethodName := ⟨RX0, "takesPlace", "(II)Z"⟩
abbrev cX0_unlessAbstract : ByteArray := prog_2_method_15_code
def yX0_unlessAbstract : MethodName := ⟨RX0, "unlessAbstract", "(I)I"⟩
def RX1 : String := "ClassRules$Judge"
def TX1 : u_T := fun k => match k with
  | 0 => ("ClassRules$Judge", "types", "LClassRules$Types;", true)
  | 1 => ("ClassRules$Judge", "members", "LClassRules$Members;", true)
  | 2 => ("ClassRules$Judge", "choice", "LClassRules$Choice;", true)
  | 3 => ("ClassRules$Judge", "typeRules", "LClassRules$TypeRules;", true)
  | 4 => ("ClassRules$Judge", "memberRules", "LClassRules$MemberRules;", true)
  | 5 => ("ClassRules$Judge", "found", "[J", true)
  | 6 => ("ClassRules$Judge", "counts", "[I", true)
  | 7 => ("ClassRules$Judge", "counted", "I", false)
  | _ => ("ClassRules$Judge", "kept", "I", false)
def tyX1 : Nat → FieldType := fun k => match k with
  | 0 => .object "ClassRules$Types"
  | 1 => .object "ClassRules$Members"
  | 2 => .object "ClassRules$Choice"
  | 3 => .object "ClassRules$TypeRules"
  | 4 => .object "ClassRules$MemberRules"
  | 5 => .array .long
  | 6 => .array .int
  | 7 => .int
  | _ => .int
abbrev wsX10 : List Cond := u_ws RX1 TX1 9
theorem nmX1 : ∀ a, a < 9 → ∀ b, b < 9 → a ≠ b → (TX1 a).2.1 ≠ (TX1 b).2.1 := by decide +kernel
theorem tyX1_ok : ∀ k, k < 9 → parseFieldDescriptor (TX1 k).2.2.1 = some (tyX1 k) := by decide +kernel
abbrev cX1_init : ByteArray := prog_3_method_1_code
def yX1_init : MethodName := ⟨RX1, "<init>", "(LClassRules$Types;LClassRules$Members;LClassRules$Choice;)V"⟩
abbrev cX1_forget : ByteArray := prog_3_method_2_code
def yX1_forget : MethodName := ⟨RX1, "forget", "()V"⟩
abbrev cX1_countOf : ByteArray := prog_3_method_3_code
def yX1_countOf : MethodName := ⟨RX1, "countOf", "(I)I"⟩
abbrev cX1_kindAt : ByteArray := prog_3_method_4_code
def yX1_kindAt : MethodName := ⟨RX1, "kindAt", "(II)I"⟩
abbrev cX1_numberAt : ByteArray := prog_3_method_5_code
def yX1_numberAt : MethodName := ⟨RX1, "numberAt", "(II)I"⟩
abbrev cX1_placeAt : ByteArray := prog_3_method_6_code
def yX1_placeAt : MethodName := ⟨RX1, "placeAt", "(II)I"⟩
abbrev cX1_keep : ByteArray := prog_3_method_7_code
def yX1_keep : MethodName := ⟨RX1, "keep", "(I)V"⟩
abbrev cX1_findTypeFaults : ByteArray := prog_3_method_8_code
def yX1_findTypeFaults : MethodName := ⟨RX1, "findTypeFaults", "(I)V"⟩
abbrev cX1_findMemberFaults : ByteArray := prog_3_method_9_code
def yX1_findMemberFaults : MethodName := ⟨RX1, "findMemberFaults", "(I)V"⟩
abbrev cX1_findInheritedFaults : ByteArray := prog_3_method_10_code
def yX1_findInheritedFaults : MethodName := ⟨RX1, "findInheritedFaults", "(I)V"⟩
abbrev cX1_findOver : ByteArray := prog_3_method_11_code
def yX1_findOver : MethodName := ⟨RX1, "findOver", "(II)V"⟩
abbrev cX1_findGivenFaults : ByteArray := prog_3_method_12_code
def yX1_findGivenFaults : MethodName := ⟨RX1, "findGivenFaults", "(I)V"⟩
abbrev cX1_putTypes : ByteArray := prog_3_method_13_code
def yX1_putTypes : MethodName := ⟨RX1, "putTypes", "(II)V"⟩
abbrev cX1_putIf : ByteArray := prog_3_method_14_code
def yX1_putIf : MethodName := ⟨RX1, "putIf", "(ZII)V"⟩
abbrev cX1_isFound : ByteArray := prog_3_method_15_code
def yX1_isFound : MethodName := ⟨RX1, "isFound", "(II)Z"⟩
abbrev cX1_countFound : ByteArray := prog_3_method_16_code
def yX1_countFound : MethodName := ⟨RX1, "countFound", "()I"⟩
def RX2 : String := "ClassRules$MemberRules"
def TX2 : u_T := fun k => match k with
  | 0 => ("ClassRules$MemberRules", "types", "LClassRules$Types;", true)
  | _ => ("ClassRules$MemberRules", "members", "LClassRules$Members;", true)
def tyX2 : Nat → FieldType := fun k => match k with
  | 0 => .object "ClassRules$Types"
  | _ => .object "ClassRules$Members"
abbrev wsX20 : List Cond := u_ws RX2 TX2 2
theorem nmX2 : ∀ a, a < 2 → ∀ b, b < 2 → a ≠ b → (TX2 a).2.1 ≠ (TX2 b).2.1 := by decide +kernel
theorem tyX2_ok : ∀ k, k < 2 → parseFieldDescriptor (TX2 k).2.2.1 = some (tyX2 k) := by decide +kernel
abbrev cX2_init : ByteArray := prog_4_method_1_code
def yX2_init : MethodName := ⟨RX2, "<init>", "(LClassRules$Types;LClassRules$Members;)V"⟩
abbrev cX2_doubled : ByteArray := prog_4_method_2_code
def yX2_doubled : MethodName := ⟨RX2, "doubled", "(I)Z"⟩
abbrev cX2_wrongMarks : ByteArray := prog_4_method_3_code
def yX2_wrongMarks : MethodName := ⟨RX2, "wrongMarks", "(I)Z"⟩
abbrev cX2_wrongInFace : ByteArray := prog_4_method_4_code
def yX2_wrongInFace : MethodName := ⟨RX2, "wrongInFace", "(I)Z"⟩
abbrev cX2_wrongElsewhere : ByteArray := prog_4_method_5_code
def yX2_wrongElsewhere : MethodName := ⟨RX2, "wrongElsewhere", "(I)Z"⟩
abbrev cX2_resultFits : ByteArray := prog_4_method_6_code
def yX2_resultFits : MethodName := ⟨RX2, "resultFits", "(II)Z"⟩
def RX3 : String := "ClassRules$Members"
def TX3 : u_T := fun k => match k with
  | 0 => ("ClassRules$Members", "types", "LClassRules$Types;", true)
  | 1 => ("ClassRules$Members", "owners", "[I", true)
  | 2 => ("ClassRules$Members", "names", "[I", true)
  | 3 => ("ClassRules$Members", "params", "[I", true)
  | 4 => ("ClassRules$Members", "marks", "[I", true)
  | 5 => ("ClassRules$Members", "accesses", "[I", true)
  | 6 => ("ClassRules$Members", "results", "[I", true)
  | _ => ("ClassRules$Members", "count", "I", false)
def tyX3 : Nat → FieldType := fun k => match k with
  | 0 => .object "ClassRules$Types"
  | 1 => .array .int
  | 2 => .array .int
  | 3 => .array .int
  | 4 => .array .int
  | 5 => .array .int
  | 6 => .array .int
  | _ => .int
abbrev wsX30 : List Cond := u_ws RX3 TX3 8
theorem nmX3 : ∀ a, a < 8 → ∀ b, b < 8 → a ≠ b → (TX3 a).2.1 ≠ (TX3 b).2.1 := by decide +kernel
theorem tyX3_ok : ∀ k, k < 8 → parseFieldDescriptor (TX3 k).2.2.1 = some (tyX3 k) := by decide +kernel
abbrev cX3_init : ByteArray := prog_5_method_1_code
def yX3_init : MethodName := ⟨RX3, "<init>", "(LClassRules$Types;)V"⟩
abbrev cX3_addMember : ByteArray := prog_5_method_2_code
def yX3_addMember : MethodName := ⟨RX3, "addMember", "(IIIIII)I"⟩
abbrev cX3_marked : ByteArray := prog_5_method_3_code
def yX3_marked : MethodName := ⟨RX3, "marked", "(II)Z"⟩
abbrev cX3_named : ByteArray := prog_5_method_4_code
def yX3_named : MethodName := ⟨RX3, "named", "(III)Z"⟩
abbrev cX3_alike : ByteArray := prog_5_method_5_code
def yX3_alike : MethodName := ⟨RX3, "alike", "(II)Z"⟩
abbrev cX3_ofFace : ByteArray := prog_5_method_6_code
def yX3_ofFace : MethodName := ⟨RX3, "ofFace", "(I)Z"⟩
abbrev cX3_shared : ByteArray := prog_5_method_7_code
def yX3_shared : MethodName := ⟨RX3, "shared", "(II)Z"⟩
abbrev cX3_seenFrom : ByteArray := prog_5_method_8_code
def yX3_seenFrom : MethodName := ⟨RX3, "seenFrom", "(II)Z"⟩
abbrev cX3_firstOfItsSort : ByteArray := prog_5_method_9_code
def yX3_firstOfItsSort : MethodName := ⟨RX3, "firstOfItsSort", "(I)Z"⟩
def RX4 : String := "ClassRules$TypeRules"
def TX4 : u_T := fun k => match k with
  | _ => ("ClassRules$TypeRules", "types", "LClassRules$Types;", true)
def tyX4 : Nat → FieldType := fun k => match k with
  | _ => .object "ClassRules$Types"
abbrev wsX40 : List Cond := u_ws RX4 TX4 1
theorem nmX4 : ∀ a, a < 1 → ∀ b, b < 1 → a ≠ b → (TX4 a).2.1 ≠ (TX4 b).2.1 := by decide +kernel
theorem tyX4_ok : ∀ k, k < 1 → parseFieldDescriptor (TX4 k).2.2.1 = some (tyX4 k) := by decide +kernel
abbrev cX4_init : ByteArray := prog_6_method_1_code
def yX4_init : MethodName := ⟨RX4, "<init>", "(LClassRules$Types;)V"⟩
abbrev cX4_missing : ByteArray := prog_6_method_2_code
def yX4_missing : MethodName := ⟨RX4, "missing", "(I)I"⟩
abbrev cX4_ring : ByteArray := prog_6_method_3_code
def yX4_ring : MethodName := ⟨RX4, "ring", "(I)I"⟩
abbrev cX4_wrongKind : ByteArray := prog_6_method_4_code
def yX4_wrongKind : MethodName := ⟨RX4, "wrongKind", "(I)I"⟩
abbrev cX4_finalParent : ByteArray := prog_6_method_5_code
def yX4_finalParent : MethodName := ⟨RX4, "finalParent", "(I)I"⟩
abbrev cX4_wrongMarks : ByteArray := prog_6_method_6_code
def yX4_wrongMarks : MethodName := ⟨RX4, "wrongMarks", "(I)I"⟩
abbrev cX4_wrongUnderSealed : ByteArray := prog_6_method_7_code
def yX4_wrongUnderSealed : MethodName := ⟨RX4, "wrongUnderSealed", "(I)I"⟩
abbrev cX4_wrongPermits : ByteArray := prog_6_method_8_code
def yX4_wrongPermits : MethodName := ⟨RX4, "wrongPermits", "(I)I"⟩
abbrev cX4_twice : ByteArray := prog_6_method_9_code
def yX4_twice : MethodName := ⟨RX4, "twice", "(I)I"⟩
abbrev cX4_shaky : ByteArray := prog_6_method_10_code
def yX4_shaky : MethodName := ⟨RX4, "shaky", "(I)Z"⟩
def RX5 : String := "ClassRules$Types"
def TX5 : u_T := fun k => match k with
  | 0 => ("ClassRules$Types", "kinds", "[I", true)
  | 1 => ("ClassRules$Types", "marks", "[I", true)
  | 2 => ("ClassRules$Types", "packs", "[I", true)
  | 3 => ("ClassRules$Types", "parents", "[I", true)
  | 4 => ("ClassRules$Types", "parentSets", "[I", true)
  | 5 => ("ClassRules$Types", "uppers", "[I", true)
  | 6 => ("ClassRules$Types", "uppersTwice", "[I", true)
  | 7 => ("ClassRules$Types", "uppersTold", "[I", true)
  | 8 => ("ClassRules$Types", "permitted", "[I", true)
  | 9 => ("ClassRules$Types", "permittedTold", "[I", true)
  | 10 => ("ClassRules$Types", "above", "[I", true)
  | _ => ("ClassRules$Types", "count", "I", false)
def tyX5 : Nat → FieldType := fun k => match k with
  | 0 => .array .int
  | 1 => .array .int
  | 2 => .array .int
  | 3 => .array .int
  | 4 => .array .int
  | 5 => .array .int
  | 6 => .array .int
  | 7 => .array .int
  | 8 => .array .int
  | 9 => .array .int
  | 10 => .array .int
  | _ => .int
abbrev wsX50 : List Cond := u_ws RX5 TX5 12
theorem nmX5 : ∀ a, a < 12 → ∀ b, b < 12 → a ≠ b → (TX5 a).2.1 ≠ (TX5 b).2.1 := by decide +kernel
theorem tyX5_ok : ∀ k, k < 12 → parseFieldDescriptor (TX5 k).2.2.1 = some (tyX5 k) := by decide +kernel
abbrev cX5_init : ByteArray := prog_7_method_1_code
def yX5_init : MethodName := ⟨RX5, "<init>", "()V"⟩
abbrev cX5_addType : ByteArray := prog_7_method_2_code
def yX5_addType : MethodName := ⟨RX5, "addType", "(IIII)I"⟩
abbrev cX5_addUpper : ByteArray := prog_7_method_3_code
def yX5_addUpper : MethodName := ⟨RX5, "addUpper", "(II)I"⟩
abbrev cX5_addPermitted : ByteArray := prog_7_method_4_code
def yX5_addPermitted : MethodName := ⟨RX5, "addPermitted", "(II)I"⟩
abbrev cX5_settleAbove : ByteArray := prog_7_method_5_code
def yX5_settleAbove : MethodName := ⟨RX5, "settleAbove", "()V"⟩
abbrev cX5_there : ByteArray := prog_7_method_6_code
def yX5_there : MethodName := ⟨RX5, "there", "(I)Z"⟩
abbrev cX5_everyone : ByteArray := prog_7_method_7_code
def yX5_everyone : MethodName := ⟨RX5, "everyone", "()I"⟩
abbrev cX5_marked : ByteArray := prog_7_method_8_code
def yX5_marked : MethodName := ⟨RX5, "marked", "(II)Z"⟩
abbrev cX5_next : ByteArray := prog_7_method_9_code
def yX5_next : MethodName := ⟨RX5, "next", "(I)I"⟩
abbrev cX5_parentThere : ByteArray := prog_7_method_10_code
def yX5_parentThere : MethodName := ⟨RX5, "parentThere", "(I)I"⟩
abbrev cX5_stands : ByteArray := prog_7_method_11_code
def yX5_stands : MethodName := ⟨RX5, "stands", "(II)Z"⟩
abbrev cX5_ofKind : ByteArray := prog_7_method_12_code
def yX5_ofKind : MethodName := ⟨RX5, "ofKind", "(I)I"⟩
abbrev cX5_withMark : ByteArray := prog_7_method_13_code
def yX5_withMark : MethodName := ⟨RX5, "withMark", "(I)I"⟩
def RX6 : String := "ClassRules"
def TX6 : u_T := fun k => match k with
  | 0 => ("ClassRules", "types", "LClassRules$Types;", true)
  | 1 => ("ClassRules", "members", "LClassRules$Members;", true)
  | 2 => ("ClassRules", "choice", "LClassRules$Choice;", true)
  | _ => ("ClassRules", "judge", "LClassRules$Judge;", true)
def tyX6 : Nat → FieldType := fun k => match k with
  | 0 => .object "ClassRules$Types"
  | 1 => .object "ClassRules$Members"
  | 2 => .object "ClassRules$Choice"
  | _ => .object "ClassRules$Judge"
abbrev wsX60 : List Cond := u_ws RX6 TX6 4
theorem nmX6 : ∀ a, a < 4 → ∀ b, b < 4 → a ≠ b → (TX6 a).2.1 ≠ (TX6 b).2.1 := by decide +kernel
theorem tyX6_ok : ∀ k, k < 4 → parseFieldDescriptor (TX6 k).2.2.1 = some (tyX6 k) := by decide +kernel
abbrev cX6_init : ByteArray := prog_1_method_1_code
def yX6_init : MethodName := ⟨RX6, "<init>", "()V"⟩
abbrev cX6_type : ByteArray := prog_1_method_2_code
def yX6_type : MethodName := ⟨RX6, "type", "(IIII)I"⟩
abbrev cX6_upper : ByteArray := prog_1_method_3_code
def yX6_upper : MethodName := ⟨RX6, "upper", "(II)I"⟩
abbrev cX6_permit : ByteArray := prog_1_method_4_code
def yX6_permit : MethodName := ⟨RX6, "permit", "(II)I"⟩
abbrev cX6_member : ByteArray := prog_1_method_5_code
def yX6_member : MethodName := ⟨RX6, "member", "(IIIIII)I"⟩
abbrev cX6_faults : ByteArray := prog_1_method_6_code
def yX6_faults : MethodName := ⟨RX6, "faults", "(I)I"⟩
abbrev cX6_fault : ByteArray := prog_1_method_7_code
def yX6_fault : MethodName := ⟨RX6, "fault", "(III)I"⟩
abbrev cX6_all : ByteArray := prog_1_method_8_code
def yX6_all : MethodName := ⟨RX6, "all", "()I"⟩
abbrev cX6_is : ByteArray := prog_1_method_9_code
def yX6_is : MethodName := ⟨RX6, "is", "(II)I"⟩
abbrev cX6_runs : ByteArray := prog_1_method_10_code
def yX6_runs : MethodName := ⟨RX6, "runs", "(III)I"⟩
abbrev cX6_call : ByteArray := prog_1_method_11_code
def yX6_call : MethodName := ⟨RX6, "call", "(IIII)I"⟩
abbrev cX6_told : ByteArray := prog_1_method_12_code
def yX6_told : MethodName := ⟨RX6, "told", "(I)I"⟩
abbrev cX6_canBeMade : ByteArray := prog_1_method_13_code
def yX6_canBeMade : MethodName := ⟨RX6, "canBeMade", "(I)Z"⟩
abbrev cX6_within : ByteArray := prog_1_method_14_code
def yX6_within : MethodName := ⟨RX6, "within", "(II)Z"⟩
abbrev cX6_orNone : ByteArray := prog_1_method_15_code
def yX6_orNone : MethodName := ⟨RX6, "orNone", "(I)I"⟩
abbrev cX6_bit : ByteArray := prog_1_method_16_code
def yX6_bit : MethodName := ⟨RX6, "bit", "(I)I"⟩
abbrev cX6_holds : ByteArray := prog_1_method_17_code
def yX6_holds : MethodName := ⟨RX6, "holds", "(II)Z"⟩
def RX7 : String := "ClassRulesModel"
def TX7 : u_T := fun k => match k with
  | 0 => ("ClassRulesModel", "types", "I", false)
  | 1 => ("ClassRulesModel", "kind", "[I", true)
  | 2 => ("ClassRulesModel", "marks", "[I", true)
  | 3 => ("ClassRulesModel", "pack", "[I", true)
  | 4 => ("ClassRulesModel", "parent", "[I", true)
  | 5 => ("ClassRulesModel", "uppers", "[I", true)
  | 6 => ("ClassRulesModel", "upperMany", "[I", true)
  | 7 => ("ClassRulesModel", "permits", "[I", true)
  | 8 => ("ClassRulesModel", "permitMany", "[I", true)
  | 9 => ("ClassRulesModel", "members", "I", false)
  | 10 => ("ClassRulesModel", "of", "[I", true)
  | 11 => ("ClassRulesModel", "name", "[I", true)
  | 12 => ("ClassRulesModel", "params", "[I", true)
  | 13 => ("ClassRulesModel", "mMarks", "[I", true)
  | 14 => ("ClassRulesModel", "access", "[I", true)
  | 15 => ("ClassRulesModel", "result", "[I", true)
  | 16 => ("ClassRulesModel", "above", "[Z", true)
  | 17 => ("ClassRulesModel", "known", "Z", false)
  | 18 => ("ClassRulesModel", "fault", "[Z", true)
  | 19 => ("ClassRulesModel", "faceOnes", "[I", true)
  | 20 => ("ClassRulesModel", "faceMany", "I", false)
  | _ => ("ClassRulesModel", "takes", "[Z", true)
def tyX7 : Nat → FieldType := fun k => match k with
  | 0 => .int
  | 1 => .array .int
  | 2 => .array .int
  | 3 => .array .int
  | 4 => .array .int
  | 5 => .array .int
  | 6 => .array .int
  | 7 => .array .int
  | 8 => .array .int
  | 9 => .int
  | 10 => .array .int
  | 11 => .array .int
  | 12 => .array .int
  | 13 => .array .int
  | 14 => .array .int
  | 15 => .array .int
  | 16 => .array .boolean
  | 17 => .boolean
  | 18 => .array .boolean
  | 19 => .array .int
  | 20 => .int
  | _ => .array .boolean
abbrev wsX70 : List Cond := u_ws RX7 TX7 22
theorem nmX7 : ∀ a, a < 22 → ∀ b, b < 22 → a ≠ b → (TX7 a).2.1 ≠ (TX7 b).2.1 := by decide +kernel
theorem tyX7_ok : ∀ k, k < 22 → parseFieldDescriptor (TX7 k).2.2.1 = some (tyX7 k) := by decide +kernel
abbrev cX7_init : ByteArray := prog_9_method_1_code
def yX7_init : MethodName := ⟨RX7, "<init>", "()V"⟩
abbrev cX7_in : ByteArray := prog_9_method_2_code
def yX7_in : MethodName := ⟨RX7, "in", "(III)Z"⟩
abbrev cX7_isType : ByteArray := prog_9_method_3_code
def yX7_isType : MethodName := ⟨RX7, "isType", "(I)Z"⟩
abbrev cX7_marked : ByteArray := prog_9_method_4_code
def yX7_marked : MethodName := ⟨RX7, "marked", "(II)Z"⟩
abbrev cX7_is : ByteArray := prog_9_method_5_code
def yX7_is : MethodName := ⟨RX7, "is", "(IZI)Z"⟩
abbrev cX7_type : ByteArray := prog_9_method_6_code
def yX7_type : MethodName := ⟨RX7, "type", "(IIII)I"⟩
abbrev cX7_upper : ByteArray := prog_9_method_7_code
def yX7_upper : MethodName := ⟨RX7, "upper", "(II)I"⟩
abbrev cX7_permit : ByteArray := prog_9_method_8_code
def yX7_permit : MethodName := ⟨RX7, "permit", "(II)I"⟩
abbrev cX7_member : ByteArray := prog_9_method_9_code
def yX7_member : MethodName := ⟨RX7, "member", "(IIIIII)I"⟩
abbrev cX7_know : ByteArray := prog_9_method_10_code
def yX7_know : MethodName := ⟨RX7, "know", "()V"⟩
abbrev cX7_isOf : ByteArray := prog_9_method_11_code
def yX7_isOf : MethodName := ⟨RX7, "isOf", "(II)Z"⟩
abbrev cX7_areLike : ByteArray := prog_9_method_12_code
def yX7_areLike : MethodName := ⟨RX7, "areLike", "(II)Z"⟩
abbrev cX7_isShared : ByteArray := prog_9_method_13_code
def yX7_isShared : MethodName := ⟨RX7, "isShared", "(II)Z"⟩
abbrev cX7_mark : ByteArray := prog_9_method_14_code
def yX7_mark : MethodName := ⟨RX7, "mark", "(IIZ)V"⟩
abbrev cX7_firstFaults : ByteArray := prog_9_method_15_code
def yX7_firstFaults : MethodName := ⟨RX7, "firstFaults", "(I)V"⟩
abbrev cX7_haveAny : ByteArray := prog_9_method_16_code
def yX7_haveAny : MethodName := ⟨RX7, "haveAny", "()Z"⟩
abbrev cX7_permitsIt : ByteArray := prog_9_method_17_code
def yX7_permitsIt : MethodName := ⟨RX7, "permitsIt", "(II)Z"⟩
abbrev cX7_isUpper : ByteArray := prog_9_method_18_code
def yX7_isUpper : MethodName := ⟨RX7, "isUpper", "(II)Z"⟩
abbrev cX7_sealedBy : ByteArray := prog_9_method_19_code
def yX7_sealedBy : MethodName := ⟨RX7, "sealedBy", "(II)V"⟩
abbrev cX7_isSealed : ByteArray := prog_9_method_20_code
def yX7_isSealed : MethodName := ⟨RX7, "isSealed", "(I)Z"⟩
abbrev cX7_typeFaults : ByteArray := prog_9_method_21_code
def yX7_typeFaults : MethodName := ⟨RX7, "typeFaults", "(I)V"⟩
abbrev cX7_memberFaults : ByteArray := prog_9_method_22_code
def yX7_memberFaults : MethodName := ⟨RX7, "memberFaults", "(I)V"⟩
abbrev cX7_isWrong : ByteArray := prog_9_method_23_code
def yX7_isWrong : MethodName := ⟨RX7, "isWrong", "(II)Z"⟩
abbrev cX7_fitsResult : ByteArray := prog_9_method_24_code
def yX7_fitsResult : MethodName := ⟨RX7, "fitsResult", "(II)Z"⟩
abbrev cX7_overFaults : ByteArray := prog_9_method_25_code
def yX7_overFaults : MethodName := ⟨RX7, "overFaults", "(I)V"⟩
abbrev cX7_classOne : ByteArray := prog_9_method_26_code
def yX7_classOne : MethodName := ⟨RX7, "classOne", "(III)I"⟩
abbrev cX7_ofFace : ByteArray := prog_9_method_27_code
def yX7_ofFace : MethodName := ⟨RX7, "ofFace", "(III)I"⟩
abbrev cX7_findFaceOnes : ByteArray := prog_9_method_28_code
def yX7_findFaceOnes : MethodName := ⟨RX7, "findFaceOnes", "(III)V"⟩
abbrev cX7_leastFaceOne : ByteArray := prog_9_method_29_code
def yX7_leastFaceOne : MethodName := ⟨RX7, "leastFaceOne", "(Z)I"⟩
abbrev cX7_hasDefault : ByteArray := prog_9_method_30_code
def yX7_hasDefault : MethodName := ⟨RX7, "hasDefault", "()Z"⟩
abbrev cX7_givenFaults : ByteArray := prog_9_method_31_code
def yX7_givenFaults : MethodName := ⟨RX7, "givenFaults", "(I)V"⟩
abbrev cX7_faultsOf : ByteArray := prog_9_method_32_code
def yX7_faultsOf : MethodName := ⟨RX7, "faultsOf", "(I)V"⟩
abbrev cX7_count : ByteArray := prog_9_method_33_code
def yX7_count : MethodName := ⟨RX7, "count", "()I"⟩
abbrev cX7_faults : ByteArray := prog_9_method_34_code
def yX7_faults : MethodName := ⟨RX7, "faults", "(I)I"⟩
abbrev cX7_fault : ByteArray := prog_9_method_35_code
def yX7_fault : MethodName := ⟨RX7, "fault", "(III)I"⟩
abbrev cX7_all : ByteArray := prog_9_method_36_code
def yX7_all : MethodName := ⟨RX7, "all", "()I"⟩
abbrev cX7_is_ : ByteArray := prog_9_method_37_code
def yX7_is_ : MethodName := ⟨RX7, "is", "(II)I"⟩
abbrev cX7_isWrongType : ByteArray := prog_9_method_38_code
def yX7_isWrongType : MethodName := ⟨RX7, "isWrongType", "(I)Z"⟩
abbrev cX7_running : ByteArray := prog_9_method_39_code
def yX7_running : MethodName := ⟨RX7, "running", "(III)I"⟩
abbrev cX7_runs : ByteArray := prog_9_method_40_code
def yX7_runs : MethodName := ⟨RX7, "runs", "(III)I"⟩
abbrev cX7_mayTake : ByteArray := prog_9_method_41_code
def yX7_mayTake : MethodName := ⟨RX7, "mayTake", "(I)Z"⟩
abbrev cX7_findTaking : ByteArray := prog_9_method_42_code
def yX7_findTaking : MethodName := ⟨RX7, "findTaking", "(I)V"⟩
abbrev cX7_call : ByteArray := prog_9_method_43_code
def yX7_call : MethodName := ⟨RX7, "call", "(IIII)I"⟩
abbrev cX7_told : ByteArray := prog_9_method_44_code
def yX7_told : MethodName := ⟨RX7, "told", "(I)I"⟩
def RJ6 : String := "java/lang/Integer"
abbrev cJ6_bitCount_0f7a4 : ByteArray := prog_10_method_49_code
def yJ6_bitCount_0f7a4 : MethodName := ⟨RJ6, "bitCount", "(I)I"⟩
def RJ13 : String := "java/lang/Long"
abbrev cJ13_bitCount_95d88 : ByteArray := prog_11_method_50_code
def yJ13_bitCount_95d88 : MethodName := ⟨RJ13, "bitCount", "(J)I"⟩
def RJ7 : String := "java/util/Arrays"
abbrev cJ7_fill_d0a16 : ByteArray := prog_12_method_101_code
def yJ7_fill_d0a16 : MethodName := ⟨RJ7, "fill", "([JJ)V"⟩
def RL : String := "ClassRulesLaw"
abbrev cL_law : ByteArray := code
def wsX0_init : List Cond := .code yX0_init cX0_init 3 none :: ([.methodLink RX0 3 objectInit, .instanceMethod objectInit, .code objectInit ⟨#[0xb1]⟩ 1 none, .arrayClass .int, .fieldLink RX0 9 "ClassRules$Choice" "faceOnes" "[I", .fieldLink RX0 15 "ClassRules$Choice" "chain" "[I", .fieldLink RX0 18 "ClassRules$Choice" "takers" "[I", .fieldLink RX0 21 "ClassRules$Choice" "faceOnesCount" "I", .fieldLink RX0 25 "ClassRules$Choice" "classOne" "I", .fieldLink RX0 28 "ClassRules$Choice" "types" "LClassRules$Types;", .fieldLink RX0 32 "ClassRules$Choice" "members" "LClassRules$Members;"] ++ wsX00)
def wsX3_named : List Cond := .code yX3_named cX3_named 4 (some .boolean) :: ([.fieldLink RX3 15 "ClassRules$Members" "names" "[I", .fieldLink RX3 18 "ClassRules$Members" "params" "[I"] ++ wsX30)
def wsX3_marked : List Cond := .code yX3_marked cX3_marked 3 (some .boolean) :: ([.fieldLink RX3 21 "ClassRules$Members" "marks" "[I"] ++ wsX30)
def wsX3_ofFace : List Cond := .code yX3_ofFace cX3_ofFace 2 (some .boolean) :: ([.fieldLink RX3 34 "ClassRules$Members" "types" "LClassRules$Types;", .fieldLink RX3 9 "ClassRules$Members" "owners" "[I"] ++ wsX30 ++ wsX50)
def wsX6_holds : List Cond := .code yX6_holds cX6_holds 2 (some .boolean) :: ([])
def wsX3_seenFrom : List Cond := .code yX3_seenFrom cX3_seenFrom 3 (some .boolean) :: ([.fieldLink RX3 24 "ClassRules$Members" "accesses" "[I", .fieldLink RX3 34 "ClassRules$Members" "types" "LClassRules$Types;", .fieldLink RX3 9 "ClassRules$Members" "owners" "[I"] ++ wsX30 ++ wsX50)
def wsX3_shared : List Cond := .code yX3_shared cX3_shared 4 (some .boolean) :: ([.fieldLink RX3 34 "ClassRules$Members" "types" "LClassRules$Types;", .fieldLink RX3 9 "ClassRules$Members" "owners" "[I", .methodLink RX3 47 yX3_marked, .instanceMethod yX3_marked, .selects RX3 yX3_marked yX3_marked, .initialized RX3, .code yX3_marked cX3_marked 3 (some .boolean), .fieldLink RX3 21 "ClassRules$Members" "marks" "[I", .methodLink RX3 51 yX3_ofFace, .instanceMethod yX3_ofFace, .selects RX3 yX3_ofFace yX3_ofFace, .code yX3_ofFace cX3_ofFace 2 (some .boolean), .static yX6_holds, .initialized RX6, .code yX6_holds cX6_holds 2 (some .boolean), .methodLink RX3 61 yX3_seenFrom, .instanceMethod yX3_seenFrom, .selects RX3 yX3_seenFrom yX3_seenFrom, .code yX3_seenFrom cX3_seenFrom 3 (some .boolean), .fieldLink RX3 24 "ClassRules$Members" "accesses" "[I"] ++ wsX30 ++ wsX50)
def wsX5_parentThere : List Cond := .code yX5_parentThere cX5_parentThere 2 (some .int) :: ([.fieldLink RX5 21 "ClassRules$Types" "parents" "[I", .fieldLink RX5 45 "ClassRules$Types" "count" "I"] ++ wsX50)
def wsX0_seekClassOne_r1 : List Cond := [Cond.fieldLink RX0 25 "ClassRules$Choice" "classOne" "I", Cond.fieldLink RX0 28 "ClassRules$Choice" "types" "LClassRules$Types;", Cond.fieldLink RX0 32 "ClassRules$Choice" "members" "LClassRules$Members;", Cond.methodLink RX0 49 yX3_named, Cond.instanceMethod yX3_named, Cond.selects RX3 yX3_named yX3_named, Cond.initialized RX3, Cond.code yX3_named cX3_named 4 (some .boolean), Cond.fieldLink RX3 15 "ClassRules$Members" "names" "[I", Cond.fieldLink RX3 18 "ClassRules$Members" "params" "[I", Cond.methodLink RX0 53 yX3_marked, Cond.instanceMethod yX3_marked, Cond.selects RX3 yX3_marked yX3_marked, Cond.code yX3_marked cX3_marked 3 (some .boolean), Cond.fieldLink RX3 21 "ClassRules$Members" "marks" "[I", Cond.methodLink RX0 57 yX3_shared, Cond.instanceMethod yX3_shared, Cond.selects RX3 yX3_shared yX3_shared, Cond.code yX3_shared cX3_shared 4 (some .boolean), Cond.fieldLink RX3 34 "ClassRules$Members" "types" "LClassRules$Types;", Cond.fieldLink RX3 9 "ClassRules$Members" "owners" "[I", Cond.methodLink RX3 47 yX3_marked, Cond.methodLink RX3 51 yX3_ofFace, Cond.instanceMethod yX3_ofFace]
def wsX0_seekClassOne_r2 : List Cond := [Cond.selects RX3 yX3_ofFace yX3_ofFace, Cond.code yX3_ofFace cX3_ofFace 2 (some .boolean), Cond.static yX6_holds, Cond.initialized RX6, Cond.code yX6_holds cX6_holds 2 (some .boolean), Cond.methodLink RX3 61 yX3_seenFrom, Cond.instanceMethod yX3_seenFrom, Cond.selects RX3 yX3_seenFrom yX3_seenFrom, Cond.code yX3_seenFrom cX3_seenFrom 3 (some .boolean), Cond.fieldLink RX3 24 "ClassRules$Members" "accesses" "[I", Cond.methodLink RX0 60 yX5_parentThere, Cond.instanceMethod yX5_parentThere, Cond.selects RX5 yX5_parentThere yX5_parentThere, Cond.initialized RX5, Cond.code yX5_parentThere cX5_parentThere 2 (some .int), Cond.fieldLink RX5 21 "ClassRules$Types" "parents" "[I", Cond.fieldLink RX5 45 "ClassRules$Types" "count" "I"]
def wsX0_seekClassOne : List Cond := .code yX0_seekClassOne cX0_seekClassOne 7 none :: ((wsX0_seekClassOne_r1 ++ wsX0_seekClassOne_r2) ++ wsX00 ++ wsX50 ++ wsX30)
def wsX5_stands : List Cond := .code yX5_stands cX5_stands 3 (some .boolean) :: ([.fieldLink RX5 42 "ClassRules$Types" "above" "[I"] ++ wsX50)
def wsX0_givenByFace_r1 : List Cond := [Cond.fieldLink RX0 32 "ClassRules$Choice" "members" "LClassRules$Members;", Cond.fieldLink RX0 28 "ClassRules$Choice" "types" "LClassRules$Types;", Cond.methodLink RX0 49 yX3_named, Cond.instanceMethod yX3_named, Cond.selects RX3 yX3_named yX3_named, Cond.initialized RX3, Cond.code yX3_named cX3_named 4 (some .boolean), Cond.fieldLink RX3 15 "ClassRules$Members" "names" "[I", Cond.fieldLink RX3 18 "ClassRules$Members" "params" "[I", Cond.methodLink RX0 77 yX3_ofFace, Cond.instanceMethod yX3_ofFace, Cond.selects RX3 yX3_ofFace yX3_ofFace, Cond.code yX3_ofFace cX3_ofFace 2 (some .boolean), Cond.fieldLink RX3 34 "ClassRules$Members" "types" "LClassRules$Types;", Cond.fieldLink RX3 9 "ClassRules$Members" "owners" "[I", Cond.methodLink RX0 81 yX5_stands, Cond.instanceMethod yX5_stands, Cond.selects RX5 yX5_stands yX5_stands, Cond.initialized RX5, Cond.code yX5_stands cX5_stands 3 (some .boolean), Cond.fieldLink RX5 42 "ClassRules$Types" "above" "[I", Cond.methodLink RX0 53 yX3_marked, Cond.instanceMethod yX3_marked, Cond.selects RX3 yX3_marked yX3_marked]
def wsX0_givenByFace_r2 : List Cond := [Cond.code yX3_marked cX3_marked 3 (some .boolean), Cond.fieldLink RX3 21 "ClassRules$Members" "marks" "[I"]
def wsX0_givenByFace : List Cond := .code yX0_givenByFace cX0_givenByFace 5 (some .boolean) :: ((wsX0_givenByFace_r1 ++ wsX0_givenByFace_r2) ++ wsX00 ++ wsX30 ++ wsX50)
def wsX6_bit : List Cond := .code yX6_bit cX6_bit 1 (some .int) :: ([])
def wsX0_seekFaceOnes_r1 : List Cond := [Cond.fieldLink RX0 32 "ClassRules$Choice" "members" "LClassRules$Members;", Cond.fieldLink RX0 28 "ClassRules$Choice" "types" "LClassRules$Types;", Cond.fieldLink RX0 21 "ClassRules$Choice" "faceOnesCount" "I", Cond.fieldLink RX0 9 "ClassRules$Choice" "faceOnes" "[I", Cond.methodLink RX0 64 yX0_givenByFace, Cond.instanceMethod yX0_givenByFace, Cond.selects RX0 yX0_givenByFace yX0_givenByFace, Cond.initialized RX0, Cond.code yX0_givenByFace cX0_givenByFace 5 (some .boolean), Cond.methodLink RX0 49 yX3_named, Cond.instanceMethod yX3_named, Cond.selects RX3 yX3_named yX3_named, Cond.initialized RX3, Cond.code yX3_named cX3_named 4 (some .boolean), Cond.fieldLink RX3 15 "ClassRules$Members" "names" "[I", Cond.fieldLink RX3 18 "ClassRules$Members" "params" "[I", Cond.methodLink RX0 77 yX3_ofFace, Cond.instanceMethod yX3_ofFace, Cond.selects RX3 yX3_ofFace yX3_ofFace, Cond.code yX3_ofFace cX3_ofFace 2 (some .boolean), Cond.fieldLink RX3 34 "ClassRules$Members" "types" "LClassRules$Types;", Cond.fieldLink RX3 9 "ClassRules$Members" "owners" "[I", Cond.methodLink RX0 81 yX5_stands, Cond.instanceMethod yX5_stands]
def wsX0_seekFaceOnes_r2 : List Cond := [Cond.selects RX5 yX5_stands yX5_stands, Cond.initialized RX5, Cond.code yX5_stands cX5_stands 3 (some .boolean), Cond.fieldLink RX5 42 "ClassRules$Types" "above" "[I", Cond.methodLink RX0 53 yX3_marked, Cond.instanceMethod yX3_marked, Cond.selects RX3 yX3_marked yX3_marked, Cond.code yX3_marked cX3_marked 3 (some .boolean), Cond.fieldLink RX3 21 "ClassRules$Members" "marks" "[I", Cond.static yX6_bit, Cond.initialized RX6, Cond.code yX6_bit cX6_bit 1 (some .int), Cond.static yX6_holds, Cond.code yX6_holds cX6_holds 2 (some .boolean)]
def wsX0_seekFaceOnes : List Cond := .code yX0_seekFaceOnes cX0_seekFaceOnes 8 none :: ((wsX0_seekFaceOnes_r1 ++ wsX0_seekFaceOnes_r2) ++ wsX00 ++ wsX30 ++ wsX50)
def wsX0_leastFaceOneWith : List Cond := .code yX0_leastFaceOneWith cX0_leastFaceOneWith 3 (some .int) :: ([.fieldLink RX0 21 "ClassRules$Choice" "faceOnesCount" "I", .fieldLink RX0 32 "ClassRules$Choice" "members" "LClassRules$Members;", .fieldLink RX0 9 "ClassRules$Choice" "faceOnes" "[I", .methodLink RX0 53 yX3_marked, .instanceMethod yX3_marked, .selects RX3 yX3_marked yX3_marked, .initialized RX3, .code yX3_marked cX3_marked 3 (some .boolean), .fieldLink RX3 21 "ClassRules$Members" "marks" "[I"] ++ wsX00 ++ wsX30)
def wsX0_leastToBeGiven : List Cond := .code yX0_leastToBeGiven cX0_leastToBeGiven 1 (some .int) :: ([.fieldLink RX0 25 "ClassRules$Choice" "classOne" "I", .fieldLink RX0 32 "ClassRules$Choice" "members" "LClassRules$Members;", .methodLink RX0 53 yX3_marked, .instanceMethod yX3_marked, .selects RX3 yX3_marked yX3_marked, .initialized RX3, .code yX3_marked cX3_marked 3 (some .boolean), .fieldLink RX3 21 "ClassRules$Members" "marks" "[I", .methodLink RX0 87 yX0_leastFaceOneWith, .instanceMethod yX0_leastFaceOneWith, .selects RX0 yX0_leastFaceOneWith yX0_leastFaceOneWith, .initialized RX0, .code yX0_leastFaceOneWith cX0_leastFaceOneWith 3 (some .int), .fieldLink RX0 21 "ClassRules$Choice" "faceOnesCount" "I", .fieldLink RX0 9 "ClassRules$Choice" "faceOnes" "[I"] ++ wsX00 ++ wsX30)
def wsX0_leastOfRivals : List Cond := .code yX0_leastOfRivals cX0_leastOfRivals 2 (some .int) :: ([.fieldLink RX0 25 "ClassRules$Choice" "classOne" "I", .fieldLink RX0 21 "ClassRules$Choice" "faceOnesCount" "I", .fieldLink RX0 9 "ClassRules$Choice" "faceOnes" "[I", .methodLink RX0 87 yX0_leastFaceOneWith, .instanceMethod yX0_leastFaceOneWith, .selects RX0 yX0_leastFaceOneWith yX0_leastFaceOneWith, .initialized RX0, .code yX0_leastFaceOneWith cX0_leastFaceOneWith 3 (some .int), .fieldLink RX0 32 "ClassRules$Choice" "members" "LClassRules$Members;", .methodLink RX0 53 yX3_marked, .instanceMethod yX3_marked, .selects RX3 yX3_marked yX3_marked, .initialized RX3, .code yX3_marked cX3_marked 3 (some .boolean), .fieldLink RX3 21 "ClassRules$Members" "marks" "[I"] ++ wsX00 ++ wsX30)
def wsX0_unlessAbstract : List Cond := .code yX0_unlessAbstract cX0_unlessAbstract 2 (some .int) :: ([.fieldLink RX0 32 "ClassRules$Choice" "members" "LClassRules$Members;", .methodLink RX0 53 yX3_marked, .instanceMethod yX3_marked, .selects RX3 yX3_marked yX3_marked, .initialized RX3, .code yX3_marked cX3_marked 3 (some .boolean), .fieldLink RX3 21 "ClassRules$Members" "marks" "[I"] ++ wsX00 ++ wsX30)
def wsX0_running_r1 : List Cond := [Cond.fieldLink RX0 25 "ClassRules$Choice" "classOne" "I", Cond.fieldLink RX0 21 "ClassRules$Choice" "faceOnesCount" "I", Cond.methodLink RX0 90 yX0_seekClassOne, Cond.instanceMethod yX0_seekClassOne, Cond.selects RX0 yX0_seekClassOne yX0_seekClassOne, Cond.initialized RX0, Cond.code yX0_seekClassOne cX0_seekClassOne 7 none, Cond.fieldLink RX0 28 "ClassRules$Choice" "types" "LClassRules$Types;", Cond.fieldLink RX0 32 "ClassRules$Choice" "members" "LClassRules$Members;", Cond.methodLink RX0 49 yX3_named, Cond.instanceMethod yX3_named, Cond.selects RX3 yX3_named yX3_named, Cond.initialized RX3, Cond.code yX3_named cX3_named 4 (some .boolean), Cond.fieldLink RX3 15 "ClassRules$Members" "names" "[I", Cond.fieldLink RX3 18 "ClassRules$Members" "params" "[I", Cond.methodLink RX0 53 yX3_marked, Cond.instanceMethod yX3_marked, Cond.selects RX3 yX3_marked yX3_marked, Cond.code yX3_marked cX3_marked 3 (some .boolean), Cond.fieldLink RX3 21 "ClassRules$Members" "marks" "[I", Cond.methodLink RX0 57 yX3_shared, Cond.instanceMethod yX3_shared, Cond.selects RX3 yX3_shared yX3_shared]
def wsX0_running_r2 : List Cond := [Cond.code yX3_shared cX3_shared 4 (some .boolean), Cond.fieldLink RX3 34 "ClassRules$Members" "types" "LClassRules$Types;", Cond.fieldLink RX3 9 "ClassRules$Members" "owners" "[I", Cond.methodLink RX3 47 yX3_marked, Cond.methodLink RX3 51 yX3_ofFace, Cond.instanceMethod yX3_ofFace, Cond.selects RX3 yX3_ofFace yX3_ofFace, Cond.code yX3_ofFace cX3_ofFace 2 (some .boolean), Cond.static yX6_holds, Cond.initialized RX6, Cond.code yX6_holds cX6_holds 2 (some .boolean), Cond.methodLink RX3 61 yX3_seenFrom, Cond.instanceMethod yX3_seenFrom, Cond.selects RX3 yX3_seenFrom yX3_seenFrom, Cond.code yX3_seenFrom cX3_seenFrom 3 (some .boolean), Cond.fieldLink RX3 24 "ClassRules$Members" "accesses" "[I", Cond.methodLink RX0 60 yX5_parentThere, Cond.instanceMethod yX5_parentThere, Cond.selects RX5 yX5_parentThere yX5_parentThere, Cond.initialized RX5, Cond.code yX5_parentThere cX5_parentThere 2 (some .int), Cond.fieldLink RX5 21 "ClassRules$Types" "parents" "[I", Cond.fieldLink RX5 45 "ClassRules$Types" "count" "I", Cond.methodLink RX0 94 yX0_unlessAbstract]
def wsX0_running_r3 : List Cond := [Cond.instanceMethod yX0_unlessAbstract, Cond.selects RX0 yX0_unlessAbstract yX0_unlessAbstract, Cond.code yX0_unlessAbstract cX0_unlessAbstract 2 (some .int), Cond.methodLink RX0 97 yX0_seekFaceOnes, Cond.instanceMethod yX0_seekFaceOnes, Cond.selects RX0 yX0_seekFaceOnes yX0_seekFaceOnes, Cond.code yX0_seekFaceOnes cX0_seekFaceOnes 8 none, Cond.fieldLink RX0 9 "ClassRules$Choice" "faceOnes" "[I", Cond.methodLink RX0 64 yX0_givenByFace, Cond.instanceMethod yX0_givenByFace, Cond.selects RX0 yX0_givenByFace yX0_givenByFace, Cond.code yX0_givenByFace cX0_givenByFace 5 (some .boolean), Cond.methodLink RX0 77 yX3_ofFace, Cond.methodLink RX0 81 yX5_stands, Cond.instanceMethod yX5_stands, Cond.selects RX5 yX5_stands yX5_stands, Cond.code yX5_stands cX5_stands 3 (some .boolean), Cond.fieldLink RX5 42 "ClassRules$Types" "above" "[I", Cond.static yX6_bit, Cond.code yX6_bit cX6_bit 1 (some .int), Cond.methodLink RX0 87 yX0_leastFaceOneWith, Cond.instanceMethod yX0_leastFaceOneWith, Cond.selects RX0 yX0_leastFaceOneWith yX0_leastFaceOneWith, Cond.code yX0_leastFaceOneWith cX0_leastFaceOneWith 3 (some .int)]
def wsX0_running : List Cond := .code yX0_running cX0_running 4 (some .int) :: ((wsX0_running_r1 ++ (wsX0_running_r2 ++ wsX0_running_r3)) ++ wsX00 ++ wsX50 ++ wsX30)
def wsX0_meantBy_r1 : List Cond := [Cond.fieldLink RX0 25 "ClassRules$Choice" "classOne" "I", Cond.fieldLink RX0 21 "ClassRules$Choice" "faceOnesCount" "I", Cond.fieldLink RX0 9 "ClassRules$Choice" "faceOnes" "[I", Cond.methodLink RX0 90 yX0_seekClassOne, Cond.instanceMethod yX0_seekClassOne, Cond.selects RX0 yX0_seekClassOne yX0_seekClassOne, Cond.initialized RX0, Cond.code yX0_seekClassOne cX0_seekClassOne 7 none, Cond.fieldLink RX0 28 "ClassRules$Choice" "types" "LClassRules$Types;", Cond.fieldLink RX0 32 "ClassRules$Choice" "members" "LClassRules$Members;", Cond.methodLink RX0 49 yX3_named, Cond.instanceMethod yX3_named, Cond.selects RX3 yX3_named yX3_named, Cond.initialized RX3, Cond.code yX3_named cX3_named 4 (some .boolean), Cond.fieldLink RX3 15 "ClassRules$Members" "names" "[I", Cond.fieldLink RX3 18 "ClassRules$Members" "params" "[I", Cond.methodLink RX0 53 yX3_marked, Cond.instanceMethod yX3_marked, Cond.selects RX3 yX3_marked yX3_marked, Cond.code yX3_marked cX3_marked 3 (some .boolean), Cond.fieldLink RX3 21 "ClassRules$Members" "marks" "[I", Cond.methodLink RX0 57 yX3_shared, Cond.instanceMethod yX3_shared]
def wsX0_meantBy_r2 : List Cond := [Cond.selects RX3 yX3_shared yX3_shared, Cond.code yX3_shared cX3_shared 4 (some .boolean), Cond.fieldLink RX3 34 "ClassRules$Members" "types" "LClassRules$Types;", Cond.fieldLink RX3 9 "ClassRules$Members" "owners" "[I", Cond.methodLink RX3 47 yX3_marked, Cond.methodLink RX3 51 yX3_ofFace, Cond.instanceMethod yX3_ofFace, Cond.selects RX3 yX3_ofFace yX3_ofFace, Cond.code yX3_ofFace cX3_ofFace 2 (some .boolean), Cond.static yX6_holds, Cond.initialized RX6, Cond.code yX6_holds cX6_holds 2 (some .boolean), Cond.methodLink RX3 61 yX3_seenFrom, Cond.instanceMethod yX3_seenFrom, Cond.selects RX3 yX3_seenFrom yX3_seenFrom, Cond.code yX3_seenFrom cX3_seenFrom 3 (some .boolean), Cond.fieldLink RX3 24 "ClassRules$Members" "accesses" "[I", Cond.methodLink RX0 60 yX5_parentThere, Cond.instanceMethod yX5_parentThere, Cond.selects RX5 yX5_parentThere yX5_parentThere, Cond.initialized RX5, Cond.code yX5_parentThere cX5_parentThere 2 (some .int), Cond.fieldLink RX5 21 "ClassRules$Types" "parents" "[I", Cond.fieldLink RX5 45 "ClassRules$Types" "count" "I"]
def wsX0_meantBy_r3 : List Cond := [Cond.methodLink RX0 97 yX0_seekFaceOnes, Cond.instanceMethod yX0_seekFaceOnes, Cond.selects RX0 yX0_seekFaceOnes yX0_seekFaceOnes, Cond.code yX0_seekFaceOnes cX0_seekFaceOnes 8 none, Cond.methodLink RX0 64 yX0_givenByFace, Cond.instanceMethod yX0_givenByFace, Cond.selects RX0 yX0_givenByFace yX0_givenByFace, Cond.code yX0_givenByFace cX0_givenByFace 5 (some .boolean), Cond.methodLink RX0 77 yX3_ofFace, Cond.methodLink RX0 81 yX5_stands, Cond.instanceMethod yX5_stands, Cond.selects RX5 yX5_stands yX5_stands, Cond.code yX5_stands cX5_stands 3 (some .boolean), Cond.fieldLink RX5 42 "ClassRules$Types" "above" "[I", Cond.static yX6_bit, Cond.code yX6_bit cX6_bit 1 (some .int)]
def wsX0_meantBy : List Cond := .code yX0_meantBy cX0_meantBy 4 (some .int) :: ((wsX0_meantBy_r1 ++ (wsX0_meantBy_r2 ++ wsX0_meantBy_r3)) ++ wsX00 ++ wsX50 ++ wsX30)
def wsX0_chainUpTo : List Cond := .code yX0_chainUpTo cX0_chainUpTo 5 (some .int) :: ([.fieldLink RX0 15 "ClassRules$Choice" "chain" "[I", .fieldLink RX0 28 "ClassRules$Choice" "types" "LClassRules$Types;", .methodLink RX0 60 yX5_parentThere, .instanceMethod yX5_parentThere, .selects RX5 yX5_parentThere yX5_parentThere, .initialized RX5, .code yX5_parentThere cX5_parentThere 2 (some .int), .fieldLink RX5 21 "ClassRules$Types" "parents" "[I", .fieldLink RX5 45 "ClassRules$Types" "count" "I"] ++ wsX00 ++ wsX50)
def wsX3_alike : List Cond := .code yX3_alike cX3_alike 3 (some .boolean) :: ([.fieldLink RX3 15 "ClassRules$Members" "names" "[I", .fieldLink RX3 18 "ClassRules$Members" "params" "[I", .methodLink RX3 38 yX3_named, .instanceMethod yX3_named, .selects RX3 yX3_named yX3_named, .initialized RX3, .code yX3_named cX3_named 4 (some .boolean)] ++ wsX30)
def wsX0_overriderIn : List Cond := .code yX0_overriderIn cX0_overriderIn 4 (some .int) :: ([.fieldLink RX0 32 "ClassRules$Choice" "members" "LClassRules$Members;", .methodLink RX0 120 yX3_alike, .instanceMethod yX3_alike, .selects RX3 yX3_alike yX3_alike, .initialized RX3, .code yX3_alike cX3_alike 3 (some .boolean), .fieldLink RX3 15 "ClassRules$Members" "names" "[I", .fieldLink RX3 18 "ClassRules$Members" "params" "[I", .methodLink RX3 38 yX3_named, .instanceMethod yX3_named, .selects RX3 yX3_named yX3_named, .code yX3_named cX3_named 4 (some .boolean), .methodLink RX0 53 yX3_marked, .instanceMethod yX3_marked, .selects RX3 yX3_marked yX3_marked, .code yX3_marked cX3_marked 3 (some .boolean), .fieldLink RX3 21 "ClassRules$Members" "marks" "[I"] ++ wsX00 ++ wsX30)
def wsX0_takesPlace : List Cond := .code yX0_takesPlace cX0_takesPlace 4 (some .boolean) :: ([.fieldLink RX0 32 "ClassRules$Choice" "members" "LClassRules$Members;", .fieldLink RX0 18 "ClassRules$Choice" "takers" "[I", .methodLink RX0 123 yX3_seenFrom, .instanceMethod yX3_seenFrom, .selects RX3 yX3_seenFrom yX3_seenFrom, .initialized RX3, .code yX3_seenFrom cX3_seenFrom 3 (some .boolean), .fieldLink RX3 24 "ClassRules$Members" "accesses" "[I", .fieldLink RX3 34 "ClassRules$Members" "types" "LClassRules$Types;", .fieldLink RX3 9 "ClassRules$Members" "owners" "[I"] ++ wsX00 ++ wsX30 ++ wsX50)
def wsX0_inPlaceOf_r1 : List Cond := [Cond.fieldLink RX0 32 "ClassRules$Choice" "members" "LClassRules$Members;", Cond.fieldLink RX0 18 "ClassRules$Choice" "takers" "[I", Cond.fieldLink RX0 15 "ClassRules$Choice" "chain" "[I", Cond.methodLink RX0 111 yX0_chainUpTo, Cond.instanceMethod yX0_chainUpTo, Cond.selects RX0 yX0_chainUpTo yX0_chainUpTo, Cond.initialized RX0, Cond.code yX0_chainUpTo cX0_chainUpTo 5 (some .int), Cond.fieldLink RX0 28 "ClassRules$Choice" "types" "LClassRules$Types;", Cond.methodLink RX0 60 yX5_parentThere, Cond.instanceMethod yX5_parentThere, Cond.selects RX5 yX5_parentThere yX5_parentThere, Cond.initialized RX5, Cond.code yX5_parentThere cX5_parentThere 2 (some .int), Cond.fieldLink RX5 21 "ClassRules$Types" "parents" "[I", Cond.fieldLink RX5 45 "ClassRules$Types" "count" "I", Cond.methodLink RX0 114 yX0_overriderIn, Cond.instanceMethod yX0_overriderIn, Cond.selects RX0 yX0_overriderIn yX0_overriderIn, Cond.code yX0_overriderIn cX0_overriderIn 4 (some .int), Cond.methodLink RX0 120 yX3_alike, Cond.instanceMethod yX3_alike, Cond.selects RX3 yX3_alike yX3_alike, Cond.initialized RX3]
def wsX0_inPlaceOf_r2 : List Cond := [Cond.code yX3_alike cX3_alike 3 (some .boolean), Cond.fieldLink RX3 15 "ClassRules$Members" "names" "[I", Cond.fieldLink RX3 18 "ClassRules$Members" "params" "[I", Cond.methodLink RX3 38 yX3_named, Cond.instanceMethod yX3_named, Cond.selects RX3 yX3_named yX3_named, Cond.code yX3_named cX3_named 4 (some .boolean), Cond.methodLink RX0 53 yX3_marked, Cond.instanceMethod yX3_marked, Cond.selects RX3 yX3_marked yX3_marked, Cond.code yX3_marked cX3_marked 3 (some .boolean), Cond.fieldLink RX3 21 "ClassRules$Members" "marks" "[I", Cond.methodLink RX0 117 yX0_takesPlace, Cond.instanceMethod yX0_takesPlace, Cond.selects RX0 yX0_takesPlace yX0_takesPlace, Cond.code yX0_takesPlace cX0_takesPlace 4 (some .boolean), Cond.methodLink RX0 123 yX3_seenFrom, Cond.instanceMethod yX3_seenFrom, Cond.selects RX3 yX3_seenFrom yX3_seenFrom, Cond.code yX3_seenFrom cX3_seenFrom 3 (some .boolean), Cond.fieldLink RX3 24 "ClassRules$Members" "accesses" "[I", Cond.fieldLink RX3 34 "ClassRules$Members" "types" "LClassRules$Types;", Cond.fieldLink RX3 9 "ClassRules$Members" "owners" "[I"]
def wsX0_inPlaceOf : List Cond := .code yX0_inPlaceOf cX0_inPlaceOf 7 (some .int) :: ((wsX0_inPlaceOf_r1 ++ wsX0_inPlaceOf_r2) ++ wsX00 ++ wsX30 ++ wsX50)
def wsX0_reached_r1 : List Cond := [Cond.fieldLink RX0 32 "ClassRules$Choice" "members" "LClassRules$Members;", Cond.methodLink RX0 100 yX0_meantBy, Cond.instanceMethod yX0_meantBy, Cond.selects RX0 yX0_meantBy yX0_meantBy, Cond.initialized RX0, Cond.code yX0_meantBy cX0_meantBy 4 (some .int), Cond.fieldLink RX0 25 "ClassRules$Choice" "classOne" "I", Cond.fieldLink RX0 21 "ClassRules$Choice" "faceOnesCount" "I", Cond.fieldLink RX0 9 "ClassRules$Choice" "faceOnes" "[I", Cond.methodLink RX0 90 yX0_seekClassOne, Cond.instanceMethod yX0_seekClassOne, Cond.selects RX0 yX0_seekClassOne yX0_seekClassOne, Cond.code yX0_seekClassOne cX0_seekClassOne 7 none, Cond.fieldLink RX0 28 "ClassRules$Choice" "types" "LClassRules$Types;", Cond.methodLink RX0 49 yX3_named, Cond.instanceMethod yX3_named, Cond.selects RX3 yX3_named yX3_named, Cond.initialized RX3, Cond.code yX3_named cX3_named 4 (some .boolean), Cond.fieldLink RX3 15 "ClassRules$Members" "names" "[I", Cond.fieldLink RX3 18 "ClassRules$Members" "params" "[I", Cond.methodLink RX0 53 yX3_marked, Cond.instanceMethod yX3_marked, Cond.selects RX3 yX3_marked yX3_marked]
def wsX0_reached_r2 : List Cond := [Cond.code yX3_marked cX3_marked 3 (some .boolean), Cond.fieldLink RX3 21 "ClassRules$Members" "marks" "[I", Cond.methodLink RX0 57 yX3_shared, Cond.instanceMethod yX3_shared, Cond.selects RX3 yX3_shared yX3_shared, Cond.code yX3_shared cX3_shared 4 (some .boolean), Cond.fieldLink RX3 34 "ClassRules$Members" "types" "LClassRules$Types;", Cond.fieldLink RX3 9 "ClassRules$Members" "owners" "[I", Cond.methodLink RX3 47 yX3_marked, Cond.methodLink RX3 51 yX3_ofFace, Cond.instanceMethod yX3_ofFace, Cond.selects RX3 yX3_ofFace yX3_ofFace, Cond.code yX3_ofFace cX3_ofFace 2 (some .boolean), Cond.static yX6_holds, Cond.initialized RX6, Cond.code yX6_holds cX6_holds 2 (some .boolean), Cond.methodLink RX3 61 yX3_seenFrom, Cond.instanceMethod yX3_seenFrom, Cond.selects RX3 yX3_seenFrom yX3_seenFrom, Cond.code yX3_seenFrom cX3_seenFrom 3 (some .boolean), Cond.fieldLink RX3 24 "ClassRules$Members" "accesses" "[I", Cond.methodLink RX0 60 yX5_parentThere, Cond.instanceMethod yX5_parentThere, Cond.selects RX5 yX5_parentThere yX5_parentThere]
def wsX0_reached_r3 : List Cond := [Cond.initialized RX5, Cond.code yX5_parentThere cX5_parentThere 2 (some .int), Cond.fieldLink RX5 21 "ClassRules$Types" "parents" "[I", Cond.fieldLink RX5 45 "ClassRules$Types" "count" "I", Cond.methodLink RX0 97 yX0_seekFaceOnes, Cond.instanceMethod yX0_seekFaceOnes, Cond.selects RX0 yX0_seekFaceOnes yX0_seekFaceOnes, Cond.code yX0_seekFaceOnes cX0_seekFaceOnes 8 none, Cond.methodLink RX0 64 yX0_givenByFace, Cond.instanceMethod yX0_givenByFace, Cond.selects RX0 yX0_givenByFace yX0_givenByFace, Cond.code yX0_givenByFace cX0_givenByFace 5 (some .boolean), Cond.methodLink RX0 77 yX3_ofFace, Cond.methodLink RX0 81 yX5_stands, Cond.instanceMethod yX5_stands, Cond.selects RX5 yX5_stands yX5_stands, Cond.code yX5_stands cX5_stands 3 (some .boolean), Cond.fieldLink RX5 42 "ClassRules$Types" "above" "[I", Cond.static yX6_bit, Cond.code yX6_bit cX6_bit 1 (some .int), Cond.methodLink RX0 104 yX0_running, Cond.instanceMethod yX0_running, Cond.selects RX0 yX0_running yX0_running, Cond.code yX0_running cX0_running 4 (some .int)]
def wsX0_reached_r4 : List Cond := [Cond.methodLink RX0 94 yX0_unlessAbstract, Cond.instanceMethod yX0_unlessAbstract, Cond.selects RX0 yX0_unlessAbstract yX0_unlessAbstract, Cond.code yX0_unlessAbstract cX0_unlessAbstract 2 (some .int), Cond.methodLink RX0 87 yX0_leastFaceOneWith, Cond.instanceMethod yX0_leastFaceOneWith, Cond.selects RX0 yX0_leastFaceOneWith yX0_leastFaceOneWith, Cond.code yX0_leastFaceOneWith cX0_leastFaceOneWith 3 (some .int), Cond.methodLink RX0 107 yX0_inPlaceOf, Cond.instanceMethod yX0_inPlaceOf, Cond.selects RX0 yX0_inPlaceOf yX0_inPlaceOf, Cond.code yX0_inPlaceOf cX0_inPlaceOf 7 (some .int), Cond.fieldLink RX0 18 "ClassRules$Choice" "takers" "[I", Cond.fieldLink RX0 15 "ClassRules$Choice" "chain" "[I", Cond.methodLink RX0 111 yX0_chainUpTo, Cond.instanceMethod yX0_chainUpTo, Cond.selects RX0 yX0_chainUpTo yX0_chainUpTo, Cond.code yX0_chainUpTo cX0_chainUpTo 5 (some .int), Cond.methodLink RX0 114 yX0_overriderIn, Cond.instanceMethod yX0_overriderIn, Cond.selects RX0 yX0_overriderIn yX0_overriderIn, Cond.code yX0_overriderIn cX0_overriderIn 4 (some .int), Cond.methodLink RX0 120 yX3_alike, Cond.instanceMethod yX3_alike]
def wsX0_reached_r5 : List Cond := [Cond.selects RX3 yX3_alike yX3_alike, Cond.code yX3_alike cX3_alike 3 (some .boolean), Cond.methodLink RX3 38 yX3_named, Cond.methodLink RX0 117 yX0_takesPlace, Cond.instanceMethod yX0_takesPlace, Cond.selects RX0 yX0_takesPlace yX0_takesPlace, Cond.code yX0_takesPlace cX0_takesPlace 4 (some .boolean), Cond.methodLink RX0 123 yX3_seenFrom]
def wsX0_reached : List Cond := .code yX0_reached cX0_reached 6 (some .int) :: ((wsX0_reached_r1 ++ (wsX0_reached_r2 ++ (wsX0_reached_r3 ++ (wsX0_reached_r4 ++ wsX0_reached_r5)))) ++ wsX00 ++ wsX30 ++ wsX50)
def wsX4_init : List Cond := .code yX4_init cX4_init 2 none :: ([.methodLink RX4 3 objectInit, .instanceMethod objectInit, .code objectInit ⟨#[0xb1]⟩ 1 none, .fieldLink RX4 9 "ClassRules$TypeRules" "types" "LClassRules$Types;"] ++ wsX40)
def wsX2_init : List Cond := .code yX2_init cX2_init 3 none :: ([.methodLink RX2 3 objectInit, .instanceMethod objectInit, .code objectInit ⟨#[0xb1]⟩ 1 none, .fieldLink RX2 9 "ClassRules$MemberRules" "types" "LClassRules$Types;", .fieldLink RX2 15 "ClassRules$MemberRules" "members" "LClassRules$Members;"] ++ wsX20)
def wsX1_init_r1 : List Cond := [Cond.methodLink RX1 3 objectInit, Cond.instanceMethod objectInit, Cond.code objectInit ⟨#[0xb1]⟩ 1 none, Cond.arrayClass .long, Cond.fieldLink RX1 11 "ClassRules$Judge" "found" "[J", Cond.arrayClass .int, Cond.fieldLink RX1 15 "ClassRules$Judge" "counts" "[I", Cond.fieldLink RX1 19 "ClassRules$Judge" "counted" "I", Cond.fieldLink RX1 23 "ClassRules$Judge" "kept" "I", Cond.fieldLink RX1 26 "ClassRules$Judge" "types" "LClassRules$Types;", Cond.fieldLink RX1 30 "ClassRules$Judge" "members" "LClassRules$Members;", Cond.fieldLink RX1 34 "ClassRules$Judge" "choice" "LClassRules$Choice;", Cond.classLink RX1 38 RX4, Cond.instantiable RX4 1, Cond.initialized RX4, Cond.fieldLink RX1 43 "ClassRules$Judge" "typeRules" "LClassRules$TypeRules;", Cond.classLink RX1 47 RX2, Cond.instantiable RX2 2, Cond.initialized RX2, Cond.fieldLink RX1 52 "ClassRules$Judge" "memberRules" "LClassRules$MemberRules;", Cond.methodLink RX1 40 yX4_init, Cond.instanceMethod yX4_init, Cond.code yX4_init cX4_init 2 none, Cond.methodLink RX4 3 objectInit]
def wsX1_init_r2 : List Cond := [Cond.fieldLink RX4 9 "ClassRules$TypeRules" "types" "LClassRules$Types;", Cond.methodLink RX1 49 yX2_init, Cond.instanceMethod yX2_init, Cond.code yX2_init cX2_init 3 none, Cond.methodLink RX2 3 objectInit, Cond.fieldLink RX2 9 "ClassRules$MemberRules" "types" "LClassRules$Types;", Cond.fieldLink RX2 15 "ClassRules$MemberRules" "members" "LClassRules$Members;"]
def wsX1_init : List Cond := .code yX1_init cX1_init 4 none :: ((wsX1_init_r1 ++ wsX1_init_r2) ++ wsX10 ++ wsX40 ++ wsX20)
def wsX1_forget : List Cond := .code yX1_forget cX1_forget 1 none :: ([.fieldLink RX1 19 "ClassRules$Judge" "counted" "I", .fieldLink RX1 23 "ClassRules$Judge" "kept" "I"] ++ wsX10)
def wsJ7_fill_d0a16 : List Cond := .code yJ7_fill_d0a16 cJ7_fill_d0a16 5 none :: ([])
def wsX5_next : List Cond := .code yX5_next cX5_next 2 (some .int) :: ([.fieldLink RX5 24 "ClassRules$Types" "parentSets" "[I", .fieldLink RX5 27 "ClassRules$Types" "uppers" "[I"] ++ wsX50)
def wsX5_everyone : List Cond := .code yX5_everyone cX5_everyone 1 (some .int) :: ([.fieldLink RX5 45 "ClassRules$Types" "count" "I", .static yX6_bit, .initialized RX6, .code yX6_bit cX6_bit 1 (some .int)] ++ wsX50)
def wsX4_missing : List Cond := .code yX4_missing cX4_missing 2 (some .int) :: ([.fieldLink RX4 9 "ClassRules$TypeRules" "types" "LClassRules$Types;", .methodLink RX4 15 yX5_next, .instanceMethod yX5_next, .selects RX5 yX5_next yX5_next, .initialized RX5, .code yX5_next cX5_next 2 (some .int), .fieldLink RX5 24 "ClassRules$Types" "parentSets" "[I", .fieldLink RX5 27 "ClassRules$Types" "uppers" "[I", .methodLink RX4 25 yX5_everyone, .instanceMethod yX5_everyone, .selects RX5 yX5_everyone yX5_everyone, .code yX5_everyone cX5_everyone 1 (some .int), .fieldLink RX5 45 "ClassRules$Types" "count" "I", .static yX6_bit, .initialized RX6, .code yX6_bit cX6_bit 1 (some .int)] ++ wsX40 ++ wsX50)
def wsX1_putTypes : List Cond := .code yX1_putTypes cX1_putTypes 3 none :: ([.fieldLink RX1 11 "ClassRules$Judge" "found" "[J"] ++ wsX10)
def wsX4_ring : List Cond := .code yX4_ring cX4_ring 2 (some .int) :: ([.fieldLink RX4 9 "ClassRules$TypeRules" "types" "LClassRules$Types;", .static yX6_bit, .initialized RX6, .code yX6_bit cX6_bit 1 (some .int)] ++ wsX40 ++ wsX50)
def wsX5_ofKind : List Cond := .code yX5_ofKind cX5_ofKind 4 (some .int) :: ([.fieldLink RX5 45 "ClassRules$Types" "count" "I", .fieldLink RX5 9 "ClassRules$Types" "kinds" "[I", .static yX6_bit, .initialized RX6, .code yX6_bit cX6_bit 1 (some .int)] ++ wsX50)
def wsX4_wrongKind : List Cond := .code yX4_wrongKind cX4_wrongKind 3 (some .int) :: ([.fieldLink RX4 9 "ClassRules$TypeRules" "types" "LClassRules$Types;", .methodLink RX4 41 yX5_ofKind, .instanceMethod yX5_ofKind, .selects RX5 yX5_ofKind yX5_ofKind, .initialized RX5, .code yX5_ofKind cX5_ofKind 4 (some .int), .fieldLink RX5 45 "ClassRules$Types" "count" "I", .fieldLink RX5 9 "ClassRules$Types" "kinds" "[I", .static yX6_bit, .initialized RX6, .code yX6_bit cX6_bit 1 (some .int)] ++ wsX40 ++ wsX50)
def wsX5_marked : List Cond := .code yX5_marked cX5_marked 3 (some .boolean) :: ([.fieldLink RX5 15 "ClassRules$Types" "marks" "[I"] ++ wsX50)
def wsX5_withMark : List Cond := .code yX5_withMark cX5_withMark 4 (some .int) :: ([.fieldLink RX5 45 "ClassRules$Types" "count" "I", .methodLink RX5 67 yX5_marked, .instanceMethod yX5_marked, .selects RX5 yX5_marked yX5_marked, .initialized RX5, .code yX5_marked cX5_marked 3 (some .boolean), .fieldLink RX5 15 "ClassRules$Types" "marks" "[I", .static yX6_bit, .initialized RX6, .code yX6_bit cX6_bit 1 (some .int)] ++ wsX50)
def wsX4_finalParent : List Cond := .code yX4_finalParent cX4_finalParent 2 (some .int) :: ([.fieldLink RX4 9 "ClassRules$TypeRules" "types" "LClassRules$Types;", .methodLink RX4 47 yX5_withMark, .instanceMethod yX5_withMark, .selects RX5 yX5_withMark yX5_withMark, .initialized RX5, .code yX5_withMark cX5_withMark 4 (some .int), .fieldLink RX5 45 "ClassRules$Types" "count" "I", .methodLink RX5 67 yX5_marked, .instanceMethod yX5_marked, .selects RX5 yX5_marked yX5_marked, .code yX5_marked cX5_marked 3 (some .boolean), .fieldLink RX5 15 "ClassRules$Types" "marks" "[I", .static yX6_bit, .initialized RX6, .code yX6_bit cX6_bit 1 (some .int)] ++ wsX40 ++ wsX50)
def wsJ6_bitCount_0f7a4 : List Cond := .code yJ6_bitCount_0f7a4 cJ6_bitCount_0f7a4 1 (some .int) :: ([.constant RJ6 265 (1431655765), .constant RJ6 266 (858993459), .constant RJ6 267 (252645135)])
def wsX4_wrongMarks : List Cond := .code yX4_wrongMarks cX4_wrongMarks 8 (some .int) :: ([.fieldLink RX4 9 "ClassRules$TypeRules" "types" "LClassRules$Types;", .methodLink RX4 53 yJ6_bitCount_0f7a4, .static yJ6_bitCount_0f7a4, .initialized RJ6, .code yJ6_bitCount_0f7a4 cJ6_bitCount_0f7a4 1 (some .int), .constant RJ6 265 (1431655765), .constant RJ6 266 (858993459), .constant RJ6 267 (252645135), .static yX6_bit, .initialized RX6, .code yX6_bit cX6_bit 1 (some .int)] ++ wsX40 ++ wsX50)
def wsX4_wrongUnderSealed : List Cond := .code yX4_wrongUnderSealed cX4_wrongUnderSealed 7 (some .int) :: ([.fieldLink RX4 9 "ClassRules$TypeRules" "types" "LClassRules$Types;", .methodLink RX4 15 yX5_next, .instanceMethod yX5_next, .selects RX5 yX5_next yX5_next, .initialized RX5, .code yX5_next cX5_next 2 (some .int), .fieldLink RX5 24 "ClassRules$Types" "parentSets" "[I", .fieldLink RX5 27 "ClassRules$Types" "uppers" "[I", .methodLink RX4 47 yX5_withMark, .instanceMethod yX5_withMark, .selects RX5 yX5_withMark yX5_withMark, .code yX5_withMark cX5_withMark 4 (some .int), .fieldLink RX5 45 "ClassRules$Types" "count" "I", .methodLink RX5 67 yX5_marked, .instanceMethod yX5_marked, .selects RX5 yX5_marked yX5_marked, .code yX5_marked cX5_marked 3 (some .boolean), .fieldLink RX5 15 "ClassRules$Types" "marks" "[I", .static yX6_bit, .initialized RX6, .code yX6_bit cX6_bit 1 (some .int), .methodLink RX4 58 yX5_marked, .static yX6_holds, .code yX6_holds cX6_holds 2 (some .boolean)] ++ wsX40 ++ wsX50)
def wsX4_wrongPermits : List Cond := .code yX4_wrongPermits cX4_wrongPermits 5 (some .int) :: ([.fieldLink RX4 9 "ClassRules$TypeRules" "types" "LClassRules$Types;", .methodLink RX4 25 yX5_everyone, .instanceMethod yX5_everyone, .selects RX5 yX5_everyone yX5_everyone, .initialized RX5, .code yX5_everyone cX5_everyone 1 (some .int), .fieldLink RX5 45 "ClassRules$Types" "count" "I", .static yX6_bit, .initialized RX6, .code yX6_bit cX6_bit 1 (some .int), .methodLink RX4 58 yX5_marked, .instanceMethod yX5_marked, .selects RX5 yX5_marked yX5_marked, .code yX5_marked cX5_marked 3 (some .boolean), .fieldLink RX5 15 "ClassRules$Types" "marks" "[I", .static yX6_holds, .code yX6_holds cX6_holds 2 (some .boolean), .methodLink RX4 15 yX5_next, .instanceMethod yX5_next, .selects RX5 yX5_next yX5_next, .code yX5_next cX5_next 2 (some .int), .fieldLink RX5 24 "ClassRules$Types" "parentSets" "[I", .fieldLink RX5 27 "ClassRules$Types" "uppers" "[I"] ++ wsX40 ++ wsX50)
def wsX4_twice : List Cond := .code yX4_twice cX4_twice 2 (some .int) :: ([.fieldLink RX4 9 "ClassRules$TypeRules" "types" "LClassRules$Types;", .methodLink RX4 25 yX5_everyone, .instanceMethod yX5_everyone, .selects RX5 yX5_everyone yX5_everyone, .initialized RX5, .code yX5_everyone cX5_everyone 1 (some .int), .fieldLink RX5 45 "ClassRules$Types" "count" "I", .static yX6_bit, .initialized RX6, .code yX6_bit cX6_bit 1 (some .int)] ++ wsX40 ++ wsX50)
def wsX1_findTypeFaults_r1 : List Cond := [Cond.fieldLink RX1 43 "ClassRules$Judge" "typeRules" "LClassRules$TypeRules;", Cond.methodLink RX1 101 yX4_missing, Cond.instanceMethod yX4_missing, Cond.selects RX4 yX4_missing yX4_missing, Cond.initialized RX4, Cond.code yX4_missing cX4_missing 2 (some .int), Cond.fieldLink RX4 9 "ClassRules$TypeRules" "types" "LClassRules$Types;", Cond.methodLink RX4 15 yX5_next, Cond.instanceMethod yX5_next, Cond.selects RX5 yX5_next yX5_next, Cond.initialized RX5, Cond.code yX5_next cX5_next 2 (some .int), Cond.fieldLink RX5 24 "ClassRules$Types" "parentSets" "[I", Cond.fieldLink RX5 27 "ClassRules$Types" "uppers" "[I", Cond.methodLink RX4 25 yX5_everyone, Cond.instanceMethod yX5_everyone, Cond.selects RX5 yX5_everyone yX5_everyone, Cond.code yX5_everyone cX5_everyone 1 (some .int), Cond.fieldLink RX5 45 "ClassRules$Types" "count" "I", Cond.static yX6_bit, Cond.initialized RX6, Cond.code yX6_bit cX6_bit 1 (some .int), Cond.methodLink RX1 104 yX1_putTypes, Cond.instanceMethod yX1_putTypes]
def wsX1_findTypeFaults_r2 : List Cond := [Cond.selects RX1 yX1_putTypes yX1_putTypes, Cond.initialized RX1, Cond.code yX1_putTypes cX1_putTypes 3 none, Cond.fieldLink RX1 11 "ClassRules$Judge" "found" "[J", Cond.methodLink RX1 108 yX4_ring, Cond.instanceMethod yX4_ring, Cond.selects RX4 yX4_ring yX4_ring, Cond.code yX4_ring cX4_ring 2 (some .int), Cond.methodLink RX1 111 yX4_wrongKind, Cond.instanceMethod yX4_wrongKind, Cond.selects RX4 yX4_wrongKind yX4_wrongKind, Cond.code yX4_wrongKind cX4_wrongKind 3 (some .int), Cond.methodLink RX4 41 yX5_ofKind, Cond.instanceMethod yX5_ofKind, Cond.selects RX5 yX5_ofKind yX5_ofKind, Cond.code yX5_ofKind cX5_ofKind 4 (some .int), Cond.fieldLink RX5 9 "ClassRules$Types" "kinds" "[I", Cond.methodLink RX1 114 yX4_finalParent, Cond.instanceMethod yX4_finalParent, Cond.selects RX4 yX4_finalParent yX4_finalParent, Cond.code yX4_finalParent cX4_finalParent 2 (some .int), Cond.methodLink RX4 47 yX5_withMark, Cond.instanceMethod yX5_withMark, Cond.selects RX5 yX5_withMark yX5_withMark]
def wsX1_findTypeFaults_r3 : List Cond := [Cond.code yX5_withMark cX5_withMark 4 (some .int), Cond.methodLink RX5 67 yX5_marked, Cond.instanceMethod yX5_marked, Cond.selects RX5 yX5_marked yX5_marked, Cond.code yX5_marked cX5_marked 3 (some .boolean), Cond.fieldLink RX5 15 "ClassRules$Types" "marks" "[I", Cond.methodLink RX1 117 yX4_wrongMarks, Cond.instanceMethod yX4_wrongMarks, Cond.selects RX4 yX4_wrongMarks yX4_wrongMarks, Cond.code yX4_wrongMarks cX4_wrongMarks 8 (some .int), Cond.methodLink RX4 53 yJ6_bitCount_0f7a4, Cond.static yJ6_bitCount_0f7a4, Cond.initialized RJ6, Cond.code yJ6_bitCount_0f7a4 cJ6_bitCount_0f7a4 1 (some .int), Cond.constant RJ6 265 (1431655765), Cond.constant RJ6 266 (858993459), Cond.constant RJ6 267 (252645135), Cond.methodLink RX1 120 yX4_wrongUnderSealed, Cond.instanceMethod yX4_wrongUnderSealed, Cond.selects RX4 yX4_wrongUnderSealed yX4_wrongUnderSealed, Cond.code yX4_wrongUnderSealed cX4_wrongUnderSealed 7 (some .int), Cond.methodLink RX4 58 yX5_marked, Cond.static yX6_holds, Cond.code yX6_holds cX6_holds 2 (some .boolean)]
def wsX1_findTypeFaults_r4 : List Cond := [Cond.methodLink RX1 123 yX4_wrongPermits, Cond.instanceMethod yX4_wrongPermits, Cond.selects RX4 yX4_wrongPermits yX4_wrongPermits, Cond.code yX4_wrongPermits cX4_wrongPermits 5 (some .int), Cond.methodLink RX1 126 yX4_twice, Cond.instanceMethod yX4_twice, Cond.selects RX4 yX4_twice yX4_twice, Cond.code yX4_twice cX4_twice 2 (some .int)]
def wsX1_findTypeFaults : List Cond := .code yX1_findTypeFaults cX1_findTypeFaults 2 none :: ((wsX1_findTypeFaults_r1 ++ (wsX1_findTypeFaults_r2 ++ (wsX1_findTypeFaults_r3 ++ wsX1_findTypeFaults_r4))) ++ wsX10 ++ wsX40 ++ wsX50)
def wsX2_doubled : List Cond := .code yX2_doubled cX2_doubled 3 (some .boolean) :: ([.fieldLink RX2 15 "ClassRules$MemberRules" "members" "LClassRules$Members;", .methodLink RX2 25 yX3_alike, .instanceMethod yX3_alike, .selects RX3 yX3_alike yX3_alike, .initialized RX3, .code yX3_alike cX3_alike 3 (some .boolean), .fieldLink RX3 15 "ClassRules$Members" "names" "[I", .fieldLink RX3 18 "ClassRules$Members" "params" "[I", .methodLink RX3 38 yX3_named, .instanceMethod yX3_named, .selects RX3 yX3_named yX3_named, .code yX3_named cX3_named 4 (some .boolean)] ++ wsX20 ++ wsX30)
def wsX1_putIf : List Cond := .code yX1_putIf cX1_putIf 4 none :: ([.fieldLink RX1 11 "ClassRules$Judge" "found" "[J"] ++ wsX10)
def wsX2_wrongInFace : List Cond := .code yX2_wrongInFace cX2_wrongInFace 4 (some .boolean) :: ([.fieldLink RX2 15 "ClassRules$MemberRules" "members" "LClassRules$Members;", .methodLink RX2 42 yX3_marked, .instanceMethod yX3_marked, .selects RX3 yX3_marked yX3_marked, .initialized RX3, .code yX3_marked cX3_marked 3 (some .boolean), .fieldLink RX3 21 "ClassRules$Members" "marks" "[I", .methodLink RX2 48 yJ6_bitCount_0f7a4, .static yJ6_bitCount_0f7a4, .initialized RJ6, .code yJ6_bitCount_0f7a4 cJ6_bitCount_0f7a4 1 (some .int), .constant RJ6 265 (1431655765), .constant RJ6 266 (858993459), .constant RJ6 267 (252645135)] ++ wsX20 ++ wsX30)
def wsX2_wrongElsewhere : List Cond := .code yX2_wrongElsewhere cX2_wrongElsewhere 3 (some .boolean) :: ([.fieldLink RX2 15 "ClassRules$MemberRules" "members" "LClassRules$Members;", .fieldLink RX2 9 "ClassRules$MemberRules" "types" "LClassRules$Types;", .methodLink RX2 42 yX3_marked, .instanceMethod yX3_marked, .selects RX3 yX3_marked yX3_marked, .initialized RX3, .code yX3_marked cX3_marked 3 (some .boolean), .fieldLink RX3 21 "ClassRules$Members" "marks" "[I", .methodLink RX2 59 yX5_marked, .instanceMethod yX5_marked, .selects RX5 yX5_marked yX5_marked, .initialized RX5, .code yX5_marked cX5_marked 3 (some .boolean), .fieldLink RX5 15 "ClassRules$Types" "marks" "[I"] ++ wsX20 ++ wsX30 ++ wsX50)
def wsX2_wrongMarks_r1 : List Cond := [Cond.fieldLink RX2 15 "ClassRules$MemberRules" "members" "LClassRules$Members;", Cond.methodLink RX2 29 yX3_ofFace, Cond.instanceMethod yX3_ofFace, Cond.selects RX3 yX3_ofFace yX3_ofFace, Cond.initialized RX3, Cond.code yX3_ofFace cX3_ofFace 2 (some .boolean), Cond.fieldLink RX3 34 "ClassRules$Members" "types" "LClassRules$Types;", Cond.fieldLink RX3 9 "ClassRules$Members" "owners" "[I", Cond.methodLink RX2 33 yX2_wrongInFace, Cond.instanceMethod yX2_wrongInFace, Cond.selects RX2 yX2_wrongInFace yX2_wrongInFace, Cond.initialized RX2, Cond.code yX2_wrongInFace cX2_wrongInFace 4 (some .boolean), Cond.methodLink RX2 42 yX3_marked, Cond.instanceMethod yX3_marked, Cond.selects RX3 yX3_marked yX3_marked, Cond.code yX3_marked cX3_marked 3 (some .boolean), Cond.fieldLink RX3 21 "ClassRules$Members" "marks" "[I", Cond.methodLink RX2 48 yJ6_bitCount_0f7a4, Cond.static yJ6_bitCount_0f7a4, Cond.initialized RJ6, Cond.code yJ6_bitCount_0f7a4 cJ6_bitCount_0f7a4 1 (some .int), Cond.constant RJ6 265 (1431655765), Cond.constant RJ6 266 (858993459)]
def wsX2_wrongMarks_r2 : List Cond := [Cond.constant RJ6 267 (252645135), Cond.methodLink RX2 36 yX2_wrongElsewhere, Cond.instanceMethod yX2_wrongElsewhere, Cond.selects RX2 yX2_wrongElsewhere yX2_wrongElsewhere, Cond.code yX2_wrongElsewhere cX2_wrongElsewhere 3 (some .boolean), Cond.fieldLink RX2 9 "ClassRules$MemberRules" "types" "LClassRules$Types;", Cond.methodLink RX2 59 yX5_marked, Cond.instanceMethod yX5_marked, Cond.selects RX5 yX5_marked yX5_marked, Cond.initialized RX5, Cond.code yX5_marked cX5_marked 3 (some .boolean), Cond.fieldLink RX5 15 "ClassRules$Types" "marks" "[I"]
def wsX2_wrongMarks : List Cond := .code yX2_wrongMarks cX2_wrongMarks 2 (some .boolean) :: ((wsX2_wrongMarks_r1 ++ wsX2_wrongMarks_r2) ++ wsX20 ++ wsX30 ++ wsX50)
def wsX1_findMemberFaults_r1 : List Cond := [Cond.fieldLink RX1 30 "ClassRules$Judge" "members" "LClassRules$Members;", Cond.fieldLink RX1 52 "ClassRules$Judge" "memberRules" "LClassRules$MemberRules;", Cond.methodLink RX1 137 yX2_doubled, Cond.instanceMethod yX2_doubled, Cond.selects RX2 yX2_doubled yX2_doubled, Cond.initialized RX2, Cond.code yX2_doubled cX2_doubled 3 (some .boolean), Cond.fieldLink RX2 15 "ClassRules$MemberRules" "members" "LClassRules$Members;", Cond.methodLink RX2 25 yX3_alike, Cond.instanceMethod yX3_alike, Cond.selects RX3 yX3_alike yX3_alike, Cond.initialized RX3, Cond.code yX3_alike cX3_alike 3 (some .boolean), Cond.fieldLink RX3 15 "ClassRules$Members" "names" "[I", Cond.fieldLink RX3 18 "ClassRules$Members" "params" "[I", Cond.methodLink RX3 38 yX3_named, Cond.instanceMethod yX3_named, Cond.selects RX3 yX3_named yX3_named, Cond.code yX3_named cX3_named 4 (some .boolean), Cond.methodLink RX1 140 yX1_putIf, Cond.instanceMethod yX1_putIf, Cond.selects RX1 yX1_putIf yX1_putIf, Cond.initialized RX1, Cond.code yX1_putIf cX1_putIf 4 none]
def wsX1_findMemberFaults_r2 : List Cond := [Cond.fieldLink RX1 11 "ClassRules$Judge" "found" "[J", Cond.methodLink RX1 144 yX2_wrongMarks, Cond.instanceMethod yX2_wrongMarks, Cond.selects RX2 yX2_wrongMarks yX2_wrongMarks, Cond.code yX2_wrongMarks cX2_wrongMarks 2 (some .boolean), Cond.methodLink RX2 29 yX3_ofFace, Cond.instanceMethod yX3_ofFace, Cond.selects RX3 yX3_ofFace yX3_ofFace, Cond.code yX3_ofFace cX3_ofFace 2 (some .boolean), Cond.fieldLink RX3 34 "ClassRules$Members" "types" "LClassRules$Types;", Cond.fieldLink RX3 9 "ClassRules$Members" "owners" "[I", Cond.methodLink RX2 33 yX2_wrongInFace, Cond.instanceMethod yX2_wrongInFace, Cond.selects RX2 yX2_wrongInFace yX2_wrongInFace, Cond.code yX2_wrongInFace cX2_wrongInFace 4 (some .boolean), Cond.methodLink RX2 42 yX3_marked, Cond.instanceMethod yX3_marked, Cond.selects RX3 yX3_marked yX3_marked, Cond.code yX3_marked cX3_marked 3 (some .boolean), Cond.fieldLink RX3 21 "ClassRules$Members" "marks" "[I", Cond.methodLink RX2 48 yJ6_bitCount_0f7a4, Cond.static yJ6_bitCount_0f7a4, Cond.initialized RJ6, Cond.code yJ6_bitCount_0f7a4 cJ6_bitCount_0f7a4 1 (some .int)]
def wsX1_findMemberFaults_r3 : List Cond := [Cond.constant RJ6 265 (1431655765), Cond.constant RJ6 266 (858993459), Cond.constant RJ6 267 (252645135), Cond.methodLink RX2 36 yX2_wrongElsewhere, Cond.instanceMethod yX2_wrongElsewhere, Cond.selects RX2 yX2_wrongElsewhere yX2_wrongElsewhere, Cond.code yX2_wrongElsewhere cX2_wrongElsewhere 3 (some .boolean), Cond.fieldLink RX2 9 "ClassRules$MemberRules" "types" "LClassRules$Types;", Cond.methodLink RX2 59 yX5_marked, Cond.instanceMethod yX5_marked, Cond.selects RX5 yX5_marked yX5_marked, Cond.initialized RX5, Cond.code yX5_marked cX5_marked 3 (some .boolean), Cond.fieldLink RX5 15 "ClassRules$Types" "marks" "[I"]
def wsX1_findMemberFaults : List Cond := .code yX1_findMemberFaults cX1_findMemberFaults 3 none :: ((wsX1_findMemberFaults_r1 ++ (wsX1_findMemberFaults_r2 ++ wsX1_findMemberFaults_r3)) ++ wsX10 ++ wsX30 ++ wsX20 ++ wsX50)
def wsX4_shaky_r1 : List Cond := [Cond.fieldLink RX4 9 "ClassRules$TypeRules" "types" "LClassRules$Types;", Cond.methodLink RX4 72 yX5_stands, Cond.instanceMethod yX5_stands, Cond.selects RX5 yX5_stands yX5_stands, Cond.initialized RX5, Cond.code yX5_stands cX5_stands 3 (some .boolean), Cond.fieldLink RX5 42 "ClassRules$Types" "above" "[I", Cond.methodLink RX4 75 yX4_missing, Cond.instanceMethod yX4_missing, Cond.selects RX4 yX4_missing yX4_missing, Cond.initialized RX4, Cond.code yX4_missing cX4_missing 2 (some .int), Cond.methodLink RX4 15 yX5_next, Cond.instanceMethod yX5_next, Cond.selects RX5 yX5_next yX5_next, Cond.code yX5_next cX5_next 2 (some .int), Cond.fieldLink RX5 24 "ClassRules$Types" "parentSets" "[I", Cond.fieldLink RX5 27 "ClassRules$Types" "uppers" "[I", Cond.methodLink RX4 25 yX5_everyone, Cond.instanceMethod yX5_everyone, Cond.selects RX5 yX5_everyone yX5_everyone, Cond.code yX5_everyone cX5_everyone 1 (some .int), Cond.fieldLink RX5 45 "ClassRules$Types" "count" "I", Cond.static yX6_bit]
def wsX4_shaky_r2 : List Cond := [Cond.initialized RX6, Cond.code yX6_bit cX6_bit 1 (some .int), Cond.methodLink RX4 78 yX4_ring, Cond.instanceMethod yX4_ring, Cond.selects RX4 yX4_ring yX4_ring, Cond.code yX4_ring cX4_ring 2 (some .int), Cond.methodLink RX4 81 yX4_wrongKind, Cond.instanceMethod yX4_wrongKind, Cond.selects RX4 yX4_wrongKind yX4_wrongKind, Cond.code yX4_wrongKind cX4_wrongKind 3 (some .int), Cond.methodLink RX4 41 yX5_ofKind, Cond.instanceMethod yX5_ofKind, Cond.selects RX5 yX5_ofKind yX5_ofKind, Cond.code yX5_ofKind cX5_ofKind 4 (some .int), Cond.fieldLink RX5 9 "ClassRules$Types" "kinds" "[I"]
def wsX4_shaky : List Cond := .code yX4_shaky cX4_shaky 3 (some .boolean) :: ((wsX4_shaky_r1 ++ wsX4_shaky_r2) ++ wsX40 ++ wsX50)
def wsX5_there : List Cond := .code yX5_there cX5_there 2 (some .boolean) :: ([.fieldLink RX5 45 "ClassRules$Types" "count" "I"] ++ wsX50)
def wsX2_resultFits : List Cond := .code yX2_resultFits cX2_resultFits 5 (some .boolean) :: ([.fieldLink RX2 9 "ClassRules$MemberRules" "types" "LClassRules$Types;", .methodLink RX2 60 yX5_there, .instanceMethod yX5_there, .selects RX5 yX5_there yX5_there, .initialized RX5, .code yX5_there cX5_there 2 (some .boolean), .fieldLink RX5 45 "ClassRules$Types" "count" "I", .methodLink RX2 63 yX5_stands, .instanceMethod yX5_stands, .selects RX5 yX5_stands yX5_stands, .code yX5_stands cX5_stands 3 (some .boolean), .fieldLink RX5 42 "ClassRules$Types" "above" "[I"] ++ wsX20 ++ wsX50)
def wsX1_findOver_r1 : List Cond := [Cond.fieldLink RX1 30 "ClassRules$Judge" "members" "LClassRules$Members;", Cond.fieldLink RX1 52 "ClassRules$Judge" "memberRules" "LClassRules$MemberRules;", Cond.methodLink RX1 152 yX3_alike, Cond.instanceMethod yX3_alike, Cond.selects RX3 yX3_alike yX3_alike, Cond.initialized RX3, Cond.code yX3_alike cX3_alike 3 (some .boolean), Cond.fieldLink RX3 15 "ClassRules$Members" "names" "[I", Cond.fieldLink RX3 18 "ClassRules$Members" "params" "[I", Cond.methodLink RX3 38 yX3_named, Cond.instanceMethod yX3_named, Cond.selects RX3 yX3_named yX3_named, Cond.code yX3_named cX3_named 4 (some .boolean), Cond.methodLink RX1 155 yX3_shared, Cond.instanceMethod yX3_shared, Cond.selects RX3 yX3_shared yX3_shared, Cond.code yX3_shared cX3_shared 4 (some .boolean), Cond.fieldLink RX3 34 "ClassRules$Members" "types" "LClassRules$Types;", Cond.fieldLink RX3 9 "ClassRules$Members" "owners" "[I", Cond.methodLink RX3 47 yX3_marked, Cond.instanceMethod yX3_marked, Cond.selects RX3 yX3_marked yX3_marked, Cond.code yX3_marked cX3_marked 3 (some .boolean), Cond.fieldLink RX3 21 "ClassRules$Members" "marks" "[I"]
def wsX1_findOver_r2 : List Cond := [Cond.methodLink RX3 51 yX3_ofFace, Cond.instanceMethod yX3_ofFace, Cond.selects RX3 yX3_ofFace yX3_ofFace, Cond.code yX3_ofFace cX3_ofFace 2 (some .boolean), Cond.static yX6_holds, Cond.initialized RX6, Cond.code yX6_holds cX6_holds 2 (some .boolean), Cond.methodLink RX3 61 yX3_seenFrom, Cond.instanceMethod yX3_seenFrom, Cond.selects RX3 yX3_seenFrom yX3_seenFrom, Cond.code yX3_seenFrom cX3_seenFrom 3 (some .boolean), Cond.fieldLink RX3 24 "ClassRules$Members" "accesses" "[I", Cond.methodLink RX1 158 yX3_marked, Cond.methodLink RX1 140 yX1_putIf, Cond.instanceMethod yX1_putIf, Cond.selects RX1 yX1_putIf yX1_putIf, Cond.initialized RX1, Cond.code yX1_putIf cX1_putIf 4 none, Cond.fieldLink RX1 11 "ClassRules$Judge" "found" "[J", Cond.methodLink RX1 164 yX2_resultFits, Cond.instanceMethod yX2_resultFits, Cond.selects RX2 yX2_resultFits yX2_resultFits, Cond.initialized RX2, Cond.code yX2_resultFits cX2_resultFits 5 (some .boolean)]
def wsX1_findOver_r3 : List Cond := [Cond.fieldLink RX2 9 "ClassRules$MemberRules" "types" "LClassRules$Types;", Cond.methodLink RX2 60 yX5_there, Cond.instanceMethod yX5_there, Cond.selects RX5 yX5_there yX5_there, Cond.initialized RX5, Cond.code yX5_there cX5_there 2 (some .boolean), Cond.fieldLink RX5 45 "ClassRules$Types" "count" "I", Cond.methodLink RX2 63 yX5_stands, Cond.instanceMethod yX5_stands, Cond.selects RX5 yX5_stands yX5_stands, Cond.code yX5_stands cX5_stands 3 (some .boolean), Cond.fieldLink RX5 42 "ClassRules$Types" "above" "[I"]
def wsX1_findOver : List Cond := .code yX1_findOver cX1_findOver 4 none :: ((wsX1_findOver_r1 ++ (wsX1_findOver_r2 ++ wsX1_findOver_r3)) ++ wsX10 ++ wsX30 ++ wsX50 ++ wsX20)
def wsX1_findInheritedFaults_r1 : List Cond := [Cond.fieldLink RX1 30 "ClassRules$Judge" "members" "LClassRules$Members;", Cond.methodLink RX1 149 yX1_findOver, Cond.instanceMethod yX1_findOver, Cond.selects RX1 yX1_findOver yX1_findOver, Cond.initialized RX1, Cond.code yX1_findOver cX1_findOver 4 none, Cond.fieldLink RX1 52 "ClassRules$Judge" "memberRules" "LClassRules$MemberRules;", Cond.methodLink RX1 152 yX3_alike, Cond.instanceMethod yX3_alike, Cond.selects RX3 yX3_alike yX3_alike, Cond.initialized RX3, Cond.code yX3_alike cX3_alike 3 (some .boolean), Cond.fieldLink RX3 15 "ClassRules$Members" "names" "[I", Cond.fieldLink RX3 18 "ClassRules$Members" "params" "[I", Cond.methodLink RX3 38 yX3_named, Cond.instanceMethod yX3_named, Cond.selects RX3 yX3_named yX3_named, Cond.code yX3_named cX3_named 4 (some .boolean), Cond.methodLink RX1 155 yX3_shared, Cond.instanceMethod yX3_shared, Cond.selects RX3 yX3_shared yX3_shared, Cond.code yX3_shared cX3_shared 4 (some .boolean), Cond.fieldLink RX3 34 "ClassRules$Members" "types" "LClassRules$Types;", Cond.fieldLink RX3 9 "ClassRules$Members" "owners" "[I"]
def wsX1_findInheritedFaults_r2 : List Cond := [Cond.methodLink RX3 47 yX3_marked, Cond.instanceMethod yX3_marked, Cond.selects RX3 yX3_marked yX3_marked, Cond.code yX3_marked cX3_marked 3 (some .boolean), Cond.fieldLink RX3 21 "ClassRules$Members" "marks" "[I", Cond.methodLink RX3 51 yX3_ofFace, Cond.instanceMethod yX3_ofFace, Cond.selects RX3 yX3_ofFace yX3_ofFace, Cond.code yX3_ofFace cX3_ofFace 2 (some .boolean), Cond.static yX6_holds, Cond.initialized RX6, Cond.code yX6_holds cX6_holds 2 (some .boolean), Cond.methodLink RX3 61 yX3_seenFrom, Cond.instanceMethod yX3_seenFrom, Cond.selects RX3 yX3_seenFrom yX3_seenFrom, Cond.code yX3_seenFrom cX3_seenFrom 3 (some .boolean), Cond.fieldLink RX3 24 "ClassRules$Members" "accesses" "[I", Cond.methodLink RX1 158 yX3_marked, Cond.methodLink RX1 140 yX1_putIf, Cond.instanceMethod yX1_putIf, Cond.selects RX1 yX1_putIf yX1_putIf, Cond.code yX1_putIf cX1_putIf 4 none, Cond.fieldLink RX1 11 "ClassRules$Judge" "found" "[J", Cond.methodLink RX1 164 yX2_resultFits]
def wsX1_findInheritedFaults_r3 : List Cond := [Cond.instanceMethod yX2_resultFits, Cond.selects RX2 yX2_resultFits yX2_resultFits, Cond.initialized RX2, Cond.code yX2_resultFits cX2_resultFits 5 (some .boolean), Cond.fieldLink RX2 9 "ClassRules$MemberRules" "types" "LClassRules$Types;", Cond.methodLink RX2 60 yX5_there, Cond.instanceMethod yX5_there, Cond.selects RX5 yX5_there yX5_there, Cond.initialized RX5, Cond.code yX5_there cX5_there 2 (some .boolean), Cond.fieldLink RX5 45 "ClassRules$Types" "count" "I", Cond.methodLink RX2 63 yX5_stands, Cond.instanceMethod yX5_stands, Cond.selects RX5 yX5_stands yX5_stands, Cond.code yX5_stands cX5_stands 3 (some .boolean), Cond.fieldLink RX5 42 "ClassRules$Types" "above" "[I"]
def wsX1_findInheritedFaults : List Cond := .code yX1_findInheritedFaults cX1_findInheritedFaults 3 none :: ((wsX1_findInheritedFaults_r1 ++ (wsX1_findInheritedFaults_r2 ++ wsX1_findInheritedFaults_r3)) ++ wsX10 ++ wsX30 ++ wsX50 ++ wsX20)
def wsX3_firstOfItsSort : List Cond := .code yX3_firstOfItsSort cX3_firstOfItsSort 3 (some .boolean) :: ([.methodLink RX3 67 yX3_alike, .instanceMethod yX3_alike, .selects RX3 yX3_alike yX3_alike, .initialized RX3, .code yX3_alike cX3_alike 3 (some .boolean), .fieldLink RX3 15 "ClassRules$Members" "names" "[I", .fieldLink RX3 18 "ClassRules$Members" "params" "[I", .methodLink RX3 38 yX3_named, .instanceMethod yX3_named, .selects RX3 yX3_named yX3_named, .code yX3_named cX3_named 4 (some .boolean)] ++ wsX30)
def wsX1_findGivenFaults_r1 : List Cond := [Cond.fieldLink RX1 26 "ClassRules$Judge" "types" "LClassRules$Types;", Cond.fieldLink RX1 30 "ClassRules$Judge" "members" "LClassRules$Members;", Cond.fieldLink RX1 34 "ClassRules$Judge" "choice" "LClassRules$Choice;", Cond.methodLink RX1 172 yX5_marked, Cond.instanceMethod yX5_marked, Cond.selects RX5 yX5_marked yX5_marked, Cond.initialized RX5, Cond.code yX5_marked cX5_marked 3 (some .boolean), Cond.fieldLink RX5 15 "ClassRules$Types" "marks" "[I", Cond.methodLink RX1 173 yX3_firstOfItsSort, Cond.instanceMethod yX3_firstOfItsSort, Cond.selects RX3 yX3_firstOfItsSort yX3_firstOfItsSort, Cond.initialized RX3, Cond.code yX3_firstOfItsSort cX3_firstOfItsSort 3 (some .boolean), Cond.methodLink RX3 67 yX3_alike, Cond.instanceMethod yX3_alike, Cond.selects RX3 yX3_alike yX3_alike, Cond.code yX3_alike cX3_alike 3 (some .boolean), Cond.fieldLink RX3 15 "ClassRules$Members" "names" "[I", Cond.fieldLink RX3 18 "ClassRules$Members" "params" "[I", Cond.methodLink RX3 38 yX3_named, Cond.instanceMethod yX3_named, Cond.selects RX3 yX3_named yX3_named, Cond.code yX3_named cX3_named 4 (some .boolean)]
def wsX1_findGivenFaults_r2 : List Cond := [Cond.methodLink RX1 182 yX0_seekClassOne, Cond.instanceMethod yX0_seekClassOne, Cond.selects RX0 yX0_seekClassOne yX0_seekClassOne, Cond.initialized RX0, Cond.code yX0_seekClassOne cX0_seekClassOne 7 none, Cond.fieldLink RX0 25 "ClassRules$Choice" "classOne" "I", Cond.fieldLink RX0 28 "ClassRules$Choice" "types" "LClassRules$Types;", Cond.fieldLink RX0 32 "ClassRules$Choice" "members" "LClassRules$Members;", Cond.methodLink RX0 49 yX3_named, Cond.methodLink RX0 53 yX3_marked, Cond.instanceMethod yX3_marked, Cond.selects RX3 yX3_marked yX3_marked, Cond.code yX3_marked cX3_marked 3 (some .boolean), Cond.fieldLink RX3 21 "ClassRules$Members" "marks" "[I", Cond.methodLink RX0 57 yX3_shared, Cond.instanceMethod yX3_shared, Cond.selects RX3 yX3_shared yX3_shared, Cond.code yX3_shared cX3_shared 4 (some .boolean), Cond.fieldLink RX3 34 "ClassRules$Members" "types" "LClassRules$Types;", Cond.fieldLink RX3 9 "ClassRules$Members" "owners" "[I", Cond.methodLink RX3 47 yX3_marked, Cond.methodLink RX3 51 yX3_ofFace, Cond.instanceMethod yX3_ofFace, Cond.selects RX3 yX3_ofFace yX3_ofFace]
def wsX1_findGivenFaults_r3 : List Cond := [Cond.code yX3_ofFace cX3_ofFace 2 (some .boolean), Cond.static yX6_holds, Cond.initialized RX6, Cond.code yX6_holds cX6_holds 2 (some .boolean), Cond.methodLink RX3 61 yX3_seenFrom, Cond.instanceMethod yX3_seenFrom, Cond.selects RX3 yX3_seenFrom yX3_seenFrom, Cond.code yX3_seenFrom cX3_seenFrom 3 (some .boolean), Cond.fieldLink RX3 24 "ClassRules$Members" "accesses" "[I", Cond.methodLink RX0 60 yX5_parentThere, Cond.instanceMethod yX5_parentThere, Cond.selects RX5 yX5_parentThere yX5_parentThere, Cond.code yX5_parentThere cX5_parentThere 2 (some .int), Cond.fieldLink RX5 21 "ClassRules$Types" "parents" "[I", Cond.fieldLink RX5 45 "ClassRules$Types" "count" "I", Cond.methodLink RX1 188 yX0_seekFaceOnes, Cond.instanceMethod yX0_seekFaceOnes, Cond.selects RX0 yX0_seekFaceOnes yX0_seekFaceOnes, Cond.code yX0_seekFaceOnes cX0_seekFaceOnes 8 none, Cond.fieldLink RX0 21 "ClassRules$Choice" "faceOnesCount" "I", Cond.fieldLink RX0 9 "ClassRules$Choice" "faceOnes" "[I", Cond.methodLink RX0 64 yX0_givenByFace, Cond.instanceMethod yX0_givenByFace, Cond.selects RX0 yX0_givenByFace yX0_givenByFace]
def wsX1_findGivenFaults_r4 : List Cond := [Cond.code yX0_givenByFace cX0_givenByFace 5 (some .boolean), Cond.methodLink RX0 77 yX3_ofFace, Cond.methodLink RX0 81 yX5_stands, Cond.instanceMethod yX5_stands, Cond.selects RX5 yX5_stands yX5_stands, Cond.code yX5_stands cX5_stands 3 (some .boolean), Cond.fieldLink RX5 42 "ClassRules$Types" "above" "[I", Cond.static yX6_bit, Cond.code yX6_bit cX6_bit 1 (some .int), Cond.methodLink RX1 191 yX0_leastToBeGiven, Cond.instanceMethod yX0_leastToBeGiven, Cond.selects RX0 yX0_leastToBeGiven yX0_leastToBeGiven, Cond.code yX0_leastToBeGiven cX0_leastToBeGiven 1 (some .int), Cond.methodLink RX0 87 yX0_leastFaceOneWith, Cond.instanceMethod yX0_leastFaceOneWith, Cond.selects RX0 yX0_leastFaceOneWith yX0_leastFaceOneWith, Cond.code yX0_leastFaceOneWith cX0_leastFaceOneWith 3 (some .int), Cond.methodLink RX1 140 yX1_putIf, Cond.instanceMethod yX1_putIf, Cond.selects RX1 yX1_putIf yX1_putIf, Cond.initialized RX1, Cond.code yX1_putIf cX1_putIf 4 none, Cond.fieldLink RX1 11 "ClassRules$Judge" "found" "[J", Cond.methodLink RX1 194 yX0_leastOfRivals]
def wsX1_findGivenFaults_r5 : List Cond := [Cond.instanceMethod yX0_leastOfRivals, Cond.selects RX0 yX0_leastOfRivals yX0_leastOfRivals, Cond.code yX0_leastOfRivals cX0_leastOfRivals 2 (some .int)]
def wsX1_findGivenFaults : List Cond := .code yX1_findGivenFaults cX1_findGivenFaults 6 none :: ((wsX1_findGivenFaults_r1 ++ (wsX1_findGivenFaults_r2 ++ (wsX1_findGivenFaults_r3 ++ (wsX1_findGivenFaults_r4 ++ wsX1_findGivenFaults_r5)))) ++ wsX10 ++ wsX50 ++ wsX30 ++ wsX00)
def wsX1_keep_r1 : List Cond := [Cond.fieldLink RX1 23 "ClassRules$Judge" "kept" "I", Cond.fieldLink RX1 11 "ClassRules$Judge" "found" "[J", Cond.fieldLink RX1 43 "ClassRules$Judge" "typeRules" "LClassRules$TypeRules;", Cond.methodLink RX1 79 yJ7_fill_d0a16, Cond.static yJ7_fill_d0a16, Cond.initialized RJ7, Cond.code yJ7_fill_d0a16 cJ7_fill_d0a16 5 none, Cond.methodLink RX1 85 yX1_findTypeFaults, Cond.instanceMethod yX1_findTypeFaults, Cond.selects RX1 yX1_findTypeFaults yX1_findTypeFaults, Cond.initialized RX1, Cond.code yX1_findTypeFaults cX1_findTypeFaults 2 none, Cond.methodLink RX1 101 yX4_missing, Cond.instanceMethod yX4_missing, Cond.selects RX4 yX4_missing yX4_missing, Cond.initialized RX4, Cond.code yX4_missing cX4_missing 2 (some .int), Cond.fieldLink RX4 9 "ClassRules$TypeRules" "types" "LClassRules$Types;", Cond.methodLink RX4 15 yX5_next, Cond.instanceMethod yX5_next, Cond.selects RX5 yX5_next yX5_next, Cond.initialized RX5, Cond.code yX5_next cX5_next 2 (some .int), Cond.fieldLink RX5 24 "ClassRules$Types" "parentSets" "[I"]
def wsX1_keep_r2 : List Cond := [Cond.fieldLink RX5 27 "ClassRules$Types" "uppers" "[I", Cond.methodLink RX4 25 yX5_everyone, Cond.instanceMethod yX5_everyone, Cond.selects RX5 yX5_everyone yX5_everyone, Cond.code yX5_everyone cX5_everyone 1 (some .int), Cond.fieldLink RX5 45 "ClassRules$Types" "count" "I", Cond.static yX6_bit, Cond.initialized RX6, Cond.code yX6_bit cX6_bit 1 (some .int), Cond.methodLink RX1 104 yX1_putTypes, Cond.instanceMethod yX1_putTypes, Cond.selects RX1 yX1_putTypes yX1_putTypes, Cond.code yX1_putTypes cX1_putTypes 3 none, Cond.methodLink RX1 108 yX4_ring, Cond.instanceMethod yX4_ring, Cond.selects RX4 yX4_ring yX4_ring, Cond.code yX4_ring cX4_ring 2 (some .int), Cond.methodLink RX1 111 yX4_wrongKind, Cond.instanceMethod yX4_wrongKind, Cond.selects RX4 yX4_wrongKind yX4_wrongKind, Cond.code yX4_wrongKind cX4_wrongKind 3 (some .int), Cond.methodLink RX4 41 yX5_ofKind, Cond.instanceMethod yX5_ofKind, Cond.selects RX5 yX5_ofKind yX5_ofKind]
def wsX1_keep_r3 : List Cond := [Cond.code yX5_ofKind cX5_ofKind 4 (some .int), Cond.fieldLink RX5 9 "ClassRules$Types" "kinds" "[I", Cond.methodLink RX1 114 yX4_finalParent, Cond.instanceMethod yX4_finalParent, Cond.selects RX4 yX4_finalParent yX4_finalParent, Cond.code yX4_finalParent cX4_finalParent 2 (some .int), Cond.methodLink RX4 47 yX5_withMark, Cond.instanceMethod yX5_withMark, Cond.selects RX5 yX5_withMark yX5_withMark, Cond.code yX5_withMark cX5_withMark 4 (some .int), Cond.methodLink RX5 67 yX5_marked, Cond.instanceMethod yX5_marked, Cond.selects RX5 yX5_marked yX5_marked, Cond.code yX5_marked cX5_marked 3 (some .boolean), Cond.fieldLink RX5 15 "ClassRules$Types" "marks" "[I", Cond.methodLink RX1 117 yX4_wrongMarks, Cond.instanceMethod yX4_wrongMarks, Cond.selects RX4 yX4_wrongMarks yX4_wrongMarks, Cond.code yX4_wrongMarks cX4_wrongMarks 8 (some .int), Cond.methodLink RX4 53 yJ6_bitCount_0f7a4, Cond.static yJ6_bitCount_0f7a4, Cond.initialized RJ6, Cond.code yJ6_bitCount_0f7a4 cJ6_bitCount_0f7a4 1 (some .int), Cond.constant RJ6 265 (1431655765)]
def wsX1_keep_r4 : List Cond := [Cond.constant RJ6 266 (858993459), Cond.constant RJ6 267 (252645135), Cond.methodLink RX1 120 yX4_wrongUnderSealed, Cond.instanceMethod yX4_wrongUnderSealed, Cond.selects RX4 yX4_wrongUnderSealed yX4_wrongUnderSealed, Cond.code yX4_wrongUnderSealed cX4_wrongUnderSealed 7 (some .int), Cond.methodLink RX4 58 yX5_marked, Cond.static yX6_holds, Cond.code yX6_holds cX6_holds 2 (some .boolean), Cond.methodLink RX1 123 yX4_wrongPermits, Cond.instanceMethod yX4_wrongPermits, Cond.selects RX4 yX4_wrongPermits yX4_wrongPermits, Cond.code yX4_wrongPermits cX4_wrongPermits 5 (some .int), Cond.methodLink RX1 126 yX4_twice, Cond.instanceMethod yX4_twice, Cond.selects RX4 yX4_twice yX4_twice, Cond.code yX4_twice cX4_twice 2 (some .int), Cond.methodLink RX1 88 yX1_findMemberFaults, Cond.instanceMethod yX1_findMemberFaults, Cond.selects RX1 yX1_findMemberFaults yX1_findMemberFaults, Cond.code yX1_findMemberFaults cX1_findMemberFaults 3 none, Cond.fieldLink RX1 30 "ClassRules$Judge" "members" "LClassRules$Members;", Cond.fieldLink RX1 52 "ClassRules$Judge" "memberRules" "LClassRules$MemberRules;", Cond.methodLink RX1 137 yX2_doubled]
def wsX1_keep_r5 : List Cond := [Cond.instanceMethod yX2_doubled, Cond.selects RX2 yX2_doubled yX2_doubled, Cond.initialized RX2, Cond.code yX2_doubled cX2_doubled 3 (some .boolean), Cond.fieldLink RX2 15 "ClassRules$MemberRules" "members" "LClassRules$Members;", Cond.methodLink RX2 25 yX3_alike, Cond.instanceMethod yX3_alike, Cond.selects RX3 yX3_alike yX3_alike, Cond.initialized RX3, Cond.code yX3_alike cX3_alike 3 (some .boolean), Cond.fieldLink RX3 15 "ClassRules$Members" "names" "[I", Cond.fieldLink RX3 18 "ClassRules$Members" "params" "[I", Cond.methodLink RX3 38 yX3_named, Cond.instanceMethod yX3_named, Cond.selects RX3 yX3_named yX3_named, Cond.code yX3_named cX3_named 4 (some .boolean), Cond.methodLink RX1 140 yX1_putIf, Cond.instanceMethod yX1_putIf, Cond.selects RX1 yX1_putIf yX1_putIf, Cond.code yX1_putIf cX1_putIf 4 none, Cond.methodLink RX1 144 yX2_wrongMarks, Cond.instanceMethod yX2_wrongMarks, Cond.selects RX2 yX2_wrongMarks yX2_wrongMarks, Cond.code yX2_wrongMarks cX2_wrongMarks 2 (some .boolean)]
def wsX1_keep_r6 : List Cond := [Cond.methodLink RX2 29 yX3_ofFace, Cond.instanceMethod yX3_ofFace, Cond.selects RX3 yX3_ofFace yX3_ofFace, Cond.code yX3_ofFace cX3_ofFace 2 (some .boolean), Cond.fieldLink RX3 34 "ClassRules$Members" "types" "LClassRules$Types;", Cond.fieldLink RX3 9 "ClassRules$Members" "owners" "[I", Cond.methodLink RX2 33 yX2_wrongInFace, Cond.instanceMethod yX2_wrongInFace, Cond.selects RX2 yX2_wrongInFace yX2_wrongInFace, Cond.code yX2_wrongInFace cX2_wrongInFace 4 (some .boolean), Cond.methodLink RX2 42 yX3_marked, Cond.instanceMethod yX3_marked, Cond.selects RX3 yX3_marked yX3_marked, Cond.code yX3_marked cX3_marked 3 (some .boolean), Cond.fieldLink RX3 21 "ClassRules$Members" "marks" "[I", Cond.methodLink RX2 48 yJ6_bitCount_0f7a4, Cond.methodLink RX2 36 yX2_wrongElsewhere, Cond.instanceMethod yX2_wrongElsewhere, Cond.selects RX2 yX2_wrongElsewhere yX2_wrongElsewhere, Cond.code yX2_wrongElsewhere cX2_wrongElsewhere 3 (some .boolean), Cond.fieldLink RX2 9 "ClassRules$MemberRules" "types" "LClassRules$Types;", Cond.methodLink RX2 59 yX5_marked, Cond.methodLink RX1 91 yX4_shaky, Cond.instanceMethod yX4_shaky]
def wsX1_keep_r7 : List Cond := [Cond.selects RX4 yX4_shaky yX4_shaky, Cond.code yX4_shaky cX4_shaky 3 (some .boolean), Cond.methodLink RX4 72 yX5_stands, Cond.instanceMethod yX5_stands, Cond.selects RX5 yX5_stands yX5_stands, Cond.code yX5_stands cX5_stands 3 (some .boolean), Cond.fieldLink RX5 42 "ClassRules$Types" "above" "[I", Cond.methodLink RX4 75 yX4_missing, Cond.methodLink RX4 78 yX4_ring, Cond.methodLink RX4 81 yX4_wrongKind, Cond.methodLink RX1 95 yX1_findInheritedFaults, Cond.instanceMethod yX1_findInheritedFaults, Cond.selects RX1 yX1_findInheritedFaults yX1_findInheritedFaults, Cond.code yX1_findInheritedFaults cX1_findInheritedFaults 3 none, Cond.methodLink RX1 149 yX1_findOver, Cond.instanceMethod yX1_findOver, Cond.selects RX1 yX1_findOver yX1_findOver, Cond.code yX1_findOver cX1_findOver 4 none, Cond.methodLink RX1 152 yX3_alike, Cond.methodLink RX1 155 yX3_shared, Cond.instanceMethod yX3_shared, Cond.selects RX3 yX3_shared yX3_shared, Cond.code yX3_shared cX3_shared 4 (some .boolean), Cond.methodLink RX3 47 yX3_marked]
def wsX1_keep_r8 : List Cond := [Cond.methodLink RX3 51 yX3_ofFace, Cond.methodLink RX3 61 yX3_seenFrom, Cond.instanceMethod yX3_seenFrom, Cond.selects RX3 yX3_seenFrom yX3_seenFrom, Cond.code yX3_seenFrom cX3_seenFrom 3 (some .boolean), Cond.fieldLink RX3 24 "ClassRules$Members" "accesses" "[I", Cond.methodLink RX1 158 yX3_marked, Cond.methodLink RX1 164 yX2_resultFits, Cond.instanceMethod yX2_resultFits, Cond.selects RX2 yX2_resultFits yX2_resultFits, Cond.code yX2_resultFits cX2_resultFits 5 (some .boolean), Cond.methodLink RX2 60 yX5_there, Cond.instanceMethod yX5_there, Cond.selects RX5 yX5_there yX5_there, Cond.code yX5_there cX5_there 2 (some .boolean), Cond.methodLink RX2 63 yX5_stands, Cond.methodLink RX1 98 yX1_findGivenFaults, Cond.instanceMethod yX1_findGivenFaults, Cond.selects RX1 yX1_findGivenFaults yX1_findGivenFaults, Cond.code yX1_findGivenFaults cX1_findGivenFaults 6 none, Cond.fieldLink RX1 26 "ClassRules$Judge" "types" "LClassRules$Types;", Cond.fieldLink RX1 34 "ClassRules$Judge" "choice" "LClassRules$Choice;", Cond.methodLink RX1 172 yX5_marked, Cond.methodLink RX1 173 yX3_firstOfItsSort]
def wsX1_keep_r9 : List Cond := [Cond.instanceMethod yX3_firstOfItsSort, Cond.selects RX3 yX3_firstOfItsSort yX3_firstOfItsSort, Cond.code yX3_firstOfItsSort cX3_firstOfItsSort 3 (some .boolean), Cond.methodLink RX3 67 yX3_alike, Cond.methodLink RX1 182 yX0_seekClassOne, Cond.instanceMethod yX0_seekClassOne, Cond.selects RX0 yX0_seekClassOne yX0_seekClassOne, Cond.initialized RX0, Cond.code yX0_seekClassOne cX0_seekClassOne 7 none, Cond.fieldLink RX0 25 "ClassRules$Choice" "classOne" "I", Cond.fieldLink RX0 28 "ClassRules$Choice" "types" "LClassRules$Types;", Cond.fieldLink RX0 32 "ClassRules$Choice" "members" "LClassRules$Members;", Cond.methodLink RX0 49 yX3_named, Cond.methodLink RX0 53 yX3_marked, Cond.methodLink RX0 57 yX3_shared, Cond.methodLink RX0 60 yX5_parentThere, Cond.instanceMethod yX5_parentThere, Cond.selects RX5 yX5_parentThere yX5_parentThere, Cond.code yX5_parentThere cX5_parentThere 2 (some .int), Cond.fieldLink RX5 21 "ClassRules$Types" "parents" "[I", Cond.methodLink RX1 188 yX0_seekFaceOnes, Cond.instanceMethod yX0_seekFaceOnes, Cond.selects RX0 yX0_seekFaceOnes yX0_seekFaceOnes, Cond.code yX0_seekFaceOnes cX0_seekFaceOnes 8 none]
def wsX1_keep_r10 : List Cond := [Cond.fieldLink RX0 21 "ClassRules$Choice" "faceOnesCount" "I", Cond.fieldLink RX0 9 "ClassRules$Choice" "faceOnes" "[I", Cond.methodLink RX0 64 yX0_givenByFace, Cond.instanceMethod yX0_givenByFace, Cond.selects RX0 yX0_givenByFace yX0_givenByFace, Cond.code yX0_givenByFace cX0_givenByFace 5 (some .boolean), Cond.methodLink RX0 77 yX3_ofFace, Cond.methodLink RX0 81 yX5_stands, Cond.methodLink RX1 191 yX0_leastToBeGiven, Cond.instanceMethod yX0_leastToBeGiven, Cond.selects RX0 yX0_leastToBeGiven yX0_leastToBeGiven, Cond.code yX0_leastToBeGiven cX0_leastToBeGiven 1 (some .int), Cond.methodLink RX0 87 yX0_leastFaceOneWith, Cond.instanceMethod yX0_leastFaceOneWith, Cond.selects RX0 yX0_leastFaceOneWith yX0_leastFaceOneWith, Cond.code yX0_leastFaceOneWith cX0_leastFaceOneWith 3 (some .int), Cond.methodLink RX1 194 yX0_leastOfRivals, Cond.instanceMethod yX0_leastOfRivals, Cond.selects RX0 yX0_leastOfRivals yX0_leastOfRivals, Cond.code yX0_leastOfRivals cX0_leastOfRivals 2 (some .int)]
def wsX1_keep : List Cond := .code yX1_keep cX1_keep 2 none :: ((wsX1_keep_r1 ++ (wsX1_keep_r2 ++ (wsX1_keep_r3 ++ (wsX1_keep_r4 ++ (wsX1_keep_r5 ++ (wsX1_keep_r6 ++ (wsX1_keep_r7 ++ (wsX1_keep_r8 ++ (wsX1_keep_r9 ++ wsX1_keep_r10))))))))) ++ wsX10 ++ wsX40 ++ wsX50 ++ wsX30 ++ wsX20 ++ wsX00)
def wsJ13_bitCount_95d88 : List Cond := .code yJ13_bitCount_95d88 cJ13_bitCount_95d88 2 (some .int) :: ([.constantLong RJ13 314 (6148914691236517205), .constantLong RJ13 316 (3689348814741910323), .constantLong RJ13 318 (1085102592571150095)])
def wsX1_countFound : List Cond := .code yX1_countFound cX1_countFound 3 (some .int) :: ([.fieldLink RX1 11 "ClassRules$Judge" "found" "[J", .methodLink RX1 197 yJ13_bitCount_95d88, .static yJ13_bitCount_95d88, .initialized RJ13, .code yJ13_bitCount_95d88 cJ13_bitCount_95d88 2 (some .int), .constantLong RJ13 314 (6148914691236517205), .constantLong RJ13 316 (3689348814741910323), .constantLong RJ13 318 (1085102592571150095)] ++ wsX10)
def wsX1_countOf_r1 : List Cond := [Cond.fieldLink RX1 19 "ClassRules$Judge" "counted" "I", Cond.fieldLink RX1 15 "ClassRules$Judge" "counts" "[I", Cond.static yX6_holds, Cond.initialized RX6, Cond.code yX6_holds cX6_holds 2 (some .boolean), Cond.methodLink RX1 60 yX1_keep, Cond.instanceMethod yX1_keep, Cond.selects RX1 yX1_keep yX1_keep, Cond.initialized RX1, Cond.code yX1_keep cX1_keep 2 none, Cond.fieldLink RX1 23 "ClassRules$Judge" "kept" "I", Cond.fieldLink RX1 11 "ClassRules$Judge" "found" "[J", Cond.fieldLink RX1 43 "ClassRules$Judge" "typeRules" "LClassRules$TypeRules;", Cond.methodLink RX1 79 yJ7_fill_d0a16, Cond.static yJ7_fill_d0a16, Cond.initialized RJ7, Cond.code yJ7_fill_d0a16 cJ7_fill_d0a16 5 none, Cond.methodLink RX1 85 yX1_findTypeFaults, Cond.instanceMethod yX1_findTypeFaults, Cond.selects RX1 yX1_findTypeFaults yX1_findTypeFaults, Cond.code yX1_findTypeFaults cX1_findTypeFaults 2 none, Cond.methodLink RX1 101 yX4_missing, Cond.instanceMethod yX4_missing, Cond.selects RX4 yX4_missing yX4_missing]
def wsX1_countOf_r2 : List Cond := [Cond.initialized RX4, Cond.code yX4_missing cX4_missing 2 (some .int), Cond.fieldLink RX4 9 "ClassRules$TypeRules" "types" "LClassRules$Types;", Cond.methodLink RX4 15 yX5_next, Cond.instanceMethod yX5_next, Cond.selects RX5 yX5_next yX5_next, Cond.initialized RX5, Cond.code yX5_next cX5_next 2 (some .int), Cond.fieldLink RX5 24 "ClassRules$Types" "parentSets" "[I", Cond.fieldLink RX5 27 "ClassRules$Types" "uppers" "[I", Cond.methodLink RX4 25 yX5_everyone, Cond.instanceMethod yX5_everyone, Cond.selects RX5 yX5_everyone yX5_everyone, Cond.code yX5_everyone cX5_everyone 1 (some .int), Cond.fieldLink RX5 45 "ClassRules$Types" "count" "I", Cond.static yX6_bit, Cond.code yX6_bit cX6_bit 1 (some .int), Cond.methodLink RX1 104 yX1_putTypes, Cond.instanceMethod yX1_putTypes, Cond.selects RX1 yX1_putTypes yX1_putTypes, Cond.code yX1_putTypes cX1_putTypes 3 none, Cond.methodLink RX1 108 yX4_ring, Cond.instanceMethod yX4_ring, Cond.selects RX4 yX4_ring yX4_ring]
def wsX1_countOf_r3 : List Cond := [Cond.code yX4_ring cX4_ring 2 (some .int), Cond.methodLink RX1 111 yX4_wrongKind, Cond.instanceMethod yX4_wrongKind, Cond.selects RX4 yX4_wrongKind yX4_wrongKind, Cond.code yX4_wrongKind cX4_wrongKind 3 (some .int), Cond.methodLink RX4 41 yX5_ofKind, Cond.instanceMethod yX5_ofKind, Cond.selects RX5 yX5_ofKind yX5_ofKind, Cond.code yX5_ofKind cX5_ofKind 4 (some .int), Cond.fieldLink RX5 9 "ClassRules$Types" "kinds" "[I", Cond.methodLink RX1 114 yX4_finalParent, Cond.instanceMethod yX4_finalParent, Cond.selects RX4 yX4_finalParent yX4_finalParent, Cond.code yX4_finalParent cX4_finalParent 2 (some .int), Cond.methodLink RX4 47 yX5_withMark, Cond.instanceMethod yX5_withMark, Cond.selects RX5 yX5_withMark yX5_withMark, Cond.code yX5_withMark cX5_withMark 4 (some .int), Cond.methodLink RX5 67 yX5_marked, Cond.instanceMethod yX5_marked, Cond.selects RX5 yX5_marked yX5_marked, Cond.code yX5_marked cX5_marked 3 (some .boolean), Cond.fieldLink RX5 15 "ClassRules$Types" "marks" "[I", Cond.methodLink RX1 117 yX4_wrongMarks]
def wsX1_countOf_r4 : List Cond := [Cond.instanceMethod yX4_wrongMarks, Cond.selects RX4 yX4_wrongMarks yX4_wrongMarks, Cond.code yX4_wrongMarks cX4_wrongMarks 8 (some .int), Cond.methodLink RX4 53 yJ6_bitCount_0f7a4, Cond.static yJ6_bitCount_0f7a4, Cond.initialized RJ6, Cond.code yJ6_bitCount_0f7a4 cJ6_bitCount_0f7a4 1 (some .int), Cond.constant RJ6 265 (1431655765), Cond.constant RJ6 266 (858993459), Cond.constant RJ6 267 (252645135), Cond.methodLink RX1 120 yX4_wrongUnderSealed, Cond.instanceMethod yX4_wrongUnderSealed, Cond.selects RX4 yX4_wrongUnderSealed yX4_wrongUnderSealed, Cond.code yX4_wrongUnderSealed cX4_wrongUnderSealed 7 (some .int), Cond.methodLink RX4 58 yX5_marked, Cond.methodLink RX1 123 yX4_wrongPermits, Cond.instanceMethod yX4_wrongPermits, Cond.selects RX4 yX4_wrongPermits yX4_wrongPermits, Cond.code yX4_wrongPermits cX4_wrongPermits 5 (some .int), Cond.methodLink RX1 126 yX4_twice, Cond.instanceMethod yX4_twice, Cond.selects RX4 yX4_twice yX4_twice, Cond.code yX4_twice cX4_twice 2 (some .int), Cond.methodLink RX1 88 yX1_findMemberFaults]
def wsX1_countOf_r5 : List Cond := [Cond.instanceMethod yX1_findMemberFaults, Cond.selects RX1 yX1_findMemberFaults yX1_findMemberFaults, Cond.code yX1_findMemberFaults cX1_findMemberFaults 3 none, Cond.fieldLink RX1 30 "ClassRules$Judge" "members" "LClassRules$Members;", Cond.fieldLink RX1 52 "ClassRules$Judge" "memberRules" "LClassRules$MemberRules;", Cond.methodLink RX1 137 yX2_doubled, Cond.instanceMethod yX2_doubled, Cond.selects RX2 yX2_doubled yX2_doubled, Cond.initialized RX2, Cond.code yX2_doubled cX2_doubled 3 (some .boolean), Cond.fieldLink RX2 15 "ClassRules$MemberRules" "members" "LClassRules$Members;", Cond.methodLink RX2 25 yX3_alike, Cond.instanceMethod yX3_alike, Cond.selects RX3 yX3_alike yX3_alike, Cond.initialized RX3, Cond.code yX3_alike cX3_alike 3 (some .boolean), Cond.fieldLink RX3 15 "ClassRules$Members" "names" "[I", Cond.fieldLink RX3 18 "ClassRules$Members" "params" "[I", Cond.methodLink RX3 38 yX3_named, Cond.instanceMethod yX3_named, Cond.selects RX3 yX3_named yX3_named, Cond.code yX3_named cX3_named 4 (some .boolean), Cond.methodLink RX1 140 yX1_putIf, Cond.instanceMethod yX1_putIf]
def wsX1_countOf_r6 : List Cond := [Cond.selects RX1 yX1_putIf yX1_putIf, Cond.code yX1_putIf cX1_putIf 4 none, Cond.methodLink RX1 144 yX2_wrongMarks, Cond.instanceMethod yX2_wrongMarks, Cond.selects RX2 yX2_wrongMarks yX2_wrongMarks, Cond.code yX2_wrongMarks cX2_wrongMarks 2 (some .boolean), Cond.methodLink RX2 29 yX3_ofFace, Cond.instanceMethod yX3_ofFace, Cond.selects RX3 yX3_ofFace yX3_ofFace, Cond.code yX3_ofFace cX3_ofFace 2 (some .boolean), Cond.fieldLink RX3 34 "ClassRules$Members" "types" "LClassRules$Types;", Cond.fieldLink RX3 9 "ClassRules$Members" "owners" "[I", Cond.methodLink RX2 33 yX2_wrongInFace, Cond.instanceMethod yX2_wrongInFace, Cond.selects RX2 yX2_wrongInFace yX2_wrongInFace, Cond.code yX2_wrongInFace cX2_wrongInFace 4 (some .boolean), Cond.methodLink RX2 42 yX3_marked, Cond.instanceMethod yX3_marked, Cond.selects RX3 yX3_marked yX3_marked, Cond.code yX3_marked cX3_marked 3 (some .boolean), Cond.fieldLink RX3 21 "ClassRules$Members" "marks" "[I", Cond.methodLink RX2 48 yJ6_bitCount_0f7a4, Cond.methodLink RX2 36 yX2_wrongElsewhere, Cond.instanceMethod yX2_wrongElsewhere]
def wsX1_countOf_r7 : List Cond := [Cond.selects RX2 yX2_wrongElsewhere yX2_wrongElsewhere, Cond.code yX2_wrongElsewhere cX2_wrongElsewhere 3 (some .boolean), Cond.fieldLink RX2 9 "ClassRules$MemberRules" "types" "LClassRules$Types;", Cond.methodLink RX2 59 yX5_marked, Cond.methodLink RX1 91 yX4_shaky, Cond.instanceMethod yX4_shaky, Cond.selects RX4 yX4_shaky yX4_shaky, Cond.code yX4_shaky cX4_shaky 3 (some .boolean), Cond.methodLink RX4 72 yX5_stands, Cond.instanceMethod yX5_stands, Cond.selects RX5 yX5_stands yX5_stands, Cond.code yX5_stands cX5_stands 3 (some .boolean), Cond.fieldLink RX5 42 "ClassRules$Types" "above" "[I", Cond.methodLink RX4 75 yX4_missing, Cond.methodLink RX4 78 yX4_ring, Cond.methodLink RX4 81 yX4_wrongKind, Cond.methodLink RX1 95 yX1_findInheritedFaults, Cond.instanceMethod yX1_findInheritedFaults, Cond.selects RX1 yX1_findInheritedFaults yX1_findInheritedFaults, Cond.code yX1_findInheritedFaults cX1_findInheritedFaults 3 none, Cond.methodLink RX1 149 yX1_findOver, Cond.instanceMethod yX1_findOver, Cond.selects RX1 yX1_findOver yX1_findOver, Cond.code yX1_findOver cX1_findOver 4 none]
def wsX1_countOf_r8 : List Cond := [Cond.methodLink RX1 152 yX3_alike, Cond.methodLink RX1 155 yX3_shared, Cond.instanceMethod yX3_shared, Cond.selects RX3 yX3_shared yX3_shared, Cond.code yX3_shared cX3_shared 4 (some .boolean), Cond.methodLink RX3 47 yX3_marked, Cond.methodLink RX3 51 yX3_ofFace, Cond.methodLink RX3 61 yX3_seenFrom, Cond.instanceMethod yX3_seenFrom, Cond.selects RX3 yX3_seenFrom yX3_seenFrom, Cond.code yX3_seenFrom cX3_seenFrom 3 (some .boolean), Cond.fieldLink RX3 24 "ClassRules$Members" "accesses" "[I", Cond.methodLink RX1 158 yX3_marked, Cond.methodLink RX1 164 yX2_resultFits, Cond.instanceMethod yX2_resultFits, Cond.selects RX2 yX2_resultFits yX2_resultFits, Cond.code yX2_resultFits cX2_resultFits 5 (some .boolean), Cond.methodLink RX2 60 yX5_there, Cond.instanceMethod yX5_there, Cond.selects RX5 yX5_there yX5_there, Cond.code yX5_there cX5_there 2 (some .boolean), Cond.methodLink RX2 63 yX5_stands, Cond.methodLink RX1 98 yX1_findGivenFaults, Cond.instanceMethod yX1_findGivenFaults]
def wsX1_countOf_r9 : List Cond := [Cond.selects RX1 yX1_findGivenFaults yX1_findGivenFaults, Cond.code yX1_findGivenFaults cX1_findGivenFaults 6 none, Cond.fieldLink RX1 26 "ClassRules$Judge" "types" "LClassRules$Types;", Cond.fieldLink RX1 34 "ClassRules$Judge" "choice" "LClassRules$Choice;", Cond.methodLink RX1 172 yX5_marked, Cond.methodLink RX1 173 yX3_firstOfItsSort, Cond.instanceMethod yX3_firstOfItsSort, Cond.selects RX3 yX3_firstOfItsSort yX3_firstOfItsSort, Cond.code yX3_firstOfItsSort cX3_firstOfItsSort 3 (some .boolean), Cond.methodLink RX3 67 yX3_alike, Cond.methodLink RX1 182 yX0_seekClassOne, Cond.instanceMethod yX0_seekClassOne, Cond.selects RX0 yX0_seekClassOne yX0_seekClassOne, Cond.initialized RX0, Cond.code yX0_seekClassOne cX0_seekClassOne 7 none, Cond.fieldLink RX0 25 "ClassRules$Choice" "classOne" "I", Cond.fieldLink RX0 28 "ClassRules$Choice" "types" "LClassRules$Types;", Cond.fieldLink RX0 32 "ClassRules$Choice" "members" "LClassRules$Members;", Cond.methodLink RX0 49 yX3_named, Cond.methodLink RX0 53 yX3_marked, Cond.methodLink RX0 57 yX3_shared, Cond.methodLink RX0 60 yX5_parentThere, Cond.instanceMethod yX5_parentThere, Cond.selects RX5 yX5_parentThere yX5_parentThere]
def wsX1_countOf_r10 : List Cond := [Cond.code yX5_parentThere cX5_parentThere 2 (some .int), Cond.fieldLink RX5 21 "ClassRules$Types" "parents" "[I", Cond.methodLink RX1 188 yX0_seekFaceOnes, Cond.instanceMethod yX0_seekFaceOnes, Cond.selects RX0 yX0_seekFaceOnes yX0_seekFaceOnes, Cond.code yX0_seekFaceOnes cX0_seekFaceOnes 8 none, Cond.fieldLink RX0 21 "ClassRules$Choice" "faceOnesCount" "I", Cond.fieldLink RX0 9 "ClassRules$Choice" "faceOnes" "[I", Cond.methodLink RX0 64 yX0_givenByFace, Cond.instanceMethod yX0_givenByFace, Cond.selects RX0 yX0_givenByFace yX0_givenByFace, Cond.code yX0_givenByFace cX0_givenByFace 5 (some .boolean), Cond.methodLink RX0 77 yX3_ofFace, Cond.methodLink RX0 81 yX5_stands, Cond.methodLink RX1 191 yX0_leastToBeGiven, Cond.instanceMethod yX0_leastToBeGiven, Cond.selects RX0 yX0_leastToBeGiven yX0_leastToBeGiven, Cond.code yX0_leastToBeGiven cX0_leastToBeGiven 1 (some .int), Cond.methodLink RX0 87 yX0_leastFaceOneWith, Cond.instanceMethod yX0_leastFaceOneWith, Cond.selects RX0 yX0_leastFaceOneWith yX0_leastFaceOneWith, Cond.code yX0_leastFaceOneWith cX0_leastFaceOneWith 3 (some .int), Cond.methodLink RX1 194 yX0_leastOfRivals, Cond.instanceMethod yX0_leastOfRivals]
def wsX1_countOf_r11 : List Cond := [Cond.selects RX0 yX0_leastOfRivals yX0_leastOfRivals, Cond.code yX0_leastOfRivals cX0_leastOfRivals 2 (some .int), Cond.methodLink RX1 64 yX1_countFound, Cond.instanceMethod yX1_countFound, Cond.selects RX1 yX1_countFound yX1_countFound, Cond.code yX1_countFound cX1_countFound 3 (some .int), Cond.methodLink RX1 197 yJ13_bitCount_95d88, Cond.static yJ13_bitCount_95d88, Cond.initialized RJ13, Cond.code yJ13_bitCount_95d88 cJ13_bitCount_95d88 2 (some .int), Cond.constantLong RJ13 314 (6148914691236517205), Cond.constantLong RJ13 316 (3689348814741910323), Cond.constantLong RJ13 318 (1085102592571150095)]
def wsX1_countOf : List Cond := .code yX1_countOf cX1_countOf 2 (some .int) :: ((wsX1_countOf_r1 ++ (wsX1_countOf_r2 ++ (wsX1_countOf_r3 ++ (wsX1_countOf_r4 ++ (wsX1_countOf_r5 ++ (wsX1_countOf_r6 ++ (wsX1_countOf_r7 ++ (wsX1_countOf_r8 ++ (wsX1_countOf_r9 ++ (wsX1_countOf_r10 ++ wsX1_countOf_r11)))))))))) ++ wsX10 ++ wsX40 ++ wsX50 ++ wsX30 ++ wsX20 ++ wsX00)
def wsX1_isFound : List Cond := .code yX1_isFound cX1_isFound 3 (some .boolean) :: ([.fieldLink RX1 11 "ClassRules$Judge" "found" "[J"] ++ wsX10)
def wsX1_placeAt_r1 : List Cond := [Cond.methodLink RX1 60 yX1_keep, Cond.instanceMethod yX1_keep, Cond.selects RX1 yX1_keep yX1_keep, Cond.initialized RX1, Cond.code yX1_keep cX1_keep 2 none, Cond.fieldLink RX1 23 "ClassRules$Judge" "kept" "I", Cond.fieldLink RX1 11 "ClassRules$Judge" "found" "[J", Cond.fieldLink RX1 43 "ClassRules$Judge" "typeRules" "LClassRules$TypeRules;", Cond.methodLink RX1 79 yJ7_fill_d0a16, Cond.static yJ7_fill_d0a16, Cond.initialized RJ7, Cond.code yJ7_fill_d0a16 cJ7_fill_d0a16 5 none, Cond.methodLink RX1 85 yX1_findTypeFaults, Cond.instanceMethod yX1_findTypeFaults, Cond.selects RX1 yX1_findTypeFaults yX1_findTypeFaults, Cond.code yX1_findTypeFaults cX1_findTypeFaults 2 none, Cond.methodLink RX1 101 yX4_missing, Cond.instanceMethod yX4_missing, Cond.selects RX4 yX4_missing yX4_missing, Cond.initialized RX4, Cond.code yX4_missing cX4_missing 2 (some .int), Cond.fieldLink RX4 9 "ClassRules$TypeRules" "types" "LClassRules$Types;", Cond.methodLink RX4 15 yX5_next, Cond.instanceMethod yX5_next]
def wsX1_placeAt_r2 : List Cond := [Cond.selects RX5 yX5_next yX5_next, Cond.initialized RX5, Cond.code yX5_next cX5_next 2 (some .int), Cond.fieldLink RX5 24 "ClassRules$Types" "parentSets" "[I", Cond.fieldLink RX5 27 "ClassRules$Types" "uppers" "[I", Cond.methodLink RX4 25 yX5_everyone, Cond.instanceMethod yX5_everyone, Cond.selects RX5 yX5_everyone yX5_everyone, Cond.code yX5_everyone cX5_everyone 1 (some .int), Cond.fieldLink RX5 45 "ClassRules$Types" "count" "I", Cond.static yX6_bit, Cond.initialized RX6, Cond.code yX6_bit cX6_bit 1 (some .int), Cond.methodLink RX1 104 yX1_putTypes, Cond.instanceMethod yX1_putTypes, Cond.selects RX1 yX1_putTypes yX1_putTypes, Cond.code yX1_putTypes cX1_putTypes 3 none, Cond.methodLink RX1 108 yX4_ring, Cond.instanceMethod yX4_ring, Cond.selects RX4 yX4_ring yX4_ring, Cond.code yX4_ring cX4_ring 2 (some .int), Cond.methodLink RX1 111 yX4_wrongKind, Cond.instanceMethod yX4_wrongKind, Cond.selects RX4 yX4_wrongKind yX4_wrongKind]
def wsX1_placeAt_r3 : List Cond := [Cond.code yX4_wrongKind cX4_wrongKind 3 (some .int), Cond.methodLink RX4 41 yX5_ofKind, Cond.instanceMethod yX5_ofKind, Cond.selects RX5 yX5_ofKind yX5_ofKind, Cond.code yX5_ofKind cX5_ofKind 4 (some .int), Cond.fieldLink RX5 9 "ClassRules$Types" "kinds" "[I", Cond.methodLink RX1 114 yX4_finalParent, Cond.instanceMethod yX4_finalParent, Cond.selects RX4 yX4_finalParent yX4_finalParent, Cond.code yX4_finalParent cX4_finalParent 2 (some .int), Cond.methodLink RX4 47 yX5_withMark, Cond.instanceMethod yX5_withMark, Cond.selects RX5 yX5_withMark yX5_withMark, Cond.code yX5_withMark cX5_withMark 4 (some .int), Cond.methodLink RX5 67 yX5_marked, Cond.instanceMethod yX5_marked, Cond.selects RX5 yX5_marked yX5_marked, Cond.code yX5_marked cX5_marked 3 (some .boolean), Cond.fieldLink RX5 15 "ClassRules$Types" "marks" "[I", Cond.methodLink RX1 117 yX4_wrongMarks, Cond.instanceMethod yX4_wrongMarks, Cond.selects RX4 yX4_wrongMarks yX4_wrongMarks, Cond.code yX4_wrongMarks cX4_wrongMarks 8 (some .int), Cond.methodLink RX4 53 yJ6_bitCount_0f7a4]
def wsX1_placeAt_r4 : List Cond := [Cond.static yJ6_bitCount_0f7a4, Cond.initialized RJ6, Cond.code yJ6_bitCount_0f7a4 cJ6_bitCount_0f7a4 1 (some .int), Cond.constant RJ6 265 (1431655765), Cond.constant RJ6 266 (858993459), Cond.constant RJ6 267 (252645135), Cond.methodLink RX1 120 yX4_wrongUnderSealed, Cond.instanceMethod yX4_wrongUnderSealed, Cond.selects RX4 yX4_wrongUnderSealed yX4_wrongUnderSealed, Cond.code yX4_wrongUnderSealed cX4_wrongUnderSealed 7 (some .int), Cond.methodLink RX4 58 yX5_marked, Cond.static yX6_holds, Cond.code yX6_holds cX6_holds 2 (some .boolean), Cond.methodLink RX1 123 yX4_wrongPermits, Cond.instanceMethod yX4_wrongPermits, Cond.selects RX4 yX4_wrongPermits yX4_wrongPermits, Cond.code yX4_wrongPermits cX4_wrongPermits 5 (some .int), Cond.methodLink RX1 126 yX4_twice, Cond.instanceMethod yX4_twice, Cond.selects RX4 yX4_twice yX4_twice, Cond.code yX4_twice cX4_twice 2 (some .int), Cond.methodLink RX1 88 yX1_findMemberFaults, Cond.instanceMethod yX1_findMemberFaults, Cond.selects RX1 yX1_findMemberFaults yX1_findMemberFaults]
def wsX1_placeAt_r5 : List Cond := [Cond.code yX1_findMemberFaults cX1_findMemberFaults 3 none, Cond.fieldLink RX1 30 "ClassRules$Judge" "members" "LClassRules$Members;", Cond.fieldLink RX1 52 "ClassRules$Judge" "memberRules" "LClassRules$MemberRules;", Cond.methodLink RX1 137 yX2_doubled, Cond.instanceMethod yX2_doubled, Cond.selects RX2 yX2_doubled yX2_doubled, Cond.initialized RX2, Cond.code yX2_doubled cX2_doubled 3 (some .boolean), Cond.fieldLink RX2 15 "ClassRules$MemberRules" "members" "LClassRules$Members;", Cond.methodLink RX2 25 yX3_alike, Cond.instanceMethod yX3_alike, Cond.selects RX3 yX3_alike yX3_alike, Cond.initialized RX3, Cond.code yX3_alike cX3_alike 3 (some .boolean), Cond.fieldLink RX3 15 "ClassRules$Members" "names" "[I", Cond.fieldLink RX3 18 "ClassRules$Members" "params" "[I", Cond.methodLink RX3 38 yX3_named, Cond.instanceMethod yX3_named, Cond.selects RX3 yX3_named yX3_named, Cond.code yX3_named cX3_named 4 (some .boolean), Cond.methodLink RX1 140 yX1_putIf, Cond.instanceMethod yX1_putIf, Cond.selects RX1 yX1_putIf yX1_putIf, Cond.code yX1_putIf cX1_putIf 4 none]
def wsX1_placeAt_r6 : List Cond := [Cond.methodLink RX1 144 yX2_wrongMarks, Cond.instanceMethod yX2_wrongMarks, Cond.selects RX2 yX2_wrongMarks yX2_wrongMarks, Cond.code yX2_wrongMarks cX2_wrongMarks 2 (some .boolean), Cond.methodLink RX2 29 yX3_ofFace, Cond.instanceMethod yX3_ofFace, Cond.selects RX3 yX3_ofFace yX3_ofFace, Cond.code yX3_ofFace cX3_ofFace 2 (some .boolean), Cond.fieldLink RX3 34 "ClassRules$Members" "types" "LClassRules$Types;", Cond.fieldLink RX3 9 "ClassRules$Members" "owners" "[I", Cond.methodLink RX2 33 yX2_wrongInFace, Cond.instanceMethod yX2_wrongInFace, Cond.selects RX2 yX2_wrongInFace yX2_wrongInFace, Cond.code yX2_wrongInFace cX2_wrongInFace 4 (some .boolean), Cond.methodLink RX2 42 yX3_marked, Cond.instanceMethod yX3_marked, Cond.selects RX3 yX3_marked yX3_marked, Cond.code yX3_marked cX3_marked 3 (some .boolean), Cond.fieldLink RX3 21 "ClassRules$Members" "marks" "[I", Cond.methodLink RX2 48 yJ6_bitCount_0f7a4, Cond.methodLink RX2 36 yX2_wrongElsewhere, Cond.instanceMethod yX2_wrongElsewhere, Cond.selects RX2 yX2_wrongElsewhere yX2_wrongElsewhere, Cond.code yX2_wrongElsewhere cX2_wrongElsewhere 3 (some .boolean)]
def wsX1_placeAt_r7 : List Cond := [Cond.fieldLink RX2 9 "ClassRules$MemberRules" "types" "LClassRules$Types;", Cond.methodLink RX2 59 yX5_marked, Cond.methodLink RX1 91 yX4_shaky, Cond.instanceMethod yX4_shaky, Cond.selects RX4 yX4_shaky yX4_shaky, Cond.code yX4_shaky cX4_shaky 3 (some .boolean), Cond.methodLink RX4 72 yX5_stands, Cond.instanceMethod yX5_stands, Cond.selects RX5 yX5_stands yX5_stands, Cond.code yX5_stands cX5_stands 3 (some .boolean), Cond.fieldLink RX5 42 "ClassRules$Types" "above" "[I", Cond.methodLink RX4 75 yX4_missing, Cond.methodLink RX4 78 yX4_ring, Cond.methodLink RX4 81 yX4_wrongKind, Cond.methodLink RX1 95 yX1_findInheritedFaults, Cond.instanceMethod yX1_findInheritedFaults, Cond.selects RX1 yX1_findInheritedFaults yX1_findInheritedFaults, Cond.code yX1_findInheritedFaults cX1_findInheritedFaults 3 none, Cond.methodLink RX1 149 yX1_findOver, Cond.instanceMethod yX1_findOver, Cond.selects RX1 yX1_findOver yX1_findOver, Cond.code yX1_findOver cX1_findOver 4 none, Cond.methodLink RX1 152 yX3_alike, Cond.methodLink RX1 155 yX3_shared]
def wsX1_placeAt_r8 : List Cond := [Cond.instanceMethod yX3_shared, Cond.selects RX3 yX3_shared yX3_shared, Cond.code yX3_shared cX3_shared 4 (some .boolean), Cond.methodLink RX3 47 yX3_marked, Cond.methodLink RX3 51 yX3_ofFace, Cond.methodLink RX3 61 yX3_seenFrom, Cond.instanceMethod yX3_seenFrom, Cond.selects RX3 yX3_seenFrom yX3_seenFrom, Cond.code yX3_seenFrom cX3_seenFrom 3 (some .boolean), Cond.fieldLink RX3 24 "ClassRules$Members" "accesses" "[I", Cond.methodLink RX1 158 yX3_marked, Cond.methodLink RX1 164 yX2_resultFits, Cond.instanceMethod yX2_resultFits, Cond.selects RX2 yX2_resultFits yX2_resultFits, Cond.code yX2_resultFits cX2_resultFits 5 (some .boolean), Cond.methodLink RX2 60 yX5_there, Cond.instanceMethod yX5_there, Cond.selects RX5 yX5_there yX5_there, Cond.code yX5_there cX5_there 2 (some .boolean), Cond.methodLink RX2 63 yX5_stands, Cond.methodLink RX1 98 yX1_findGivenFaults, Cond.instanceMethod yX1_findGivenFaults, Cond.selects RX1 yX1_findGivenFaults yX1_findGivenFaults, Cond.code yX1_findGivenFaults cX1_findGivenFaults 6 none]
def wsX1_placeAt_r9 : List Cond := [Cond.fieldLink RX1 26 "ClassRules$Judge" "types" "LClassRules$Types;", Cond.fieldLink RX1 34 "ClassRules$Judge" "choice" "LClassRules$Choice;", Cond.methodLink RX1 172 yX5_marked, Cond.methodLink RX1 173 yX3_firstOfItsSort, Cond.instanceMethod yX3_firstOfItsSort, Cond.selects RX3 yX3_firstOfItsSort yX3_firstOfItsSort, Cond.code yX3_firstOfItsSort cX3_firstOfItsSort 3 (some .boolean), Cond.methodLink RX3 67 yX3_alike, Cond.methodLink RX1 182 yX0_seekClassOne, Cond.instanceMethod yX0_seekClassOne, Cond.selects RX0 yX0_seekClassOne yX0_seekClassOne, Cond.initialized RX0, Cond.code yX0_seekClassOne cX0_seekClassOne 7 none, Cond.fieldLink RX0 25 "ClassRules$Choice" "classOne" "I", Cond.fieldLink RX0 28 "ClassRules$Choice" "types" "LClassRules$Types;", Cond.fieldLink RX0 32 "ClassRules$Choice" "members" "LClassRules$Members;", Cond.methodLink RX0 49 yX3_named, Cond.methodLink RX0 53 yX3_marked, Cond.methodLink RX0 57 yX3_shared, Cond.methodLink RX0 60 yX5_parentThere, Cond.instanceMethod yX5_parentThere, Cond.selects RX5 yX5_parentThere yX5_parentThere, Cond.code yX5_parentThere cX5_parentThere 2 (some .int), Cond.fieldLink RX5 21 "ClassRules$Types" "parents" "[I"]
def wsX1_placeAt_r10 : List Cond := [Cond.methodLink RX1 188 yX0_seekFaceOnes, Cond.instanceMethod yX0_seekFaceOnes, Cond.selects RX0 yX0_seekFaceOnes yX0_seekFaceOnes, Cond.code yX0_seekFaceOnes cX0_seekFaceOnes 8 none, Cond.fieldLink RX0 21 "ClassRules$Choice" "faceOnesCount" "I", Cond.fieldLink RX0 9 "ClassRules$Choice" "faceOnes" "[I", Cond.methodLink RX0 64 yX0_givenByFace, Cond.instanceMethod yX0_givenByFace, Cond.selects RX0 yX0_givenByFace yX0_givenByFace, Cond.code yX0_givenByFace cX0_givenByFace 5 (some .boolean), Cond.methodLink RX0 77 yX3_ofFace, Cond.methodLink RX0 81 yX5_stands, Cond.methodLink RX1 191 yX0_leastToBeGiven, Cond.instanceMethod yX0_leastToBeGiven, Cond.selects RX0 yX0_leastToBeGiven yX0_leastToBeGiven, Cond.code yX0_leastToBeGiven cX0_leastToBeGiven 1 (some .int), Cond.methodLink RX0 87 yX0_leastFaceOneWith, Cond.instanceMethod yX0_leastFaceOneWith, Cond.selects RX0 yX0_leastFaceOneWith yX0_leastFaceOneWith, Cond.code yX0_leastFaceOneWith cX0_leastFaceOneWith 3 (some .int), Cond.methodLink RX1 194 yX0_leastOfRivals, Cond.instanceMethod yX0_leastOfRivals, Cond.selects RX0 yX0_leastOfRivals yX0_leastOfRivals, Cond.code yX0_leastOfRivals cX0_leastOfRivals 2 (some .int)]
def wsX1_placeAt_r11 : List Cond := [Cond.methodLink RX1 76 yX1_isFound, Cond.instanceMethod yX1_isFound, Cond.selects RX1 yX1_isFound yX1_isFound, Cond.code yX1_isFound cX1_isFound 3 (some .boolean)]
def wsX1_placeAt : List Cond := .code yX1_placeAt cX1_placeAt 6 (some .int) :: ((wsX1_placeAt_r1 ++ (wsX1_placeAt_r2 ++ (wsX1_placeAt_r3 ++ (wsX1_placeAt_r4 ++ (wsX1_placeAt_r5 ++ (wsX1_placeAt_r6 ++ (wsX1_placeAt_r7 ++ (wsX1_placeAt_r8 ++ (wsX1_placeAt_r9 ++ (wsX1_placeAt_r10 ++ wsX1_placeAt_r11)))))))))) ++ wsX10 ++ wsX40 ++ wsX50 ++ wsX30 ++ wsX20 ++ wsX00)
def wsX1_kindAt_r1 : List Cond := [Cond.methodLink RX1 72 yX1_placeAt, Cond.instanceMethod yX1_placeAt, Cond.selects RX1 yX1_placeAt yX1_placeAt, Cond.initialized RX1, Cond.code yX1_placeAt cX1_placeAt 6 (some .int), Cond.methodLink RX1 60 yX1_keep, Cond.instanceMethod yX1_keep, Cond.selects RX1 yX1_keep yX1_keep, Cond.code yX1_keep cX1_keep 2 none, Cond.fieldLink RX1 23 "ClassRules$Judge" "kept" "I", Cond.fieldLink RX1 11 "ClassRules$Judge" "found" "[J", Cond.fieldLink RX1 43 "ClassRules$Judge" "typeRules" "LClassRules$TypeRules;", Cond.methodLink RX1 79 yJ7_fill_d0a16, Cond.static yJ7_fill_d0a16, Cond.initialized RJ7, Cond.code yJ7_fill_d0a16 cJ7_fill_d0a16 5 none, Cond.methodLink RX1 85 yX1_findTypeFaults, Cond.instanceMethod yX1_findTypeFaults, Cond.selects RX1 yX1_findTypeFaults yX1_findTypeFaults, Cond.code yX1_findTypeFaults cX1_findTypeFaults 2 none, Cond.methodLink RX1 101 yX4_missing, Cond.instanceMethod yX4_missing, Cond.selects RX4 yX4_missing yX4_missing, Cond.initialized RX4]
def wsX1_kindAt_r2 : List Cond := [Cond.code yX4_missing cX4_missing 2 (some .int), Cond.fieldLink RX4 9 "ClassRules$TypeRules" "types" "LClassRules$Types;", Cond.methodLink RX4 15 yX5_next, Cond.instanceMethod yX5_next, Cond.selects RX5 yX5_next yX5_next, Cond.initialized RX5, Cond.code yX5_next cX5_next 2 (some .int), Cond.fieldLink RX5 24 "ClassRules$Types" "parentSets" "[I", Cond.fieldLink RX5 27 "ClassRules$Types" "uppers" "[I", Cond.methodLink RX4 25 yX5_everyone, Cond.instanceMethod yX5_everyone, Cond.selects RX5 yX5_everyone yX5_everyone, Cond.code yX5_everyone cX5_everyone 1 (some .int), Cond.fieldLink RX5 45 "ClassRules$Types" "count" "I", Cond.static yX6_bit, Cond.initialized RX6, Cond.code yX6_bit cX6_bit 1 (some .int), Cond.methodLink RX1 104 yX1_putTypes, Cond.instanceMethod yX1_putTypes, Cond.selects RX1 yX1_putTypes yX1_putTypes, Cond.code yX1_putTypes cX1_putTypes 3 none, Cond.methodLink RX1 108 yX4_ring, Cond.instanceMethod yX4_ring, Cond.selects RX4 yX4_ring yX4_ring]
def wsX1_kindAt_r3 : List Cond := [Cond.code yX4_ring cX4_ring 2 (some .int), Cond.methodLink RX1 111 yX4_wrongKind, Cond.instanceMethod yX4_wrongKind, Cond.selects RX4 yX4_wrongKind yX4_wrongKind, Cond.code yX4_wrongKind cX4_wrongKind 3 (some .int), Cond.methodLink RX4 41 yX5_ofKind, Cond.instanceMethod yX5_ofKind, Cond.selects RX5 yX5_ofKind yX5_ofKind, Cond.code yX5_ofKind cX5_ofKind 4 (some .int), Cond.fieldLink RX5 9 "ClassRules$Types" "kinds" "[I", Cond.methodLink RX1 114 yX4_finalParent, Cond.instanceMethod yX4_finalParent, Cond.selects RX4 yX4_finalParent yX4_finalParent, Cond.code yX4_finalParent cX4_finalParent 2 (some .int), Cond.methodLink RX4 47 yX5_withMark, Cond.instanceMethod yX5_withMark, Cond.selects RX5 yX5_withMark yX5_withMark, Cond.code yX5_withMark cX5_withMark 4 (some .int), Cond.methodLink RX5 67 yX5_marked, Cond.instanceMethod yX5_marked, Cond.selects RX5 yX5_marked yX5_marked, Cond.code yX5_marked cX5_marked 3 (some .boolean), Cond.fieldLink RX5 15 "ClassRules$Types" "marks" "[I", Cond.methodLink RX1 117 yX4_wrongMarks]
def wsX1_kindAt_r4 : List Cond := [Cond.instanceMethod yX4_wrongMarks, Cond.selects RX4 yX4_wrongMarks yX4_wrongMarks, Cond.code yX4_wrongMarks cX4_wrongMarks 8 (some .int), Cond.methodLink RX4 53 yJ6_bitCount_0f7a4, Cond.static yJ6_bitCount_0f7a4, Cond.initialized RJ6, Cond.code yJ6_bitCount_0f7a4 cJ6_bitCount_0f7a4 1 (some .int), Cond.constant RJ6 265 (1431655765), Cond.constant RJ6 266 (858993459), Cond.constant RJ6 267 (252645135), Cond.methodLink RX1 120 yX4_wrongUnderSealed, Cond.instanceMethod yX4_wrongUnderSealed, Cond.selects RX4 yX4_wrongUnderSealed yX4_wrongUnderSealed, Cond.code yX4_wrongUnderSealed cX4_wrongUnderSealed 7 (some .int), Cond.methodLink RX4 58 yX5_marked, Cond.static yX6_holds, Cond.code yX6_holds cX6_holds 2 (some .boolean), Cond.methodLink RX1 123 yX4_wrongPermits, Cond.instanceMethod yX4_wrongPermits, Cond.selects RX4 yX4_wrongPermits yX4_wrongPermits, Cond.code yX4_wrongPermits cX4_wrongPermits 5 (some .int), Cond.methodLink RX1 126 yX4_twice, Cond.instanceMethod yX4_twice, Cond.selects RX4 yX4_twice yX4_twice]
def wsX1_kindAt_r5 : List Cond := [Cond.code yX4_twice cX4_twice 2 (some .int), Cond.methodLink RX1 88 yX1_findMemberFaults, Cond.instanceMethod yX1_findMemberFaults, Cond.selects RX1 yX1_findMemberFaults yX1_findMemberFaults, Cond.code yX1_findMemberFaults cX1_findMemberFaults 3 none, Cond.fieldLink RX1 30 "ClassRules$Judge" "members" "LClassRules$Members;", Cond.fieldLink RX1 52 "ClassRules$Judge" "memberRules" "LClassRules$MemberRules;", Cond.methodLink RX1 137 yX2_doubled, Cond.instanceMethod yX2_doubled, Cond.selects RX2 yX2_doubled yX2_doubled, Cond.initialized RX2, Cond.code yX2_doubled cX2_doubled 3 (some .boolean), Cond.fieldLink RX2 15 "ClassRules$MemberRules" "members" "LClassRules$Members;", Cond.methodLink RX2 25 yX3_alike, Cond.instanceMethod yX3_alike, Cond.selects RX3 yX3_alike yX3_alike, Cond.initialized RX3, Cond.code yX3_alike cX3_alike 3 (some .boolean), Cond.fieldLink RX3 15 "ClassRules$Members" "names" "[I", Cond.fieldLink RX3 18 "ClassRules$Members" "params" "[I", Cond.methodLink RX3 38 yX3_named, Cond.instanceMethod yX3_named, Cond.selects RX3 yX3_named yX3_named, Cond.code yX3_named cX3_named 4 (some .boolean)]
def wsX1_kindAt_r6 : List Cond := [Cond.methodLink RX1 140 yX1_putIf, Cond.instanceMethod yX1_putIf, Cond.selects RX1 yX1_putIf yX1_putIf, Cond.code yX1_putIf cX1_putIf 4 none, Cond.methodLink RX1 144 yX2_wrongMarks, Cond.instanceMethod yX2_wrongMarks, Cond.selects RX2 yX2_wrongMarks yX2_wrongMarks, Cond.code yX2_wrongMarks cX2_wrongMarks 2 (some .boolean), Cond.methodLink RX2 29 yX3_ofFace, Cond.instanceMethod yX3_ofFace, Cond.selects RX3 yX3_ofFace yX3_ofFace, Cond.code yX3_ofFace cX3_ofFace 2 (some .boolean), Cond.fieldLink RX3 34 "ClassRules$Members" "types" "LClassRules$Types;", Cond.fieldLink RX3 9 "ClassRules$Members" "owners" "[I", Cond.methodLink RX2 33 yX2_wrongInFace, Cond.instanceMethod yX2_wrongInFace, Cond.selects RX2 yX2_wrongInFace yX2_wrongInFace, Cond.code yX2_wrongInFace cX2_wrongInFace 4 (some .boolean), Cond.methodLink RX2 42 yX3_marked, Cond.instanceMethod yX3_marked, Cond.selects RX3 yX3_marked yX3_marked, Cond.code yX3_marked cX3_marked 3 (some .boolean), Cond.fieldLink RX3 21 "ClassRules$Members" "marks" "[I", Cond.methodLink RX2 48 yJ6_bitCount_0f7a4]
def wsX1_kindAt_r7 : List Cond := [Cond.methodLink RX2 36 yX2_wrongElsewhere, Cond.instanceMethod yX2_wrongElsewhere, Cond.selects RX2 yX2_wrongElsewhere yX2_wrongElsewhere, Cond.code yX2_wrongElsewhere cX2_wrongElsewhere 3 (some .boolean), Cond.fieldLink RX2 9 "ClassRules$MemberRules" "types" "LClassRules$Types;", Cond.methodLink RX2 59 yX5_marked, Cond.methodLink RX1 91 yX4_shaky, Cond.instanceMethod yX4_shaky, Cond.selects RX4 yX4_shaky yX4_shaky, Cond.code yX4_shaky cX4_shaky 3 (some .boolean), Cond.methodLink RX4 72 yX5_stands, Cond.instanceMethod yX5_stands, Cond.selects RX5 yX5_stands yX5_stands, Cond.code yX5_stands cX5_stands 3 (some .boolean), Cond.fieldLink RX5 42 "ClassRules$Types" "above" "[I", Cond.methodLink RX4 75 yX4_missing, Cond.methodLink RX4 78 yX4_ring, Cond.methodLink RX4 81 yX4_wrongKind, Cond.methodLink RX1 95 yX1_findInheritedFaults, Cond.instanceMethod yX1_findInheritedFaults, Cond.selects RX1 yX1_findInheritedFaults yX1_findInheritedFaults, Cond.code yX1_findInheritedFaults cX1_findInheritedFaults 3 none, Cond.methodLink RX1 149 yX1_findOver, Cond.instanceMethod yX1_findOver]
def wsX1_kindAt_r8 : List Cond := [Cond.selects RX1 yX1_findOver yX1_findOver, Cond.code yX1_findOver cX1_findOver 4 none, Cond.methodLink RX1 152 yX3_alike, Cond.methodLink RX1 155 yX3_shared, Cond.instanceMethod yX3_shared, Cond.selects RX3 yX3_shared yX3_shared, Cond.code yX3_shared cX3_shared 4 (some .boolean), Cond.methodLink RX3 47 yX3_marked, Cond.methodLink RX3 51 yX3_ofFace, Cond.methodLink RX3 61 yX3_seenFrom, Cond.instanceMethod yX3_seenFrom, Cond.selects RX3 yX3_seenFrom yX3_seenFrom, Cond.code yX3_seenFrom cX3_seenFrom 3 (some .boolean), Cond.fieldLink RX3 24 "ClassRules$Members" "accesses" "[I", Cond.methodLink RX1 158 yX3_marked, Cond.methodLink RX1 164 yX2_resultFits, Cond.instanceMethod yX2_resultFits, Cond.selects RX2 yX2_resultFits yX2_resultFits, Cond.code yX2_resultFits cX2_resultFits 5 (some .boolean), Cond.methodLink RX2 60 yX5_there, Cond.instanceMethod yX5_there, Cond.selects RX5 yX5_there yX5_there, Cond.code yX5_there cX5_there 2 (some .boolean), Cond.methodLink RX2 63 yX5_stands]
def wsX1_kindAt_r9 : List Cond := [Cond.methodLink RX1 98 yX1_findGivenFaults, Cond.instanceMethod yX1_findGivenFaults, Cond.selects RX1 yX1_findGivenFaults yX1_findGivenFaults, Cond.code yX1_findGivenFaults cX1_findGivenFaults 6 none, Cond.fieldLink RX1 26 "ClassRules$Judge" "types" "LClassRules$Types;", Cond.fieldLink RX1 34 "ClassRules$Judge" "choice" "LClassRules$Choice;", Cond.methodLink RX1 172 yX5_marked, Cond.methodLink RX1 173 yX3_firstOfItsSort, Cond.instanceMethod yX3_firstOfItsSort, Cond.selects RX3 yX3_firstOfItsSort yX3_firstOfItsSort, Cond.code yX3_firstOfItsSort cX3_firstOfItsSort 3 (some .boolean), Cond.methodLink RX3 67 yX3_alike, Cond.methodLink RX1 182 yX0_seekClassOne, Cond.instanceMethod yX0_seekClassOne, Cond.selects RX0 yX0_seekClassOne yX0_seekClassOne, Cond.initialized RX0, Cond.code yX0_seekClassOne cX0_seekClassOne 7 none, Cond.fieldLink RX0 25 "ClassRules$Choice" "classOne" "I", Cond.fieldLink RX0 28 "ClassRules$Choice" "types" "LClassRules$Types;", Cond.fieldLink RX0 32 "ClassRules$Choice" "members" "LClassRules$Members;", Cond.methodLink RX0 49 yX3_named, Cond.methodLink RX0 53 yX3_marked, Cond.methodLink RX0 57 yX3_shared, Cond.methodLink RX0 60 yX5_parentThere]
def wsX1_kindAt_r10 : List Cond := [Cond.instanceMethod yX5_parentThere, Cond.selects RX5 yX5_parentThere yX5_parentThere, Cond.code yX5_parentThere cX5_parentThere 2 (some .int), Cond.fieldLink RX5 21 "ClassRules$Types" "parents" "[I", Cond.methodLink RX1 188 yX0_seekFaceOnes, Cond.instanceMethod yX0_seekFaceOnes, Cond.selects RX0 yX0_seekFaceOnes yX0_seekFaceOnes, Cond.code yX0_seekFaceOnes cX0_seekFaceOnes 8 none, Cond.fieldLink RX0 21 "ClassRules$Choice" "faceOnesCount" "I", Cond.fieldLink RX0 9 "ClassRules$Choice" "faceOnes" "[I", Cond.methodLink RX0 64 yX0_givenByFace, Cond.instanceMethod yX0_givenByFace, Cond.selects RX0 yX0_givenByFace yX0_givenByFace, Cond.code yX0_givenByFace cX0_givenByFace 5 (some .boolean), Cond.methodLink RX0 77 yX3_ofFace, Cond.methodLink RX0 81 yX5_stands, Cond.methodLink RX1 191 yX0_leastToBeGiven, Cond.instanceMethod yX0_leastToBeGiven, Cond.selects RX0 yX0_leastToBeGiven yX0_leastToBeGiven, Cond.code yX0_leastToBeGiven cX0_leastToBeGiven 1 (some .int), Cond.methodLink RX0 87 yX0_leastFaceOneWith, Cond.instanceMethod yX0_leastFaceOneWith, Cond.selects RX0 yX0_leastFaceOneWith yX0_leastFaceOneWith, Cond.code yX0_leastFaceOneWith cX0_leastFaceOneWith 3 (some .int)]
def wsX1_kindAt_r11 : List Cond := [Cond.methodLink RX1 194 yX0_leastOfRivals, Cond.instanceMethod yX0_leastOfRivals, Cond.selects RX0 yX0_leastOfRivals yX0_leastOfRivals, Cond.code yX0_leastOfRivals cX0_leastOfRivals 2 (some .int), Cond.methodLink RX1 76 yX1_isFound, Cond.instanceMethod yX1_isFound, Cond.selects RX1 yX1_isFound yX1_isFound, Cond.code yX1_isFound cX1_isFound 3 (some .boolean)]
def wsX1_kindAt : List Cond := .code yX1_kindAt cX1_kindAt 3 (some .int) :: ((wsX1_kindAt_r1 ++ (wsX1_kindAt_r2 ++ (wsX1_kindAt_r3 ++ (wsX1_kindAt_r4 ++ (wsX1_kindAt_r5 ++ (wsX1_kindAt_r6 ++ (wsX1_kindAt_r7 ++ (wsX1_kindAt_r8 ++ (wsX1_kindAt_r9 ++ (wsX1_kindAt_r10 ++ wsX1_kindAt_r11)))))))))) ++ wsX10 ++ wsX40 ++ wsX50 ++ wsX30 ++ wsX20 ++ wsX00)
def wsX1_numberAt_r1 : List Cond := [Cond.methodLink RX1 72 yX1_placeAt, Cond.instanceMethod yX1_placeAt, Cond.selects RX1 yX1_placeAt yX1_placeAt, Cond.initialized RX1, Cond.code yX1_placeAt cX1_placeAt 6 (some .int), Cond.methodLink RX1 60 yX1_keep, Cond.instanceMethod yX1_keep, Cond.selects RX1 yX1_keep yX1_keep, Cond.code yX1_keep cX1_keep 2 none, Cond.fieldLink RX1 23 "ClassRules$Judge" "kept" "I", Cond.fieldLink RX1 11 "ClassRules$Judge" "found" "[J", Cond.fieldLink RX1 43 "ClassRules$Judge" "typeRules" "LClassRules$TypeRules;", Cond.methodLink RX1 79 yJ7_fill_d0a16, Cond.static yJ7_fill_d0a16, Cond.initialized RJ7, Cond.code yJ7_fill_d0a16 cJ7_fill_d0a16 5 none, Cond.methodLink RX1 85 yX1_findTypeFaults, Cond.instanceMethod yX1_findTypeFaults, Cond.selects RX1 yX1_findTypeFaults yX1_findTypeFaults, Cond.code yX1_findTypeFaults cX1_findTypeFaults 2 none, Cond.methodLink RX1 101 yX4_missing, Cond.instanceMethod yX4_missing, Cond.selects RX4 yX4_missing yX4_missing, Cond.initialized RX4]
def wsX1_numberAt_r2 : List Cond := [Cond.code yX4_missing cX4_missing 2 (some .int), Cond.fieldLink RX4 9 "ClassRules$TypeRules" "types" "LClassRules$Types;", Cond.methodLink RX4 15 yX5_next, Cond.instanceMethod yX5_next, Cond.selects RX5 yX5_next yX5_next, Cond.initialized RX5, Cond.code yX5_next cX5_next 2 (some .int), Cond.fieldLink RX5 24 "ClassRules$Types" "parentSets" "[I", Cond.fieldLink RX5 27 "ClassRules$Types" "uppers" "[I", Cond.methodLink RX4 25 yX5_everyone, Cond.instanceMethod yX5_everyone, Cond.selects RX5 yX5_everyone yX5_everyone, Cond.code yX5_everyone cX5_everyone 1 (some .int), Cond.fieldLink RX5 45 "ClassRules$Types" "count" "I", Cond.static yX6_bit, Cond.initialized RX6, Cond.code yX6_bit cX6_bit 1 (some .int), Cond.methodLink RX1 104 yX1_putTypes, Cond.instanceMethod yX1_putTypes, Cond.selects RX1 yX1_putTypes yX1_putTypes, Cond.code yX1_putTypes cX1_putTypes 3 none, Cond.methodLink RX1 108 yX4_ring, Cond.instanceMethod yX4_ring, Cond.selects RX4 yX4_ring yX4_ring]
def wsX1_numberAt_r3 : List Cond := [Cond.code yX4_ring cX4_ring 2 (some .int), Cond.methodLink RX1 111 yX4_wrongKind, Cond.instanceMethod yX4_wrongKind, Cond.selects RX4 yX4_wrongKind yX4_wrongKind, Cond.code yX4_wrongKind cX4_wrongKind 3 (some .int), Cond.methodLink RX4 41 yX5_ofKind, Cond.instanceMethod yX5_ofKind, Cond.selects RX5 yX5_ofKind yX5_ofKind, Cond.code yX5_ofKind cX5_ofKind 4 (some .int), Cond.fieldLink RX5 9 "ClassRules$Types" "kinds" "[I", Cond.methodLink RX1 114 yX4_finalParent, Cond.instanceMethod yX4_finalParent, Cond.selects RX4 yX4_finalParent yX4_finalParent, Cond.code yX4_finalParent cX4_finalParent 2 (some .int), Cond.methodLink RX4 47 yX5_withMark, Cond.instanceMethod yX5_withMark, Cond.selects RX5 yX5_withMark yX5_withMark, Cond.code yX5_withMark cX5_withMark 4 (some .int), Cond.methodLink RX5 67 yX5_marked, Cond.instanceMethod yX5_marked, Cond.selects RX5 yX5_marked yX5_marked, Cond.code yX5_marked cX5_marked 3 (some .boolean), Cond.fieldLink RX5 15 "ClassRules$Types" "marks" "[I", Cond.methodLink RX1 117 yX4_wrongMarks]
def wsX1_numberAt_r4 : List Cond := [Cond.instanceMethod yX4_wrongMarks, Cond.selects RX4 yX4_wrongMarks yX4_wrongMarks, Cond.code yX4_wrongMarks cX4_wrongMarks 8 (some .int), Cond.methodLink RX4 53 yJ6_bitCount_0f7a4, Cond.static yJ6_bitCount_0f7a4, Cond.initialized RJ6, Cond.code yJ6_bitCount_0f7a4 cJ6_bitCount_0f7a4 1 (some .int), Cond.constant RJ6 265 (1431655765), Cond.constant RJ6 266 (858993459), Cond.constant RJ6 267 (252645135), Cond.methodLink RX1 120 yX4_wrongUnderSealed, Cond.instanceMethod yX4_wrongUnderSealed, Cond.selects RX4 yX4_wrongUnderSealed yX4_wrongUnderSealed, Cond.code yX4_wrongUnderSealed cX4_wrongUnderSealed 7 (some .int), Cond.methodLink RX4 58 yX5_marked, Cond.static yX6_holds, Cond.code yX6_holds cX6_holds 2 (some .boolean), Cond.methodLink RX1 123 yX4_wrongPermits, Cond.instanceMethod yX4_wrongPermits, Cond.selects RX4 yX4_wrongPermits yX4_wrongPermits, Cond.code yX4_wrongPermits cX4_wrongPermits 5 (some .int), Cond.methodLink RX1 126 yX4_twice, Cond.instanceMethod yX4_twice, Cond.selects RX4 yX4_twice yX4_twice]
def wsX1_numberAt_r5 : List Cond := [Cond.code yX4_twice cX4_twice 2 (some .int), Cond.methodLink RX1 88 yX1_findMemberFaults, Cond.instanceMethod yX1_findMemberFaults, Cond.selects RX1 yX1_findMemberFaults yX1_findMemberFaults, Cond.code yX1_findMemberFaults cX1_findMemberFaults 3 none, Cond.fieldLink RX1 30 "ClassRules$Judge" "members" "LClassRules$Members;", Cond.fieldLink RX1 52 "ClassRules$Judge" "memberRules" "LClassRules$MemberRules;", Cond.methodLink RX1 137 yX2_doubled, Cond.instanceMethod yX2_doubled, Cond.selects RX2 yX2_doubled yX2_doubled, Cond.initialized RX2, Cond.code yX2_doubled cX2_doubled 3 (some .boolean), Cond.fieldLink RX2 15 "ClassRules$MemberRules" "members" "LClassRules$Members;", Cond.methodLink RX2 25 yX3_alike, Cond.instanceMethod yX3_alike, Cond.selects RX3 yX3_alike yX3_alike, Cond.initialized RX3, Cond.code yX3_alike cX3_alike 3 (some .boolean), Cond.fieldLink RX3 15 "ClassRules$Members" "names" "[I", Cond.fieldLink RX3 18 "ClassRules$Members" "params" "[I", Cond.methodLink RX3 38 yX3_named, Cond.instanceMethod yX3_named, Cond.selects RX3 yX3_named yX3_named, Cond.code yX3_named cX3_named 4 (some .boolean)]
def wsX1_numberAt_r6 : List Cond := [Cond.methodLink RX1 140 yX1_putIf, Cond.instanceMethod yX1_putIf, Cond.selects RX1 yX1_putIf yX1_putIf, Cond.code yX1_putIf cX1_putIf 4 none, Cond.methodLink RX1 144 yX2_wrongMarks, Cond.instanceMethod yX2_wrongMarks, Cond.selects RX2 yX2_wrongMarks yX2_wrongMarks, Cond.code yX2_wrongMarks cX2_wrongMarks 2 (some .boolean), Cond.methodLink RX2 29 yX3_ofFace, Cond.instanceMethod yX3_ofFace, Cond.selects RX3 yX3_ofFace yX3_ofFace, Cond.code yX3_ofFace cX3_ofFace 2 (some .boolean), Cond.fieldLink RX3 34 "ClassRules$Members" "types" "LClassRules$Types;", Cond.fieldLink RX3 9 "ClassRules$Members" "owners" "[I", Cond.methodLink RX2 33 yX2_wrongInFace, Cond.instanceMethod yX2_wrongInFace, Cond.selects RX2 yX2_wrongInFace yX2_wrongInFace, Cond.code yX2_wrongInFace cX2_wrongInFace 4 (some .boolean), Cond.methodLink RX2 42 yX3_marked, Cond.instanceMethod yX3_marked, Cond.selects RX3 yX3_marked yX3_marked, Cond.code yX3_marked cX3_marked 3 (some .boolean), Cond.fieldLink RX3 21 "ClassRules$Members" "marks" "[I", Cond.methodLink RX2 48 yJ6_bitCount_0f7a4]
def wsX1_numberAt_r7 : List Cond := [Cond.methodLink RX2 36 yX2_wrongElsewhere, Cond.instanceMethod yX2_wrongElsewhere, Cond.selects RX2 yX2_wrongElsewhere yX2_wrongElsewhere, Cond.code yX2_wrongElsewhere cX2_wrongElsewhere 3 (some .boolean), Cond.fieldLink RX2 9 "ClassRules$MemberRules" "types" "LClassRules$Types;", Cond.methodLink RX2 59 yX5_marked, Cond.methodLink RX1 91 yX4_shaky, Cond.instanceMethod yX4_shaky, Cond.selects RX4 yX4_shaky yX4_shaky, Cond.code yX4_shaky cX4_shaky 3 (some .boolean), Cond.methodLink RX4 72 yX5_stands, Cond.instanceMethod yX5_stands, Cond.selects RX5 yX5_stands yX5_stands, Cond.code yX5_stands cX5_stands 3 (some .boolean), Cond.fieldLink RX5 42 "ClassRules$Types" "above" "[I", Cond.methodLink RX4 75 yX4_missing, Cond.methodLink RX4 78 yX4_ring, Cond.methodLink RX4 81 yX4_wrongKind, Cond.methodLink RX1 95 yX1_findInheritedFaults, Cond.instanceMethod yX1_findInheritedFaults, Cond.selects RX1 yX1_findInheritedFaults yX1_findInheritedFaults, Cond.code yX1_findInheritedFaults cX1_findInheritedFaults 3 none, Cond.methodLink RX1 149 yX1_findOver, Cond.instanceMethod yX1_findOver]
def wsX1_numberAt_r8 : List Cond := [Cond.selects RX1 yX1_findOver yX1_findOver, Cond.code yX1_findOver cX1_findOver 4 none, Cond.methodLink RX1 152 yX3_alike, Cond.methodLink RX1 155 yX3_shared, Cond.instanceMethod yX3_shared, Cond.selects RX3 yX3_shared yX3_shared, Cond.code yX3_shared cX3_shared 4 (some .boolean), Cond.methodLink RX3 47 yX3_marked, Cond.methodLink RX3 51 yX3_ofFace, Cond.methodLink RX3 61 yX3_seenFrom, Cond.instanceMethod yX3_seenFrom, Cond.selects RX3 yX3_seenFrom yX3_seenFrom, Cond.code yX3_seenFrom cX3_seenFrom 3 (some .boolean), Cond.fieldLink RX3 24 "ClassRules$Members" "accesses" "[I", Cond.methodLink RX1 158 yX3_marked, Cond.methodLink RX1 164 yX2_resultFits, Cond.instanceMethod yX2_resultFits, Cond.selects RX2 yX2_resultFits yX2_resultFits, Cond.code yX2_resultFits cX2_resultFits 5 (some .boolean), Cond.methodLink RX2 60 yX5_there, Cond.instanceMethod yX5_there, Cond.selects RX5 yX5_there yX5_there, Cond.code yX5_there cX5_there 2 (some .boolean), Cond.methodLink RX2 63 yX5_stands]
def wsX1_numberAt_r9 : List Cond := [Cond.methodLink RX1 98 yX1_findGivenFaults, Cond.instanceMethod yX1_findGivenFaults, Cond.selects RX1 yX1_findGivenFaults yX1_findGivenFaults, Cond.code yX1_findGivenFaults cX1_findGivenFaults 6 none, Cond.fieldLink RX1 26 "ClassRules$Judge" "types" "LClassRules$Types;", Cond.fieldLink RX1 34 "ClassRules$Judge" "choice" "LClassRules$Choice;", Cond.methodLink RX1 172 yX5_marked, Cond.methodLink RX1 173 yX3_firstOfItsSort, Cond.instanceMethod yX3_firstOfItsSort, Cond.selects RX3 yX3_firstOfItsSort yX3_firstOfItsSort, Cond.code yX3_firstOfItsSort cX3_firstOfItsSort 3 (some .boolean), Cond.methodLink RX3 67 yX3_alike, Cond.methodLink RX1 182 yX0_seekClassOne, Cond.instanceMethod yX0_seekClassOne, Cond.selects RX0 yX0_seekClassOne yX0_seekClassOne, Cond.initialized RX0, Cond.code yX0_seekClassOne cX0_seekClassOne 7 none, Cond.fieldLink RX0 25 "ClassRules$Choice" "classOne" "I", Cond.fieldLink RX0 28 "ClassRules$Choice" "types" "LClassRules$Types;", Cond.fieldLink RX0 32 "ClassRules$Choice" "members" "LClassRules$Members;", Cond.methodLink RX0 49 yX3_named, Cond.methodLink RX0 53 yX3_marked, Cond.methodLink RX0 57 yX3_shared, Cond.methodLink RX0 60 yX5_parentThere]
def wsX1_numberAt_r10 : List Cond := [Cond.instanceMethod yX5_parentThere, Cond.selects RX5 yX5_parentThere yX5_parentThere, Cond.code yX5_parentThere cX5_parentThere 2 (some .int), Cond.fieldLink RX5 21 "ClassRules$Types" "parents" "[I", Cond.methodLink RX1 188 yX0_seekFaceOnes, Cond.instanceMethod yX0_seekFaceOnes, Cond.selects RX0 yX0_seekFaceOnes yX0_seekFaceOnes, Cond.code yX0_seekFaceOnes cX0_seekFaceOnes 8 none, Cond.fieldLink RX0 21 "ClassRules$Choice" "faceOnesCount" "I", Cond.fieldLink RX0 9 "ClassRules$Choice" "faceOnes" "[I", Cond.methodLink RX0 64 yX0_givenByFace, Cond.instanceMethod yX0_givenByFace, Cond.selects RX0 yX0_givenByFace yX0_givenByFace, Cond.code yX0_givenByFace cX0_givenByFace 5 (some .boolean), Cond.methodLink RX0 77 yX3_ofFace, Cond.methodLink RX0 81 yX5_stands, Cond.methodLink RX1 191 yX0_leastToBeGiven, Cond.instanceMethod yX0_leastToBeGiven, Cond.selects RX0 yX0_leastToBeGiven yX0_leastToBeGiven, Cond.code yX0_leastToBeGiven cX0_leastToBeGiven 1 (some .int), Cond.methodLink RX0 87 yX0_leastFaceOneWith, Cond.instanceMethod yX0_leastFaceOneWith, Cond.selects RX0 yX0_leastFaceOneWith yX0_leastFaceOneWith, Cond.code yX0_leastFaceOneWith cX0_leastFaceOneWith 3 (some .int)]
def wsX1_numberAt_r11 : List Cond := [Cond.methodLink RX1 194 yX0_leastOfRivals, Cond.instanceMethod yX0_leastOfRivals, Cond.selects RX0 yX0_leastOfRivals yX0_leastOfRivals, Cond.code yX0_leastOfRivals cX0_leastOfRivals 2 (some .int), Cond.methodLink RX1 76 yX1_isFound, Cond.instanceMethod yX1_isFound, Cond.selects RX1 yX1_isFound yX1_isFound, Cond.code yX1_isFound cX1_isFound 3 (some .boolean)]
def wsX1_numberAt : List Cond := .code yX1_numberAt cX1_numberAt 3 (some .int) :: ((wsX1_numberAt_r1 ++ (wsX1_numberAt_r2 ++ (wsX1_numberAt_r3 ++ (wsX1_numberAt_r4 ++ (wsX1_numberAt_r5 ++ (wsX1_numberAt_r6 ++ (wsX1_numberAt_r7 ++ (wsX1_numberAt_r8 ++ (wsX1_numberAt_r9 ++ (wsX1_numberAt_r10 ++ wsX1_numberAt_r11)))))))))) ++ wsX10 ++ wsX40 ++ wsX50 ++ wsX30 ++ wsX20 ++ wsX00)
def wsX3_init : List Cond := .code yX3_init cX3_init 2 none :: ([.methodLink RX3 3 objectInit, .instanceMethod objectInit, .code objectInit ⟨#[0xb1]⟩ 1 none, .arrayClass .int, .fieldLink RX3 9 "ClassRules$Members" "owners" "[I", .fieldLink RX3 15 "ClassRules$Members" "names" "[I", .fieldLink RX3 18 "ClassRules$Members" "params" "[I", .fieldLink RX3 21 "ClassRules$Members" "marks" "[I", .fieldLink RX3 24 "ClassRules$Members" "accesses" "[I", .fieldLink RX3 27 "ClassRules$Members" "results" "[I", .fieldLink RX3 30 "ClassRules$Members" "count" "I", .fieldLink RX3 34 "ClassRules$Members" "types" "LClassRules$Types;"] ++ wsX30)
def wsX3_addMember : List Cond := .code yX3_addMember cX3_addMember 8 (some .int) :: ([.fieldLink RX3 30 "ClassRules$Members" "count" "I", .fieldLink RX3 9 "ClassRules$Members" "owners" "[I", .fieldLink RX3 15 "ClassRules$Members" "names" "[I", .fieldLink RX3 18 "ClassRules$Members" "params" "[I", .fieldLink RX3 21 "ClassRules$Members" "marks" "[I", .fieldLink RX3 24 "ClassRules$Members" "accesses" "[I", .fieldLink RX3 27 "ClassRules$Members" "results" "[I"] ++ wsX30)
def wsX5_init : List Cond := .code yX5_init cX5_init 1 none :: ([.methodLink RX5 3 objectInit, .instanceMethod objectInit, .code objectInit ⟨#[0xb1]⟩ 1 none, .arrayClass .int, .fieldLink RX5 9 "ClassRules$Types" "kinds" "[I", .fieldLink RX5 15 "ClassRules$Types" "marks" "[I", .fieldLink RX5 18 "ClassRules$Types" "packs" "[I", .fieldLink RX5 21 "ClassRules$Types" "parents" "[I", .fieldLink RX5 24 "ClassRules$Types" "parentSets" "[I", .fieldLink RX5 27 "ClassRules$Types" "uppers" "[I", .fieldLink RX5 30 "ClassRules$Types" "uppersTwice" "[I", .fieldLink RX5 33 "ClassRules$Types" "uppersTold" "[I", .fieldLink RX5 36 "ClassRules$Types" "permitted" "[I", .fieldLink RX5 39 "ClassRules$Types" "permittedTold" "[I", .fieldLink RX5 42 "ClassRules$Types" "above" "[I", .fieldLink RX5 45 "ClassRules$Types" "count" "I"] ++ wsX50)
def wsX5_settleAbove : List Cond := .code yX5_settleAbove cX5_settleAbove 3 none :: ([.fieldLink RX5 45 "ClassRules$Types" "count" "I", .fieldLink RX5 42 "ClassRules$Types" "above" "[I", .methodLink RX5 56 yX5_next, .instanceMethod yX5_next, .selects RX5 yX5_next yX5_next, .initialized RX5, .code yX5_next cX5_next 2 (some .int), .fieldLink RX5 24 "ClassRules$Types" "parentSets" "[I", .fieldLink RX5 27 "ClassRules$Types" "uppers" "[I", .methodLink RX5 59 yX5_everyone, .instanceMethod yX5_everyone, .selects RX5 yX5_everyone yX5_everyone, .code yX5_everyone cX5_everyone 1 (some .int), .static yX6_bit, .initialized RX6, .code yX6_bit cX6_bit 1 (some .int), .static yX6_holds, .code yX6_holds cX6_holds 2 (some .boolean)] ++ wsX50)
def wsX5_addType_r1 : List Cond := [Cond.fieldLink RX5 45 "ClassRules$Types" "count" "I", Cond.fieldLink RX5 9 "ClassRules$Types" "kinds" "[I", Cond.fieldLink RX5 15 "ClassRules$Types" "marks" "[I", Cond.fieldLink RX5 18 "ClassRules$Types" "packs" "[I", Cond.fieldLink RX5 21 "ClassRules$Types" "parents" "[I", Cond.fieldLink RX5 24 "ClassRules$Types" "parentSets" "[I", Cond.static yX6_bit, Cond.initialized RX6, Cond.code yX6_bit cX6_bit 1 (some .int), Cond.methodLink RX5 53 yX5_settleAbove, Cond.instanceMethod yX5_settleAbove, Cond.selects RX5 yX5_settleAbove yX5_settleAbove, Cond.initialized RX5, Cond.code yX5_settleAbove cX5_settleAbove 3 none, Cond.fieldLink RX5 42 "ClassRules$Types" "above" "[I", Cond.methodLink RX5 56 yX5_next, Cond.instanceMethod yX5_next, Cond.selects RX5 yX5_next yX5_next, Cond.code yX5_next cX5_next 2 (some .int), Cond.fieldLink RX5 27 "ClassRules$Types" "uppers" "[I", Cond.methodLink RX5 59 yX5_everyone, Cond.instanceMethod yX5_everyone, Cond.selects RX5 yX5_everyone yX5_everyone, Cond.code yX5_everyone cX5_everyone 1 (some .int)]
def wsX5_addType_r2 : List Cond := [Cond.static yX6_holds, Cond.code yX6_holds cX6_holds 2 (some .boolean)]
def wsX5_addType : List Cond := .code yX5_addType cX5_addType 6 (some .int) :: ((wsX5_addType_r1 ++ wsX5_addType_r2) ++ wsX50)
def wsX5_addUpper : List Cond := .code yX5_addUpper cX5_addUpper 3 (some .int) :: ([.fieldLink RX5 30 "ClassRules$Types" "uppersTwice" "[I", .fieldLink RX5 27 "ClassRules$Types" "uppers" "[I", .fieldLink RX5 33 "ClassRules$Types" "uppersTold" "[I", .static yX6_bit, .initialized RX6, .code yX6_bit cX6_bit 1 (some .int), .methodLink RX5 53 yX5_settleAbove, .instanceMethod yX5_settleAbove, .selects RX5 yX5_settleAbove yX5_settleAbove, .initialized RX5, .code yX5_settleAbove cX5_settleAbove 3 none, .fieldLink RX5 45 "ClassRules$Types" "count" "I", .fieldLink RX5 42 "ClassRules$Types" "above" "[I", .methodLink RX5 56 yX5_next, .instanceMethod yX5_next, .selects RX5 yX5_next yX5_next, .code yX5_next cX5_next 2 (some .int), .fieldLink RX5 24 "ClassRules$Types" "parentSets" "[I", .methodLink RX5 59 yX5_everyone, .instanceMethod yX5_everyone, .selects RX5 yX5_everyone yX5_everyone, .code yX5_everyone cX5_everyone 1 (some .int), .static yX6_holds, .code yX6_holds cX6_holds 2 (some .boolean)] ++ wsX50)
def wsX5_addPermitted : List Cond := .code yX5_addPermitted cX5_addPermitted 3 (some .int) :: ([.fieldLink RX5 36 "ClassRules$Types" "permitted" "[I", .fieldLink RX5 39 "ClassRules$Types" "permittedTold" "[I", .static yX6_bit, .initialized RX6, .code yX6_bit cX6_bit 1 (some .int)] ++ wsX50)
def wsX6_init_r1 : List Cond := [Cond.methodLink RX6 3 objectInit, Cond.instanceMethod objectInit, Cond.code objectInit ⟨#[0xb1]⟩ 1 none, Cond.classLink RX6 9 RX5, Cond.instantiable RX5 12, Cond.initialized RX5, Cond.fieldLink RX6 12 "ClassRules" "types" "LClassRules$Types;", Cond.classLink RX6 16 RX3, Cond.instantiable RX3 8, Cond.initialized RX3, Cond.fieldLink RX6 21 "ClassRules" "members" "LClassRules$Members;", Cond.classLink RX6 25 RX0, Cond.instantiable RX0 7, Cond.initialized RX0, Cond.fieldLink RX6 30 "ClassRules" "choice" "LClassRules$Choice;", Cond.classLink RX6 34 RX1, Cond.instantiable RX1 9, Cond.initialized RX1, Cond.fieldLink RX6 39 "ClassRules" "judge" "LClassRules$Judge;", Cond.instanceMethod yX5_init, Cond.code yX5_init cX5_init 1 none, Cond.methodLink RX5 3 objectInit, Cond.arrayClass .int, Cond.fieldLink RX5 9 "ClassRules$Types" "kinds" "[I"]
def wsX6_init_r2 : List Cond := [Cond.fieldLink RX5 15 "ClassRules$Types" "marks" "[I", Cond.fieldLink RX5 18 "ClassRules$Types" "packs" "[I", Cond.fieldLink RX5 21 "ClassRules$Types" "parents" "[I", Cond.fieldLink RX5 24 "ClassRules$Types" "parentSets" "[I", Cond.fieldLink RX5 27 "ClassRules$Types" "uppers" "[I", Cond.fieldLink RX5 30 "ClassRules$Types" "uppersTwice" "[I", Cond.fieldLink RX5 33 "ClassRules$Types" "uppersTold" "[I", Cond.fieldLink RX5 36 "ClassRules$Types" "permitted" "[I", Cond.fieldLink RX5 39 "ClassRules$Types" "permittedTold" "[I", Cond.fieldLink RX5 42 "ClassRules$Types" "above" "[I", Cond.fieldLink RX5 45 "ClassRules$Types" "count" "I", Cond.methodLink RX6 18 yX3_init, Cond.instanceMethod yX3_init, Cond.code yX3_init cX3_init 2 none, Cond.methodLink RX3 3 objectInit, Cond.fieldLink RX3 9 "ClassRules$Members" "owners" "[I", Cond.fieldLink RX3 15 "ClassRules$Members" "names" "[I", Cond.fieldLink RX3 18 "ClassRules$Members" "params" "[I", Cond.fieldLink RX3 21 "ClassRules$Members" "marks" "[I", Cond.fieldLink RX3 24 "ClassRules$Members" "accesses" "[I", Cond.fieldLink RX3 27 "ClassRules$Members" "results" "[I", Cond.fieldLink RX3 30 "ClassRules$Members" "count" "I", Cond.fieldLink RX3 34 "ClassRules$Members" "types" "LClassRules$Types;", Cond.methodLink RX6 27 yX0_init]
def wsX6_init_r3 : List Cond := [Cond.instanceMethod yX0_init, Cond.code yX0_init cX0_init 3 none, Cond.methodLink RX0 3 objectInit, Cond.fieldLink RX0 9 "ClassRules$Choice" "faceOnes" "[I", Cond.fieldLink RX0 15 "ClassRules$Choice" "chain" "[I", Cond.fieldLink RX0 18 "ClassRules$Choice" "takers" "[I", Cond.fieldLink RX0 21 "ClassRules$Choice" "faceOnesCount" "I", Cond.fieldLink RX0 25 "ClassRules$Choice" "classOne" "I", Cond.fieldLink RX0 28 "ClassRules$Choice" "types" "LClassRules$Types;", Cond.fieldLink RX0 32 "ClassRules$Choice" "members" "LClassRules$Members;", Cond.methodLink RX6 36 yX1_init, Cond.instanceMethod yX1_init, Cond.code yX1_init cX1_init 4 none, Cond.methodLink RX1 3 objectInit, Cond.arrayClass .long, Cond.fieldLink RX1 11 "ClassRules$Judge" "found" "[J", Cond.fieldLink RX1 15 "ClassRules$Judge" "counts" "[I", Cond.fieldLink RX1 19 "ClassRules$Judge" "counted" "I", Cond.fieldLink RX1 23 "ClassRules$Judge" "kept" "I", Cond.fieldLink RX1 26 "ClassRules$Judge" "types" "LClassRules$Types;", Cond.fieldLink RX1 30 "ClassRules$Judge" "members" "LClassRules$Members;", Cond.fieldLink RX1 34 "ClassRules$Judge" "choice" "LClassRules$Choice;", Cond.classLink RX1 38 RX4, Cond.instantiable RX4 1]
def wsX6_init_r4 : List Cond := [Cond.initialized RX4, Cond.fieldLink RX1 43 "ClassRules$Judge" "typeRules" "LClassRules$TypeRules;", Cond.classLink RX1 47 RX2, Cond.instantiable RX2 2, Cond.initialized RX2, Cond.fieldLink RX1 52 "ClassRules$Judge" "memberRules" "LClassRules$MemberRules;", Cond.methodLink RX1 40 yX4_init, Cond.instanceMethod yX4_init, Cond.code yX4_init cX4_init 2 none, Cond.methodLink RX4 3 objectInit, Cond.fieldLink RX4 9 "ClassRules$TypeRules" "types" "LClassRules$Types;", Cond.methodLink RX1 49 yX2_init, Cond.instanceMethod yX2_init, Cond.code yX2_init cX2_init 3 none, Cond.methodLink RX2 3 objectInit, Cond.fieldLink RX2 9 "ClassRules$MemberRules" "types" "LClassRules$Types;", Cond.fieldLink RX2 15 "ClassRules$MemberRules" "members" "LClassRules$Members;"]
def wsX6_init : List Cond := .code yX6_init cX6_init 1 none :: ((wsX6_init_r1 ++ (wsX6_init_r2 ++ (wsX6_init_r3 ++ wsX6_init_r4))) ++ wsX50 ++ wsX60 ++ wsX30 ++ wsX00 ++ wsX10 ++ wsX40 ++ wsX20)
def wsX6_within : List Cond := .code yX6_within cX6_within 2 (some .boolean) :: ([])
def wsX6_type_r1 : List Cond := [Cond.fieldLink RX6 12 "ClassRules" "types" "LClassRules$Types;", Cond.fieldLink RX6 39 "ClassRules" "judge" "LClassRules$Judge;", Cond.methodLink RX6 43 yX6_within, Cond.static yX6_within, Cond.initialized RX6, Cond.code yX6_within cX6_within 2 (some .boolean), Cond.methodLink RX6 51 yX1_forget, Cond.instanceMethod yX1_forget, Cond.selects RX1 yX1_forget yX1_forget, Cond.initialized RX1, Cond.code yX1_forget cX1_forget 1 none, Cond.fieldLink RX1 19 "ClassRules$Judge" "counted" "I", Cond.fieldLink RX1 23 "ClassRules$Judge" "kept" "I", Cond.methodLink RX6 54 yX5_addType, Cond.instanceMethod yX5_addType, Cond.selects RX5 yX5_addType yX5_addType, Cond.initialized RX5, Cond.code yX5_addType cX5_addType 6 (some .int), Cond.fieldLink RX5 45 "ClassRules$Types" "count" "I", Cond.fieldLink RX5 9 "ClassRules$Types" "kinds" "[I", Cond.fieldLink RX5 15 "ClassRules$Types" "marks" "[I", Cond.fieldLink RX5 18 "ClassRules$Types" "packs" "[I", Cond.fieldLink RX5 21 "ClassRules$Types" "parents" "[I", Cond.fieldLink RX5 24 "ClassRules$Types" "parentSets" "[I"]
def wsX6_type_r2 : List Cond := [Cond.static yX6_bit, Cond.code yX6_bit cX6_bit 1 (some .int), Cond.methodLink RX5 53 yX5_settleAbove, Cond.instanceMethod yX5_settleAbove, Cond.selects RX5 yX5_settleAbove yX5_settleAbove, Cond.code yX5_settleAbove cX5_settleAbove 3 none, Cond.fieldLink RX5 42 "ClassRules$Types" "above" "[I", Cond.methodLink RX5 56 yX5_next, Cond.instanceMethod yX5_next, Cond.selects RX5 yX5_next yX5_next, Cond.code yX5_next cX5_next 2 (some .int), Cond.fieldLink RX5 27 "ClassRules$Types" "uppers" "[I", Cond.methodLink RX5 59 yX5_everyone, Cond.instanceMethod yX5_everyone, Cond.selects RX5 yX5_everyone yX5_everyone, Cond.code yX5_everyone cX5_everyone 1 (some .int), Cond.static yX6_holds, Cond.code yX6_holds cX6_holds 2 (some .boolean)]
def wsX6_type : List Cond := .code yX6_type cX6_type 5 (some .int) :: ((wsX6_type_r1 ++ wsX6_type_r2) ++ wsX60 ++ wsX50 ++ wsX10)
def wsX6_upper_r1 : List Cond := [Cond.fieldLink RX6 12 "ClassRules" "types" "LClassRules$Types;", Cond.fieldLink RX6 39 "ClassRules" "judge" "LClassRules$Judge;", Cond.methodLink RX6 58 yX5_there, Cond.instanceMethod yX5_there, Cond.selects RX5 yX5_there yX5_there, Cond.initialized RX5, Cond.code yX5_there cX5_there 2 (some .boolean), Cond.fieldLink RX5 45 "ClassRules$Types" "count" "I", Cond.methodLink RX6 43 yX6_within, Cond.static yX6_within, Cond.initialized RX6, Cond.code yX6_within cX6_within 2 (some .boolean), Cond.methodLink RX6 51 yX1_forget, Cond.instanceMethod yX1_forget, Cond.selects RX1 yX1_forget yX1_forget, Cond.initialized RX1, Cond.code yX1_forget cX1_forget 1 none, Cond.fieldLink RX1 19 "ClassRules$Judge" "counted" "I", Cond.fieldLink RX1 23 "ClassRules$Judge" "kept" "I", Cond.methodLink RX6 66 yX5_addUpper, Cond.instanceMethod yX5_addUpper, Cond.selects RX5 yX5_addUpper yX5_addUpper, Cond.code yX5_addUpper cX5_addUpper 3 (some .int), Cond.fieldLink RX5 30 "ClassRules$Types" "uppersTwice" "[I"]
def wsX6_upper_r2 : List Cond := [Cond.fieldLink RX5 27 "ClassRules$Types" "uppers" "[I", Cond.fieldLink RX5 33 "ClassRules$Types" "uppersTold" "[I", Cond.static yX6_bit, Cond.code yX6_bit cX6_bit 1 (some .int), Cond.methodLink RX5 53 yX5_settleAbove, Cond.instanceMethod yX5_settleAbove, Cond.selects RX5 yX5_settleAbove yX5_settleAbove, Cond.code yX5_settleAbove cX5_settleAbove 3 none, Cond.fieldLink RX5 42 "ClassRules$Types" "above" "[I", Cond.methodLink RX5 56 yX5_next, Cond.instanceMethod yX5_next, Cond.selects RX5 yX5_next yX5_next, Cond.code yX5_next cX5_next 2 (some .int), Cond.fieldLink RX5 24 "ClassRules$Types" "parentSets" "[I", Cond.methodLink RX5 59 yX5_everyone, Cond.instanceMethod yX5_everyone, Cond.selects RX5 yX5_everyone yX5_everyone, Cond.code yX5_everyone cX5_everyone 1 (some .int), Cond.static yX6_holds, Cond.code yX6_holds cX6_holds 2 (some .boolean)]
def wsX6_upper : List Cond := .code yX6_upper cX6_upper 3 (some .int) :: ((wsX6_upper_r1 ++ wsX6_upper_r2) ++ wsX60 ++ wsX50 ++ wsX10)
def wsX6_permit_r1 : List Cond := [Cond.fieldLink RX6 12 "ClassRules" "types" "LClassRules$Types;", Cond.fieldLink RX6 39 "ClassRules" "judge" "LClassRules$Judge;", Cond.methodLink RX6 58 yX5_there, Cond.instanceMethod yX5_there, Cond.selects RX5 yX5_there yX5_there, Cond.initialized RX5, Cond.code yX5_there cX5_there 2 (some .boolean), Cond.fieldLink RX5 45 "ClassRules$Types" "count" "I", Cond.methodLink RX6 43 yX6_within, Cond.static yX6_within, Cond.initialized RX6, Cond.code yX6_within cX6_within 2 (some .boolean), Cond.methodLink RX6 51 yX1_forget, Cond.instanceMethod yX1_forget, Cond.selects RX1 yX1_forget yX1_forget, Cond.initialized RX1, Cond.code yX1_forget cX1_forget 1 none, Cond.fieldLink RX1 19 "ClassRules$Judge" "counted" "I", Cond.fieldLink RX1 23 "ClassRules$Judge" "kept" "I", Cond.methodLink RX6 73 yX5_addPermitted, Cond.instanceMethod yX5_addPermitted, Cond.selects RX5 yX5_addPermitted yX5_addPermitted, Cond.code yX5_addPermitted cX5_addPermitted 3 (some .int), Cond.fieldLink RX5 36 "ClassRules$Types" "permitted" "[I"]
def wsX6_permit_r2 : List Cond := [Cond.fieldLink RX5 39 "ClassRules$Types" "permittedTold" "[I", Cond.static yX6_bit, Cond.code yX6_bit cX6_bit 1 (some .int)]
def wsX6_permit : List Cond := .code yX6_permit cX6_permit 3 (some .int) :: ((wsX6_permit_r1 ++ wsX6_permit_r2) ++ wsX60 ++ wsX50 ++ wsX10)
def wsX6_member_r1 : List Cond := [Cond.fieldLink RX6 12 "ClassRules" "types" "LClassRules$Types;", Cond.fieldLink RX6 21 "ClassRules" "members" "LClassRules$Members;", Cond.fieldLink RX6 39 "ClassRules" "judge" "LClassRules$Judge;", Cond.methodLink RX6 58 yX5_there, Cond.instanceMethod yX5_there, Cond.selects RX5 yX5_there yX5_there, Cond.initialized RX5, Cond.code yX5_there cX5_there 2 (some .boolean), Cond.fieldLink RX5 45 "ClassRules$Types" "count" "I", Cond.methodLink RX6 43 yX6_within, Cond.static yX6_within, Cond.initialized RX6, Cond.code yX6_within cX6_within 2 (some .boolean), Cond.methodLink RX6 51 yX1_forget, Cond.instanceMethod yX1_forget, Cond.selects RX1 yX1_forget yX1_forget, Cond.initialized RX1, Cond.code yX1_forget cX1_forget 1 none, Cond.fieldLink RX1 19 "ClassRules$Judge" "counted" "I", Cond.fieldLink RX1 23 "ClassRules$Judge" "kept" "I", Cond.methodLink RX6 77 yX3_addMember, Cond.instanceMethod yX3_addMember, Cond.selects RX3 yX3_addMember yX3_addMember, Cond.initialized RX3]
def wsX6_member_r2 : List Cond := [Cond.code yX3_addMember cX3_addMember 8 (some .int), Cond.fieldLink RX3 30 "ClassRules$Members" "count" "I", Cond.fieldLink RX3 9 "ClassRules$Members" "owners" "[I", Cond.fieldLink RX3 15 "ClassRules$Members" "names" "[I", Cond.fieldLink RX3 18 "ClassRules$Members" "params" "[I", Cond.fieldLink RX3 21 "ClassRules$Members" "marks" "[I", Cond.fieldLink RX3 24 "ClassRules$Members" "accesses" "[I", Cond.fieldLink RX3 27 "ClassRules$Members" "results" "[I"]
def wsX6_member : List Cond := .code yX6_member cX6_member 7 (some .int) :: ((wsX6_member_r1 ++ wsX6_member_r2) ++ wsX60 ++ wsX30 ++ wsX50 ++ wsX10)
def wsX6_faults_r1 : List Cond := [Cond.fieldLink RX6 12 "ClassRules" "types" "LClassRules$Types;", Cond.fieldLink RX6 39 "ClassRules" "judge" "LClassRules$Judge;", Cond.methodLink RX6 58 yX5_there, Cond.instanceMethod yX5_there, Cond.selects RX5 yX5_there yX5_there, Cond.initialized RX5, Cond.code yX5_there cX5_there 2 (some .boolean), Cond.fieldLink RX5 45 "ClassRules$Types" "count" "I", Cond.methodLink RX6 81 yX1_countOf, Cond.instanceMethod yX1_countOf, Cond.selects RX1 yX1_countOf yX1_countOf, Cond.initialized RX1, Cond.code yX1_countOf cX1_countOf 2 (some .int), Cond.fieldLink RX1 19 "ClassRules$Judge" "counted" "I", Cond.fieldLink RX1 15 "ClassRules$Judge" "counts" "[I", Cond.static yX6_holds, Cond.initialized RX6, Cond.code yX6_holds cX6_holds 2 (some .boolean), Cond.methodLink RX1 60 yX1_keep, Cond.instanceMethod yX1_keep, Cond.selects RX1 yX1_keep yX1_keep, Cond.code yX1_keep cX1_keep 2 none, Cond.fieldLink RX1 23 "ClassRules$Judge" "kept" "I", Cond.fieldLink RX1 11 "ClassRules$Judge" "found" "[J"]
def wsX6_faults_r2 : List Cond := [Cond.fieldLink RX1 43 "ClassRules$Judge" "typeRules" "LClassRules$TypeRules;", Cond.methodLink RX1 79 yJ7_fill_d0a16, Cond.static yJ7_fill_d0a16, Cond.initialized RJ7, Cond.code yJ7_fill_d0a16 cJ7_fill_d0a16 5 none, Cond.methodLink RX1 85 yX1_findTypeFaults, Cond.instanceMethod yX1_findTypeFaults, Cond.selects RX1 yX1_findTypeFaults yX1_findTypeFaults, Cond.code yX1_findTypeFaults cX1_findTypeFaults 2 none, Cond.methodLink RX1 101 yX4_missing, Cond.instanceMethod yX4_missing, Cond.selects RX4 yX4_missing yX4_missing, Cond.initialized RX4, Cond.code yX4_missing cX4_missing 2 (some .int), Cond.fieldLink RX4 9 "ClassRules$TypeRules" "types" "LClassRules$Types;", Cond.methodLink RX4 15 yX5_next, Cond.instanceMethod yX5_next, Cond.selects RX5 yX5_next yX5_next, Cond.code yX5_next cX5_next 2 (some .int), Cond.fieldLink RX5 24 "ClassRules$Types" "parentSets" "[I", Cond.fieldLink RX5 27 "ClassRules$Types" "uppers" "[I", Cond.methodLink RX4 25 yX5_everyone, Cond.instanceMethod yX5_everyone, Cond.selects RX5 yX5_everyone yX5_everyone]
def wsX6_faults_r3 : List Cond := [Cond.code yX5_everyone cX5_everyone 1 (some .int), Cond.static yX6_bit, Cond.code yX6_bit cX6_bit 1 (some .int), Cond.methodLink RX1 104 yX1_putTypes, Cond.instanceMethod yX1_putTypes, Cond.selects RX1 yX1_putTypes yX1_putTypes, Cond.code yX1_putTypes cX1_putTypes 3 none, Cond.methodLink RX1 108 yX4_ring, Cond.instanceMethod yX4_ring, Cond.selects RX4 yX4_ring yX4_ring, Cond.code yX4_ring cX4_ring 2 (some .int), Cond.methodLink RX1 111 yX4_wrongKind, Cond.instanceMethod yX4_wrongKind, Cond.selects RX4 yX4_wrongKind yX4_wrongKind, Cond.code yX4_wrongKind cX4_wrongKind 3 (some .int), Cond.methodLink RX4 41 yX5_ofKind, Cond.instanceMethod yX5_ofKind, Cond.selects RX5 yX5_ofKind yX5_ofKind, Cond.code yX5_ofKind cX5_ofKind 4 (some .int), Cond.fieldLink RX5 9 "ClassRules$Types" "kinds" "[I", Cond.methodLink RX1 114 yX4_finalParent, Cond.instanceMethod yX4_finalParent, Cond.selects RX4 yX4_finalParent yX4_finalParent, Cond.code yX4_finalParent cX4_finalParent 2 (some .int)]
def wsX6_faults_r4 : List Cond := [Cond.methodLink RX4 47 yX5_withMark, Cond.instanceMethod yX5_withMark, Cond.selects RX5 yX5_withMark yX5_withMark, Cond.code yX5_withMark cX5_withMark 4 (some .int), Cond.methodLink RX5 67 yX5_marked, Cond.instanceMethod yX5_marked, Cond.selects RX5 yX5_marked yX5_marked, Cond.code yX5_marked cX5_marked 3 (some .boolean), Cond.fieldLink RX5 15 "ClassRules$Types" "marks" "[I", Cond.methodLink RX1 117 yX4_wrongMarks, Cond.instanceMethod yX4_wrongMarks, Cond.selects RX4 yX4_wrongMarks yX4_wrongMarks, Cond.code yX4_wrongMarks cX4_wrongMarks 8 (some .int), Cond.methodLink RX4 53 yJ6_bitCount_0f7a4, Cond.static yJ6_bitCount_0f7a4, Cond.initialized RJ6, Cond.code yJ6_bitCount_0f7a4 cJ6_bitCount_0f7a4 1 (some .int), Cond.constant RJ6 265 (1431655765), Cond.constant RJ6 266 (858993459), Cond.constant RJ6 267 (252645135), Cond.methodLink RX1 120 yX4_wrongUnderSealed, Cond.instanceMethod yX4_wrongUnderSealed, Cond.selects RX4 yX4_wrongUnderSealed yX4_wrongUnderSealed, Cond.code yX4_wrongUnderSealed cX4_wrongUnderSealed 7 (some .int)]
def wsX6_faults_r5 : List Cond := [Cond.methodLink RX4 58 yX5_marked, Cond.methodLink RX1 123 yX4_wrongPermits, Cond.instanceMethod yX4_wrongPermits, Cond.selects RX4 yX4_wrongPermits yX4_wrongPermits, Cond.code yX4_wrongPermits cX4_wrongPermits 5 (some .int), Cond.methodLink RX1 126 yX4_twice, Cond.instanceMethod yX4_twice, Cond.selects RX4 yX4_twice yX4_twice, Cond.code yX4_twice cX4_twice 2 (some .int), Cond.methodLink RX1 88 yX1_findMemberFaults, Cond.instanceMethod yX1_findMemberFaults, Cond.selects RX1 yX1_findMemberFaults yX1_findMemberFaults, Cond.code yX1_findMemberFaults cX1_findMemberFaults 3 none, Cond.fieldLink RX1 30 "ClassRules$Judge" "members" "LClassRules$Members;", Cond.fieldLink RX1 52 "ClassRules$Judge" "memberRules" "LClassRules$MemberRules;", Cond.methodLink RX1 137 yX2_doubled, Cond.instanceMethod yX2_doubled, Cond.selects RX2 yX2_doubled yX2_doubled, Cond.initialized RX2, Cond.code yX2_doubled cX2_doubled 3 (some .boolean), Cond.fieldLink RX2 15 "ClassRules$MemberRules" "members" "LClassRules$Members;", Cond.methodLink RX2 25 yX3_alike, Cond.instanceMethod yX3_alike, Cond.selects RX3 yX3_alike yX3_alike]
def wsX6_faults_r6 : List Cond := [Cond.initialized RX3, Cond.code yX3_alike cX3_alike 3 (some .boolean), Cond.fieldLink RX3 15 "ClassRules$Members" "names" "[I", Cond.fieldLink RX3 18 "ClassRules$Members" "params" "[I", Cond.methodLink RX3 38 yX3_named, Cond.instanceMethod yX3_named, Cond.selects RX3 yX3_named yX3_named, Cond.code yX3_named cX3_named 4 (some .boolean), Cond.methodLink RX1 140 yX1_putIf, Cond.instanceMethod yX1_putIf, Cond.selects RX1 yX1_putIf yX1_putIf, Cond.code yX1_putIf cX1_putIf 4 none, Cond.methodLink RX1 144 yX2_wrongMarks, Cond.instanceMethod yX2_wrongMarks, Cond.selects RX2 yX2_wrongMarks yX2_wrongMarks, Cond.code yX2_wrongMarks cX2_wrongMarks 2 (some .boolean), Cond.methodLink RX2 29 yX3_ofFace, Cond.instanceMethod yX3_ofFace, Cond.selects RX3 yX3_ofFace yX3_ofFace, Cond.code yX3_ofFace cX3_ofFace 2 (some .boolean), Cond.fieldLink RX3 34 "ClassRules$Members" "types" "LClassRules$Types;", Cond.fieldLink RX3 9 "ClassRules$Members" "owners" "[I", Cond.methodLink RX2 33 yX2_wrongInFace, Cond.instanceMethod yX2_wrongInFace]
def wsX6_faults_r7 : List Cond := [Cond.selects RX2 yX2_wrongInFace yX2_wrongInFace, Cond.code yX2_wrongInFace cX2_wrongInFace 4 (some .boolean), Cond.methodLink RX2 42 yX3_marked, Cond.instanceMethod yX3_marked, Cond.selects RX3 yX3_marked yX3_marked, Cond.code yX3_marked cX3_marked 3 (some .boolean), Cond.fieldLink RX3 21 "ClassRules$Members" "marks" "[I", Cond.methodLink RX2 48 yJ6_bitCount_0f7a4, Cond.methodLink RX2 36 yX2_wrongElsewhere, Cond.instanceMethod yX2_wrongElsewhere, Cond.selects RX2 yX2_wrongElsewhere yX2_wrongElsewhere, Cond.code yX2_wrongElsewhere cX2_wrongElsewhere 3 (some .boolean), Cond.fieldLink RX2 9 "ClassRules$MemberRules" "types" "LClassRules$Types;", Cond.methodLink RX2 59 yX5_marked, Cond.methodLink RX1 91 yX4_shaky, Cond.instanceMethod yX4_shaky, Cond.selects RX4 yX4_shaky yX4_shaky, Cond.code yX4_shaky cX4_shaky 3 (some .boolean), Cond.methodLink RX4 72 yX5_stands, Cond.instanceMethod yX5_stands, Cond.selects RX5 yX5_stands yX5_stands, Cond.code yX5_stands cX5_stands 3 (some .boolean), Cond.fieldLink RX5 42 "ClassRules$Types" "above" "[I", Cond.methodLink RX4 75 yX4_missing]
def wsX6_faults_r8 : List Cond := [Cond.methodLink RX4 78 yX4_ring, Cond.methodLink RX4 81 yX4_wrongKind, Cond.methodLink RX1 95 yX1_findInheritedFaults, Cond.instanceMethod yX1_findInheritedFaults, Cond.selects RX1 yX1_findInheritedFaults yX1_findInheritedFaults, Cond.code yX1_findInheritedFaults cX1_findInheritedFaults 3 none, Cond.methodLink RX1 149 yX1_findOver, Cond.instanceMethod yX1_findOver, Cond.selects RX1 yX1_findOver yX1_findOver, Cond.code yX1_findOver cX1_findOver 4 none, Cond.methodLink RX1 152 yX3_alike, Cond.methodLink RX1 155 yX3_shared, Cond.instanceMethod yX3_shared, Cond.selects RX3 yX3_shared yX3_shared, Cond.code yX3_shared cX3_shared 4 (some .boolean), Cond.methodLink RX3 47 yX3_marked, Cond.methodLink RX3 51 yX3_ofFace, Cond.methodLink RX3 61 yX3_seenFrom, Cond.instanceMethod yX3_seenFrom, Cond.selects RX3 yX3_seenFrom yX3_seenFrom, Cond.code yX3_seenFrom cX3_seenFrom 3 (some .boolean), Cond.fieldLink RX3 24 "ClassRules$Members" "accesses" "[I", Cond.methodLink RX1 158 yX3_marked, Cond.methodLink RX1 164 yX2_resultFits]
def wsX6_faults_r9 : List Cond := [Cond.instanceMethod yX2_resultFits, Cond.selects RX2 yX2_resultFits yX2_resultFits, Cond.code yX2_resultFits cX2_resultFits 5 (some .boolean), Cond.methodLink RX2 60 yX5_there, Cond.methodLink RX2 63 yX5_stands, Cond.methodLink RX1 98 yX1_findGivenFaults, Cond.instanceMethod yX1_findGivenFaults, Cond.selects RX1 yX1_findGivenFaults yX1_findGivenFaults, Cond.code yX1_findGivenFaults cX1_findGivenFaults 6 none, Cond.fieldLink RX1 26 "ClassRules$Judge" "types" "LClassRules$Types;", Cond.fieldLink RX1 34 "ClassRules$Judge" "choice" "LClassRules$Choice;", Cond.methodLink RX1 172 yX5_marked, Cond.methodLink RX1 173 yX3_firstOfItsSort, Cond.instanceMethod yX3_firstOfItsSort, Cond.selects RX3 yX3_firstOfItsSort yX3_firstOfItsSort, Cond.code yX3_firstOfItsSort cX3_firstOfItsSort 3 (some .boolean), Cond.methodLink RX3 67 yX3_alike, Cond.methodLink RX1 182 yX0_seekClassOne, Cond.instanceMethod yX0_seekClassOne, Cond.selects RX0 yX0_seekClassOne yX0_seekClassOne, Cond.initialized RX0, Cond.code yX0_seekClassOne cX0_seekClassOne 7 none, Cond.fieldLink RX0 25 "ClassRules$Choice" "classOne" "I", Cond.fieldLink RX0 28 "ClassRules$Choice" "types" "LClassRules$Types;"]
def wsX6_faults_r10 : List Cond := [Cond.fieldLink RX0 32 "ClassRules$Choice" "members" "LClassRules$Members;", Cond.methodLink RX0 49 yX3_named, Cond.methodLink RX0 53 yX3_marked, Cond.methodLink RX0 57 yX3_shared, Cond.methodLink RX0 60 yX5_parentThere, Cond.instanceMethod yX5_parentThere, Cond.selects RX5 yX5_parentThere yX5_parentThere, Cond.code yX5_parentThere cX5_parentThere 2 (some .int), Cond.fieldLink RX5 21 "ClassRules$Types" "parents" "[I", Cond.methodLink RX1 188 yX0_seekFaceOnes, Cond.instanceMethod yX0_seekFaceOnes, Cond.selects RX0 yX0_seekFaceOnes yX0_seekFaceOnes, Cond.code yX0_seekFaceOnes cX0_seekFaceOnes 8 none, Cond.fieldLink RX0 21 "ClassRules$Choice" "faceOnesCount" "I", Cond.fieldLink RX0 9 "ClassRules$Choice" "faceOnes" "[I", Cond.methodLink RX0 64 yX0_givenByFace, Cond.instanceMethod yX0_givenByFace, Cond.selects RX0 yX0_givenByFace yX0_givenByFace, Cond.code yX0_givenByFace cX0_givenByFace 5 (some .boolean), Cond.methodLink RX0 77 yX3_ofFace, Cond.methodLink RX0 81 yX5_stands, Cond.methodLink RX1 191 yX0_leastToBeGiven, Cond.instanceMethod yX0_leastToBeGiven, Cond.selects RX0 yX0_leastToBeGiven yX0_leastToBeGiven]
def wsX6_faults_r11 : List Cond := [Cond.code yX0_leastToBeGiven cX0_leastToBeGiven 1 (some .int), Cond.methodLink RX0 87 yX0_leastFaceOneWith, Cond.instanceMethod yX0_leastFaceOneWith, Cond.selects RX0 yX0_leastFaceOneWith yX0_leastFaceOneWith, Cond.code yX0_leastFaceOneWith cX0_leastFaceOneWith 3 (some .int), Cond.methodLink RX1 194 yX0_leastOfRivals, Cond.instanceMethod yX0_leastOfRivals, Cond.selects RX0 yX0_leastOfRivals yX0_leastOfRivals, Cond.code yX0_leastOfRivals cX0_leastOfRivals 2 (some .int), Cond.methodLink RX1 64 yX1_countFound, Cond.instanceMethod yX1_countFound, Cond.selects RX1 yX1_countFound yX1_countFound, Cond.code yX1_countFound cX1_countFound 3 (some .int), Cond.methodLink RX1 197 yJ13_bitCount_95d88, Cond.static yJ13_bitCount_95d88, Cond.initialized RJ13, Cond.code yJ13_bitCount_95d88 cJ13_bitCount_95d88 2 (some .int), Cond.constantLong RJ13 314 (6148914691236517205), Cond.constantLong RJ13 316 (3689348814741910323), Cond.constantLong RJ13 318 (1085102592571150095)]
def wsX6_faults : List Cond := .code yX6_faults cX6_faults 2 (some .int) :: ((wsX6_faults_r1 ++ (wsX6_faults_r2 ++ (wsX6_faults_r3 ++ (wsX6_faults_r4 ++ (wsX6_faults_r5 ++ (wsX6_faults_r6 ++ (wsX6_faults_r7 ++ (wsX6_faults_r8 ++ (wsX6_faults_r9 ++ (wsX6_faults_r10 ++ wsX6_faults_r11)))))))))) ++ wsX60 ++ wsX50 ++ wsX10 ++ wsX40 ++ wsX30 ++ wsX20 ++ wsX00)
def wsX6_fault_r1 : List Cond := [Cond.fieldLink RX6 12 "ClassRules" "types" "LClassRules$Types;", Cond.fieldLink RX6 39 "ClassRules" "judge" "LClassRules$Judge;", Cond.methodLink RX6 58 yX5_there, Cond.instanceMethod yX5_there, Cond.selects RX5 yX5_there yX5_there, Cond.initialized RX5, Cond.code yX5_there cX5_there 2 (some .boolean), Cond.fieldLink RX5 45 "ClassRules$Types" "count" "I", Cond.methodLink RX6 43 yX6_within, Cond.static yX6_within, Cond.initialized RX6, Cond.code yX6_within cX6_within 2 (some .boolean), Cond.methodLink RX6 81 yX1_countOf, Cond.instanceMethod yX1_countOf, Cond.selects RX1 yX1_countOf yX1_countOf, Cond.initialized RX1, Cond.code yX1_countOf cX1_countOf 2 (some .int), Cond.fieldLink RX1 19 "ClassRules$Judge" "counted" "I", Cond.fieldLink RX1 15 "ClassRules$Judge" "counts" "[I", Cond.static yX6_holds, Cond.code yX6_holds cX6_holds 2 (some .boolean), Cond.methodLink RX1 60 yX1_keep, Cond.instanceMethod yX1_keep, Cond.selects RX1 yX1_keep yX1_keep]
def wsX6_fault_r2 : List Cond := [Cond.code yX1_keep cX1_keep 2 none, Cond.fieldLink RX1 23 "ClassRules$Judge" "kept" "I", Cond.fieldLink RX1 11 "ClassRules$Judge" "found" "[J", Cond.fieldLink RX1 43 "ClassRules$Judge" "typeRules" "LClassRules$TypeRules;", Cond.methodLink RX1 79 yJ7_fill_d0a16, Cond.static yJ7_fill_d0a16, Cond.initialized RJ7, Cond.code yJ7_fill_d0a16 cJ7_fill_d0a16 5 none, Cond.methodLink RX1 85 yX1_findTypeFaults, Cond.instanceMethod yX1_findTypeFaults, Cond.selects RX1 yX1_findTypeFaults yX1_findTypeFaults, Cond.code yX1_findTypeFaults cX1_findTypeFaults 2 none, Cond.methodLink RX1 101 yX4_missing, Cond.instanceMethod yX4_missing, Cond.selects RX4 yX4_missing yX4_missing, Cond.initialized RX4, Cond.code yX4_missing cX4_missing 2 (some .int), Cond.fieldLink RX4 9 "ClassRules$TypeRules" "types" "LClassRules$Types;", Cond.methodLink RX4 15 yX5_next, Cond.instanceMethod yX5_next, Cond.selects RX5 yX5_next yX5_next, Cond.code yX5_next cX5_next 2 (some .int), Cond.fieldLink RX5 24 "ClassRules$Types" "parentSets" "[I", Cond.fieldLink RX5 27 "ClassRules$Types" "uppers" "[I"]
def wsX6_fault_r3 : List Cond := [Cond.methodLink RX4 25 yX5_everyone, Cond.instanceMethod yX5_everyone, Cond.selects RX5 yX5_everyone yX5_everyone, Cond.code yX5_everyone cX5_everyone 1 (some .int), Cond.static yX6_bit, Cond.code yX6_bit cX6_bit 1 (some .int), Cond.methodLink RX1 104 yX1_putTypes, Cond.instanceMethod yX1_putTypes, Cond.selects RX1 yX1_putTypes yX1_putTypes, Cond.code yX1_putTypes cX1_putTypes 3 none, Cond.methodLink RX1 108 yX4_ring, Cond.instanceMethod yX4_ring, Cond.selects RX4 yX4_ring yX4_ring, Cond.code yX4_ring cX4_ring 2 (some .int), Cond.methodLink RX1 111 yX4_wrongKind, Cond.instanceMethod yX4_wrongKind, Cond.selects RX4 yX4_wrongKind yX4_wrongKind, Cond.code yX4_wrongKind cX4_wrongKind 3 (some .int), Cond.methodLink RX4 41 yX5_ofKind, Cond.instanceMethod yX5_ofKind, Cond.selects RX5 yX5_ofKind yX5_ofKind, Cond.code yX5_ofKind cX5_ofKind 4 (some .int), Cond.fieldLink RX5 9 "ClassRules$Types" "kinds" "[I", Cond.methodLink RX1 114 yX4_finalParent]
def wsX6_fault_r4 : List Cond := [Cond.instanceMethod yX4_finalParent, Cond.selects RX4 yX4_finalParent yX4_finalParent, Cond.code yX4_finalParent cX4_finalParent 2 (some .int), Cond.methodLink RX4 47 yX5_withMark, Cond.instanceMethod yX5_withMark, Cond.selects RX5 yX5_withMark yX5_withMark, Cond.code yX5_withMark cX5_withMark 4 (some .int), Cond.methodLink RX5 67 yX5_marked, Cond.instanceMethod yX5_marked, Cond.selects RX5 yX5_marked yX5_marked, Cond.code yX5_marked cX5_marked 3 (some .boolean), Cond.fieldLink RX5 15 "ClassRules$Types" "marks" "[I", Cond.methodLink RX1 117 yX4_wrongMarks, Cond.instanceMethod yX4_wrongMarks, Cond.selects RX4 yX4_wrongMarks yX4_wrongMarks, Cond.code yX4_wrongMarks cX4_wrongMarks 8 (some .int), Cond.methodLink RX4 53 yJ6_bitCount_0f7a4, Cond.static yJ6_bitCount_0f7a4, Cond.initialized RJ6, Cond.code yJ6_bitCount_0f7a4 cJ6_bitCount_0f7a4 1 (some .int), Cond.constant RJ6 265 (1431655765), Cond.constant RJ6 266 (858993459), Cond.constant RJ6 267 (252645135), Cond.methodLink RX1 120 yX4_wrongUnderSealed]
def wsX6_fault_r5 : List Cond := [Cond.instanceMethod yX4_wrongUnderSealed, Cond.selects RX4 yX4_wrongUnderSealed yX4_wrongUnderSealed, Cond.code yX4_wrongUnderSealed cX4_wrongUnderSealed 7 (some .int), Cond.methodLink RX4 58 yX5_marked, Cond.methodLink RX1 123 yX4_wrongPermits, Cond.instanceMethod yX4_wrongPermits, Cond.selects RX4 yX4_wrongPermits yX4_wrongPermits, Cond.code yX4_wrongPermits cX4_wrongPermits 5 (some .int), Cond.methodLink RX1 126 yX4_twice, Cond.instanceMethod yX4_twice, Cond.selects RX4 yX4_twice yX4_twice, Cond.code yX4_twice cX4_twice 2 (some .int), Cond.methodLink RX1 88 yX1_findMemberFaults, Cond.instanceMethod yX1_findMemberFaults, Cond.selects RX1 yX1_findMemberFaults yX1_findMemberFaults, Cond.code yX1_findMemberFaults cX1_findMemberFaults 3 none, Cond.fieldLink RX1 30 "ClassRules$Judge" "members" "LClassRules$Members;", Cond.fieldLink RX1 52 "ClassRules$Judge" "memberRules" "LClassRules$MemberRules;", Cond.methodLink RX1 137 yX2_doubled, Cond.instanceMethod yX2_doubled, Cond.selects RX2 yX2_doubled yX2_doubled, Cond.initialized RX2, Cond.code yX2_doubled cX2_doubled 3 (some .boolean), Cond.fieldLink RX2 15 "ClassRules$MemberRules" "members" "LClassRules$Members;"]
def wsX6_fault_r6 : List Cond := [Cond.methodLink RX2 25 yX3_alike, Cond.instanceMethod yX3_alike, Cond.selects RX3 yX3_alike yX3_alike, Cond.initialized RX3, Cond.code yX3_alike cX3_alike 3 (some .boolean), Cond.fieldLink RX3 15 "ClassRules$Members" "names" "[I", Cond.fieldLink RX3 18 "ClassRules$Members" "params" "[I", Cond.methodLink RX3 38 yX3_named, Cond.instanceMethod yX3_named, Cond.selects RX3 yX3_named yX3_named, Cond.code yX3_named cX3_named 4 (some .boolean), Cond.methodLink RX1 140 yX1_putIf, Cond.instanceMethod yX1_putIf, Cond.selects RX1 yX1_putIf yX1_putIf, Cond.code yX1_putIf cX1_putIf 4 none, Cond.methodLink RX1 144 yX2_wrongMarks, Cond.instanceMethod yX2_wrongMarks, Cond.selects RX2 yX2_wrongMarks yX2_wrongMarks, Cond.code yX2_wrongMarks cX2_wrongMarks 2 (some .boolean), Cond.methodLink RX2 29 yX3_ofFace, Cond.instanceMethod yX3_ofFace, Cond.selects RX3 yX3_ofFace yX3_ofFace, Cond.code yX3_ofFace cX3_ofFace 2 (some .boolean), Cond.fieldLink RX3 34 "ClassRules$Members" "types" "LClassRules$Types;"]
def wsX6_fault_r7 : List Cond := [Cond.fieldLink RX3 9 "ClassRules$Members" "owners" "[I", Cond.methodLink RX2 33 yX2_wrongInFace, Cond.instanceMethod yX2_wrongInFace, Cond.selects RX2 yX2_wrongInFace yX2_wrongInFace, Cond.code yX2_wrongInFace cX2_wrongInFace 4 (some .boolean), Cond.methodLink RX2 42 yX3_marked, Cond.instanceMethod yX3_marked, Cond.selects RX3 yX3_marked yX3_marked, Cond.code yX3_marked cX3_marked 3 (some .boolean), Cond.fieldLink RX3 21 "ClassRules$Members" "marks" "[I", Cond.methodLink RX2 48 yJ6_bitCount_0f7a4, Cond.methodLink RX2 36 yX2_wrongElsewhere, Cond.instanceMethod yX2_wrongElsewhere, Cond.selects RX2 yX2_wrongElsewhere yX2_wrongElsewhere, Cond.code yX2_wrongElsewhere cX2_wrongElsewhere 3 (some .boolean), Cond.fieldLink RX2 9 "ClassRules$MemberRules" "types" "LClassRules$Types;", Cond.methodLink RX2 59 yX5_marked, Cond.methodLink RX1 91 yX4_shaky, Cond.instanceMethod yX4_shaky, Cond.selects RX4 yX4_shaky yX4_shaky, Cond.code yX4_shaky cX4_shaky 3 (some .boolean), Cond.methodLink RX4 72 yX5_stands, Cond.instanceMethod yX5_stands, Cond.selects RX5 yX5_stands yX5_stands]
def wsX6_fault_r8 : List Cond := [Cond.code yX5_stands cX5_stands 3 (some .boolean), Cond.fieldLink RX5 42 "ClassRules$Types" "above" "[I", Cond.methodLink RX4 75 yX4_missing, Cond.methodLink RX4 78 yX4_ring, Cond.methodLink RX4 81 yX4_wrongKind, Cond.methodLink RX1 95 yX1_findInheritedFaults, Cond.instanceMethod yX1_findInheritedFaults, Cond.selects RX1 yX1_findInheritedFaults yX1_findInheritedFaults, Cond.code yX1_findInheritedFaults cX1_findInheritedFaults 3 none, Cond.methodLink RX1 149 yX1_findOver, Cond.instanceMethod yX1_findOver, Cond.selects RX1 yX1_findOver yX1_findOver, Cond.code yX1_findOver cX1_findOver 4 none, Cond.methodLink RX1 152 yX3_alike, Cond.methodLink RX1 155 yX3_shared, Cond.instanceMethod yX3_shared, Cond.selects RX3 yX3_shared yX3_shared, Cond.code yX3_shared cX3_shared 4 (some .boolean), Cond.methodLink RX3 47 yX3_marked, Cond.methodLink RX3 51 yX3_ofFace, Cond.methodLink RX3 61 yX3_seenFrom, Cond.instanceMethod yX3_seenFrom, Cond.selects RX3 yX3_seenFrom yX3_seenFrom, Cond.code yX3_seenFrom cX3_seenFrom 3 (some .boolean)]
def wsX6_fault_r9 : List Cond := [Cond.fieldLink RX3 24 "ClassRules$Members" "accesses" "[I", Cond.methodLink RX1 158 yX3_marked, Cond.methodLink RX1 164 yX2_resultFits, Cond.instanceMethod yX2_resultFits, Cond.selects RX2 yX2_resultFits yX2_resultFits, Cond.code yX2_resultFits cX2_resultFits 5 (some .boolean), Cond.methodLink RX2 60 yX5_there, Cond.methodLink RX2 63 yX5_stands, Cond.methodLink RX1 98 yX1_findGivenFaults, Cond.instanceMethod yX1_findGivenFaults, Cond.selects RX1 yX1_findGivenFaults yX1_findGivenFaults, Cond.code yX1_findGivenFaults cX1_findGivenFaults 6 none, Cond.fieldLink RX1 26 "ClassRules$Judge" "types" "LClassRules$Types;", Cond.fieldLink RX1 34 "ClassRules$Judge" "choice" "LClassRules$Choice;", Cond.methodLink RX1 172 yX5_marked, Cond.methodLink RX1 173 yX3_firstOfItsSort, Cond.instanceMethod yX3_firstOfItsSort, Cond.selects RX3 yX3_firstOfItsSort yX3_firstOfItsSort, Cond.code yX3_firstOfItsSort cX3_firstOfItsSort 3 (some .boolean), Cond.methodLink RX3 67 yX3_alike, Cond.methodLink RX1 182 yX0_seekClassOne, Cond.instanceMethod yX0_seekClassOne, Cond.selects RX0 yX0_seekClassOne yX0_seekClassOne, Cond.initialized RX0]
def wsX6_fault_r10 : List Cond := [Cond.code yX0_seekClassOne cX0_seekClassOne 7 none, Cond.fieldLink RX0 25 "ClassRules$Choice" "classOne" "I", Cond.fieldLink RX0 28 "ClassRules$Choice" "types" "LClassRules$Types;", Cond.fieldLink RX0 32 "ClassRules$Choice" "members" "LClassRules$Members;", Cond.methodLink RX0 49 yX3_named, Cond.methodLink RX0 53 yX3_marked, Cond.methodLink RX0 57 yX3_shared, Cond.methodLink RX0 60 yX5_parentThere, Cond.instanceMethod yX5_parentThere, Cond.selects RX5 yX5_parentThere yX5_parentThere, Cond.code yX5_parentThere cX5_parentThere 2 (some .int), Cond.fieldLink RX5 21 "ClassRules$Types" "parents" "[I", Cond.methodLink RX1 188 yX0_seekFaceOnes, Cond.instanceMethod yX0_seekFaceOnes, Cond.selects RX0 yX0_seekFaceOnes yX0_seekFaceOnes, Cond.code yX0_seekFaceOnes cX0_seekFaceOnes 8 none, Cond.fieldLink RX0 21 "ClassRules$Choice" "faceOnesCount" "I", Cond.fieldLink RX0 9 "ClassRules$Choice" "faceOnes" "[I", Cond.methodLink RX0 64 yX0_givenByFace, Cond.instanceMethod yX0_givenByFace, Cond.selects RX0 yX0_givenByFace yX0_givenByFace, Cond.code yX0_givenByFace cX0_givenByFace 5 (some .boolean), Cond.methodLink RX0 77 yX3_ofFace, Cond.methodLink RX0 81 yX5_stands]
def wsX6_fault_r11 : List Cond := [Cond.methodLink RX1 191 yX0_leastToBeGiven, Cond.instanceMethod yX0_leastToBeGiven, Cond.selects RX0 yX0_leastToBeGiven yX0_leastToBeGiven, Cond.code yX0_leastToBeGiven cX0_leastToBeGiven 1 (some .int), Cond.methodLink RX0 87 yX0_leastFaceOneWith, Cond.instanceMethod yX0_leastFaceOneWith, Cond.selects RX0 yX0_leastFaceOneWith yX0_leastFaceOneWith, Cond.code yX0_leastFaceOneWith cX0_leastFaceOneWith 3 (some .int), Cond.methodLink RX1 194 yX0_leastOfRivals, Cond.instanceMethod yX0_leastOfRivals, Cond.selects RX0 yX0_leastOfRivals yX0_leastOfRivals, Cond.code yX0_leastOfRivals cX0_leastOfRivals 2 (some .int), Cond.methodLink RX1 64 yX1_countFound, Cond.instanceMethod yX1_countFound, Cond.selects RX1 yX1_countFound yX1_countFound, Cond.code yX1_countFound cX1_countFound 3 (some .int), Cond.methodLink RX1 197 yJ13_bitCount_95d88, Cond.static yJ13_bitCount_95d88, Cond.initialized RJ13, Cond.code yJ13_bitCount_95d88 cJ13_bitCount_95d88 2 (some .int), Cond.constantLong RJ13 314 (6148914691236517205), Cond.constantLong RJ13 316 (3689348814741910323), Cond.constantLong RJ13 318 (1085102592571150095), Cond.methodLink RX6 85 yX1_kindAt]
def wsX6_fault_r12 : List Cond := [Cond.instanceMethod yX1_kindAt, Cond.selects RX1 yX1_kindAt yX1_kindAt, Cond.code yX1_kindAt cX1_kindAt 3 (some .int), Cond.methodLink RX1 72 yX1_placeAt, Cond.instanceMethod yX1_placeAt, Cond.selects RX1 yX1_placeAt yX1_placeAt, Cond.code yX1_placeAt cX1_placeAt 6 (some .int), Cond.methodLink RX1 76 yX1_isFound, Cond.instanceMethod yX1_isFound, Cond.selects RX1 yX1_isFound yX1_isFound, Cond.code yX1_isFound cX1_isFound 3 (some .boolean), Cond.methodLink RX6 88 yX1_numberAt, Cond.instanceMethod yX1_numberAt, Cond.selects RX1 yX1_numberAt yX1_numberAt, Cond.code yX1_numberAt cX1_numberAt 3 (some .int)]
def wsX6_fault : List Cond := .code yX6_fault cX6_fault 4 (some .int) :: ((wsX6_fault_r1 ++ (wsX6_fault_r2 ++ (wsX6_fault_r3 ++ (wsX6_fault_r4 ++ (wsX6_fault_r5 ++ (wsX6_fault_r6 ++ (wsX6_fault_r7 ++ (wsX6_fault_r8 ++ (wsX6_fault_r9 ++ (wsX6_fault_r10 ++ (wsX6_fault_r11 ++ wsX6_fault_r12))))))))))) ++ wsX60 ++ wsX50 ++ wsX10 ++ wsX40 ++ wsX30 ++ wsX20 ++ wsX00)
def wsX6_all_r1 : List Cond := [Cond.fieldLink RX6 12 "ClassRules" "types" "LClassRules$Types;", Cond.fieldLink RX6 39 "ClassRules" "judge" "LClassRules$Judge;", Cond.methodLink RX6 81 yX1_countOf, Cond.instanceMethod yX1_countOf, Cond.selects RX1 yX1_countOf yX1_countOf, Cond.initialized RX1, Cond.code yX1_countOf cX1_countOf 2 (some .int), Cond.fieldLink RX1 19 "ClassRules$Judge" "counted" "I", Cond.fieldLink RX1 15 "ClassRules$Judge" "counts" "[I", Cond.static yX6_holds, Cond.initialized RX6, Cond.code yX6_holds cX6_holds 2 (some .boolean), Cond.methodLink RX1 60 yX1_keep, Cond.instanceMethod yX1_keep, Cond.selects RX1 yX1_keep yX1_keep, Cond.code yX1_keep cX1_keep 2 none, Cond.fieldLink RX1 23 "ClassRules$Judge" "kept" "I", Cond.fieldLink RX1 11 "ClassRules$Judge" "found" "[J", Cond.fieldLink RX1 43 "ClassRules$Judge" "typeRules" "LClassRules$TypeRules;", Cond.methodLink RX1 79 yJ7_fill_d0a16, Cond.static yJ7_fill_d0a16, Cond.initialized RJ7, Cond.code yJ7_fill_d0a16 cJ7_fill_d0a16 5 none, Cond.methodLink RX1 85 yX1_findTypeFaults]
def wsX6_all_r2 : List Cond := [Cond.instanceMethod yX1_findTypeFaults, Cond.selects RX1 yX1_findTypeFaults yX1_findTypeFaults, Cond.code yX1_findTypeFaults cX1_findTypeFaults 2 none, Cond.methodLink RX1 101 yX4_missing, Cond.instanceMethod yX4_missing, Cond.selects RX4 yX4_missing yX4_missing, Cond.initialized RX4, Cond.code yX4_missing cX4_missing 2 (some .int), Cond.fieldLink RX4 9 "ClassRules$TypeRules" "types" "LClassRules$Types;", Cond.methodLink RX4 15 yX5_next, Cond.instanceMethod yX5_next, Cond.selects RX5 yX5_next yX5_next, Cond.initialized RX5, Cond.code yX5_next cX5_next 2 (some .int), Cond.fieldLink RX5 24 "ClassRules$Types" "parentSets" "[I", Cond.fieldLink RX5 27 "ClassRules$Types" "uppers" "[I", Cond.methodLink RX4 25 yX5_everyone, Cond.instanceMethod yX5_everyone, Cond.selects RX5 yX5_everyone yX5_everyone, Cond.code yX5_everyone cX5_everyone 1 (some .int), Cond.fieldLink RX5 45 "ClassRules$Types" "count" "I", Cond.static yX6_bit, Cond.code yX6_bit cX6_bit 1 (some .int), Cond.methodLink RX1 104 yX1_putTypes]
def wsX6_all_r3 : List Cond := [Cond.instanceMethod yX1_putTypes, Cond.selects RX1 yX1_putTypes yX1_putTypes, Cond.code yX1_putTypes cX1_putTypes 3 none, Cond.methodLink RX1 108 yX4_ring, Cond.instanceMethod yX4_ring, Cond.selects RX4 yX4_ring yX4_ring, Cond.code yX4_ring cX4_ring 2 (some .int), Cond.methodLink RX1 111 yX4_wrongKind, Cond.instanceMethod yX4_wrongKind, Cond.selects RX4 yX4_wrongKind yX4_wrongKind, Cond.code yX4_wrongKind cX4_wrongKind 3 (some .int), Cond.methodLink RX4 41 yX5_ofKind, Cond.instanceMethod yX5_ofKind, Cond.selects RX5 yX5_ofKind yX5_ofKind, Cond.code yX5_ofKind cX5_ofKind 4 (some .int), Cond.fieldLink RX5 9 "ClassRules$Types" "kinds" "[I", Cond.methodLink RX1 114 yX4_finalParent, Cond.instanceMethod yX4_finalParent, Cond.selects RX4 yX4_finalParent yX4_finalParent, Cond.code yX4_finalParent cX4_finalParent 2 (some .int), Cond.methodLink RX4 47 yX5_withMark, Cond.instanceMethod yX5_withMark, Cond.selects RX5 yX5_withMark yX5_withMark, Cond.code yX5_withMark cX5_withMark 4 (some .int)]
def wsX6_all_r4 : List Cond := [Cond.methodLink RX5 67 yX5_marked, Cond.instanceMethod yX5_marked, Cond.selects RX5 yX5_marked yX5_marked, Cond.code yX5_marked cX5_marked 3 (some .boolean), Cond.fieldLink RX5 15 "ClassRules$Types" "marks" "[I", Cond.methodLink RX1 117 yX4_wrongMarks, Cond.instanceMethod yX4_wrongMarks, Cond.selects RX4 yX4_wrongMarks yX4_wrongMarks, Cond.code yX4_wrongMarks cX4_wrongMarks 8 (some .int), Cond.methodLink RX4 53 yJ6_bitCount_0f7a4, Cond.static yJ6_bitCount_0f7a4, Cond.initialized RJ6, Cond.code yJ6_bitCount_0f7a4 cJ6_bitCount_0f7a4 1 (some .int), Cond.constant RJ6 265 (1431655765), Cond.constant RJ6 266 (858993459), Cond.constant RJ6 267 (252645135), Cond.methodLink RX1 120 yX4_wrongUnderSealed, Cond.instanceMethod yX4_wrongUnderSealed, Cond.selects RX4 yX4_wrongUnderSealed yX4_wrongUnderSealed, Cond.code yX4_wrongUnderSealed cX4_wrongUnderSealed 7 (some .int), Cond.methodLink RX4 58 yX5_marked, Cond.methodLink RX1 123 yX4_wrongPermits, Cond.instanceMethod yX4_wrongPermits, Cond.selects RX4 yX4_wrongPermits yX4_wrongPermits]
def wsX6_all_r5 : List Cond := [Cond.code yX4_wrongPermits cX4_wrongPermits 5 (some .int), Cond.methodLink RX1 126 yX4_twice, Cond.instanceMethod yX4_twice, Cond.selects RX4 yX4_twice yX4_twice, Cond.code yX4_twice cX4_twice 2 (some .int), Cond.methodLink RX1 88 yX1_findMemberFaults, Cond.instanceMethod yX1_findMemberFaults, Cond.selects RX1 yX1_findMemberFaults yX1_findMemberFaults, Cond.code yX1_findMemberFaults cX1_findMemberFaults 3 none, Cond.fieldLink RX1 30 "ClassRules$Judge" "members" "LClassRules$Members;", Cond.fieldLink RX1 52 "ClassRules$Judge" "memberRules" "LClassRules$MemberRules;", Cond.methodLink RX1 137 yX2_doubled, Cond.instanceMethod yX2_doubled, Cond.selects RX2 yX2_doubled yX2_doubled, Cond.initialized RX2, Cond.code yX2_doubled cX2_doubled 3 (some .boolean), Cond.fieldLink RX2 15 "ClassRules$MemberRules" "members" "LClassRules$Members;", Cond.methodLink RX2 25 yX3_alike, Cond.instanceMethod yX3_alike, Cond.selects RX3 yX3_alike yX3_alike, Cond.initialized RX3, Cond.code yX3_alike cX3_alike 3 (some .boolean), Cond.fieldLink RX3 15 "ClassRules$Members" "names" "[I", Cond.fieldLink RX3 18 "ClassRules$Members" "params" "[I"]
def wsX6_all_r6 : List Cond := [Cond.methodLink RX3 38 yX3_named, Cond.instanceMethod yX3_named, Cond.selects RX3 yX3_named yX3_named, Cond.code yX3_named cX3_named 4 (some .boolean), Cond.methodLink RX1 140 yX1_putIf, Cond.instanceMethod yX1_putIf, Cond.selects RX1 yX1_putIf yX1_putIf, Cond.code yX1_putIf cX1_putIf 4 none, Cond.methodLink RX1 144 yX2_wrongMarks, Cond.instanceMethod yX2_wrongMarks, Cond.selects RX2 yX2_wrongMarks yX2_wrongMarks, Cond.code yX2_wrongMarks cX2_wrongMarks 2 (some .boolean), Cond.methodLink RX2 29 yX3_ofFace, Cond.instanceMethod yX3_ofFace, Cond.selects RX3 yX3_ofFace yX3_ofFace, Cond.code yX3_ofFace cX3_ofFace 2 (some .boolean), Cond.fieldLink RX3 34 "ClassRules$Members" "types" "LClassRules$Types;", Cond.fieldLink RX3 9 "ClassRules$Members" "owners" "[I", Cond.methodLink RX2 33 yX2_wrongInFace, Cond.instanceMethod yX2_wrongInFace, Cond.selects RX2 yX2_wrongInFace yX2_wrongInFace, Cond.code yX2_wrongInFace cX2_wrongInFace 4 (some .boolean), Cond.methodLink RX2 42 yX3_marked, Cond.instanceMethod yX3_marked]
def wsX6_all_r7 : List Cond := [Cond.selects RX3 yX3_marked yX3_marked, Cond.code yX3_marked cX3_marked 3 (some .boolean), Cond.fieldLink RX3 21 "ClassRules$Members" "marks" "[I", Cond.methodLink RX2 48 yJ6_bitCount_0f7a4, Cond.methodLink RX2 36 yX2_wrongElsewhere, Cond.instanceMethod yX2_wrongElsewhere, Cond.selects RX2 yX2_wrongElsewhere yX2_wrongElsewhere, Cond.code yX2_wrongElsewhere cX2_wrongElsewhere 3 (some .boolean), Cond.fieldLink RX2 9 "ClassRules$MemberRules" "types" "LClassRules$Types;", Cond.methodLink RX2 59 yX5_marked, Cond.methodLink RX1 91 yX4_shaky, Cond.instanceMethod yX4_shaky, Cond.selects RX4 yX4_shaky yX4_shaky, Cond.code yX4_shaky cX4_shaky 3 (some .boolean), Cond.methodLink RX4 72 yX5_stands, Cond.instanceMethod yX5_stands, Cond.selects RX5 yX5_stands yX5_stands, Cond.code yX5_stands cX5_stands 3 (some .boolean), Cond.fieldLink RX5 42 "ClassRules$Types" "above" "[I", Cond.methodLink RX4 75 yX4_missing, Cond.methodLink RX4 78 yX4_ring, Cond.methodLink RX4 81 yX4_wrongKind, Cond.methodLink RX1 95 yX1_findInheritedFaults, Cond.instanceMethod yX1_findInheritedFaults]
def wsX6_all_r8 : List Cond := [Cond.selects RX1 yX1_findInheritedFaults yX1_findInheritedFaults, Cond.code yX1_findInheritedFaults cX1_findInheritedFaults 3 none, Cond.methodLink RX1 149 yX1_findOver, Cond.instanceMethod yX1_findOver, Cond.selects RX1 yX1_findOver yX1_findOver, Cond.code yX1_findOver cX1_findOver 4 none, Cond.methodLink RX1 152 yX3_alike, Cond.methodLink RX1 155 yX3_shared, Cond.instanceMethod yX3_shared, Cond.selects RX3 yX3_shared yX3_shared, Cond.code yX3_shared cX3_shared 4 (some .boolean), Cond.methodLink RX3 47 yX3_marked, Cond.methodLink RX3 51 yX3_ofFace, Cond.methodLink RX3 61 yX3_seenFrom, Cond.instanceMethod yX3_seenFrom, Cond.selects RX3 yX3_seenFrom yX3_seenFrom, Cond.code yX3_seenFrom cX3_seenFrom 3 (some .boolean), Cond.fieldLink RX3 24 "ClassRules$Members" "accesses" "[I", Cond.methodLink RX1 158 yX3_marked, Cond.methodLink RX1 164 yX2_resultFits, Cond.instanceMethod yX2_resultFits, Cond.selects RX2 yX2_resultFits yX2_resultFits, Cond.code yX2_resultFits cX2_resultFits 5 (some .boolean), Cond.methodLink RX2 60 yX5_there]
def wsX6_all_r9 : List Cond := [Cond.instanceMethod yX5_there, Cond.selects RX5 yX5_there yX5_there, Cond.code yX5_there cX5_there 2 (some .boolean), Cond.methodLink RX2 63 yX5_stands, Cond.methodLink RX1 98 yX1_findGivenFaults, Cond.instanceMethod yX1_findGivenFaults, Cond.selects RX1 yX1_findGivenFaults yX1_findGivenFaults, Cond.code yX1_findGivenFaults cX1_findGivenFaults 6 none, Cond.fieldLink RX1 26 "ClassRules$Judge" "types" "LClassRules$Types;", Cond.fieldLink RX1 34 "ClassRules$Judge" "choice" "LClassRules$Choice;", Cond.methodLink RX1 172 yX5_marked, Cond.methodLink RX1 173 yX3_firstOfItsSort, Cond.instanceMethod yX3_firstOfItsSort, Cond.selects RX3 yX3_firstOfItsSort yX3_firstOfItsSort, Cond.code yX3_firstOfItsSort cX3_firstOfItsSort 3 (some .boolean), Cond.methodLink RX3 67 yX3_alike, Cond.methodLink RX1 182 yX0_seekClassOne, Cond.instanceMethod yX0_seekClassOne, Cond.selects RX0 yX0_seekClassOne yX0_seekClassOne, Cond.initialized RX0, Cond.code yX0_seekClassOne cX0_seekClassOne 7 none, Cond.fieldLink RX0 25 "ClassRules$Choice" "classOne" "I", Cond.fieldLink RX0 28 "ClassRules$Choice" "types" "LClassRules$Types;", Cond.fieldLink RX0 32 "ClassRules$Choice" "members" "LClassRules$Members;"]
def wsX6_all_r10 : List Cond := [Cond.methodLink RX0 49 yX3_named, Cond.methodLink RX0 53 yX3_marked, Cond.methodLink RX0 57 yX3_shared, Cond.methodLink RX0 60 yX5_parentThere, Cond.instanceMethod yX5_parentThere, Cond.selects RX5 yX5_parentThere yX5_parentThere, Cond.code yX5_parentThere cX5_parentThere 2 (some .int), Cond.fieldLink RX5 21 "ClassRules$Types" "parents" "[I", Cond.methodLink RX1 188 yX0_seekFaceOnes, Cond.instanceMethod yX0_seekFaceOnes, Cond.selects RX0 yX0_seekFaceOnes yX0_seekFaceOnes, Cond.code yX0_seekFaceOnes cX0_seekFaceOnes 8 none, Cond.fieldLink RX0 21 "ClassRules$Choice" "faceOnesCount" "I", Cond.fieldLink RX0 9 "ClassRules$Choice" "faceOnes" "[I", Cond.methodLink RX0 64 yX0_givenByFace, Cond.instanceMethod yX0_givenByFace, Cond.selects RX0 yX0_givenByFace yX0_givenByFace, Cond.code yX0_givenByFace cX0_givenByFace 5 (some .boolean), Cond.methodLink RX0 77 yX3_ofFace, Cond.methodLink RX0 81 yX5_stands, Cond.methodLink RX1 191 yX0_leastToBeGiven, Cond.instanceMethod yX0_leastToBeGiven, Cond.selects RX0 yX0_leastToBeGiven yX0_leastToBeGiven, Cond.code yX0_leastToBeGiven cX0_leastToBeGiven 1 (some .int)]
def wsX6_all_r11 : List Cond := [Cond.methodLink RX0 87 yX0_leastFaceOneWith, Cond.instanceMethod yX0_leastFaceOneWith, Cond.selects RX0 yX0_leastFaceOneWith yX0_leastFaceOneWith, Cond.code yX0_leastFaceOneWith cX0_leastFaceOneWith 3 (some .int), Cond.methodLink RX1 194 yX0_leastOfRivals, Cond.instanceMethod yX0_leastOfRivals, Cond.selects RX0 yX0_leastOfRivals yX0_leastOfRivals, Cond.code yX0_leastOfRivals cX0_leastOfRivals 2 (some .int), Cond.methodLink RX1 64 yX1_countFound, Cond.instanceMethod yX1_countFound, Cond.selects RX1 yX1_countFound yX1_countFound, Cond.code yX1_countFound cX1_countFound 3 (some .int), Cond.methodLink RX1 197 yJ13_bitCount_95d88, Cond.static yJ13_bitCount_95d88, Cond.initialized RJ13, Cond.code yJ13_bitCount_95d88 cJ13_bitCount_95d88 2 (some .int), Cond.constantLong RJ13 314 (6148914691236517205), Cond.constantLong RJ13 316 (3689348814741910323), Cond.constantLong RJ13 318 (1085102592571150095)]
def wsX6_all : List Cond := .code yX6_all cX6_all 3 (some .int) :: ((wsX6_all_r1 ++ (wsX6_all_r2 ++ (wsX6_all_r3 ++ (wsX6_all_r4 ++ (wsX6_all_r5 ++ (wsX6_all_r6 ++ (wsX6_all_r7 ++ (wsX6_all_r8 ++ (wsX6_all_r9 ++ (wsX6_all_r10 ++ wsX6_all_r11)))))))))) ++ wsX60 ++ wsX50 ++ wsX10 ++ wsX40 ++ wsX30 ++ wsX20 ++ wsX00)
def wsX6_is : List Cond := .code yX6_is cX6_is 3 (some .int) :: ([.fieldLink RX6 12 "ClassRules" "types" "LClassRules$Types;", .methodLink RX6 58 yX5_there, .instanceMethod yX5_there, .selects RX5 yX5_there yX5_there, .initialized RX5, .code yX5_there cX5_there 2 (some .boolean), .fieldLink RX5 45 "ClassRules$Types" "count" "I", .methodLink RX6 91 yX5_stands, .instanceMethod yX5_stands, .selects RX5 yX5_stands yX5_stands, .code yX5_stands cX5_stands 3 (some .boolean), .fieldLink RX5 42 "ClassRules$Types" "above" "[I"] ++ wsX60 ++ wsX50)
def wsX6_canBeMade_r1 : List Cond := [Cond.fieldLink RX6 12 "ClassRules" "types" "LClassRules$Types;", Cond.fieldLink RX6 39 "ClassRules" "judge" "LClassRules$Judge;", Cond.methodLink RX6 110 yX5_marked, Cond.instanceMethod yX5_marked, Cond.selects RX5 yX5_marked yX5_marked, Cond.initialized RX5, Cond.code yX5_marked cX5_marked 3 (some .boolean), Cond.fieldLink RX5 15 "ClassRules$Types" "marks" "[I", Cond.methodLink RX6 91 yX5_stands, Cond.instanceMethod yX5_stands, Cond.selects RX5 yX5_stands yX5_stands, Cond.code yX5_stands cX5_stands 3 (some .boolean), Cond.fieldLink RX5 42 "ClassRules$Types" "above" "[I", Cond.methodLink RX6 81 yX1_countOf, Cond.instanceMethod yX1_countOf, Cond.selects RX1 yX1_countOf yX1_countOf, Cond.initialized RX1, Cond.code yX1_countOf cX1_countOf 2 (some .int), Cond.fieldLink RX1 19 "ClassRules$Judge" "counted" "I", Cond.fieldLink RX1 15 "ClassRules$Judge" "counts" "[I", Cond.static yX6_holds, Cond.initialized RX6, Cond.code yX6_holds cX6_holds 2 (some .boolean), Cond.methodLink RX1 60 yX1_keep]
def wsX6_canBeMade_r2 : List Cond := [Cond.instanceMethod yX1_keep, Cond.selects RX1 yX1_keep yX1_keep, Cond.code yX1_keep cX1_keep 2 none, Cond.fieldLink RX1 23 "ClassRules$Judge" "kept" "I", Cond.fieldLink RX1 11 "ClassRules$Judge" "found" "[J", Cond.fieldLink RX1 43 "ClassRules$Judge" "typeRules" "LClassRules$TypeRules;", Cond.methodLink RX1 79 yJ7_fill_d0a16, Cond.static yJ7_fill_d0a16, Cond.initialized RJ7, Cond.code yJ7_fill_d0a16 cJ7_fill_d0a16 5 none, Cond.methodLink RX1 85 yX1_findTypeFaults, Cond.instanceMethod yX1_findTypeFaults, Cond.selects RX1 yX1_findTypeFaults yX1_findTypeFaults, Cond.code yX1_findTypeFaults cX1_findTypeFaults 2 none, Cond.methodLink RX1 101 yX4_missing, Cond.instanceMethod yX4_missing, Cond.selects RX4 yX4_missing yX4_missing, Cond.initialized RX4, Cond.code yX4_missing cX4_missing 2 (some .int), Cond.fieldLink RX4 9 "ClassRules$TypeRules" "types" "LClassRules$Types;", Cond.methodLink RX4 15 yX5_next, Cond.instanceMethod yX5_next, Cond.selects RX5 yX5_next yX5_next, Cond.code yX5_next cX5_next 2 (some .int)]
def wsX6_canBeMade_r3 : List Cond := [Cond.fieldLink RX5 24 "ClassRules$Types" "parentSets" "[I", Cond.fieldLink RX5 27 "ClassRules$Types" "uppers" "[I", Cond.methodLink RX4 25 yX5_everyone, Cond.instanceMethod yX5_everyone, Cond.selects RX5 yX5_everyone yX5_everyone, Cond.code yX5_everyone cX5_everyone 1 (some .int), Cond.fieldLink RX5 45 "ClassRules$Types" "count" "I", Cond.static yX6_bit, Cond.code yX6_bit cX6_bit 1 (some .int), Cond.methodLink RX1 104 yX1_putTypes, Cond.instanceMethod yX1_putTypes, Cond.selects RX1 yX1_putTypes yX1_putTypes, Cond.code yX1_putTypes cX1_putTypes 3 none, Cond.methodLink RX1 108 yX4_ring, Cond.instanceMethod yX4_ring, Cond.selects RX4 yX4_ring yX4_ring, Cond.code yX4_ring cX4_ring 2 (some .int), Cond.methodLink RX1 111 yX4_wrongKind, Cond.instanceMethod yX4_wrongKind, Cond.selects RX4 yX4_wrongKind yX4_wrongKind, Cond.code yX4_wrongKind cX4_wrongKind 3 (some .int), Cond.methodLink RX4 41 yX5_ofKind, Cond.instanceMethod yX5_ofKind, Cond.selects RX5 yX5_ofKind yX5_ofKind]
def wsX6_canBeMade_r4 : List Cond := [Cond.code yX5_ofKind cX5_ofKind 4 (some .int), Cond.fieldLink RX5 9 "ClassRules$Types" "kinds" "[I", Cond.methodLink RX1 114 yX4_finalParent, Cond.instanceMethod yX4_finalParent, Cond.selects RX4 yX4_finalParent yX4_finalParent, Cond.code yX4_finalParent cX4_finalParent 2 (some .int), Cond.methodLink RX4 47 yX5_withMark, Cond.instanceMethod yX5_withMark, Cond.selects RX5 yX5_withMark yX5_withMark, Cond.code yX5_withMark cX5_withMark 4 (some .int), Cond.methodLink RX5 67 yX5_marked, Cond.methodLink RX1 117 yX4_wrongMarks, Cond.instanceMethod yX4_wrongMarks, Cond.selects RX4 yX4_wrongMarks yX4_wrongMarks, Cond.code yX4_wrongMarks cX4_wrongMarks 8 (some .int), Cond.methodLink RX4 53 yJ6_bitCount_0f7a4, Cond.static yJ6_bitCount_0f7a4, Cond.initialized RJ6, Cond.code yJ6_bitCount_0f7a4 cJ6_bitCount_0f7a4 1 (some .int), Cond.constant RJ6 265 (1431655765), Cond.constant RJ6 266 (858993459), Cond.constant RJ6 267 (252645135), Cond.methodLink RX1 120 yX4_wrongUnderSealed, Cond.instanceMethod yX4_wrongUnderSealed]
def wsX6_canBeMade_r5 : List Cond := [Cond.selects RX4 yX4_wrongUnderSealed yX4_wrongUnderSealed, Cond.code yX4_wrongUnderSealed cX4_wrongUnderSealed 7 (some .int), Cond.methodLink RX4 58 yX5_marked, Cond.methodLink RX1 123 yX4_wrongPermits, Cond.instanceMethod yX4_wrongPermits, Cond.selects RX4 yX4_wrongPermits yX4_wrongPermits, Cond.code yX4_wrongPermits cX4_wrongPermits 5 (some .int), Cond.methodLink RX1 126 yX4_twice, Cond.instanceMethod yX4_twice, Cond.selects RX4 yX4_twice yX4_twice, Cond.code yX4_twice cX4_twice 2 (some .int), Cond.methodLink RX1 88 yX1_findMemberFaults, Cond.instanceMethod yX1_findMemberFaults, Cond.selects RX1 yX1_findMemberFaults yX1_findMemberFaults, Cond.code yX1_findMemberFaults cX1_findMemberFaults 3 none, Cond.fieldLink RX1 30 "ClassRules$Judge" "members" "LClassRules$Members;", Cond.fieldLink RX1 52 "ClassRules$Judge" "memberRules" "LClassRules$MemberRules;", Cond.methodLink RX1 137 yX2_doubled, Cond.instanceMethod yX2_doubled, Cond.selects RX2 yX2_doubled yX2_doubled, Cond.initialized RX2, Cond.code yX2_doubled cX2_doubled 3 (some .boolean), Cond.fieldLink RX2 15 "ClassRules$MemberRules" "members" "LClassRules$Members;", Cond.methodLink RX2 25 yX3_alike]
def wsX6_canBeMade_r6 : List Cond := [Cond.instanceMethod yX3_alike, Cond.selects RX3 yX3_alike yX3_alike, Cond.initialized RX3, Cond.code yX3_alike cX3_alike 3 (some .boolean), Cond.fieldLink RX3 15 "ClassRules$Members" "names" "[I", Cond.fieldLink RX3 18 "ClassRules$Members" "params" "[I", Cond.methodLink RX3 38 yX3_named, Cond.instanceMethod yX3_named, Cond.selects RX3 yX3_named yX3_named, Cond.code yX3_named cX3_named 4 (some .boolean), Cond.methodLink RX1 140 yX1_putIf, Cond.instanceMethod yX1_putIf, Cond.selects RX1 yX1_putIf yX1_putIf, Cond.code yX1_putIf cX1_putIf 4 none, Cond.methodLink RX1 144 yX2_wrongMarks, Cond.instanceMethod yX2_wrongMarks, Cond.selects RX2 yX2_wrongMarks yX2_wrongMarks, Cond.code yX2_wrongMarks cX2_wrongMarks 2 (some .boolean), Cond.methodLink RX2 29 yX3_ofFace, Cond.instanceMethod yX3_ofFace, Cond.selects RX3 yX3_ofFace yX3_ofFace, Cond.code yX3_ofFace cX3_ofFace 2 (some .boolean), Cond.fieldLink RX3 34 "ClassRules$Members" "types" "LClassRules$Types;", Cond.fieldLink RX3 9 "ClassRules$Members" "owners" "[I"]
def wsX6_canBeMade_r7 : List Cond := [Cond.methodLink RX2 33 yX2_wrongInFace, Cond.instanceMethod yX2_wrongInFace, Cond.selects RX2 yX2_wrongInFace yX2_wrongInFace, Cond.code yX2_wrongInFace cX2_wrongInFace 4 (some .boolean), Cond.methodLink RX2 42 yX3_marked, Cond.instanceMethod yX3_marked, Cond.selects RX3 yX3_marked yX3_marked, Cond.code yX3_marked cX3_marked 3 (some .boolean), Cond.fieldLink RX3 21 "ClassRules$Members" "marks" "[I", Cond.methodLink RX2 48 yJ6_bitCount_0f7a4, Cond.methodLink RX2 36 yX2_wrongElsewhere, Cond.instanceMethod yX2_wrongElsewhere, Cond.selects RX2 yX2_wrongElsewhere yX2_wrongElsewhere, Cond.code yX2_wrongElsewhere cX2_wrongElsewhere 3 (some .boolean), Cond.fieldLink RX2 9 "ClassRules$MemberRules" "types" "LClassRules$Types;", Cond.methodLink RX2 59 yX5_marked, Cond.methodLink RX1 91 yX4_shaky, Cond.instanceMethod yX4_shaky, Cond.selects RX4 yX4_shaky yX4_shaky, Cond.code yX4_shaky cX4_shaky 3 (some .boolean), Cond.methodLink RX4 72 yX5_stands, Cond.methodLink RX4 75 yX4_missing, Cond.methodLink RX4 78 yX4_ring, Cond.methodLink RX4 81 yX4_wrongKind]
def wsX6_canBeMade_r8 : List Cond := [Cond.methodLink RX1 95 yX1_findInheritedFaults, Cond.instanceMethod yX1_findInheritedFaults, Cond.selects RX1 yX1_findInheritedFaults yX1_findInheritedFaults, Cond.code yX1_findInheritedFaults cX1_findInheritedFaults 3 none, Cond.methodLink RX1 149 yX1_findOver, Cond.instanceMethod yX1_findOver, Cond.selects RX1 yX1_findOver yX1_findOver, Cond.code yX1_findOver cX1_findOver 4 none, Cond.methodLink RX1 152 yX3_alike, Cond.methodLink RX1 155 yX3_shared, Cond.instanceMethod yX3_shared, Cond.selects RX3 yX3_shared yX3_shared, Cond.code yX3_shared cX3_shared 4 (some .boolean), Cond.methodLink RX3 47 yX3_marked, Cond.methodLink RX3 51 yX3_ofFace, Cond.methodLink RX3 61 yX3_seenFrom, Cond.instanceMethod yX3_seenFrom, Cond.selects RX3 yX3_seenFrom yX3_seenFrom, Cond.code yX3_seenFrom cX3_seenFrom 3 (some .boolean), Cond.fieldLink RX3 24 "ClassRules$Members" "accesses" "[I", Cond.methodLink RX1 158 yX3_marked, Cond.methodLink RX1 164 yX2_resultFits, Cond.instanceMethod yX2_resultFits, Cond.selects RX2 yX2_resultFits yX2_resultFits]
def wsX6_canBeMade_r9 : List Cond := [Cond.code yX2_resultFits cX2_resultFits 5 (some .boolean), Cond.methodLink RX2 60 yX5_there, Cond.instanceMethod yX5_there, Cond.selects RX5 yX5_there yX5_there, Cond.code yX5_there cX5_there 2 (some .boolean), Cond.methodLink RX2 63 yX5_stands, Cond.methodLink RX1 98 yX1_findGivenFaults, Cond.instanceMethod yX1_findGivenFaults, Cond.selects RX1 yX1_findGivenFaults yX1_findGivenFaults, Cond.code yX1_findGivenFaults cX1_findGivenFaults 6 none, Cond.fieldLink RX1 26 "ClassRules$Judge" "types" "LClassRules$Types;", Cond.fieldLink RX1 34 "ClassRules$Judge" "choice" "LClassRules$Choice;", Cond.methodLink RX1 172 yX5_marked, Cond.methodLink RX1 173 yX3_firstOfItsSort, Cond.instanceMethod yX3_firstOfItsSort, Cond.selects RX3 yX3_firstOfItsSort yX3_firstOfItsSort, Cond.code yX3_firstOfItsSort cX3_firstOfItsSort 3 (some .boolean), Cond.methodLink RX3 67 yX3_alike, Cond.methodLink RX1 182 yX0_seekClassOne, Cond.instanceMethod yX0_seekClassOne, Cond.selects RX0 yX0_seekClassOne yX0_seekClassOne, Cond.initialized RX0, Cond.code yX0_seekClassOne cX0_seekClassOne 7 none, Cond.fieldLink RX0 25 "ClassRules$Choice" "classOne" "I"]
def wsX6_canBeMade_r10 : List Cond := [Cond.fieldLink RX0 28 "ClassRules$Choice" "types" "LClassRules$Types;", Cond.fieldLink RX0 32 "ClassRules$Choice" "members" "LClassRules$Members;", Cond.methodLink RX0 49 yX3_named, Cond.methodLink RX0 53 yX3_marked, Cond.methodLink RX0 57 yX3_shared, Cond.methodLink RX0 60 yX5_parentThere, Cond.instanceMethod yX5_parentThere, Cond.selects RX5 yX5_parentThere yX5_parentThere, Cond.code yX5_parentThere cX5_parentThere 2 (some .int), Cond.fieldLink RX5 21 "ClassRules$Types" "parents" "[I", Cond.methodLink RX1 188 yX0_seekFaceOnes, Cond.instanceMethod yX0_seekFaceOnes, Cond.selects RX0 yX0_seekFaceOnes yX0_seekFaceOnes, Cond.code yX0_seekFaceOnes cX0_seekFaceOnes 8 none, Cond.fieldLink RX0 21 "ClassRules$Choice" "faceOnesCount" "I", Cond.fieldLink RX0 9 "ClassRules$Choice" "faceOnes" "[I", Cond.methodLink RX0 64 yX0_givenByFace, Cond.instanceMethod yX0_givenByFace, Cond.selects RX0 yX0_givenByFace yX0_givenByFace, Cond.code yX0_givenByFace cX0_givenByFace 5 (some .boolean), Cond.methodLink RX0 77 yX3_ofFace, Cond.methodLink RX0 81 yX5_stands, Cond.methodLink RX1 191 yX0_leastToBeGiven, Cond.instanceMethod yX0_leastToBeGiven]
def wsX6_canBeMade_r11 : List Cond := [Cond.selects RX0 yX0_leastToBeGiven yX0_leastToBeGiven, Cond.code yX0_leastToBeGiven cX0_leastToBeGiven 1 (some .int), Cond.methodLink RX0 87 yX0_leastFaceOneWith, Cond.instanceMethod yX0_leastFaceOneWith, Cond.selects RX0 yX0_leastFaceOneWith yX0_leastFaceOneWith, Cond.code yX0_leastFaceOneWith cX0_leastFaceOneWith 3 (some .int), Cond.methodLink RX1 194 yX0_leastOfRivals, Cond.instanceMethod yX0_leastOfRivals, Cond.selects RX0 yX0_leastOfRivals yX0_leastOfRivals, Cond.code yX0_leastOfRivals cX0_leastOfRivals 2 (some .int), Cond.methodLink RX1 64 yX1_countFound, Cond.instanceMethod yX1_countFound, Cond.selects RX1 yX1_countFound yX1_countFound, Cond.code yX1_countFound cX1_countFound 3 (some .int), Cond.methodLink RX1 197 yJ13_bitCount_95d88, Cond.static yJ13_bitCount_95d88, Cond.initialized RJ13, Cond.code yJ13_bitCount_95d88 cJ13_bitCount_95d88 2 (some .int), Cond.constantLong RJ13 314 (6148914691236517205), Cond.constantLong RJ13 316 (3689348814741910323), Cond.constantLong RJ13 318 (1085102592571150095)]
def wsX6_canBeMade : List Cond := .code yX6_canBeMade cX6_canBeMade 3 (some .boolean) :: ((wsX6_canBeMade_r1 ++ (wsX6_canBeMade_r2 ++ (wsX6_canBeMade_r3 ++ (wsX6_canBeMade_r4 ++ (wsX6_canBeMade_r5 ++ (wsX6_canBeMade_r6 ++ (wsX6_canBeMade_r7 ++ (wsX6_canBeMade_r8 ++ (wsX6_canBeMade_r9 ++ (wsX6_canBeMade_r10 ++ wsX6_canBeMade_r11)))))))))) ++ wsX60 ++ wsX50 ++ wsX10 ++ wsX40 ++ wsX30 ++ wsX20 ++ wsX00)
def wsX6_orNone : List Cond := .code yX6_orNone cX6_orNone 1 (some .int) :: ([])
def wsX6_runs_r1 : List Cond := [Cond.fieldLink RX6 12 "ClassRules" "types" "LClassRules$Types;", Cond.fieldLink RX6 30 "ClassRules" "choice" "LClassRules$Choice;", Cond.methodLink RX6 58 yX5_there, Cond.instanceMethod yX5_there, Cond.selects RX5 yX5_there yX5_there, Cond.initialized RX5, Cond.code yX5_there cX5_there 2 (some .boolean), Cond.fieldLink RX5 45 "ClassRules$Types" "count" "I", Cond.methodLink RX6 43 yX6_within, Cond.static yX6_within, Cond.initialized RX6, Cond.code yX6_within cX6_within 2 (some .boolean), Cond.methodLink RX6 94 yX6_canBeMade, Cond.instanceMethod yX6_canBeMade, Cond.selects RX6 yX6_canBeMade yX6_canBeMade, Cond.code yX6_canBeMade cX6_canBeMade 3 (some .boolean), Cond.fieldLink RX6 39 "ClassRules" "judge" "LClassRules$Judge;", Cond.methodLink RX6 110 yX5_marked, Cond.instanceMethod yX5_marked, Cond.selects RX5 yX5_marked yX5_marked, Cond.code yX5_marked cX5_marked 3 (some .boolean), Cond.fieldLink RX5 15 "ClassRules$Types" "marks" "[I", Cond.methodLink RX6 91 yX5_stands, Cond.instanceMethod yX5_stands]
def wsX6_runs_r2 : List Cond := [Cond.selects RX5 yX5_stands yX5_stands, Cond.code yX5_stands cX5_stands 3 (some .boolean), Cond.fieldLink RX5 42 "ClassRules$Types" "above" "[I", Cond.methodLink RX6 81 yX1_countOf, Cond.instanceMethod yX1_countOf, Cond.selects RX1 yX1_countOf yX1_countOf, Cond.initialized RX1, Cond.code yX1_countOf cX1_countOf 2 (some .int), Cond.fieldLink RX1 19 "ClassRules$Judge" "counted" "I", Cond.fieldLink RX1 15 "ClassRules$Judge" "counts" "[I", Cond.static yX6_holds, Cond.code yX6_holds cX6_holds 2 (some .boolean), Cond.methodLink RX1 60 yX1_keep, Cond.instanceMethod yX1_keep, Cond.selects RX1 yX1_keep yX1_keep, Cond.code yX1_keep cX1_keep 2 none, Cond.fieldLink RX1 23 "ClassRules$Judge" "kept" "I", Cond.fieldLink RX1 11 "ClassRules$Judge" "found" "[J", Cond.fieldLink RX1 43 "ClassRules$Judge" "typeRules" "LClassRules$TypeRules;", Cond.methodLink RX1 79 yJ7_fill_d0a16, Cond.static yJ7_fill_d0a16, Cond.initialized RJ7, Cond.code yJ7_fill_d0a16 cJ7_fill_d0a16 5 none, Cond.methodLink RX1 85 yX1_findTypeFaults]
def wsX6_runs_r3 : List Cond := [Cond.instanceMethod yX1_findTypeFaults, Cond.selects RX1 yX1_findTypeFaults yX1_findTypeFaults, Cond.code yX1_findTypeFaults cX1_findTypeFaults 2 none, Cond.methodLink RX1 101 yX4_missing, Cond.instanceMethod yX4_missing, Cond.selects RX4 yX4_missing yX4_missing, Cond.initialized RX4, Cond.code yX4_missing cX4_missing 2 (some .int), Cond.fieldLink RX4 9 "ClassRules$TypeRules" "types" "LClassRules$Types;", Cond.methodLink RX4 15 yX5_next, Cond.instanceMethod yX5_next, Cond.selects RX5 yX5_next yX5_next, Cond.code yX5_next cX5_next 2 (some .int), Cond.fieldLink RX5 24 "ClassRules$Types" "parentSets" "[I", Cond.fieldLink RX5 27 "ClassRules$Types" "uppers" "[I", Cond.methodLink RX4 25 yX5_everyone, Cond.instanceMethod yX5_everyone, Cond.selects RX5 yX5_everyone yX5_everyone, Cond.code yX5_everyone cX5_everyone 1 (some .int), Cond.static yX6_bit, Cond.code yX6_bit cX6_bit 1 (some .int), Cond.methodLink RX1 104 yX1_putTypes, Cond.instanceMethod yX1_putTypes, Cond.selects RX1 yX1_putTypes yX1_putTypes]
def wsX6_runs_r4 : List Cond := [Cond.code yX1_putTypes cX1_putTypes 3 none, Cond.methodLink RX1 108 yX4_ring, Cond.instanceMethod yX4_ring, Cond.selects RX4 yX4_ring yX4_ring, Cond.code yX4_ring cX4_ring 2 (some .int), Cond.methodLink RX1 111 yX4_wrongKind, Cond.instanceMethod yX4_wrongKind, Cond.selects RX4 yX4_wrongKind yX4_wrongKind, Cond.code yX4_wrongKind cX4_wrongKind 3 (some .int), Cond.methodLink RX4 41 yX5_ofKind, Cond.instanceMethod yX5_ofKind, Cond.selects RX5 yX5_ofKind yX5_ofKind, Cond.code yX5_ofKind cX5_ofKind 4 (some .int), Cond.fieldLink RX5 9 "ClassRules$Types" "kinds" "[I", Cond.methodLink RX1 114 yX4_finalParent, Cond.instanceMethod yX4_finalParent, Cond.selects RX4 yX4_finalParent yX4_finalParent, Cond.code yX4_finalParent cX4_finalParent 2 (some .int), Cond.methodLink RX4 47 yX5_withMark, Cond.instanceMethod yX5_withMark, Cond.selects RX5 yX5_withMark yX5_withMark, Cond.code yX5_withMark cX5_withMark 4 (some .int), Cond.methodLink RX5 67 yX5_marked, Cond.methodLink RX1 117 yX4_wrongMarks]
def wsX6_runs_r5 : List Cond := [Cond.instanceMethod yX4_wrongMarks, Cond.selects RX4 yX4_wrongMarks yX4_wrongMarks, Cond.code yX4_wrongMarks cX4_wrongMarks 8 (some .int), Cond.methodLink RX4 53 yJ6_bitCount_0f7a4, Cond.static yJ6_bitCount_0f7a4, Cond.initialized RJ6, Cond.code yJ6_bitCount_0f7a4 cJ6_bitCount_0f7a4 1 (some .int), Cond.constant RJ6 265 (1431655765), Cond.constant RJ6 266 (858993459), Cond.constant RJ6 267 (252645135), Cond.methodLink RX1 120 yX4_wrongUnderSealed, Cond.instanceMethod yX4_wrongUnderSealed, Cond.selects RX4 yX4_wrongUnderSealed yX4_wrongUnderSealed, Cond.code yX4_wrongUnderSealed cX4_wrongUnderSealed 7 (some .int), Cond.methodLink RX4 58 yX5_marked, Cond.methodLink RX1 123 yX4_wrongPermits, Cond.instanceMethod yX4_wrongPermits, Cond.selects RX4 yX4_wrongPermits yX4_wrongPermits, Cond.code yX4_wrongPermits cX4_wrongPermits 5 (some .int), Cond.methodLink RX1 126 yX4_twice, Cond.instanceMethod yX4_twice, Cond.selects RX4 yX4_twice yX4_twice, Cond.code yX4_twice cX4_twice 2 (some .int), Cond.methodLink RX1 88 yX1_findMemberFaults]
def wsX6_runs_r6 : List Cond := [Cond.instanceMethod yX1_findMemberFaults, Cond.selects RX1 yX1_findMemberFaults yX1_findMemberFaults, Cond.code yX1_findMemberFaults cX1_findMemberFaults 3 none, Cond.fieldLink RX1 30 "ClassRules$Judge" "members" "LClassRules$Members;", Cond.fieldLink RX1 52 "ClassRules$Judge" "memberRules" "LClassRules$MemberRules;", Cond.methodLink RX1 137 yX2_doubled, Cond.instanceMethod yX2_doubled, Cond.selects RX2 yX2_doubled yX2_doubled, Cond.initialized RX2, Cond.code yX2_doubled cX2_doubled 3 (some .boolean), Cond.fieldLink RX2 15 "ClassRules$MemberRules" "members" "LClassRules$Members;", Cond.methodLink RX2 25 yX3_alike, Cond.instanceMethod yX3_alike, Cond.selects RX3 yX3_alike yX3_alike, Cond.initialized RX3, Cond.code yX3_alike cX3_alike 3 (some .boolean), Cond.fieldLink RX3 15 "ClassRules$Members" "names" "[I", Cond.fieldLink RX3 18 "ClassRules$Members" "params" "[I", Cond.methodLink RX3 38 yX3_named, Cond.instanceMethod yX3_named, Cond.selects RX3 yX3_named yX3_named, Cond.code yX3_named cX3_named 4 (some .boolean), Cond.methodLink RX1 140 yX1_putIf, Cond.instanceMethod yX1_putIf]
def wsX6_runs_r7 : List Cond := [Cond.selects RX1 yX1_putIf yX1_putIf, Cond.code yX1_putIf cX1_putIf 4 none, Cond.methodLink RX1 144 yX2_wrongMarks, Cond.instanceMethod yX2_wrongMarks, Cond.selects RX2 yX2_wrongMarks yX2_wrongMarks, Cond.code yX2_wrongMarks cX2_wrongMarks 2 (some .boolean), Cond.methodLink RX2 29 yX3_ofFace, Cond.instanceMethod yX3_ofFace, Cond.selects RX3 yX3_ofFace yX3_ofFace, Cond.code yX3_ofFace cX3_ofFace 2 (some .boolean), Cond.fieldLink RX3 34 "ClassRules$Members" "types" "LClassRules$Types;", Cond.fieldLink RX3 9 "ClassRules$Members" "owners" "[I", Cond.methodLink RX2 33 yX2_wrongInFace, Cond.instanceMethod yX2_wrongInFace, Cond.selects RX2 yX2_wrongInFace yX2_wrongInFace, Cond.code yX2_wrongInFace cX2_wrongInFace 4 (some .boolean), Cond.methodLink RX2 42 yX3_marked, Cond.instanceMethod yX3_marked, Cond.selects RX3 yX3_marked yX3_marked, Cond.code yX3_marked cX3_marked 3 (some .boolean), Cond.fieldLink RX3 21 "ClassRules$Members" "marks" "[I", Cond.methodLink RX2 48 yJ6_bitCount_0f7a4, Cond.methodLink RX2 36 yX2_wrongElsewhere, Cond.instanceMethod yX2_wrongElsewhere]
def wsX6_runs_r8 : List Cond := [Cond.selects RX2 yX2_wrongElsewhere yX2_wrongElsewhere, Cond.code yX2_wrongElsewhere cX2_wrongElsewhere 3 (some .boolean), Cond.fieldLink RX2 9 "ClassRules$MemberRules" "types" "LClassRules$Types;", Cond.methodLink RX2 59 yX5_marked, Cond.methodLink RX1 91 yX4_shaky, Cond.instanceMethod yX4_shaky, Cond.selects RX4 yX4_shaky yX4_shaky, Cond.code yX4_shaky cX4_shaky 3 (some .boolean), Cond.methodLink RX4 72 yX5_stands, Cond.methodLink RX4 75 yX4_missing, Cond.methodLink RX4 78 yX4_ring, Cond.methodLink RX4 81 yX4_wrongKind, Cond.methodLink RX1 95 yX1_findInheritedFaults, Cond.instanceMethod yX1_findInheritedFaults, Cond.selects RX1 yX1_findInheritedFaults yX1_findInheritedFaults, Cond.code yX1_findInheritedFaults cX1_findInheritedFaults 3 none, Cond.methodLink RX1 149 yX1_findOver, Cond.instanceMethod yX1_findOver, Cond.selects RX1 yX1_findOver yX1_findOver, Cond.code yX1_findOver cX1_findOver 4 none, Cond.methodLink RX1 152 yX3_alike, Cond.methodLink RX1 155 yX3_shared, Cond.instanceMethod yX3_shared, Cond.selects RX3 yX3_shared yX3_shared]
def wsX6_runs_r9 : List Cond := [Cond.code yX3_shared cX3_shared 4 (some .boolean), Cond.methodLink RX3 47 yX3_marked, Cond.methodLink RX3 51 yX3_ofFace, Cond.methodLink RX3 61 yX3_seenFrom, Cond.instanceMethod yX3_seenFrom, Cond.selects RX3 yX3_seenFrom yX3_seenFrom, Cond.code yX3_seenFrom cX3_seenFrom 3 (some .boolean), Cond.fieldLink RX3 24 "ClassRules$Members" "accesses" "[I", Cond.methodLink RX1 158 yX3_marked, Cond.methodLink RX1 164 yX2_resultFits, Cond.instanceMethod yX2_resultFits, Cond.selects RX2 yX2_resultFits yX2_resultFits, Cond.code yX2_resultFits cX2_resultFits 5 (some .boolean), Cond.methodLink RX2 60 yX5_there, Cond.methodLink RX2 63 yX5_stands, Cond.methodLink RX1 98 yX1_findGivenFaults, Cond.instanceMethod yX1_findGivenFaults, Cond.selects RX1 yX1_findGivenFaults yX1_findGivenFaults, Cond.code yX1_findGivenFaults cX1_findGivenFaults 6 none, Cond.fieldLink RX1 26 "ClassRules$Judge" "types" "LClassRules$Types;", Cond.fieldLink RX1 34 "ClassRules$Judge" "choice" "LClassRules$Choice;", Cond.methodLink RX1 172 yX5_marked, Cond.methodLink RX1 173 yX3_firstOfItsSort, Cond.instanceMethod yX3_firstOfItsSort]
def wsX6_runs_r10 : List Cond := [Cond.selects RX3 yX3_firstOfItsSort yX3_firstOfItsSort, Cond.code yX3_firstOfItsSort cX3_firstOfItsSort 3 (some .boolean), Cond.methodLink RX3 67 yX3_alike, Cond.methodLink RX1 182 yX0_seekClassOne, Cond.instanceMethod yX0_seekClassOne, Cond.selects RX0 yX0_seekClassOne yX0_seekClassOne, Cond.initialized RX0, Cond.code yX0_seekClassOne cX0_seekClassOne 7 none, Cond.fieldLink RX0 25 "ClassRules$Choice" "classOne" "I", Cond.fieldLink RX0 28 "ClassRules$Choice" "types" "LClassRules$Types;", Cond.fieldLink RX0 32 "ClassRules$Choice" "members" "LClassRules$Members;", Cond.methodLink RX0 49 yX3_named, Cond.methodLink RX0 53 yX3_marked, Cond.methodLink RX0 57 yX3_shared, Cond.methodLink RX0 60 yX5_parentThere, Cond.instanceMethod yX5_parentThere, Cond.selects RX5 yX5_parentThere yX5_parentThere, Cond.code yX5_parentThere cX5_parentThere 2 (some .int), Cond.fieldLink RX5 21 "ClassRules$Types" "parents" "[I", Cond.methodLink RX1 188 yX0_seekFaceOnes, Cond.instanceMethod yX0_seekFaceOnes, Cond.selects RX0 yX0_seekFaceOnes yX0_seekFaceOnes, Cond.code yX0_seekFaceOnes cX0_seekFaceOnes 8 none, Cond.fieldLink RX0 21 "ClassRules$Choice" "faceOnesCount" "I"]
def wsX6_runs_r11 : List Cond := [Cond.fieldLink RX0 9 "ClassRules$Choice" "faceOnes" "[I", Cond.methodLink RX0 64 yX0_givenByFace, Cond.instanceMethod yX0_givenByFace, Cond.selects RX0 yX0_givenByFace yX0_givenByFace, Cond.code yX0_givenByFace cX0_givenByFace 5 (some .boolean), Cond.methodLink RX0 77 yX3_ofFace, Cond.methodLink RX0 81 yX5_stands, Cond.methodLink RX1 191 yX0_leastToBeGiven, Cond.instanceMethod yX0_leastToBeGiven, Cond.selects RX0 yX0_leastToBeGiven yX0_leastToBeGiven, Cond.code yX0_leastToBeGiven cX0_leastToBeGiven 1 (some .int), Cond.methodLink RX0 87 yX0_leastFaceOneWith, Cond.instanceMethod yX0_leastFaceOneWith, Cond.selects RX0 yX0_leastFaceOneWith yX0_leastFaceOneWith, Cond.code yX0_leastFaceOneWith cX0_leastFaceOneWith 3 (some .int), Cond.methodLink RX1 194 yX0_leastOfRivals, Cond.instanceMethod yX0_leastOfRivals, Cond.selects RX0 yX0_leastOfRivals yX0_leastOfRivals, Cond.code yX0_leastOfRivals cX0_leastOfRivals 2 (some .int), Cond.methodLink RX1 64 yX1_countFound, Cond.instanceMethod yX1_countFound, Cond.selects RX1 yX1_countFound yX1_countFound, Cond.code yX1_countFound cX1_countFound 3 (some .int), Cond.methodLink RX1 197 yJ13_bitCount_95d88]
def wsX6_runs_r12 : List Cond := [Cond.static yJ13_bitCount_95d88, Cond.initialized RJ13, Cond.code yJ13_bitCount_95d88 cJ13_bitCount_95d88 2 (some .int), Cond.constantLong RJ13 314 (6148914691236517205), Cond.constantLong RJ13 316 (3689348814741910323), Cond.constantLong RJ13 318 (1085102592571150095), Cond.methodLink RX6 97 yX0_running, Cond.instanceMethod yX0_running, Cond.selects RX0 yX0_running yX0_running, Cond.code yX0_running cX0_running 4 (some .int), Cond.methodLink RX0 90 yX0_seekClassOne, Cond.methodLink RX0 94 yX0_unlessAbstract, Cond.instanceMethod yX0_unlessAbstract, Cond.selects RX0 yX0_unlessAbstract yX0_unlessAbstract, Cond.code yX0_unlessAbstract cX0_unlessAbstract 2 (some .int), Cond.methodLink RX0 97 yX0_seekFaceOnes, Cond.methodLink RX6 101 yX6_orNone, Cond.static yX6_orNone, Cond.code yX6_orNone cX6_orNone 1 (some .int)]
def wsX6_runs : List Cond := .code yX6_runs cX6_runs 4 (some .int) :: ((wsX6_runs_r1 ++ (wsX6_runs_r2 ++ (wsX6_runs_r3 ++ (wsX6_runs_r4 ++ (wsX6_runs_r5 ++ (wsX6_runs_r6 ++ (wsX6_runs_r7 ++ (wsX6_runs_r8 ++ (wsX6_runs_r9 ++ (wsX6_runs_r10 ++ (wsX6_runs_r11 ++ wsX6_runs_r12))))))))))) ++ wsX60 ++ wsX50 ++ wsX10 ++ wsX40 ++ wsX30 ++ wsX20 ++ wsX00)
def wsX6_call_r1 : List Cond := [Cond.fieldLink RX6 12 "ClassRules" "types" "LClassRules$Types;", Cond.fieldLink RX6 30 "ClassRules" "choice" "LClassRules$Choice;", Cond.methodLink RX6 58 yX5_there, Cond.instanceMethod yX5_there, Cond.selects RX5 yX5_there yX5_there, Cond.initialized RX5, Cond.code yX5_there cX5_there 2 (some .boolean), Cond.fieldLink RX5 45 "ClassRules$Types" "count" "I", Cond.methodLink RX6 43 yX6_within, Cond.static yX6_within, Cond.initialized RX6, Cond.code yX6_within cX6_within 2 (some .boolean), Cond.methodLink RX6 94 yX6_canBeMade, Cond.instanceMethod yX6_canBeMade, Cond.selects RX6 yX6_canBeMade yX6_canBeMade, Cond.code yX6_canBeMade cX6_canBeMade 3 (some .boolean), Cond.fieldLink RX6 39 "ClassRules" "judge" "LClassRules$Judge;", Cond.methodLink RX6 110 yX5_marked, Cond.instanceMethod yX5_marked, Cond.selects RX5 yX5_marked yX5_marked, Cond.code yX5_marked cX5_marked 3 (some .boolean), Cond.fieldLink RX5 15 "ClassRules$Types" "marks" "[I", Cond.methodLink RX6 91 yX5_stands, Cond.instanceMethod yX5_stands]
def wsX6_call_r2 : List Cond := [Cond.selects RX5 yX5_stands yX5_stands, Cond.code yX5_stands cX5_stands 3 (some .boolean), Cond.fieldLink RX5 42 "ClassRules$Types" "above" "[I", Cond.methodLink RX6 81 yX1_countOf, Cond.instanceMethod yX1_countOf, Cond.selects RX1 yX1_countOf yX1_countOf, Cond.initialized RX1, Cond.code yX1_countOf cX1_countOf 2 (some .int), Cond.fieldLink RX1 19 "ClassRules$Judge" "counted" "I", Cond.fieldLink RX1 15 "ClassRules$Judge" "counts" "[I", Cond.static yX6_holds, Cond.code yX6_holds cX6_holds 2 (some .boolean), Cond.methodLink RX1 60 yX1_keep, Cond.instanceMethod yX1_keep, Cond.selects RX1 yX1_keep yX1_keep, Cond.code yX1_keep cX1_keep 2 none, Cond.fieldLink RX1 23 "ClassRules$Judge" "kept" "I", Cond.fieldLink RX1 11 "ClassRules$Judge" "found" "[J", Cond.fieldLink RX1 43 "ClassRules$Judge" "typeRules" "LClassRules$TypeRules;", Cond.methodLink RX1 79 yJ7_fill_d0a16, Cond.static yJ7_fill_d0a16, Cond.initialized RJ7, Cond.code yJ7_fill_d0a16 cJ7_fill_d0a16 5 none, Cond.methodLink RX1 85 yX1_findTypeFaults]
def wsX6_call_r3 : List Cond := [Cond.instanceMethod yX1_findTypeFaults, Cond.selects RX1 yX1_findTypeFaults yX1_findTypeFaults, Cond.code yX1_findTypeFaults cX1_findTypeFaults 2 none, Cond.methodLink RX1 101 yX4_missing, Cond.instanceMethod yX4_missing, Cond.selects RX4 yX4_missing yX4_missing, Cond.initialized RX4, Cond.code yX4_missing cX4_missing 2 (some .int), Cond.fieldLink RX4 9 "ClassRules$TypeRules" "types" "LClassRules$Types;", Cond.methodLink RX4 15 yX5_next, Cond.instanceMethod yX5_next, Cond.selects RX5 yX5_next yX5_next, Cond.code yX5_next cX5_next 2 (some .int), Cond.fieldLink RX5 24 "ClassRules$Types" "parentSets" "[I", Cond.fieldLink RX5 27 "ClassRules$Types" "uppers" "[I", Cond.methodLink RX4 25 yX5_everyone, Cond.instanceMethod yX5_everyone, Cond.selects RX5 yX5_everyone yX5_everyone, Cond.code yX5_everyone cX5_everyone 1 (some .int), Cond.static yX6_bit, Cond.code yX6_bit cX6_bit 1 (some .int), Cond.methodLink RX1 104 yX1_putTypes, Cond.instanceMethod yX1_putTypes, Cond.selects RX1 yX1_putTypes yX1_putTypes]
def wsX6_call_r4 : List Cond := [Cond.code yX1_putTypes cX1_putTypes 3 none, Cond.methodLink RX1 108 yX4_ring, Cond.instanceMethod yX4_ring, Cond.selects RX4 yX4_ring yX4_ring, Cond.code yX4_ring cX4_ring 2 (some .int), Cond.methodLink RX1 111 yX4_wrongKind, Cond.instanceMethod yX4_wrongKind, Cond.selects RX4 yX4_wrongKind yX4_wrongKind, Cond.code yX4_wrongKind cX4_wrongKind 3 (some .int), Cond.methodLink RX4 41 yX5_ofKind, Cond.instanceMethod yX5_ofKind, Cond.selects RX5 yX5_ofKind yX5_ofKind, Cond.code yX5_ofKind cX5_ofKind 4 (some .int), Cond.fieldLink RX5 9 "ClassRules$Types" "kinds" "[I", Cond.methodLink RX1 114 yX4_finalParent, Cond.instanceMethod yX4_finalParent, Cond.selects RX4 yX4_finalParent yX4_finalParent, Cond.code yX4_finalParent cX4_finalParent 2 (some .int), Cond.methodLink RX4 47 yX5_withMark, Cond.instanceMethod yX5_withMark, Cond.selects RX5 yX5_withMark yX5_withMark, Cond.code yX5_withMark cX5_withMark 4 (some .int), Cond.methodLink RX5 67 yX5_marked, Cond.methodLink RX1 117 yX4_wrongMarks]
def wsX6_call_r5 : List Cond := [Cond.instanceMethod yX4_wrongMarks, Cond.selects RX4 yX4_wrongMarks yX4_wrongMarks, Cond.code yX4_wrongMarks cX4_wrongMarks 8 (some .int), Cond.methodLink RX4 53 yJ6_bitCount_0f7a4, Cond.static yJ6_bitCount_0f7a4, Cond.initialized RJ6, Cond.code yJ6_bitCount_0f7a4 cJ6_bitCount_0f7a4 1 (some .int), Cond.constant RJ6 265 (1431655765), Cond.constant RJ6 266 (858993459), Cond.constant RJ6 267 (252645135), Cond.methodLink RX1 120 yX4_wrongUnderSealed, Cond.instanceMethod yX4_wrongUnderSealed, Cond.selects RX4 yX4_wrongUnderSealed yX4_wrongUnderSealed, Cond.code yX4_wrongUnderSealed cX4_wrongUnderSealed 7 (some .int), Cond.methodLink RX4 58 yX5_marked, Cond.methodLink RX1 123 yX4_wrongPermits, Cond.instanceMethod yX4_wrongPermits, Cond.selects RX4 yX4_wrongPermits yX4_wrongPermits, Cond.code yX4_wrongPermits cX4_wrongPermits 5 (some .int), Cond.methodLink RX1 126 yX4_twice, Cond.instanceMethod yX4_twice, Cond.selects RX4 yX4_twice yX4_twice, Cond.code yX4_twice cX4_twice 2 (some .int), Cond.methodLink RX1 88 yX1_findMemberFaults]
def wsX6_call_r6 : List Cond := [Cond.instanceMethod yX1_findMemberFaults, Cond.selects RX1 yX1_findMemberFaults yX1_findMemberFaults, Cond.code yX1_findMemberFaults cX1_findMemberFaults 3 none, Cond.fieldLink RX1 30 "ClassRules$Judge" "members" "LClassRules$Members;", Cond.fieldLink RX1 52 "ClassRules$Judge" "memberRules" "LClassRules$MemberRules;", Cond.methodLink RX1 137 yX2_doubled, Cond.instanceMethod yX2_doubled, Cond.selects RX2 yX2_doubled yX2_doubled, Cond.initialized RX2, Cond.code yX2_doubled cX2_doubled 3 (some .boolean), Cond.fieldLink RX2 15 "ClassRules$MemberRules" "members" "LClassRules$Members;", Cond.methodLink RX2 25 yX3_alike, Cond.instanceMethod yX3_alike, Cond.selects RX3 yX3_alike yX3_alike, Cond.initialized RX3, Cond.code yX3_alike cX3_alike 3 (some .boolean), Cond.fieldLink RX3 15 "ClassRules$Members" "names" "[I", Cond.fieldLink RX3 18 "ClassRules$Members" "params" "[I", Cond.methodLink RX3 38 yX3_named, Cond.instanceMethod yX3_named, Cond.selects RX3 yX3_named yX3_named, Cond.code yX3_named cX3_named 4 (some .boolean), Cond.methodLink RX1 140 yX1_putIf, Cond.instanceMethod yX1_putIf]
def wsX6_call_r7 : List Cond := [Cond.selects RX1 yX1_putIf yX1_putIf, Cond.code yX1_putIf cX1_putIf 4 none, Cond.methodLink RX1 144 yX2_wrongMarks, Cond.instanceMethod yX2_wrongMarks, Cond.selects RX2 yX2_wrongMarks yX2_wrongMarks, Cond.code yX2_wrongMarks cX2_wrongMarks 2 (some .boolean), Cond.methodLink RX2 29 yX3_ofFace, Cond.instanceMethod yX3_ofFace, Cond.selects RX3 yX3_ofFace yX3_ofFace, Cond.code yX3_ofFace cX3_ofFace 2 (some .boolean), Cond.fieldLink RX3 34 "ClassRules$Members" "types" "LClassRules$Types;", Cond.fieldLink RX3 9 "ClassRules$Members" "owners" "[I", Cond.methodLink RX2 33 yX2_wrongInFace, Cond.instanceMethod yX2_wrongInFace, Cond.selects RX2 yX2_wrongInFace yX2_wrongInFace, Cond.code yX2_wrongInFace cX2_wrongInFace 4 (some .boolean), Cond.methodLink RX2 42 yX3_marked, Cond.instanceMethod yX3_marked, Cond.selects RX3 yX3_marked yX3_marked, Cond.code yX3_marked cX3_marked 3 (some .boolean), Cond.fieldLink RX3 21 "ClassRules$Members" "marks" "[I", Cond.methodLink RX2 48 yJ6_bitCount_0f7a4, Cond.methodLink RX2 36 yX2_wrongElsewhere, Cond.instanceMethod yX2_wrongElsewhere]
def wsX6_call_r8 : List Cond := [Cond.selects RX2 yX2_wrongElsewhere yX2_wrongElsewhere, Cond.code yX2_wrongElsewhere cX2_wrongElsewhere 3 (some .boolean), Cond.fieldLink RX2 9 "ClassRules$MemberRules" "types" "LClassRules$Types;", Cond.methodLink RX2 59 yX5_marked, Cond.methodLink RX1 91 yX4_shaky, Cond.instanceMethod yX4_shaky, Cond.selects RX4 yX4_shaky yX4_shaky, Cond.code yX4_shaky cX4_shaky 3 (some .boolean), Cond.methodLink RX4 72 yX5_stands, Cond.methodLink RX4 75 yX4_missing, Cond.methodLink RX4 78 yX4_ring, Cond.methodLink RX4 81 yX4_wrongKind, Cond.methodLink RX1 95 yX1_findInheritedFaults, Cond.instanceMethod yX1_findInheritedFaults, Cond.selects RX1 yX1_findInheritedFaults yX1_findInheritedFaults, Cond.code yX1_findInheritedFaults cX1_findInheritedFaults 3 none, Cond.methodLink RX1 149 yX1_findOver, Cond.instanceMethod yX1_findOver, Cond.selects RX1 yX1_findOver yX1_findOver, Cond.code yX1_findOver cX1_findOver 4 none, Cond.methodLink RX1 152 yX3_alike, Cond.methodLink RX1 155 yX3_shared, Cond.instanceMethod yX3_shared, Cond.selects RX3 yX3_shared yX3_shared]
def wsX6_call_r9 : List Cond := [Cond.code yX3_shared cX3_shared 4 (some .boolean), Cond.methodLink RX3 47 yX3_marked, Cond.methodLink RX3 51 yX3_ofFace, Cond.methodLink RX3 61 yX3_seenFrom, Cond.instanceMethod yX3_seenFrom, Cond.selects RX3 yX3_seenFrom yX3_seenFrom, Cond.code yX3_seenFrom cX3_seenFrom 3 (some .boolean), Cond.fieldLink RX3 24 "ClassRules$Members" "accesses" "[I", Cond.methodLink RX1 158 yX3_marked, Cond.methodLink RX1 164 yX2_resultFits, Cond.instanceMethod yX2_resultFits, Cond.selects RX2 yX2_resultFits yX2_resultFits, Cond.code yX2_resultFits cX2_resultFits 5 (some .boolean), Cond.methodLink RX2 60 yX5_there, Cond.methodLink RX2 63 yX5_stands, Cond.methodLink RX1 98 yX1_findGivenFaults, Cond.instanceMethod yX1_findGivenFaults, Cond.selects RX1 yX1_findGivenFaults yX1_findGivenFaults, Cond.code yX1_findGivenFaults cX1_findGivenFaults 6 none, Cond.fieldLink RX1 26 "ClassRules$Judge" "types" "LClassRules$Types;", Cond.fieldLink RX1 34 "ClassRules$Judge" "choice" "LClassRules$Choice;", Cond.methodLink RX1 172 yX5_marked, Cond.methodLink RX1 173 yX3_firstOfItsSort, Cond.instanceMethod yX3_firstOfItsSort]
def wsX6_call_r10 : List Cond := [Cond.selects RX3 yX3_firstOfItsSort yX3_firstOfItsSort, Cond.code yX3_firstOfItsSort cX3_firstOfItsSort 3 (some .boolean), Cond.methodLink RX3 67 yX3_alike, Cond.methodLink RX1 182 yX0_seekClassOne, Cond.instanceMethod yX0_seekClassOne, Cond.selects RX0 yX0_seekClassOne yX0_seekClassOne, Cond.initialized RX0, Cond.code yX0_seekClassOne cX0_seekClassOne 7 none, Cond.fieldLink RX0 25 "ClassRules$Choice" "classOne" "I", Cond.fieldLink RX0 28 "ClassRules$Choice" "types" "LClassRules$Types;", Cond.fieldLink RX0 32 "ClassRules$Choice" "members" "LClassRules$Members;", Cond.methodLink RX0 49 yX3_named, Cond.methodLink RX0 53 yX3_marked, Cond.methodLink RX0 57 yX3_shared, Cond.methodLink RX0 60 yX5_parentThere, Cond.instanceMethod yX5_parentThere, Cond.selects RX5 yX5_parentThere yX5_parentThere, Cond.code yX5_parentThere cX5_parentThere 2 (some .int), Cond.fieldLink RX5 21 "ClassRules$Types" "parents" "[I", Cond.methodLink RX1 188 yX0_seekFaceOnes, Cond.instanceMethod yX0_seekFaceOnes, Cond.selects RX0 yX0_seekFaceOnes yX0_seekFaceOnes, Cond.code yX0_seekFaceOnes cX0_seekFaceOnes 8 none, Cond.fieldLink RX0 21 "ClassRules$Choice" "faceOnesCount" "I"]
def wsX6_call_r11 : List Cond := [Cond.fieldLink RX0 9 "ClassRules$Choice" "faceOnes" "[I", Cond.methodLink RX0 64 yX0_givenByFace, Cond.instanceMethod yX0_givenByFace, Cond.selects RX0 yX0_givenByFace yX0_givenByFace, Cond.code yX0_givenByFace cX0_givenByFace 5 (some .boolean), Cond.methodLink RX0 77 yX3_ofFace, Cond.methodLink RX0 81 yX5_stands, Cond.methodLink RX1 191 yX0_leastToBeGiven, Cond.instanceMethod yX0_leastToBeGiven, Cond.selects RX0 yX0_leastToBeGiven yX0_leastToBeGiven, Cond.code yX0_leastToBeGiven cX0_leastToBeGiven 1 (some .int), Cond.methodLink RX0 87 yX0_leastFaceOneWith, Cond.instanceMethod yX0_leastFaceOneWith, Cond.selects RX0 yX0_leastFaceOneWith yX0_leastFaceOneWith, Cond.code yX0_leastFaceOneWith cX0_leastFaceOneWith 3 (some .int), Cond.methodLink RX1 194 yX0_leastOfRivals, Cond.instanceMethod yX0_leastOfRivals, Cond.selects RX0 yX0_leastOfRivals yX0_leastOfRivals, Cond.code yX0_leastOfRivals cX0_leastOfRivals 2 (some .int), Cond.methodLink RX1 64 yX1_countFound, Cond.instanceMethod yX1_countFound, Cond.selects RX1 yX1_countFound yX1_countFound, Cond.code yX1_countFound cX1_countFound 3 (some .int), Cond.methodLink RX1 197 yJ13_bitCount_95d88]
def wsX6_call_r12 : List Cond := [Cond.static yJ13_bitCount_95d88, Cond.initialized RJ13, Cond.code yJ13_bitCount_95d88 cJ13_bitCount_95d88 2 (some .int), Cond.constantLong RJ13 314 (6148914691236517205), Cond.constantLong RJ13 316 (3689348814741910323), Cond.constantLong RJ13 318 (1085102592571150095), Cond.methodLink RX6 104 yX0_reached, Cond.instanceMethod yX0_reached, Cond.selects RX0 yX0_reached yX0_reached, Cond.code yX0_reached cX0_reached 6 (some .int), Cond.methodLink RX0 100 yX0_meantBy, Cond.instanceMethod yX0_meantBy, Cond.selects RX0 yX0_meantBy yX0_meantBy, Cond.code yX0_meantBy cX0_meantBy 4 (some .int), Cond.methodLink RX0 90 yX0_seekClassOne, Cond.methodLink RX0 97 yX0_seekFaceOnes, Cond.methodLink RX0 104 yX0_running, Cond.instanceMethod yX0_running, Cond.selects RX0 yX0_running yX0_running, Cond.code yX0_running cX0_running 4 (some .int), Cond.methodLink RX0 94 yX0_unlessAbstract, Cond.instanceMethod yX0_unlessAbstract, Cond.selects RX0 yX0_unlessAbstract yX0_unlessAbstract, Cond.code yX0_unlessAbstract cX0_unlessAbstract 2 (some .int)]
def wsX6_call_r13 : List Cond := [Cond.methodLink RX0 107 yX0_inPlaceOf, Cond.instanceMethod yX0_inPlaceOf, Cond.selects RX0 yX0_inPlaceOf yX0_inPlaceOf, Cond.code yX0_inPlaceOf cX0_inPlaceOf 7 (some .int), Cond.fieldLink RX0 18 "ClassRules$Choice" "takers" "[I", Cond.fieldLink RX0 15 "ClassRules$Choice" "chain" "[I", Cond.methodLink RX0 111 yX0_chainUpTo, Cond.instanceMethod yX0_chainUpTo, Cond.selects RX0 yX0_chainUpTo yX0_chainUpTo, Cond.code yX0_chainUpTo cX0_chainUpTo 5 (some .int), Cond.methodLink RX0 114 yX0_overriderIn, Cond.instanceMethod yX0_overriderIn, Cond.selects RX0 yX0_overriderIn yX0_overriderIn, Cond.code yX0_overriderIn cX0_overriderIn 4 (some .int), Cond.methodLink RX0 120 yX3_alike, Cond.methodLink RX0 117 yX0_takesPlace, Cond.instanceMethod yX0_takesPlace, Cond.selects RX0 yX0_takesPlace yX0_takesPlace, Cond.code yX0_takesPlace cX0_takesPlace 4 (some .boolean), Cond.methodLink RX0 123 yX3_seenFrom, Cond.methodLink RX6 101 yX6_orNone, Cond.static yX6_orNone, Cond.code yX6_orNone cX6_orNone 1 (some .int)]
def wsX6_call : List Cond := .code yX6_call cX6_call 5 (some .int) :: ((wsX6_call_r1 ++ (wsX6_call_r2 ++ (wsX6_call_r3 ++ (wsX6_call_r4 ++ (wsX6_call_r5 ++ (wsX6_call_r6 ++ (wsX6_call_r7 ++ (wsX6_call_r8 ++ (wsX6_call_r9 ++ (wsX6_call_r10 ++ (wsX6_call_r11 ++ (wsX6_call_r12 ++ wsX6_call_r13)))))))))))) ++ wsX60 ++ wsX50 ++ wsX10 ++ wsX40 ++ wsX30 ++ wsX20 ++ wsX00)
def wsX6_told : List Cond := .code yX6_told cX6_told 2 (some .int) :: ([.fieldLink RX6 12 "ClassRules" "types" "LClassRules$Types;", .fieldLink RX6 21 "ClassRules" "members" "LClassRules$Members;"] ++ wsX60 ++ wsX50 ++ wsX30)
def wsX7_init : List Cond := .code yX7_init cX7_init 1 none :: ([.methodLink RX7 1 objectInit, .instanceMethod objectInit, .code objectInit ⟨#[0xb1]⟩ 1 none, .arrayClass .int, .fieldLink RX7 7 "ClassRulesModel" "kind" "[I", .fieldLink RX7 13 "ClassRulesModel" "marks" "[I", .fieldLink RX7 16 "ClassRulesModel" "pack" "[I", .fieldLink RX7 19 "ClassRulesModel" "parent" "[I", .fieldLink RX7 22 "ClassRulesModel" "uppers" "[I", .fieldLink RX7 25 "ClassRulesModel" "upperMany" "[I", .fieldLink RX7 28 "ClassRulesModel" "permits" "[I", .fieldLink RX7 31 "ClassRulesModel" "permitMany" "[I", .fieldLink RX7 34 "ClassRulesModel" "of" "[I", .fieldLink RX7 37 "ClassRulesModel" "name" "[I", .fieldLink RX7 40 "ClassRulesModel" "params" "[I", .fieldLink RX7 43 "ClassRulesModel" "mMarks" "[I", .fieldLink RX7 46 "ClassRulesModel" "access" "[I", .fieldLink RX7 49 "ClassRulesModel" "result" "[I", .arrayClass .boolean, .fieldLink RX7 52 "ClassRulesModel" "above" "[Z", .fieldLink RX7 56 "ClassRulesModel" "fault" "[Z", .fieldLink RX7 59 "ClassRulesModel" "faceOnes" "[I", .fieldLink RX7 62 "ClassRulesModel" "takes" "[Z"] ++ wsX70)
def wsX7_in : List Cond := .code yX7_in cX7_in 3 (some .boolean) :: ([])
def wsX7_isType : List Cond := .code yX7_isType cX7_isType 2 (some .boolean) :: ([.fieldLink RX7 65 "ClassRulesModel" "types" "I", .methodLink RX7 69 yX7_in, .static yX7_in, .initialized RX7, .code yX7_in cX7_in 3 (some .boolean)] ++ wsX70)
def wsX7_marked : List Cond := .code yX7_marked cX7_marked 3 (some .boolean) :: ([.fieldLink RX7 13 "ClassRulesModel" "marks" "[I"] ++ wsX70)
def wsX7_is : List Cond := .code yX7_is cX7_is 4 (some .boolean) :: ([.fieldLink RX7 43 "ClassRulesModel" "mMarks" "[I"] ++ wsX70)
def wsX7_type : List Cond := .code yX7_type cX7_type 5 (some .int) :: ([.fieldLink RX7 65 "ClassRulesModel" "types" "I", .fieldLink RX7 7 "ClassRulesModel" "kind" "[I", .fieldLink RX7 13 "ClassRulesModel" "marks" "[I", .fieldLink RX7 16 "ClassRulesModel" "pack" "[I", .fieldLink RX7 19 "ClassRulesModel" "parent" "[I", .fieldLink RX7 73 "ClassRulesModel" "known" "Z", .methodLink RX7 69 yX7_in, .static yX7_in, .initialized RX7, .code yX7_in cX7_in 3 (some .boolean)] ++ wsX70)
def wsX7_upper : List Cond := .code yX7_upper cX7_upper 3 (some .int) :: ([.fieldLink RX7 25 "ClassRulesModel" "upperMany" "[I", .fieldLink RX7 22 "ClassRulesModel" "uppers" "[I", .fieldLink RX7 73 "ClassRulesModel" "known" "Z", .methodLink RX7 77 yX7_isType, .instanceMethod yX7_isType, .selects RX7 yX7_isType yX7_isType, .initialized RX7, .code yX7_isType cX7_isType 2 (some .boolean), .fieldLink RX7 65 "ClassRulesModel" "types" "I", .methodLink RX7 69 yX7_in, .static yX7_in, .code yX7_in cX7_in 3 (some .boolean)] ++ wsX70)
def wsX7_permit : List Cond := .code yX7_permit cX7_permit 3 (some .int) :: ([.fieldLink RX7 31 "ClassRulesModel" "permitMany" "[I", .fieldLink RX7 28 "ClassRulesModel" "permits" "[I", .methodLink RX7 77 yX7_isType, .instanceMethod yX7_isType, .selects RX7 yX7_isType yX7_isType, .initialized RX7, .code yX7_isType cX7_isType 2 (some .boolean), .fieldLink RX7 65 "ClassRulesModel" "types" "I", .methodLink RX7 69 yX7_in, .static yX7_in, .code yX7_in cX7_in 3 (some .boolean)] ++ wsX70)
def wsX7_member : List Cond := .code yX7_member cX7_member 7 (some .int) :: ([.fieldLink RX7 81 "ClassRulesModel" "members" "I", .fieldLink RX7 34 "ClassRulesModel" "of" "[I", .fieldLink RX7 37 "ClassRulesModel" "name" "[I", .fieldLink RX7 40 "ClassRulesModel" "params" "[I", .fieldLink RX7 43 "ClassRulesModel" "mMarks" "[I", .fieldLink RX7 46 "ClassRulesModel" "access" "[I", .fieldLink RX7 49 "ClassRulesModel" "result" "[I", .methodLink RX7 77 yX7_isType, .instanceMethod yX7_isType, .selects RX7 yX7_isType yX7_isType, .initialized RX7, .code yX7_isType cX7_isType 2 (some .boolean), .fieldLink RX7 65 "ClassRulesModel" "types" "I", .methodLink RX7 69 yX7_in, .static yX7_in, .code yX7_in cX7_in 3 (some .boolean)] ++ wsX70)
def wsX7_know : List Cond := .code yX7_know cX7_know 4 none :: ([.fieldLink RX7 73 "ClassRulesModel" "known" "Z", .fieldLink RX7 52 "ClassRulesModel" "above" "[Z", .fieldLink RX7 65 "ClassRulesModel" "types" "I", .fieldLink RX7 19 "ClassRulesModel" "parent" "[I", .fieldLink RX7 25 "ClassRulesModel" "upperMany" "[I", .fieldLink RX7 22 "ClassRulesModel" "uppers" "[I", .methodLink RX7 77 yX7_isType, .instanceMethod yX7_isType, .selects RX7 yX7_isType yX7_isType, .initialized RX7, .code yX7_isType cX7_isType 2 (some .boolean), .methodLink RX7 69 yX7_in, .static yX7_in, .code yX7_in cX7_in 3 (some .boolean)] ++ wsX70)
def wsX7_isOf : List Cond := .code yX7_isOf cX7_isOf 3 (some .boolean) :: ([.fieldLink RX7 52 "ClassRulesModel" "above" "[Z", .methodLink RX7 84 yX7_know, .instanceMethod yX7_know, .selects RX7 yX7_know yX7_know, .initialized RX7, .code yX7_know cX7_know 4 none, .fieldLink RX7 73 "ClassRulesModel" "known" "Z", .fieldLink RX7 65 "ClassRulesModel" "types" "I", .fieldLink RX7 19 "ClassRulesModel" "parent" "[I", .fieldLink RX7 25 "ClassRulesModel" "upperMany" "[I", .fieldLink RX7 22 "ClassRulesModel" "uppers" "[I", .methodLink RX7 77 yX7_isType, .instanceMethod yX7_isType, .selects RX7 yX7_isType yX7_isType, .code yX7_isType cX7_isType 2 (some .boolean), .methodLink RX7 69 yX7_in, .static yX7_in, .code yX7_in cX7_in 3 (some .boolean)] ++ wsX70)
def wsX7_areLike : List Cond := .code yX7_areLike cX7_areLike 3 (some .boolean) :: ([.fieldLink RX7 37 "ClassRulesModel" "name" "[I", .fieldLink RX7 40 "ClassRulesModel" "params" "[I"] ++ wsX70)
def wsX7_isShared_r1 : List Cond := [Cond.fieldLink RX7 46 "ClassRulesModel" "access" "[I", Cond.fieldLink RX7 16 "ClassRulesModel" "pack" "[I", Cond.fieldLink RX7 34 "ClassRulesModel" "of" "[I", Cond.fieldLink RX7 52 "ClassRulesModel" "above" "[Z", Cond.fieldLink RX7 7 "ClassRulesModel" "kind" "[I", Cond.methodLink RX7 84 yX7_know, Cond.instanceMethod yX7_know, Cond.selects RX7 yX7_know yX7_know, Cond.initialized RX7, Cond.code yX7_know cX7_know 4 none, Cond.fieldLink RX7 73 "ClassRulesModel" "known" "Z", Cond.fieldLink RX7 65 "ClassRulesModel" "types" "I", Cond.fieldLink RX7 19 "ClassRulesModel" "parent" "[I", Cond.fieldLink RX7 25 "ClassRulesModel" "upperMany" "[I", Cond.fieldLink RX7 22 "ClassRulesModel" "uppers" "[I", Cond.methodLink RX7 77 yX7_isType, Cond.instanceMethod yX7_isType, Cond.selects RX7 yX7_isType yX7_isType, Cond.code yX7_isType cX7_isType 2 (some .boolean), Cond.methodLink RX7 69 yX7_in, Cond.static yX7_in, Cond.code yX7_in cX7_in 3 (some .boolean), Cond.methodLink RX7 87 yX7_is, Cond.instanceMethod yX7_is]
def wsX7_isShared_r2 : List Cond := [Cond.selects RX7 yX7_is yX7_is, Cond.code yX7_is cX7_is 4 (some .boolean), Cond.fieldLink RX7 43 "ClassRulesModel" "mMarks" "[I"]
def wsX7_isShared : List Cond := .code yX7_isShared cX7_isShared 4 (some .boolean) :: ((wsX7_isShared_r1 ++ wsX7_isShared_r2) ++ wsX70)
def wsX7_mark : List Cond := .code yX7_mark cX7_mark 4 none :: ([.fieldLink RX7 56 "ClassRulesModel" "fault" "[Z"] ++ wsX70)
def wsX7_firstFaults_r1 : List Cond := [Cond.fieldLink RX7 56 "ClassRulesModel" "fault" "[Z", Cond.fieldLink RX7 19 "ClassRulesModel" "parent" "[I", Cond.fieldLink RX7 65 "ClassRulesModel" "types" "I", Cond.fieldLink RX7 7 "ClassRulesModel" "kind" "[I", Cond.fieldLink RX7 25 "ClassRulesModel" "upperMany" "[I", Cond.fieldLink RX7 22 "ClassRulesModel" "uppers" "[I", Cond.fieldLink RX7 31 "ClassRulesModel" "permitMany" "[I", Cond.fieldLink RX7 28 "ClassRulesModel" "permits" "[I", Cond.fieldLink RX7 52 "ClassRulesModel" "above" "[Z", Cond.methodLink RX7 84 yX7_know, Cond.instanceMethod yX7_know, Cond.selects RX7 yX7_know yX7_know, Cond.initialized RX7, Cond.code yX7_know cX7_know 4 none, Cond.fieldLink RX7 73 "ClassRulesModel" "known" "Z", Cond.methodLink RX7 77 yX7_isType, Cond.instanceMethod yX7_isType, Cond.selects RX7 yX7_isType yX7_isType, Cond.code yX7_isType cX7_isType 2 (some .boolean), Cond.methodLink RX7 69 yX7_in, Cond.static yX7_in, Cond.code yX7_in cX7_in 3 (some .boolean), Cond.methodLink RX7 91 yX7_mark, Cond.instanceMethod yX7_mark]
def wsX7_firstFaults_r2 : List Cond := [Cond.selects RX7 yX7_mark yX7_mark, Cond.code yX7_mark cX7_mark 4 none]
def wsX7_firstFaults : List Cond := .code yX7_firstFaults cX7_firstFaults 5 none :: ((wsX7_firstFaults_r1 ++ wsX7_firstFaults_r2) ++ wsX70)
def wsX7_haveAny : List Cond := .code yX7_haveAny cX7_haveAny 3 (some .boolean) :: ([.fieldLink RX7 56 "ClassRulesModel" "fault" "[Z"] ++ wsX70)
def wsX7_permitsIt : List Cond := .code yX7_permitsIt cX7_permitsIt 5 (some .boolean) :: ([.fieldLink RX7 31 "ClassRulesModel" "permitMany" "[I", .fieldLink RX7 28 "ClassRulesModel" "permits" "[I"] ++ wsX70)
def wsX7_isUpper : List Cond := .code yX7_isUpper cX7_isUpper 5 (some .boolean) :: ([.fieldLink RX7 19 "ClassRulesModel" "parent" "[I", .fieldLink RX7 25 "ClassRulesModel" "upperMany" "[I", .fieldLink RX7 22 "ClassRulesModel" "uppers" "[I"] ++ wsX70)
def wsX7_sealedBy_r1 : List Cond := [Cond.fieldLink RX7 7 "ClassRulesModel" "kind" "[I", Cond.methodLink RX7 77 yX7_isType, Cond.instanceMethod yX7_isType, Cond.selects RX7 yX7_isType yX7_isType, Cond.initialized RX7, Cond.code yX7_isType cX7_isType 2 (some .boolean), Cond.fieldLink RX7 65 "ClassRulesModel" "types" "I", Cond.methodLink RX7 69 yX7_in, Cond.static yX7_in, Cond.code yX7_in cX7_in 3 (some .boolean), Cond.methodLink RX7 95 yX7_marked, Cond.instanceMethod yX7_marked, Cond.selects RX7 yX7_marked yX7_marked, Cond.code yX7_marked cX7_marked 3 (some .boolean), Cond.fieldLink RX7 13 "ClassRulesModel" "marks" "[I", Cond.methodLink RX7 99 yX7_permitsIt, Cond.instanceMethod yX7_permitsIt, Cond.selects RX7 yX7_permitsIt yX7_permitsIt, Cond.code yX7_permitsIt cX7_permitsIt 5 (some .boolean), Cond.fieldLink RX7 31 "ClassRulesModel" "permitMany" "[I", Cond.fieldLink RX7 28 "ClassRulesModel" "permits" "[I", Cond.methodLink RX7 91 yX7_mark, Cond.instanceMethod yX7_mark, Cond.selects RX7 yX7_mark yX7_mark]
def wsX7_sealedBy_r2 : List Cond := [Cond.code yX7_mark cX7_mark 4 none, Cond.fieldLink RX7 56 "ClassRulesModel" "fault" "[Z"]
def wsX7_sealedBy : List Cond := .code yX7_sealedBy cX7_sealedBy 4 none :: ((wsX7_sealedBy_r1 ++ wsX7_sealedBy_r2) ++ wsX70)
def wsX7_isSealed : List Cond := .code yX7_isSealed cX7_isSealed 2 (some .boolean) :: ([.methodLink RX7 77 yX7_isType, .instanceMethod yX7_isType, .selects RX7 yX7_isType yX7_isType, .initialized RX7, .code yX7_isType cX7_isType 2 (some .boolean), .fieldLink RX7 65 "ClassRulesModel" "types" "I", .methodLink RX7 69 yX7_in, .static yX7_in, .code yX7_in cX7_in 3 (some .boolean), .methodLink RX7 95 yX7_marked, .instanceMethod yX7_marked, .selects RX7 yX7_marked yX7_marked, .code yX7_marked cX7_marked 3 (some .boolean), .fieldLink RX7 13 "ClassRulesModel" "marks" "[I"] ++ wsX70)
def wsX7_typeFaults_r1 : List Cond := [Cond.fieldLink RX7 19 "ClassRulesModel" "parent" "[I", Cond.fieldLink RX7 7 "ClassRulesModel" "kind" "[I", Cond.fieldLink RX7 13 "ClassRulesModel" "marks" "[I", Cond.fieldLink RX7 25 "ClassRulesModel" "upperMany" "[I", Cond.fieldLink RX7 22 "ClassRulesModel" "uppers" "[I", Cond.fieldLink RX7 31 "ClassRulesModel" "permitMany" "[I", Cond.fieldLink RX7 28 "ClassRulesModel" "permits" "[I", Cond.methodLink RX7 77 yX7_isType, Cond.instanceMethod yX7_isType, Cond.selects RX7 yX7_isType yX7_isType, Cond.initialized RX7, Cond.code yX7_isType cX7_isType 2 (some .boolean), Cond.fieldLink RX7 65 "ClassRulesModel" "types" "I", Cond.methodLink RX7 69 yX7_in, Cond.static yX7_in, Cond.code yX7_in cX7_in 3 (some .boolean), Cond.methodLink RX7 95 yX7_marked, Cond.instanceMethod yX7_marked, Cond.selects RX7 yX7_marked yX7_marked, Cond.code yX7_marked cX7_marked 3 (some .boolean), Cond.methodLink RX7 91 yX7_mark, Cond.instanceMethod yX7_mark, Cond.selects RX7 yX7_mark yX7_mark, Cond.code yX7_mark cX7_mark 4 none]
def wsX7_typeFaults_r2 : List Cond := [Cond.fieldLink RX7 56 "ClassRulesModel" "fault" "[Z", Cond.methodLink RX7 102 yX7_sealedBy, Cond.instanceMethod yX7_sealedBy, Cond.selects RX7 yX7_sealedBy yX7_sealedBy, Cond.code yX7_sealedBy cX7_sealedBy 4 none, Cond.methodLink RX7 99 yX7_permitsIt, Cond.instanceMethod yX7_permitsIt, Cond.selects RX7 yX7_permitsIt yX7_permitsIt, Cond.code yX7_permitsIt cX7_permitsIt 5 (some .boolean), Cond.methodLink RX7 106 yX7_isSealed, Cond.instanceMethod yX7_isSealed, Cond.selects RX7 yX7_isSealed yX7_isSealed, Cond.code yX7_isSealed cX7_isSealed 2 (some .boolean), Cond.methodLink RX7 109 yX7_isUpper, Cond.instanceMethod yX7_isUpper, Cond.selects RX7 yX7_isUpper yX7_isUpper, Cond.code yX7_isUpper cX7_isUpper 5 (some .boolean)]
def wsX7_typeFaults : List Cond := .code yX7_typeFaults cX7_typeFaults 8 none :: ((wsX7_typeFaults_r1 ++ wsX7_typeFaults_r2) ++ wsX70)
def wsX7_isWrong : List Cond := .code yX7_isWrong cX7_isWrong 6 (some .boolean) :: ([.fieldLink RX7 46 "ClassRulesModel" "access" "[I", .fieldLink RX7 7 "ClassRulesModel" "kind" "[I", .methodLink RX7 87 yX7_is, .instanceMethod yX7_is, .selects RX7 yX7_is yX7_is, .initialized RX7, .code yX7_is cX7_is 4 (some .boolean), .fieldLink RX7 43 "ClassRulesModel" "mMarks" "[I", .methodLink RX7 69 yX7_in, .static yX7_in, .code yX7_in cX7_in 3 (some .boolean), .methodLink RX7 95 yX7_marked, .instanceMethod yX7_marked, .selects RX7 yX7_marked yX7_marked, .code yX7_marked cX7_marked 3 (some .boolean), .fieldLink RX7 13 "ClassRulesModel" "marks" "[I"] ++ wsX70)
def wsX7_memberFaults_r1 : List Cond := [Cond.fieldLink RX7 81 "ClassRulesModel" "members" "I", Cond.fieldLink RX7 34 "ClassRulesModel" "of" "[I", Cond.methodLink RX7 112 yX7_areLike, Cond.instanceMethod yX7_areLike, Cond.selects RX7 yX7_areLike yX7_areLike, Cond.initialized RX7, Cond.code yX7_areLike cX7_areLike 3 (some .boolean), Cond.fieldLink RX7 37 "ClassRulesModel" "name" "[I", Cond.fieldLink RX7 40 "ClassRulesModel" "params" "[I", Cond.methodLink RX7 91 yX7_mark, Cond.instanceMethod yX7_mark, Cond.selects RX7 yX7_mark yX7_mark, Cond.code yX7_mark cX7_mark 4 none, Cond.fieldLink RX7 56 "ClassRulesModel" "fault" "[Z", Cond.methodLink RX7 115 yX7_isWrong, Cond.instanceMethod yX7_isWrong, Cond.selects RX7 yX7_isWrong yX7_isWrong, Cond.code yX7_isWrong cX7_isWrong 6 (some .boolean), Cond.fieldLink RX7 46 "ClassRulesModel" "access" "[I", Cond.fieldLink RX7 7 "ClassRulesModel" "kind" "[I", Cond.methodLink RX7 87 yX7_is, Cond.instanceMethod yX7_is, Cond.selects RX7 yX7_is yX7_is, Cond.code yX7_is cX7_is 4 (some .boolean)]
def wsX7_memberFaults_r2 : List Cond := [Cond.fieldLink RX7 43 "ClassRulesModel" "mMarks" "[I", Cond.methodLink RX7 69 yX7_in, Cond.static yX7_in, Cond.code yX7_in cX7_in 3 (some .boolean), Cond.methodLink RX7 95 yX7_marked, Cond.instanceMethod yX7_marked, Cond.selects RX7 yX7_marked yX7_marked, Cond.code yX7_marked cX7_marked 3 (some .boolean), Cond.fieldLink RX7 13 "ClassRulesModel" "marks" "[I"]
def wsX7_memberFaults : List Cond := .code yX7_memberFaults cX7_memberFaults 4 none :: ((wsX7_memberFaults_r1 ++ wsX7_memberFaults_r2) ++ wsX70)
def wsX7_fitsResult : List Cond := .code yX7_fitsResult cX7_fitsResult 3 (some .boolean) :: ([.methodLink RX7 77 yX7_isType, .instanceMethod yX7_isType, .selects RX7 yX7_isType yX7_isType, .initialized RX7, .code yX7_isType cX7_isType 2 (some .boolean), .fieldLink RX7 65 "ClassRulesModel" "types" "I", .methodLink RX7 69 yX7_in, .static yX7_in, .code yX7_in cX7_in 3 (some .boolean), .methodLink RX7 118 yX7_isOf, .instanceMethod yX7_isOf, .selects RX7 yX7_isOf yX7_isOf, .code yX7_isOf cX7_isOf 3 (some .boolean), .fieldLink RX7 52 "ClassRulesModel" "above" "[Z", .methodLink RX7 84 yX7_know, .instanceMethod yX7_know, .selects RX7 yX7_know yX7_know, .code yX7_know cX7_know 4 none, .fieldLink RX7 73 "ClassRulesModel" "known" "Z", .fieldLink RX7 19 "ClassRulesModel" "parent" "[I", .fieldLink RX7 25 "ClassRulesModel" "upperMany" "[I", .fieldLink RX7 22 "ClassRulesModel" "uppers" "[I"] ++ wsX70)
def wsX7_overFaults_r1 : List Cond := [Cond.fieldLink RX7 81 "ClassRulesModel" "members" "I", Cond.fieldLink RX7 34 "ClassRulesModel" "of" "[I", Cond.fieldLink RX7 46 "ClassRulesModel" "access" "[I", Cond.fieldLink RX7 49 "ClassRulesModel" "result" "[I", Cond.methodLink RX7 112 yX7_areLike, Cond.instanceMethod yX7_areLike, Cond.selects RX7 yX7_areLike yX7_areLike, Cond.initialized RX7, Cond.code yX7_areLike cX7_areLike 3 (some .boolean), Cond.fieldLink RX7 37 "ClassRulesModel" "name" "[I", Cond.fieldLink RX7 40 "ClassRulesModel" "params" "[I", Cond.methodLink RX7 121 yX7_isShared, Cond.instanceMethod yX7_isShared, Cond.selects RX7 yX7_isShared yX7_isShared, Cond.code yX7_isShared cX7_isShared 4 (some .boolean), Cond.fieldLink RX7 16 "ClassRulesModel" "pack" "[I", Cond.fieldLink RX7 52 "ClassRulesModel" "above" "[Z", Cond.fieldLink RX7 7 "ClassRulesModel" "kind" "[I", Cond.methodLink RX7 84 yX7_know, Cond.instanceMethod yX7_know, Cond.selects RX7 yX7_know yX7_know, Cond.code yX7_know cX7_know 4 none, Cond.fieldLink RX7 73 "ClassRulesModel" "known" "Z", Cond.fieldLink RX7 65 "ClassRulesModel" "types" "I"]
def wsX7_overFaults_r2 : List Cond := [Cond.fieldLink RX7 19 "ClassRulesModel" "parent" "[I", Cond.fieldLink RX7 25 "ClassRulesModel" "upperMany" "[I", Cond.fieldLink RX7 22 "ClassRulesModel" "uppers" "[I", Cond.methodLink RX7 77 yX7_isType, Cond.instanceMethod yX7_isType, Cond.selects RX7 yX7_isType yX7_isType, Cond.code yX7_isType cX7_isType 2 (some .boolean), Cond.methodLink RX7 69 yX7_in, Cond.static yX7_in, Cond.code yX7_in cX7_in 3 (some .boolean), Cond.methodLink RX7 87 yX7_is, Cond.instanceMethod yX7_is, Cond.selects RX7 yX7_is yX7_is, Cond.code yX7_is cX7_is 4 (some .boolean), Cond.fieldLink RX7 43 "ClassRulesModel" "mMarks" "[I", Cond.methodLink RX7 91 yX7_mark, Cond.instanceMethod yX7_mark, Cond.selects RX7 yX7_mark yX7_mark, Cond.code yX7_mark cX7_mark 4 none, Cond.fieldLink RX7 56 "ClassRulesModel" "fault" "[Z", Cond.methodLink RX7 124 yX7_fitsResult, Cond.instanceMethod yX7_fitsResult, Cond.selects RX7 yX7_fitsResult yX7_fitsResult, Cond.code yX7_fitsResult cX7_fitsResult 3 (some .boolean)]
def wsX7_overFaults_r3 : List Cond := [Cond.methodLink RX7 118 yX7_isOf, Cond.instanceMethod yX7_isOf, Cond.selects RX7 yX7_isOf yX7_isOf, Cond.code yX7_isOf cX7_isOf 3 (some .boolean)]
def wsX7_overFaults : List Cond := .code yX7_overFaults cX7_overFaults 4 none :: ((wsX7_overFaults_r1 ++ (wsX7_overFaults_r2 ++ wsX7_overFaults_r3)) ++ wsX70)
def wsX7_classOne_r1 : List Cond := [Cond.fieldLink RX7 7 "ClassRulesModel" "kind" "[I", Cond.fieldLink RX7 81 "ClassRulesModel" "members" "I", Cond.fieldLink RX7 34 "ClassRulesModel" "of" "[I", Cond.fieldLink RX7 37 "ClassRulesModel" "name" "[I", Cond.fieldLink RX7 40 "ClassRulesModel" "params" "[I", Cond.fieldLink RX7 19 "ClassRulesModel" "parent" "[I", Cond.methodLink RX7 77 yX7_isType, Cond.instanceMethod yX7_isType, Cond.selects RX7 yX7_isType yX7_isType, Cond.initialized RX7, Cond.code yX7_isType cX7_isType 2 (some .boolean), Cond.fieldLink RX7 65 "ClassRulesModel" "types" "I", Cond.methodLink RX7 69 yX7_in, Cond.static yX7_in, Cond.code yX7_in cX7_in 3 (some .boolean), Cond.methodLink RX7 87 yX7_is, Cond.instanceMethod yX7_is, Cond.selects RX7 yX7_is yX7_is, Cond.code yX7_is cX7_is 4 (some .boolean), Cond.fieldLink RX7 43 "ClassRulesModel" "mMarks" "[I", Cond.methodLink RX7 121 yX7_isShared, Cond.instanceMethod yX7_isShared, Cond.selects RX7 yX7_isShared yX7_isShared, Cond.code yX7_isShared cX7_isShared 4 (some .boolean)]
def wsX7_classOne_r2 : List Cond := [Cond.fieldLink RX7 46 "ClassRulesModel" "access" "[I", Cond.fieldLink RX7 16 "ClassRulesModel" "pack" "[I", Cond.fieldLink RX7 52 "ClassRulesModel" "above" "[Z", Cond.methodLink RX7 84 yX7_know, Cond.instanceMethod yX7_know, Cond.selects RX7 yX7_know yX7_know, Cond.code yX7_know cX7_know 4 none, Cond.fieldLink RX7 73 "ClassRulesModel" "known" "Z", Cond.fieldLink RX7 25 "ClassRulesModel" "upperMany" "[I", Cond.fieldLink RX7 22 "ClassRulesModel" "uppers" "[I"]
def wsX7_classOne : List Cond := .code yX7_classOne cX7_classOne 7 (some .int) :: ((wsX7_classOne_r1 ++ wsX7_classOne_r2) ++ wsX70)
def wsX7_ofFace : List Cond := .code yX7_ofFace cX7_ofFace 5 (some .int) :: ([.fieldLink RX7 81 "ClassRulesModel" "members" "I", .fieldLink RX7 34 "ClassRulesModel" "of" "[I", .fieldLink RX7 37 "ClassRulesModel" "name" "[I", .fieldLink RX7 40 "ClassRulesModel" "params" "[I", .fieldLink RX7 46 "ClassRulesModel" "access" "[I", .methodLink RX7 87 yX7_is, .instanceMethod yX7_is, .selects RX7 yX7_is yX7_is, .initialized RX7, .code yX7_is cX7_is 4 (some .boolean), .fieldLink RX7 43 "ClassRulesModel" "mMarks" "[I"] ++ wsX70)
def wsX7_findFaceOnes_r1 : List Cond := [Cond.fieldLink RX7 127 "ClassRulesModel" "faceMany" "I", Cond.fieldLink RX7 65 "ClassRulesModel" "types" "I", Cond.fieldLink RX7 7 "ClassRulesModel" "kind" "[I", Cond.fieldLink RX7 52 "ClassRulesModel" "above" "[Z", Cond.fieldLink RX7 59 "ClassRulesModel" "faceOnes" "[I", Cond.methodLink RX7 118 yX7_isOf, Cond.instanceMethod yX7_isOf, Cond.selects RX7 yX7_isOf yX7_isOf, Cond.initialized RX7, Cond.code yX7_isOf cX7_isOf 3 (some .boolean), Cond.methodLink RX7 84 yX7_know, Cond.instanceMethod yX7_know, Cond.selects RX7 yX7_know yX7_know, Cond.code yX7_know cX7_know 4 none, Cond.fieldLink RX7 73 "ClassRulesModel" "known" "Z", Cond.fieldLink RX7 19 "ClassRulesModel" "parent" "[I", Cond.fieldLink RX7 25 "ClassRulesModel" "upperMany" "[I", Cond.fieldLink RX7 22 "ClassRulesModel" "uppers" "[I", Cond.methodLink RX7 77 yX7_isType, Cond.instanceMethod yX7_isType, Cond.selects RX7 yX7_isType yX7_isType, Cond.code yX7_isType cX7_isType 2 (some .boolean), Cond.methodLink RX7 69 yX7_in, Cond.static yX7_in]
def wsX7_findFaceOnes_r2 : List Cond := [Cond.code yX7_in cX7_in 3 (some .boolean), Cond.methodLink RX7 130 yX7_ofFace, Cond.instanceMethod yX7_ofFace, Cond.selects RX7 yX7_ofFace yX7_ofFace, Cond.code yX7_ofFace cX7_ofFace 5 (some .int), Cond.fieldLink RX7 81 "ClassRulesModel" "members" "I", Cond.fieldLink RX7 34 "ClassRulesModel" "of" "[I", Cond.fieldLink RX7 37 "ClassRulesModel" "name" "[I", Cond.fieldLink RX7 40 "ClassRulesModel" "params" "[I", Cond.fieldLink RX7 46 "ClassRulesModel" "access" "[I", Cond.methodLink RX7 87 yX7_is, Cond.instanceMethod yX7_is, Cond.selects RX7 yX7_is yX7_is, Cond.code yX7_is cX7_is 4 (some .boolean), Cond.fieldLink RX7 43 "ClassRulesModel" "mMarks" "[I"]
def wsX7_findFaceOnes : List Cond := .code yX7_findFaceOnes cX7_findFaceOnes 7 none :: ((wsX7_findFaceOnes_r1 ++ wsX7_findFaceOnes_r2) ++ wsX70)
def wsX7_leastFaceOne : List Cond := .code yX7_leastFaceOne cX7_leastFaceOne 6 (some .int) :: ([.fieldLink RX7 127 "ClassRulesModel" "faceMany" "I", .fieldLink RX7 59 "ClassRulesModel" "faceOnes" "[I", .methodLink RX7 87 yX7_is, .instanceMethod yX7_is, .selects RX7 yX7_is yX7_is, .initialized RX7, .code yX7_is cX7_is 4 (some .boolean), .fieldLink RX7 43 "ClassRulesModel" "mMarks" "[I"] ++ wsX70)
def wsX7_hasDefault : List Cond := .code yX7_hasDefault cX7_hasDefault 3 (some .boolean) :: ([.fieldLink RX7 127 "ClassRulesModel" "faceMany" "I", .fieldLink RX7 59 "ClassRulesModel" "faceOnes" "[I", .methodLink RX7 87 yX7_is, .instanceMethod yX7_is, .selects RX7 yX7_is yX7_is, .initialized RX7, .code yX7_is cX7_is 4 (some .boolean), .fieldLink RX7 43 "ClassRulesModel" "mMarks" "[I"] ++ wsX70)
def wsX7_givenFaults_r1 : List Cond := [Cond.fieldLink RX7 7 "ClassRulesModel" "kind" "[I", Cond.fieldLink RX7 127 "ClassRulesModel" "faceMany" "I", Cond.methodLink RX7 95 yX7_marked, Cond.instanceMethod yX7_marked, Cond.selects RX7 yX7_marked yX7_marked, Cond.initialized RX7, Cond.code yX7_marked cX7_marked 3 (some .boolean), Cond.fieldLink RX7 13 "ClassRulesModel" "marks" "[I", Cond.methodLink RX7 134 yX7_classOne, Cond.instanceMethod yX7_classOne, Cond.selects RX7 yX7_classOne yX7_classOne, Cond.code yX7_classOne cX7_classOne 7 (some .int), Cond.fieldLink RX7 81 "ClassRulesModel" "members" "I", Cond.fieldLink RX7 34 "ClassRulesModel" "of" "[I", Cond.fieldLink RX7 37 "ClassRulesModel" "name" "[I", Cond.fieldLink RX7 40 "ClassRulesModel" "params" "[I", Cond.fieldLink RX7 19 "ClassRulesModel" "parent" "[I", Cond.methodLink RX7 77 yX7_isType, Cond.instanceMethod yX7_isType, Cond.selects RX7 yX7_isType yX7_isType, Cond.code yX7_isType cX7_isType 2 (some .boolean), Cond.fieldLink RX7 65 "ClassRulesModel" "types" "I", Cond.methodLink RX7 69 yX7_in, Cond.static yX7_in]
def wsX7_givenFaults_r2 : List Cond := [Cond.code yX7_in cX7_in 3 (some .boolean), Cond.methodLink RX7 87 yX7_is, Cond.instanceMethod yX7_is, Cond.selects RX7 yX7_is yX7_is, Cond.code yX7_is cX7_is 4 (some .boolean), Cond.fieldLink RX7 43 "ClassRulesModel" "mMarks" "[I", Cond.methodLink RX7 121 yX7_isShared, Cond.instanceMethod yX7_isShared, Cond.selects RX7 yX7_isShared yX7_isShared, Cond.code yX7_isShared cX7_isShared 4 (some .boolean), Cond.fieldLink RX7 46 "ClassRulesModel" "access" "[I", Cond.fieldLink RX7 16 "ClassRulesModel" "pack" "[I", Cond.fieldLink RX7 52 "ClassRulesModel" "above" "[Z", Cond.methodLink RX7 84 yX7_know, Cond.instanceMethod yX7_know, Cond.selects RX7 yX7_know yX7_know, Cond.code yX7_know cX7_know 4 none, Cond.fieldLink RX7 73 "ClassRulesModel" "known" "Z", Cond.fieldLink RX7 25 "ClassRulesModel" "upperMany" "[I", Cond.fieldLink RX7 22 "ClassRulesModel" "uppers" "[I", Cond.methodLink RX7 137 yX7_findFaceOnes, Cond.instanceMethod yX7_findFaceOnes, Cond.selects RX7 yX7_findFaceOnes yX7_findFaceOnes, Cond.code yX7_findFaceOnes cX7_findFaceOnes 7 none]
def wsX7_givenFaults_r3 : List Cond := [Cond.fieldLink RX7 59 "ClassRulesModel" "faceOnes" "[I", Cond.methodLink RX7 118 yX7_isOf, Cond.instanceMethod yX7_isOf, Cond.selects RX7 yX7_isOf yX7_isOf, Cond.code yX7_isOf cX7_isOf 3 (some .boolean), Cond.methodLink RX7 130 yX7_ofFace, Cond.instanceMethod yX7_ofFace, Cond.selects RX7 yX7_ofFace yX7_ofFace, Cond.code yX7_ofFace cX7_ofFace 5 (some .int), Cond.methodLink RX7 141 yX7_hasDefault, Cond.instanceMethod yX7_hasDefault, Cond.selects RX7 yX7_hasDefault yX7_hasDefault, Cond.code yX7_hasDefault cX7_hasDefault 3 (some .boolean), Cond.methodLink RX7 145 yX7_leastFaceOne, Cond.instanceMethod yX7_leastFaceOne, Cond.selects RX7 yX7_leastFaceOne yX7_leastFaceOne, Cond.code yX7_leastFaceOne cX7_leastFaceOne 6 (some .int), Cond.methodLink RX7 91 yX7_mark, Cond.instanceMethod yX7_mark, Cond.selects RX7 yX7_mark yX7_mark, Cond.code yX7_mark cX7_mark 4 none, Cond.fieldLink RX7 56 "ClassRulesModel" "fault" "[Z"]
def wsX7_givenFaults : List Cond := .code yX7_givenFaults cX7_givenFaults 7 none :: ((wsX7_givenFaults_r1 ++ (wsX7_givenFaults_r2 ++ wsX7_givenFaults_r3)) ++ wsX70)
def wsX7_faultsOf_r1 : List Cond := [Cond.fieldLink RX7 65 "ClassRulesModel" "types" "I", Cond.fieldLink RX7 52 "ClassRulesModel" "above" "[Z", Cond.methodLink RX7 84 yX7_know, Cond.instanceMethod yX7_know, Cond.selects RX7 yX7_know yX7_know, Cond.initialized RX7, Cond.code yX7_know cX7_know 4 none, Cond.fieldLink RX7 73 "ClassRulesModel" "known" "Z", Cond.fieldLink RX7 19 "ClassRulesModel" "parent" "[I", Cond.fieldLink RX7 25 "ClassRulesModel" "upperMany" "[I", Cond.fieldLink RX7 22 "ClassRulesModel" "uppers" "[I", Cond.methodLink RX7 77 yX7_isType, Cond.instanceMethod yX7_isType, Cond.selects RX7 yX7_isType yX7_isType, Cond.code yX7_isType cX7_isType 2 (some .boolean), Cond.methodLink RX7 69 yX7_in, Cond.static yX7_in, Cond.code yX7_in cX7_in 3 (some .boolean), Cond.methodLink RX7 149 yX7_firstFaults, Cond.instanceMethod yX7_firstFaults, Cond.selects RX7 yX7_firstFaults yX7_firstFaults, Cond.code yX7_firstFaults cX7_firstFaults 5 none, Cond.fieldLink RX7 56 "ClassRulesModel" "fault" "[Z", Cond.fieldLink RX7 7 "ClassRulesModel" "kind" "[I"]
def wsX7_faultsOf_r2 : List Cond := [Cond.fieldLink RX7 31 "ClassRulesModel" "permitMany" "[I", Cond.fieldLink RX7 28 "ClassRulesModel" "permits" "[I", Cond.methodLink RX7 91 yX7_mark, Cond.instanceMethod yX7_mark, Cond.selects RX7 yX7_mark yX7_mark, Cond.code yX7_mark cX7_mark 4 none, Cond.methodLink RX7 153 yX7_haveAny, Cond.instanceMethod yX7_haveAny, Cond.selects RX7 yX7_haveAny yX7_haveAny, Cond.code yX7_haveAny cX7_haveAny 3 (some .boolean), Cond.methodLink RX7 156 yX7_typeFaults, Cond.instanceMethod yX7_typeFaults, Cond.selects RX7 yX7_typeFaults yX7_typeFaults, Cond.code yX7_typeFaults cX7_typeFaults 8 none, Cond.fieldLink RX7 13 "ClassRulesModel" "marks" "[I", Cond.methodLink RX7 95 yX7_marked, Cond.instanceMethod yX7_marked, Cond.selects RX7 yX7_marked yX7_marked, Cond.code yX7_marked cX7_marked 3 (some .boolean), Cond.methodLink RX7 102 yX7_sealedBy, Cond.instanceMethod yX7_sealedBy, Cond.selects RX7 yX7_sealedBy yX7_sealedBy, Cond.code yX7_sealedBy cX7_sealedBy 4 none, Cond.methodLink RX7 99 yX7_permitsIt]
def wsX7_faultsOf_r3 : List Cond := [Cond.instanceMethod yX7_permitsIt, Cond.selects RX7 yX7_permitsIt yX7_permitsIt, Cond.code yX7_permitsIt cX7_permitsIt 5 (some .boolean), Cond.methodLink RX7 106 yX7_isSealed, Cond.instanceMethod yX7_isSealed, Cond.selects RX7 yX7_isSealed yX7_isSealed, Cond.code yX7_isSealed cX7_isSealed 2 (some .boolean), Cond.methodLink RX7 109 yX7_isUpper, Cond.instanceMethod yX7_isUpper, Cond.selects RX7 yX7_isUpper yX7_isUpper, Cond.code yX7_isUpper cX7_isUpper 5 (some .boolean), Cond.methodLink RX7 159 yX7_memberFaults, Cond.instanceMethod yX7_memberFaults, Cond.selects RX7 yX7_memberFaults yX7_memberFaults, Cond.code yX7_memberFaults cX7_memberFaults 4 none, Cond.fieldLink RX7 81 "ClassRulesModel" "members" "I", Cond.fieldLink RX7 34 "ClassRulesModel" "of" "[I", Cond.methodLink RX7 112 yX7_areLike, Cond.instanceMethod yX7_areLike, Cond.selects RX7 yX7_areLike yX7_areLike, Cond.code yX7_areLike cX7_areLike 3 (some .boolean), Cond.fieldLink RX7 37 "ClassRulesModel" "name" "[I", Cond.fieldLink RX7 40 "ClassRulesModel" "params" "[I", Cond.methodLink RX7 115 yX7_isWrong]
def wsX7_faultsOf_r4 : List Cond := [Cond.instanceMethod yX7_isWrong, Cond.selects RX7 yX7_isWrong yX7_isWrong, Cond.code yX7_isWrong cX7_isWrong 6 (some .boolean), Cond.fieldLink RX7 46 "ClassRulesModel" "access" "[I", Cond.methodLink RX7 87 yX7_is, Cond.instanceMethod yX7_is, Cond.selects RX7 yX7_is yX7_is, Cond.code yX7_is cX7_is 4 (some .boolean), Cond.fieldLink RX7 43 "ClassRulesModel" "mMarks" "[I", Cond.methodLink RX7 162 yX7_overFaults, Cond.instanceMethod yX7_overFaults, Cond.selects RX7 yX7_overFaults yX7_overFaults, Cond.code yX7_overFaults cX7_overFaults 4 none, Cond.fieldLink RX7 49 "ClassRulesModel" "result" "[I", Cond.methodLink RX7 121 yX7_isShared, Cond.instanceMethod yX7_isShared, Cond.selects RX7 yX7_isShared yX7_isShared, Cond.code yX7_isShared cX7_isShared 4 (some .boolean), Cond.fieldLink RX7 16 "ClassRulesModel" "pack" "[I", Cond.methodLink RX7 124 yX7_fitsResult, Cond.instanceMethod yX7_fitsResult, Cond.selects RX7 yX7_fitsResult yX7_fitsResult, Cond.code yX7_fitsResult cX7_fitsResult 3 (some .boolean), Cond.methodLink RX7 118 yX7_isOf]
def wsX7_faultsOf_r5 : List Cond := [Cond.instanceMethod yX7_isOf, Cond.selects RX7 yX7_isOf yX7_isOf, Cond.code yX7_isOf cX7_isOf 3 (some .boolean), Cond.methodLink RX7 165 yX7_givenFaults, Cond.instanceMethod yX7_givenFaults, Cond.selects RX7 yX7_givenFaults yX7_givenFaults, Cond.code yX7_givenFaults cX7_givenFaults 7 none, Cond.fieldLink RX7 127 "ClassRulesModel" "faceMany" "I", Cond.methodLink RX7 134 yX7_classOne, Cond.instanceMethod yX7_classOne, Cond.selects RX7 yX7_classOne yX7_classOne, Cond.code yX7_classOne cX7_classOne 7 (some .int), Cond.methodLink RX7 137 yX7_findFaceOnes, Cond.instanceMethod yX7_findFaceOnes, Cond.selects RX7 yX7_findFaceOnes yX7_findFaceOnes, Cond.code yX7_findFaceOnes cX7_findFaceOnes 7 none, Cond.fieldLink RX7 59 "ClassRulesModel" "faceOnes" "[I", Cond.methodLink RX7 130 yX7_ofFace, Cond.instanceMethod yX7_ofFace, Cond.selects RX7 yX7_ofFace yX7_ofFace, Cond.code yX7_ofFace cX7_ofFace 5 (some .int), Cond.methodLink RX7 141 yX7_hasDefault, Cond.instanceMethod yX7_hasDefault, Cond.selects RX7 yX7_hasDefault yX7_hasDefault]
def wsX7_faultsOf_r6 : List Cond := [Cond.code yX7_hasDefault cX7_hasDefault 3 (some .boolean), Cond.methodLink RX7 145 yX7_leastFaceOne, Cond.instanceMethod yX7_leastFaceOne, Cond.selects RX7 yX7_leastFaceOne yX7_leastFaceOne, Cond.code yX7_leastFaceOne cX7_leastFaceOne 6 (some .int)]
def wsX7_faultsOf : List Cond := .code yX7_faultsOf cX7_faultsOf 4 none :: ((wsX7_faultsOf_r1 ++ (wsX7_faultsOf_r2 ++ (wsX7_faultsOf_r3 ++ (wsX7_faultsOf_r4 ++ (wsX7_faultsOf_r5 ++ wsX7_faultsOf_r6))))) ++ wsX70)
def wsX7_count : List Cond := .code yX7_count cX7_count 3 (some .int) :: ([.fieldLink RX7 56 "ClassRulesModel" "fault" "[Z"] ++ wsX70)
def wsX7_faults_r1 : List Cond := [Cond.methodLink RX7 77 yX7_isType, Cond.instanceMethod yX7_isType, Cond.selects RX7 yX7_isType yX7_isType, Cond.initialized RX7, Cond.code yX7_isType cX7_isType 2 (some .boolean), Cond.fieldLink RX7 65 "ClassRulesModel" "types" "I", Cond.methodLink RX7 69 yX7_in, Cond.static yX7_in, Cond.code yX7_in cX7_in 3 (some .boolean), Cond.methodLink RX7 168 yX7_faultsOf, Cond.instanceMethod yX7_faultsOf, Cond.selects RX7 yX7_faultsOf yX7_faultsOf, Cond.code yX7_faultsOf cX7_faultsOf 4 none, Cond.fieldLink RX7 52 "ClassRulesModel" "above" "[Z", Cond.methodLink RX7 84 yX7_know, Cond.instanceMethod yX7_know, Cond.selects RX7 yX7_know yX7_know, Cond.code yX7_know cX7_know 4 none, Cond.fieldLink RX7 73 "ClassRulesModel" "known" "Z", Cond.fieldLink RX7 19 "ClassRulesModel" "parent" "[I", Cond.fieldLink RX7 25 "ClassRulesModel" "upperMany" "[I", Cond.fieldLink RX7 22 "ClassRulesModel" "uppers" "[I", Cond.methodLink RX7 149 yX7_firstFaults, Cond.instanceMethod yX7_firstFaults]
def wsX7_faults_r2 : List Cond := [Cond.selects RX7 yX7_firstFaults yX7_firstFaults, Cond.code yX7_firstFaults cX7_firstFaults 5 none, Cond.fieldLink RX7 56 "ClassRulesModel" "fault" "[Z", Cond.fieldLink RX7 7 "ClassRulesModel" "kind" "[I", Cond.fieldLink RX7 31 "ClassRulesModel" "permitMany" "[I", Cond.fieldLink RX7 28 "ClassRulesModel" "permits" "[I", Cond.methodLink RX7 91 yX7_mark, Cond.instanceMethod yX7_mark, Cond.selects RX7 yX7_mark yX7_mark, Cond.code yX7_mark cX7_mark 4 none, Cond.methodLink RX7 153 yX7_haveAny, Cond.instanceMethod yX7_haveAny, Cond.selects RX7 yX7_haveAny yX7_haveAny, Cond.code yX7_haveAny cX7_haveAny 3 (some .boolean), Cond.methodLink RX7 156 yX7_typeFaults, Cond.instanceMethod yX7_typeFaults, Cond.selects RX7 yX7_typeFaults yX7_typeFaults, Cond.code yX7_typeFaults cX7_typeFaults 8 none, Cond.fieldLink RX7 13 "ClassRulesModel" "marks" "[I", Cond.methodLink RX7 95 yX7_marked, Cond.instanceMethod yX7_marked, Cond.selects RX7 yX7_marked yX7_marked, Cond.code yX7_marked cX7_marked 3 (some .boolean), Cond.methodLink RX7 102 yX7_sealedBy]
def wsX7_faults_r3 : List Cond := [Cond.instanceMethod yX7_sealedBy, Cond.selects RX7 yX7_sealedBy yX7_sealedBy, Cond.code yX7_sealedBy cX7_sealedBy 4 none, Cond.methodLink RX7 99 yX7_permitsIt, Cond.instanceMethod yX7_permitsIt, Cond.selects RX7 yX7_permitsIt yX7_permitsIt, Cond.code yX7_permitsIt cX7_permitsIt 5 (some .boolean), Cond.methodLink RX7 106 yX7_isSealed, Cond.instanceMethod yX7_isSealed, Cond.selects RX7 yX7_isSealed yX7_isSealed, Cond.code yX7_isSealed cX7_isSealed 2 (some .boolean), Cond.methodLink RX7 109 yX7_isUpper, Cond.instanceMethod yX7_isUpper, Cond.selects RX7 yX7_isUpper yX7_isUpper, Cond.code yX7_isUpper cX7_isUpper 5 (some .boolean), Cond.methodLink RX7 159 yX7_memberFaults, Cond.instanceMethod yX7_memberFaults, Cond.selects RX7 yX7_memberFaults yX7_memberFaults, Cond.code yX7_memberFaults cX7_memberFaults 4 none, Cond.fieldLink RX7 81 "ClassRulesModel" "members" "I", Cond.fieldLink RX7 34 "ClassRulesModel" "of" "[I", Cond.methodLink RX7 112 yX7_areLike, Cond.instanceMethod yX7_areLike, Cond.selects RX7 yX7_areLike yX7_areLike]
def wsX7_faults_r4 : List Cond := [Cond.code yX7_areLike cX7_areLike 3 (some .boolean), Cond.fieldLink RX7 37 "ClassRulesModel" "name" "[I", Cond.fieldLink RX7 40 "ClassRulesModel" "params" "[I", Cond.methodLink RX7 115 yX7_isWrong, Cond.instanceMethod yX7_isWrong, Cond.selects RX7 yX7_isWrong yX7_isWrong, Cond.code yX7_isWrong cX7_isWrong 6 (some .boolean), Cond.fieldLink RX7 46 "ClassRulesModel" "access" "[I", Cond.methodLink RX7 87 yX7_is, Cond.instanceMethod yX7_is, Cond.selects RX7 yX7_is yX7_is, Cond.code yX7_is cX7_is 4 (some .boolean), Cond.fieldLink RX7 43 "ClassRulesModel" "mMarks" "[I", Cond.methodLink RX7 162 yX7_overFaults, Cond.instanceMethod yX7_overFaults, Cond.selects RX7 yX7_overFaults yX7_overFaults, Cond.code yX7_overFaults cX7_overFaults 4 none, Cond.fieldLink RX7 49 "ClassRulesModel" "result" "[I", Cond.methodLink RX7 121 yX7_isShared, Cond.instanceMethod yX7_isShared, Cond.selects RX7 yX7_isShared yX7_isShared, Cond.code yX7_isShared cX7_isShared 4 (some .boolean), Cond.fieldLink RX7 16 "ClassRulesModel" "pack" "[I", Cond.methodLink RX7 124 yX7_fitsResult]
def wsX7_faults_r5 : List Cond := [Cond.instanceMethod yX7_fitsResult, Cond.selects RX7 yX7_fitsResult yX7_fitsResult, Cond.code yX7_fitsResult cX7_fitsResult 3 (some .boolean), Cond.methodLink RX7 118 yX7_isOf, Cond.instanceMethod yX7_isOf, Cond.selects RX7 yX7_isOf yX7_isOf, Cond.code yX7_isOf cX7_isOf 3 (some .boolean), Cond.methodLink RX7 165 yX7_givenFaults, Cond.instanceMethod yX7_givenFaults, Cond.selects RX7 yX7_givenFaults yX7_givenFaults, Cond.code yX7_givenFaults cX7_givenFaults 7 none, Cond.fieldLink RX7 127 "ClassRulesModel" "faceMany" "I", Cond.methodLink RX7 134 yX7_classOne, Cond.instanceMethod yX7_classOne, Cond.selects RX7 yX7_classOne yX7_classOne, Cond.code yX7_classOne cX7_classOne 7 (some .int), Cond.methodLink RX7 137 yX7_findFaceOnes, Cond.instanceMethod yX7_findFaceOnes, Cond.selects RX7 yX7_findFaceOnes yX7_findFaceOnes, Cond.code yX7_findFaceOnes cX7_findFaceOnes 7 none, Cond.fieldLink RX7 59 "ClassRulesModel" "faceOnes" "[I", Cond.methodLink RX7 130 yX7_ofFace, Cond.instanceMethod yX7_ofFace, Cond.selects RX7 yX7_ofFace yX7_ofFace]
def wsX7_faults_r6 : List Cond := [Cond.code yX7_ofFace cX7_ofFace 5 (some .int), Cond.methodLink RX7 141 yX7_hasDefault, Cond.instanceMethod yX7_hasDefault, Cond.selects RX7 yX7_hasDefault yX7_hasDefault, Cond.code yX7_hasDefault cX7_hasDefault 3 (some .boolean), Cond.methodLink RX7 145 yX7_leastFaceOne, Cond.instanceMethod yX7_leastFaceOne, Cond.selects RX7 yX7_leastFaceOne yX7_leastFaceOne, Cond.code yX7_leastFaceOne cX7_leastFaceOne 6 (some .int), Cond.methodLink RX7 171 yX7_count, Cond.instanceMethod yX7_count, Cond.selects RX7 yX7_count yX7_count, Cond.code yX7_count cX7_count 3 (some .int)]
def wsX7_faults : List Cond := .code yX7_faults cX7_faults 2 (some .int) :: ((wsX7_faults_r1 ++ (wsX7_faults_r2 ++ (wsX7_faults_r3 ++ (wsX7_faults_r4 ++ (wsX7_faults_r5 ++ wsX7_faults_r6))))) ++ wsX70)
def wsX7_fault_r1 : List Cond := [Cond.fieldLink RX7 56 "ClassRulesModel" "fault" "[Z", Cond.methodLink RX7 77 yX7_isType, Cond.instanceMethod yX7_isType, Cond.selects RX7 yX7_isType yX7_isType, Cond.initialized RX7, Cond.code yX7_isType cX7_isType 2 (some .boolean), Cond.fieldLink RX7 65 "ClassRulesModel" "types" "I", Cond.methodLink RX7 69 yX7_in, Cond.static yX7_in, Cond.code yX7_in cX7_in 3 (some .boolean), Cond.methodLink RX7 168 yX7_faultsOf, Cond.instanceMethod yX7_faultsOf, Cond.selects RX7 yX7_faultsOf yX7_faultsOf, Cond.code yX7_faultsOf cX7_faultsOf 4 none, Cond.fieldLink RX7 52 "ClassRulesModel" "above" "[Z", Cond.methodLink RX7 84 yX7_know, Cond.instanceMethod yX7_know, Cond.selects RX7 yX7_know yX7_know, Cond.code yX7_know cX7_know 4 none, Cond.fieldLink RX7 73 "ClassRulesModel" "known" "Z", Cond.fieldLink RX7 19 "ClassRulesModel" "parent" "[I", Cond.fieldLink RX7 25 "ClassRulesModel" "upperMany" "[I", Cond.fieldLink RX7 22 "ClassRulesModel" "uppers" "[I", Cond.methodLink RX7 149 yX7_firstFaults]
def wsX7_fault_r2 : List Cond := [Cond.instanceMethod yX7_firstFaults, Cond.selects RX7 yX7_firstFaults yX7_firstFaults, Cond.code yX7_firstFaults cX7_firstFaults 5 none, Cond.fieldLink RX7 7 "ClassRulesModel" "kind" "[I", Cond.fieldLink RX7 31 "ClassRulesModel" "permitMany" "[I", Cond.fieldLink RX7 28 "ClassRulesModel" "permits" "[I", Cond.methodLink RX7 91 yX7_mark, Cond.instanceMethod yX7_mark, Cond.selects RX7 yX7_mark yX7_mark, Cond.code yX7_mark cX7_mark 4 none, Cond.methodLink RX7 153 yX7_haveAny, Cond.instanceMethod yX7_haveAny, Cond.selects RX7 yX7_haveAny yX7_haveAny, Cond.code yX7_haveAny cX7_haveAny 3 (some .boolean), Cond.methodLink RX7 156 yX7_typeFaults, Cond.instanceMethod yX7_typeFaults, Cond.selects RX7 yX7_typeFaults yX7_typeFaults, Cond.code yX7_typeFaults cX7_typeFaults 8 none, Cond.fieldLink RX7 13 "ClassRulesModel" "marks" "[I", Cond.methodLink RX7 95 yX7_marked, Cond.instanceMethod yX7_marked, Cond.selects RX7 yX7_marked yX7_marked, Cond.code yX7_marked cX7_marked 3 (some .boolean), Cond.methodLink RX7 102 yX7_sealedBy]
def wsX7_fault_r3 : List Cond := [Cond.instanceMethod yX7_sealedBy, Cond.selects RX7 yX7_sealedBy yX7_sealedBy, Cond.code yX7_sealedBy cX7_sealedBy 4 none, Cond.methodLink RX7 99 yX7_permitsIt, Cond.instanceMethod yX7_permitsIt, Cond.selects RX7 yX7_permitsIt yX7_permitsIt, Cond.code yX7_permitsIt cX7_permitsIt 5 (some .boolean), Cond.methodLink RX7 106 yX7_isSealed, Cond.instanceMethod yX7_isSealed, Cond.selects RX7 yX7_isSealed yX7_isSealed, Cond.code yX7_isSealed cX7_isSealed 2 (some .boolean), Cond.methodLink RX7 109 yX7_isUpper, Cond.instanceMethod yX7_isUpper, Cond.selects RX7 yX7_isUpper yX7_isUpper, Cond.code yX7_isUpper cX7_isUpper 5 (some .boolean), Cond.methodLink RX7 159 yX7_memberFaults, Cond.instanceMethod yX7_memberFaults, Cond.selects RX7 yX7_memberFaults yX7_memberFaults, Cond.code yX7_memberFaults cX7_memberFaults 4 none, Cond.fieldLink RX7 81 "ClassRulesModel" "members" "I", Cond.fieldLink RX7 34 "ClassRulesModel" "of" "[I", Cond.methodLink RX7 112 yX7_areLike, Cond.instanceMethod yX7_areLike, Cond.selects RX7 yX7_areLike yX7_areLike]
def wsX7_fault_r4 : List Cond := [Cond.code yX7_areLike cX7_areLike 3 (some .boolean), Cond.fieldLink RX7 37 "ClassRulesModel" "name" "[I", Cond.fieldLink RX7 40 "ClassRulesModel" "params" "[I", Cond.methodLink RX7 115 yX7_isWrong, Cond.instanceMethod yX7_isWrong, Cond.selects RX7 yX7_isWrong yX7_isWrong, Cond.code yX7_isWrong cX7_isWrong 6 (some .boolean), Cond.fieldLink RX7 46 "ClassRulesModel" "access" "[I", Cond.methodLink RX7 87 yX7_is, Cond.instanceMethod yX7_is, Cond.selects RX7 yX7_is yX7_is, Cond.code yX7_is cX7_is 4 (some .boolean), Cond.fieldLink RX7 43 "ClassRulesModel" "mMarks" "[I", Cond.methodLink RX7 162 yX7_overFaults, Cond.instanceMethod yX7_overFaults, Cond.selects RX7 yX7_overFaults yX7_overFaults, Cond.code yX7_overFaults cX7_overFaults 4 none, Cond.fieldLink RX7 49 "ClassRulesModel" "result" "[I", Cond.methodLink RX7 121 yX7_isShared, Cond.instanceMethod yX7_isShared, Cond.selects RX7 yX7_isShared yX7_isShared, Cond.code yX7_isShared cX7_isShared 4 (some .boolean), Cond.fieldLink RX7 16 "ClassRulesModel" "pack" "[I", Cond.methodLink RX7 124 yX7_fitsResult]
def wsX7_fault_r5 : List Cond := [Cond.instanceMethod yX7_fitsResult, Cond.selects RX7 yX7_fitsResult yX7_fitsResult, Cond.code yX7_fitsResult cX7_fitsResult 3 (some .boolean), Cond.methodLink RX7 118 yX7_isOf, Cond.instanceMethod yX7_isOf, Cond.selects RX7 yX7_isOf yX7_isOf, Cond.code yX7_isOf cX7_isOf 3 (some .boolean), Cond.methodLink RX7 165 yX7_givenFaults, Cond.instanceMethod yX7_givenFaults, Cond.selects RX7 yX7_givenFaults yX7_givenFaults, Cond.code yX7_givenFaults cX7_givenFaults 7 none, Cond.fieldLink RX7 127 "ClassRulesModel" "faceMany" "I", Cond.methodLink RX7 134 yX7_classOne, Cond.instanceMethod yX7_classOne, Cond.selects RX7 yX7_classOne yX7_classOne, Cond.code yX7_classOne cX7_classOne 7 (some .int), Cond.methodLink RX7 137 yX7_findFaceOnes, Cond.instanceMethod yX7_findFaceOnes, Cond.selects RX7 yX7_findFaceOnes yX7_findFaceOnes, Cond.code yX7_findFaceOnes cX7_findFaceOnes 7 none, Cond.fieldLink RX7 59 "ClassRulesModel" "faceOnes" "[I", Cond.methodLink RX7 130 yX7_ofFace, Cond.instanceMethod yX7_ofFace, Cond.selects RX7 yX7_ofFace yX7_ofFace]
def wsX7_fault_r6 : List Cond := [Cond.code yX7_ofFace cX7_ofFace 5 (some .int), Cond.methodLink RX7 141 yX7_hasDefault, Cond.instanceMethod yX7_hasDefault, Cond.selects RX7 yX7_hasDefault yX7_hasDefault, Cond.code yX7_hasDefault cX7_hasDefault 3 (some .boolean), Cond.methodLink RX7 145 yX7_leastFaceOne, Cond.instanceMethod yX7_leastFaceOne, Cond.selects RX7 yX7_leastFaceOne yX7_leastFaceOne, Cond.code yX7_leastFaceOne cX7_leastFaceOne 6 (some .int)]
def wsX7_fault : List Cond := .code yX7_fault cX7_fault 6 (some .int) :: ((wsX7_fault_r1 ++ (wsX7_fault_r2 ++ (wsX7_fault_r3 ++ (wsX7_fault_r4 ++ (wsX7_fault_r5 ++ wsX7_fault_r6))))) ++ wsX70)
def wsX7_all_r1 : List Cond := [Cond.fieldLink RX7 65 "ClassRulesModel" "types" "I", Cond.methodLink RX7 175 yX7_faults, Cond.instanceMethod yX7_faults, Cond.selects RX7 yX7_faults yX7_faults, Cond.initialized RX7, Cond.code yX7_faults cX7_faults 2 (some .int), Cond.methodLink RX7 77 yX7_isType, Cond.instanceMethod yX7_isType, Cond.selects RX7 yX7_isType yX7_isType, Cond.code yX7_isType cX7_isType 2 (some .boolean), Cond.methodLink RX7 69 yX7_in, Cond.static yX7_in, Cond.code yX7_in cX7_in 3 (some .boolean), Cond.methodLink RX7 168 yX7_faultsOf, Cond.instanceMethod yX7_faultsOf, Cond.selects RX7 yX7_faultsOf yX7_faultsOf, Cond.code yX7_faultsOf cX7_faultsOf 4 none, Cond.fieldLink RX7 52 "ClassRulesModel" "above" "[Z", Cond.methodLink RX7 84 yX7_know, Cond.instanceMethod yX7_know, Cond.selects RX7 yX7_know yX7_know, Cond.code yX7_know cX7_know 4 none, Cond.fieldLink RX7 73 "ClassRulesModel" "known" "Z", Cond.fieldLink RX7 19 "ClassRulesModel" "parent" "[I"]
def wsX7_all_r2 : List Cond := [Cond.fieldLink RX7 25 "ClassRulesModel" "upperMany" "[I", Cond.fieldLink RX7 22 "ClassRulesModel" "uppers" "[I", Cond.methodLink RX7 149 yX7_firstFaults, Cond.instanceMethod yX7_firstFaults, Cond.selects RX7 yX7_firstFaults yX7_firstFaults, Cond.code yX7_firstFaults cX7_firstFaults 5 none, Cond.fieldLink RX7 56 "ClassRulesModel" "fault" "[Z", Cond.fieldLink RX7 7 "ClassRulesModel" "kind" "[I", Cond.fieldLink RX7 31 "ClassRulesModel" "permitMany" "[I", Cond.fieldLink RX7 28 "ClassRulesModel" "permits" "[I", Cond.methodLink RX7 91 yX7_mark, Cond.instanceMethod yX7_mark, Cond.selects RX7 yX7_mark yX7_mark, Cond.code yX7_mark cX7_mark 4 none, Cond.methodLink RX7 153 yX7_haveAny, Cond.instanceMethod yX7_haveAny, Cond.selects RX7 yX7_haveAny yX7_haveAny, Cond.code yX7_haveAny cX7_haveAny 3 (some .boolean), Cond.methodLink RX7 156 yX7_typeFaults, Cond.instanceMethod yX7_typeFaults, Cond.selects RX7 yX7_typeFaults yX7_typeFaults, Cond.code yX7_typeFaults cX7_typeFaults 8 none, Cond.fieldLink RX7 13 "ClassRulesModel" "marks" "[I", Cond.methodLink RX7 95 yX7_marked]
def wsX7_all_r3 : List Cond := [Cond.instanceMethod yX7_marked, Cond.selects RX7 yX7_marked yX7_marked, Cond.code yX7_marked cX7_marked 3 (some .boolean), Cond.methodLink RX7 102 yX7_sealedBy, Cond.instanceMethod yX7_sealedBy, Cond.selects RX7 yX7_sealedBy yX7_sealedBy, Cond.code yX7_sealedBy cX7_sealedBy 4 none, Cond.methodLink RX7 99 yX7_permitsIt, Cond.instanceMethod yX7_permitsIt, Cond.selects RX7 yX7_permitsIt yX7_permitsIt, Cond.code yX7_permitsIt cX7_permitsIt 5 (some .boolean), Cond.methodLink RX7 106 yX7_isSealed, Cond.instanceMethod yX7_isSealed, Cond.selects RX7 yX7_isSealed yX7_isSealed, Cond.code yX7_isSealed cX7_isSealed 2 (some .boolean), Cond.methodLink RX7 109 yX7_isUpper, Cond.instanceMethod yX7_isUpper, Cond.selects RX7 yX7_isUpper yX7_isUpper, Cond.code yX7_isUpper cX7_isUpper 5 (some .boolean), Cond.methodLink RX7 159 yX7_memberFaults, Cond.instanceMethod yX7_memberFaults, Cond.selects RX7 yX7_memberFaults yX7_memberFaults, Cond.code yX7_memberFaults cX7_memberFaults 4 none, Cond.fieldLink RX7 81 "ClassRulesModel" "members" "I"]
def wsX7_all_r4 : List Cond := [Cond.fieldLink RX7 34 "ClassRulesModel" "of" "[I", Cond.methodLink RX7 112 yX7_areLike, Cond.instanceMethod yX7_areLike, Cond.selects RX7 yX7_areLike yX7_areLike, Cond.code yX7_areLike cX7_areLike 3 (some .boolean), Cond.fieldLink RX7 37 "ClassRulesModel" "name" "[I", Cond.fieldLink RX7 40 "ClassRulesModel" "params" "[I", Cond.methodLink RX7 115 yX7_isWrong, Cond.instanceMethod yX7_isWrong, Cond.selects RX7 yX7_isWrong yX7_isWrong, Cond.code yX7_isWrong cX7_isWrong 6 (some .boolean), Cond.fieldLink RX7 46 "ClassRulesModel" "access" "[I", Cond.methodLink RX7 87 yX7_is, Cond.instanceMethod yX7_is, Cond.selects RX7 yX7_is yX7_is, Cond.code yX7_is cX7_is 4 (some .boolean), Cond.fieldLink RX7 43 "ClassRulesModel" "mMarks" "[I", Cond.methodLink RX7 162 yX7_overFaults, Cond.instanceMethod yX7_overFaults, Cond.selects RX7 yX7_overFaults yX7_overFaults, Cond.code yX7_overFaults cX7_overFaults 4 none, Cond.fieldLink RX7 49 "ClassRulesModel" "result" "[I", Cond.methodLink RX7 121 yX7_isShared, Cond.instanceMethod yX7_isShared]
def wsX7_all_r5 : List Cond := [Cond.selects RX7 yX7_isShared yX7_isShared, Cond.code yX7_isShared cX7_isShared 4 (some .boolean), Cond.fieldLink RX7 16 "ClassRulesModel" "pack" "[I", Cond.methodLink RX7 124 yX7_fitsResult, Cond.instanceMethod yX7_fitsResult, Cond.selects RX7 yX7_fitsResult yX7_fitsResult, Cond.code yX7_fitsResult cX7_fitsResult 3 (some .boolean), Cond.methodLink RX7 118 yX7_isOf, Cond.instanceMethod yX7_isOf, Cond.selects RX7 yX7_isOf yX7_isOf, Cond.code yX7_isOf cX7_isOf 3 (some .boolean), Cond.methodLink RX7 165 yX7_givenFaults, Cond.instanceMethod yX7_givenFaults, Cond.selects RX7 yX7_givenFaults yX7_givenFaults, Cond.code yX7_givenFaults cX7_givenFaults 7 none, Cond.fieldLink RX7 127 "ClassRulesModel" "faceMany" "I", Cond.methodLink RX7 134 yX7_classOne, Cond.instanceMethod yX7_classOne, Cond.selects RX7 yX7_classOne yX7_classOne, Cond.code yX7_classOne cX7_classOne 7 (some .int), Cond.methodLink RX7 137 yX7_findFaceOnes, Cond.instanceMethod yX7_findFaceOnes, Cond.selects RX7 yX7_findFaceOnes yX7_findFaceOnes, Cond.code yX7_findFaceOnes cX7_findFaceOnes 7 none]
def wsX7_all_r6 : List Cond := [Cond.fieldLink RX7 59 "ClassRulesModel" "faceOnes" "[I", Cond.methodLink RX7 130 yX7_ofFace, Cond.instanceMethod yX7_ofFace, Cond.selects RX7 yX7_ofFace yX7_ofFace, Cond.code yX7_ofFace cX7_ofFace 5 (some .int), Cond.methodLink RX7 141 yX7_hasDefault, Cond.instanceMethod yX7_hasDefault, Cond.selects RX7 yX7_hasDefault yX7_hasDefault, Cond.code yX7_hasDefault cX7_hasDefault 3 (some .boolean), Cond.methodLink RX7 145 yX7_leastFaceOne, Cond.instanceMethod yX7_leastFaceOne, Cond.selects RX7 yX7_leastFaceOne yX7_leastFaceOne, Cond.code yX7_leastFaceOne cX7_leastFaceOne 6 (some .int), Cond.methodLink RX7 171 yX7_count, Cond.instanceMethod yX7_count, Cond.selects RX7 yX7_count yX7_count, Cond.code yX7_count cX7_count 3 (some .int)]
def wsX7_all : List Cond := .code yX7_all cX7_all 3 (some .int) :: ((wsX7_all_r1 ++ (wsX7_all_r2 ++ (wsX7_all_r3 ++ (wsX7_all_r4 ++ (wsX7_all_r5 ++ wsX7_all_r6))))) ++ wsX70)
def wsX7_is_ : List Cond := .code yX7_is_ cX7_is_ 3 (some .int) :: ([.methodLink RX7 77 yX7_isType, .instanceMethod yX7_isType, .selects RX7 yX7_isType yX7_isType, .initialized RX7, .code yX7_isType cX7_isType 2 (some .boolean), .fieldLink RX7 65 "ClassRulesModel" "types" "I", .methodLink RX7 69 yX7_in, .static yX7_in, .code yX7_in cX7_in 3 (some .boolean), .methodLink RX7 118 yX7_isOf, .instanceMethod yX7_isOf, .selects RX7 yX7_isOf yX7_isOf, .code yX7_isOf cX7_isOf 3 (some .boolean), .fieldLink RX7 52 "ClassRulesModel" "above" "[Z", .methodLink RX7 84 yX7_know, .instanceMethod yX7_know, .selects RX7 yX7_know yX7_know, .code yX7_know cX7_know 4 none, .fieldLink RX7 73 "ClassRulesModel" "known" "Z", .fieldLink RX7 19 "ClassRulesModel" "parent" "[I", .fieldLink RX7 25 "ClassRulesModel" "upperMany" "[I", .fieldLink RX7 22 "ClassRulesModel" "uppers" "[I"] ++ wsX70)
def wsX7_isWrongType_r1 : List Cond := [Cond.fieldLink RX7 7 "ClassRulesModel" "kind" "[I", Cond.fieldLink RX7 65 "ClassRulesModel" "types" "I", Cond.methodLink RX7 95 yX7_marked, Cond.instanceMethod yX7_marked, Cond.selects RX7 yX7_marked yX7_marked, Cond.initialized RX7, Cond.code yX7_marked cX7_marked 3 (some .boolean), Cond.fieldLink RX7 13 "ClassRulesModel" "marks" "[I", Cond.methodLink RX7 118 yX7_isOf, Cond.instanceMethod yX7_isOf, Cond.selects RX7 yX7_isOf yX7_isOf, Cond.code yX7_isOf cX7_isOf 3 (some .boolean), Cond.fieldLink RX7 52 "ClassRulesModel" "above" "[Z", Cond.methodLink RX7 84 yX7_know, Cond.instanceMethod yX7_know, Cond.selects RX7 yX7_know yX7_know, Cond.code yX7_know cX7_know 4 none, Cond.fieldLink RX7 73 "ClassRulesModel" "known" "Z", Cond.fieldLink RX7 19 "ClassRulesModel" "parent" "[I", Cond.fieldLink RX7 25 "ClassRulesModel" "upperMany" "[I", Cond.fieldLink RX7 22 "ClassRulesModel" "uppers" "[I", Cond.methodLink RX7 77 yX7_isType, Cond.instanceMethod yX7_isType, Cond.selects RX7 yX7_isType yX7_isType]
def wsX7_isWrongType_r2 : List Cond := [Cond.code yX7_isType cX7_isType 2 (some .boolean), Cond.methodLink RX7 69 yX7_in, Cond.static yX7_in, Cond.code yX7_in cX7_in 3 (some .boolean), Cond.methodLink RX7 168 yX7_faultsOf, Cond.instanceMethod yX7_faultsOf, Cond.selects RX7 yX7_faultsOf yX7_faultsOf, Cond.code yX7_faultsOf cX7_faultsOf 4 none, Cond.methodLink RX7 149 yX7_firstFaults, Cond.instanceMethod yX7_firstFaults, Cond.selects RX7 yX7_firstFaults yX7_firstFaults, Cond.code yX7_firstFaults cX7_firstFaults 5 none, Cond.fieldLink RX7 56 "ClassRulesModel" "fault" "[Z", Cond.fieldLink RX7 31 "ClassRulesModel" "permitMany" "[I", Cond.fieldLink RX7 28 "ClassRulesModel" "permits" "[I", Cond.methodLink RX7 91 yX7_mark, Cond.instanceMethod yX7_mark, Cond.selects RX7 yX7_mark yX7_mark, Cond.code yX7_mark cX7_mark 4 none, Cond.methodLink RX7 153 yX7_haveAny, Cond.instanceMethod yX7_haveAny, Cond.selects RX7 yX7_haveAny yX7_haveAny, Cond.code yX7_haveAny cX7_haveAny 3 (some .boolean), Cond.methodLink RX7 156 yX7_typeFaults]
def wsX7_isWrongType_r3 : List Cond := [Cond.instanceMethod yX7_typeFaults, Cond.selects RX7 yX7_typeFaults yX7_typeFaults, Cond.code yX7_typeFaults cX7_typeFaults 8 none, Cond.methodLink RX7 102 yX7_sealedBy, Cond.instanceMethod yX7_sealedBy, Cond.selects RX7 yX7_sealedBy yX7_sealedBy, Cond.code yX7_sealedBy cX7_sealedBy 4 none, Cond.methodLink RX7 99 yX7_permitsIt, Cond.instanceMethod yX7_permitsIt, Cond.selects RX7 yX7_permitsIt yX7_permitsIt, Cond.code yX7_permitsIt cX7_permitsIt 5 (some .boolean), Cond.methodLink RX7 106 yX7_isSealed, Cond.instanceMethod yX7_isSealed, Cond.selects RX7 yX7_isSealed yX7_isSealed, Cond.code yX7_isSealed cX7_isSealed 2 (some .boolean), Cond.methodLink RX7 109 yX7_isUpper, Cond.instanceMethod yX7_isUpper, Cond.selects RX7 yX7_isUpper yX7_isUpper, Cond.code yX7_isUpper cX7_isUpper 5 (some .boolean), Cond.methodLink RX7 159 yX7_memberFaults, Cond.instanceMethod yX7_memberFaults, Cond.selects RX7 yX7_memberFaults yX7_memberFaults, Cond.code yX7_memberFaults cX7_memberFaults 4 none, Cond.fieldLink RX7 81 "ClassRulesModel" "members" "I"]
def wsX7_isWrongType_r4 : List Cond := [Cond.fieldLink RX7 34 "ClassRulesModel" "of" "[I", Cond.methodLink RX7 112 yX7_areLike, Cond.instanceMethod yX7_areLike, Cond.selects RX7 yX7_areLike yX7_areLike, Cond.code yX7_areLike cX7_areLike 3 (some .boolean), Cond.fieldLink RX7 37 "ClassRulesModel" "name" "[I", Cond.fieldLink RX7 40 "ClassRulesModel" "params" "[I", Cond.methodLink RX7 115 yX7_isWrong, Cond.instanceMethod yX7_isWrong, Cond.selects RX7 yX7_isWrong yX7_isWrong, Cond.code yX7_isWrong cX7_isWrong 6 (some .boolean), Cond.fieldLink RX7 46 "ClassRulesModel" "access" "[I", Cond.methodLink RX7 87 yX7_is, Cond.instanceMethod yX7_is, Cond.selects RX7 yX7_is yX7_is, Cond.code yX7_is cX7_is 4 (some .boolean), Cond.fieldLink RX7 43 "ClassRulesModel" "mMarks" "[I", Cond.methodLink RX7 162 yX7_overFaults, Cond.instanceMethod yX7_overFaults, Cond.selects RX7 yX7_overFaults yX7_overFaults, Cond.code yX7_overFaults cX7_overFaults 4 none, Cond.fieldLink RX7 49 "ClassRulesModel" "result" "[I", Cond.methodLink RX7 121 yX7_isShared, Cond.instanceMethod yX7_isShared]
def wsX7_isWrongType_r5 : List Cond := [Cond.selects RX7 yX7_isShared yX7_isShared, Cond.code yX7_isShared cX7_isShared 4 (some .boolean), Cond.fieldLink RX7 16 "ClassRulesModel" "pack" "[I", Cond.methodLink RX7 124 yX7_fitsResult, Cond.instanceMethod yX7_fitsResult, Cond.selects RX7 yX7_fitsResult yX7_fitsResult, Cond.code yX7_fitsResult cX7_fitsResult 3 (some .boolean), Cond.methodLink RX7 165 yX7_givenFaults, Cond.instanceMethod yX7_givenFaults, Cond.selects RX7 yX7_givenFaults yX7_givenFaults, Cond.code yX7_givenFaults cX7_givenFaults 7 none, Cond.fieldLink RX7 127 "ClassRulesModel" "faceMany" "I", Cond.methodLink RX7 134 yX7_classOne, Cond.instanceMethod yX7_classOne, Cond.selects RX7 yX7_classOne yX7_classOne, Cond.code yX7_classOne cX7_classOne 7 (some .int), Cond.methodLink RX7 137 yX7_findFaceOnes, Cond.instanceMethod yX7_findFaceOnes, Cond.selects RX7 yX7_findFaceOnes yX7_findFaceOnes, Cond.code yX7_findFaceOnes cX7_findFaceOnes 7 none, Cond.fieldLink RX7 59 "ClassRulesModel" "faceOnes" "[I", Cond.methodLink RX7 130 yX7_ofFace, Cond.instanceMethod yX7_ofFace, Cond.selects RX7 yX7_ofFace yX7_ofFace]
def wsX7_isWrongType_r6 : List Cond := [Cond.code yX7_ofFace cX7_ofFace 5 (some .int), Cond.methodLink RX7 141 yX7_hasDefault, Cond.instanceMethod yX7_hasDefault, Cond.selects RX7 yX7_hasDefault yX7_hasDefault, Cond.code yX7_hasDefault cX7_hasDefault 3 (some .boolean), Cond.methodLink RX7 145 yX7_leastFaceOne, Cond.instanceMethod yX7_leastFaceOne, Cond.selects RX7 yX7_leastFaceOne yX7_leastFaceOne, Cond.code yX7_leastFaceOne cX7_leastFaceOne 6 (some .int)]
def wsX7_isWrongType : List Cond := .code yX7_isWrongType cX7_isWrongType 4 (some .boolean) :: ((wsX7_isWrongType_r1 ++ (wsX7_isWrongType_r2 ++ (wsX7_isWrongType_r3 ++ (wsX7_isWrongType_r4 ++ (wsX7_isWrongType_r5 ++ wsX7_isWrongType_r6))))) ++ wsX70)
def wsX7_running_r1 : List Cond := [Cond.fieldLink RX7 127 "ClassRulesModel" "faceMany" "I", Cond.fieldLink RX7 59 "ClassRulesModel" "faceOnes" "[I", Cond.methodLink RX7 134 yX7_classOne, Cond.instanceMethod yX7_classOne, Cond.selects RX7 yX7_classOne yX7_classOne, Cond.initialized RX7, Cond.code yX7_classOne cX7_classOne 7 (some .int), Cond.fieldLink RX7 7 "ClassRulesModel" "kind" "[I", Cond.fieldLink RX7 81 "ClassRulesModel" "members" "I", Cond.fieldLink RX7 34 "ClassRulesModel" "of" "[I", Cond.fieldLink RX7 37 "ClassRulesModel" "name" "[I", Cond.fieldLink RX7 40 "ClassRulesModel" "params" "[I", Cond.fieldLink RX7 19 "ClassRulesModel" "parent" "[I", Cond.methodLink RX7 77 yX7_isType, Cond.instanceMethod yX7_isType, Cond.selects RX7 yX7_isType yX7_isType, Cond.code yX7_isType cX7_isType 2 (some .boolean), Cond.fieldLink RX7 65 "ClassRulesModel" "types" "I", Cond.methodLink RX7 69 yX7_in, Cond.static yX7_in, Cond.code yX7_in cX7_in 3 (some .boolean), Cond.methodLink RX7 87 yX7_is, Cond.instanceMethod yX7_is, Cond.selects RX7 yX7_is yX7_is]
def wsX7_running_r2 : List Cond := [Cond.code yX7_is cX7_is 4 (some .boolean), Cond.fieldLink RX7 43 "ClassRulesModel" "mMarks" "[I", Cond.methodLink RX7 121 yX7_isShared, Cond.instanceMethod yX7_isShared, Cond.selects RX7 yX7_isShared yX7_isShared, Cond.code yX7_isShared cX7_isShared 4 (some .boolean), Cond.fieldLink RX7 46 "ClassRulesModel" "access" "[I", Cond.fieldLink RX7 16 "ClassRulesModel" "pack" "[I", Cond.fieldLink RX7 52 "ClassRulesModel" "above" "[Z", Cond.methodLink RX7 84 yX7_know, Cond.instanceMethod yX7_know, Cond.selects RX7 yX7_know yX7_know, Cond.code yX7_know cX7_know 4 none, Cond.fieldLink RX7 73 "ClassRulesModel" "known" "Z", Cond.fieldLink RX7 25 "ClassRulesModel" "upperMany" "[I", Cond.fieldLink RX7 22 "ClassRulesModel" "uppers" "[I", Cond.methodLink RX7 137 yX7_findFaceOnes, Cond.instanceMethod yX7_findFaceOnes, Cond.selects RX7 yX7_findFaceOnes yX7_findFaceOnes, Cond.code yX7_findFaceOnes cX7_findFaceOnes 7 none, Cond.methodLink RX7 118 yX7_isOf, Cond.instanceMethod yX7_isOf, Cond.selects RX7 yX7_isOf yX7_isOf, Cond.code yX7_isOf cX7_isOf 3 (some .boolean)]
def wsX7_running_r3 : List Cond := [Cond.methodLink RX7 130 yX7_ofFace, Cond.instanceMethod yX7_ofFace, Cond.selects RX7 yX7_ofFace yX7_ofFace, Cond.code yX7_ofFace cX7_ofFace 5 (some .int)]
def wsX7_running : List Cond := .code yX7_running cX7_running 5 (some .int) :: ((wsX7_running_r1 ++ (wsX7_running_r2 ++ wsX7_running_r3)) ++ wsX70)
def wsX7_runs_r1 : List Cond := [Cond.methodLink RX7 77 yX7_isType, Cond.instanceMethod yX7_isType, Cond.selects RX7 yX7_isType yX7_isType, Cond.initialized RX7, Cond.code yX7_isType cX7_isType 2 (some .boolean), Cond.fieldLink RX7 65 "ClassRulesModel" "types" "I", Cond.methodLink RX7 69 yX7_in, Cond.static yX7_in, Cond.code yX7_in cX7_in 3 (some .boolean), Cond.methodLink RX7 179 yX7_isWrongType, Cond.instanceMethod yX7_isWrongType, Cond.selects RX7 yX7_isWrongType yX7_isWrongType, Cond.code yX7_isWrongType cX7_isWrongType 4 (some .boolean), Cond.fieldLink RX7 7 "ClassRulesModel" "kind" "[I", Cond.methodLink RX7 95 yX7_marked, Cond.instanceMethod yX7_marked, Cond.selects RX7 yX7_marked yX7_marked, Cond.code yX7_marked cX7_marked 3 (some .boolean), Cond.fieldLink RX7 13 "ClassRulesModel" "marks" "[I", Cond.methodLink RX7 118 yX7_isOf, Cond.instanceMethod yX7_isOf, Cond.selects RX7 yX7_isOf yX7_isOf, Cond.code yX7_isOf cX7_isOf 3 (some .boolean), Cond.fieldLink RX7 52 "ClassRulesModel" "above" "[Z"]
def wsX7_runs_r2 : List Cond := [Cond.methodLink RX7 84 yX7_know, Cond.instanceMethod yX7_know, Cond.selects RX7 yX7_know yX7_know, Cond.code yX7_know cX7_know 4 none, Cond.fieldLink RX7 73 "ClassRulesModel" "known" "Z", Cond.fieldLink RX7 19 "ClassRulesModel" "parent" "[I", Cond.fieldLink RX7 25 "ClassRulesModel" "upperMany" "[I", Cond.fieldLink RX7 22 "ClassRulesModel" "uppers" "[I", Cond.methodLink RX7 168 yX7_faultsOf, Cond.instanceMethod yX7_faultsOf, Cond.selects RX7 yX7_faultsOf yX7_faultsOf, Cond.code yX7_faultsOf cX7_faultsOf 4 none, Cond.methodLink RX7 149 yX7_firstFaults, Cond.instanceMethod yX7_firstFaults, Cond.selects RX7 yX7_firstFaults yX7_firstFaults, Cond.code yX7_firstFaults cX7_firstFaults 5 none, Cond.fieldLink RX7 56 "ClassRulesModel" "fault" "[Z", Cond.fieldLink RX7 31 "ClassRulesModel" "permitMany" "[I", Cond.fieldLink RX7 28 "ClassRulesModel" "permits" "[I", Cond.methodLink RX7 91 yX7_mark, Cond.instanceMethod yX7_mark, Cond.selects RX7 yX7_mark yX7_mark, Cond.code yX7_mark cX7_mark 4 none, Cond.methodLink RX7 153 yX7_haveAny]
def wsX7_runs_r3 : List Cond := [Cond.instanceMethod yX7_haveAny, Cond.selects RX7 yX7_haveAny yX7_haveAny, Cond.code yX7_haveAny cX7_haveAny 3 (some .boolean), Cond.methodLink RX7 156 yX7_typeFaults, Cond.instanceMethod yX7_typeFaults, Cond.selects RX7 yX7_typeFaults yX7_typeFaults, Cond.code yX7_typeFaults cX7_typeFaults 8 none, Cond.methodLink RX7 102 yX7_sealedBy, Cond.instanceMethod yX7_sealedBy, Cond.selects RX7 yX7_sealedBy yX7_sealedBy, Cond.code yX7_sealedBy cX7_sealedBy 4 none, Cond.methodLink RX7 99 yX7_permitsIt, Cond.instanceMethod yX7_permitsIt, Cond.selects RX7 yX7_permitsIt yX7_permitsIt, Cond.code yX7_permitsIt cX7_permitsIt 5 (some .boolean), Cond.methodLink RX7 106 yX7_isSealed, Cond.instanceMethod yX7_isSealed, Cond.selects RX7 yX7_isSealed yX7_isSealed, Cond.code yX7_isSealed cX7_isSealed 2 (some .boolean), Cond.methodLink RX7 109 yX7_isUpper, Cond.instanceMethod yX7_isUpper, Cond.selects RX7 yX7_isUpper yX7_isUpper, Cond.code yX7_isUpper cX7_isUpper 5 (some .boolean), Cond.methodLink RX7 159 yX7_memberFaults]
def wsX7_runs_r4 : List Cond := [Cond.instanceMethod yX7_memberFaults, Cond.selects RX7 yX7_memberFaults yX7_memberFaults, Cond.code yX7_memberFaults cX7_memberFaults 4 none, Cond.fieldLink RX7 81 "ClassRulesModel" "members" "I", Cond.fieldLink RX7 34 "ClassRulesModel" "of" "[I", Cond.methodLink RX7 112 yX7_areLike, Cond.instanceMethod yX7_areLike, Cond.selects RX7 yX7_areLike yX7_areLike, Cond.code yX7_areLike cX7_areLike 3 (some .boolean), Cond.fieldLink RX7 37 "ClassRulesModel" "name" "[I", Cond.fieldLink RX7 40 "ClassRulesModel" "params" "[I", Cond.methodLink RX7 115 yX7_isWrong, Cond.instanceMethod yX7_isWrong, Cond.selects RX7 yX7_isWrong yX7_isWrong, Cond.code yX7_isWrong cX7_isWrong 6 (some .boolean), Cond.fieldLink RX7 46 "ClassRulesModel" "access" "[I", Cond.methodLink RX7 87 yX7_is, Cond.instanceMethod yX7_is, Cond.selects RX7 yX7_is yX7_is, Cond.code yX7_is cX7_is 4 (some .boolean), Cond.fieldLink RX7 43 "ClassRulesModel" "mMarks" "[I", Cond.methodLink RX7 162 yX7_overFaults, Cond.instanceMethod yX7_overFaults, Cond.selects RX7 yX7_overFaults yX7_overFaults]
def wsX7_runs_r5 : List Cond := [Cond.code yX7_overFaults cX7_overFaults 4 none, Cond.fieldLink RX7 49 "ClassRulesModel" "result" "[I", Cond.methodLink RX7 121 yX7_isShared, Cond.instanceMethod yX7_isShared, Cond.selects RX7 yX7_isShared yX7_isShared, Cond.code yX7_isShared cX7_isShared 4 (some .boolean), Cond.fieldLink RX7 16 "ClassRulesModel" "pack" "[I", Cond.methodLink RX7 124 yX7_fitsResult, Cond.instanceMethod yX7_fitsResult, Cond.selects RX7 yX7_fitsResult yX7_fitsResult, Cond.code yX7_fitsResult cX7_fitsResult 3 (some .boolean), Cond.methodLink RX7 165 yX7_givenFaults, Cond.instanceMethod yX7_givenFaults, Cond.selects RX7 yX7_givenFaults yX7_givenFaults, Cond.code yX7_givenFaults cX7_givenFaults 7 none, Cond.fieldLink RX7 127 "ClassRulesModel" "faceMany" "I", Cond.methodLink RX7 134 yX7_classOne, Cond.instanceMethod yX7_classOne, Cond.selects RX7 yX7_classOne yX7_classOne, Cond.code yX7_classOne cX7_classOne 7 (some .int), Cond.methodLink RX7 137 yX7_findFaceOnes, Cond.instanceMethod yX7_findFaceOnes, Cond.selects RX7 yX7_findFaceOnes yX7_findFaceOnes, Cond.code yX7_findFaceOnes cX7_findFaceOnes 7 none]
def wsX7_runs_r6 : List Cond := [Cond.fieldLink RX7 59 "ClassRulesModel" "faceOnes" "[I", Cond.methodLink RX7 130 yX7_ofFace, Cond.instanceMethod yX7_ofFace, Cond.selects RX7 yX7_ofFace yX7_ofFace, Cond.code yX7_ofFace cX7_ofFace 5 (some .int), Cond.methodLink RX7 141 yX7_hasDefault, Cond.instanceMethod yX7_hasDefault, Cond.selects RX7 yX7_hasDefault yX7_hasDefault, Cond.code yX7_hasDefault cX7_hasDefault 3 (some .boolean), Cond.methodLink RX7 145 yX7_leastFaceOne, Cond.instanceMethod yX7_leastFaceOne, Cond.selects RX7 yX7_leastFaceOne yX7_leastFaceOne, Cond.code yX7_leastFaceOne cX7_leastFaceOne 6 (some .int), Cond.methodLink RX7 182 yX7_running, Cond.instanceMethod yX7_running, Cond.selects RX7 yX7_running yX7_running, Cond.code yX7_running cX7_running 5 (some .int)]
def wsX7_runs : List Cond := .code yX7_runs cX7_runs 4 (some .int) :: ((wsX7_runs_r1 ++ (wsX7_runs_r2 ++ (wsX7_runs_r3 ++ (wsX7_runs_r4 ++ (wsX7_runs_r5 ++ wsX7_runs_r6))))) ++ wsX70)
def wsX7_mayTake : List Cond := .code yX7_mayTake cX7_mayTake 2 (some .boolean) :: ([.fieldLink RX7 46 "ClassRulesModel" "access" "[I", .fieldLink RX7 7 "ClassRulesModel" "kind" "[I", .fieldLink RX7 34 "ClassRulesModel" "of" "[I", .methodLink RX7 87 yX7_is, .instanceMethod yX7_is, .selects RX7 yX7_is yX7_is, .initialized RX7, .code yX7_is cX7_is 4 (some .boolean), .fieldLink RX7 43 "ClassRulesModel" "mMarks" "[I"] ++ wsX70)
def wsX7_findTaking : List Cond := .code yX7_findTaking cX7_findTaking 5 none :: ([.fieldLink RX7 81 "ClassRulesModel" "members" "I", .fieldLink RX7 34 "ClassRulesModel" "of" "[I", .fieldLink RX7 52 "ClassRulesModel" "above" "[Z", .fieldLink RX7 62 "ClassRulesModel" "takes" "[Z", .fieldLink RX7 46 "ClassRulesModel" "access" "[I", .fieldLink RX7 16 "ClassRulesModel" "pack" "[I", .methodLink RX7 112 yX7_areLike, .instanceMethod yX7_areLike, .selects RX7 yX7_areLike yX7_areLike, .initialized RX7, .code yX7_areLike cX7_areLike 3 (some .boolean), .fieldLink RX7 37 "ClassRulesModel" "name" "[I", .fieldLink RX7 40 "ClassRulesModel" "params" "[I", .methodLink RX7 185 yX7_mayTake, .instanceMethod yX7_mayTake, .selects RX7 yX7_mayTake yX7_mayTake, .code yX7_mayTake cX7_mayTake 2 (some .boolean), .fieldLink RX7 7 "ClassRulesModel" "kind" "[I", .methodLink RX7 87 yX7_is, .instanceMethod yX7_is, .selects RX7 yX7_is yX7_is, .code yX7_is cX7_is 4 (some .boolean), .fieldLink RX7 43 "ClassRulesModel" "mMarks" "[I"] ++ wsX70)
def wsX7_call_r1 : List Cond := [Cond.fieldLink RX7 46 "ClassRulesModel" "access" "[I", Cond.fieldLink RX7 7 "ClassRulesModel" "kind" "[I", Cond.fieldLink RX7 34 "ClassRulesModel" "of" "[I", Cond.fieldLink RX7 81 "ClassRulesModel" "members" "I", Cond.fieldLink RX7 62 "ClassRulesModel" "takes" "[Z", Cond.fieldLink RX7 19 "ClassRulesModel" "parent" "[I", Cond.methodLink RX7 77 yX7_isType, Cond.instanceMethod yX7_isType, Cond.selects RX7 yX7_isType yX7_isType, Cond.initialized RX7, Cond.code yX7_isType cX7_isType 2 (some .boolean), Cond.fieldLink RX7 65 "ClassRulesModel" "types" "I", Cond.methodLink RX7 69 yX7_in, Cond.static yX7_in, Cond.code yX7_in cX7_in 3 (some .boolean), Cond.methodLink RX7 179 yX7_isWrongType, Cond.instanceMethod yX7_isWrongType, Cond.selects RX7 yX7_isWrongType yX7_isWrongType, Cond.code yX7_isWrongType cX7_isWrongType 4 (some .boolean), Cond.methodLink RX7 95 yX7_marked, Cond.instanceMethod yX7_marked, Cond.selects RX7 yX7_marked yX7_marked, Cond.code yX7_marked cX7_marked 3 (some .boolean), Cond.fieldLink RX7 13 "ClassRulesModel" "marks" "[I"]
def wsX7_call_r2 : List Cond := [Cond.methodLink RX7 118 yX7_isOf, Cond.instanceMethod yX7_isOf, Cond.selects RX7 yX7_isOf yX7_isOf, Cond.code yX7_isOf cX7_isOf 3 (some .boolean), Cond.fieldLink RX7 52 "ClassRulesModel" "above" "[Z", Cond.methodLink RX7 84 yX7_know, Cond.instanceMethod yX7_know, Cond.selects RX7 yX7_know yX7_know, Cond.code yX7_know cX7_know 4 none, Cond.fieldLink RX7 73 "ClassRulesModel" "known" "Z", Cond.fieldLink RX7 25 "ClassRulesModel" "upperMany" "[I", Cond.fieldLink RX7 22 "ClassRulesModel" "uppers" "[I", Cond.methodLink RX7 168 yX7_faultsOf, Cond.instanceMethod yX7_faultsOf, Cond.selects RX7 yX7_faultsOf yX7_faultsOf, Cond.code yX7_faultsOf cX7_faultsOf 4 none, Cond.methodLink RX7 149 yX7_firstFaults, Cond.instanceMethod yX7_firstFaults, Cond.selects RX7 yX7_firstFaults yX7_firstFaults, Cond.code yX7_firstFaults cX7_firstFaults 5 none, Cond.fieldLink RX7 56 "ClassRulesModel" "fault" "[Z", Cond.fieldLink RX7 31 "ClassRulesModel" "permitMany" "[I", Cond.fieldLink RX7 28 "ClassRulesModel" "permits" "[I", Cond.methodLink RX7 91 yX7_mark]
def wsX7_call_r3 : List Cond := [Cond.instanceMethod yX7_mark, Cond.selects RX7 yX7_mark yX7_mark, Cond.code yX7_mark cX7_mark 4 none, Cond.methodLink RX7 153 yX7_haveAny, Cond.instanceMethod yX7_haveAny, Cond.selects RX7 yX7_haveAny yX7_haveAny, Cond.code yX7_haveAny cX7_haveAny 3 (some .boolean), Cond.methodLink RX7 156 yX7_typeFaults, Cond.instanceMethod yX7_typeFaults, Cond.selects RX7 yX7_typeFaults yX7_typeFaults, Cond.code yX7_typeFaults cX7_typeFaults 8 none, Cond.methodLink RX7 102 yX7_sealedBy, Cond.instanceMethod yX7_sealedBy, Cond.selects RX7 yX7_sealedBy yX7_sealedBy, Cond.code yX7_sealedBy cX7_sealedBy 4 none, Cond.methodLink RX7 99 yX7_permitsIt, Cond.instanceMethod yX7_permitsIt, Cond.selects RX7 yX7_permitsIt yX7_permitsIt, Cond.code yX7_permitsIt cX7_permitsIt 5 (some .boolean), Cond.methodLink RX7 106 yX7_isSealed, Cond.instanceMethod yX7_isSealed, Cond.selects RX7 yX7_isSealed yX7_isSealed, Cond.code yX7_isSealed cX7_isSealed 2 (some .boolean), Cond.methodLink RX7 109 yX7_isUpper]
def wsX7_call_r4 : List Cond := [Cond.instanceMethod yX7_isUpper, Cond.selects RX7 yX7_isUpper yX7_isUpper, Cond.code yX7_isUpper cX7_isUpper 5 (some .boolean), Cond.methodLink RX7 159 yX7_memberFaults, Cond.instanceMethod yX7_memberFaults, Cond.selects RX7 yX7_memberFaults yX7_memberFaults, Cond.code yX7_memberFaults cX7_memberFaults 4 none, Cond.methodLink RX7 112 yX7_areLike, Cond.instanceMethod yX7_areLike, Cond.selects RX7 yX7_areLike yX7_areLike, Cond.code yX7_areLike cX7_areLike 3 (some .boolean), Cond.fieldLink RX7 37 "ClassRulesModel" "name" "[I", Cond.fieldLink RX7 40 "ClassRulesModel" "params" "[I", Cond.methodLink RX7 115 yX7_isWrong, Cond.instanceMethod yX7_isWrong, Cond.selects RX7 yX7_isWrong yX7_isWrong, Cond.code yX7_isWrong cX7_isWrong 6 (some .boolean), Cond.methodLink RX7 87 yX7_is, Cond.instanceMethod yX7_is, Cond.selects RX7 yX7_is yX7_is, Cond.code yX7_is cX7_is 4 (some .boolean), Cond.fieldLink RX7 43 "ClassRulesModel" "mMarks" "[I", Cond.methodLink RX7 162 yX7_overFaults, Cond.instanceMethod yX7_overFaults]
def wsX7_call_r5 : List Cond := [Cond.selects RX7 yX7_overFaults yX7_overFaults, Cond.code yX7_overFaults cX7_overFaults 4 none, Cond.fieldLink RX7 49 "ClassRulesModel" "result" "[I", Cond.methodLink RX7 121 yX7_isShared, Cond.instanceMethod yX7_isShared, Cond.selects RX7 yX7_isShared yX7_isShared, Cond.code yX7_isShared cX7_isShared 4 (some .boolean), Cond.fieldLink RX7 16 "ClassRulesModel" "pack" "[I", Cond.methodLink RX7 124 yX7_fitsResult, Cond.instanceMethod yX7_fitsResult, Cond.selects RX7 yX7_fitsResult yX7_fitsResult, Cond.code yX7_fitsResult cX7_fitsResult 3 (some .boolean), Cond.methodLink RX7 165 yX7_givenFaults, Cond.instanceMethod yX7_givenFaults, Cond.selects RX7 yX7_givenFaults yX7_givenFaults, Cond.code yX7_givenFaults cX7_givenFaults 7 none, Cond.fieldLink RX7 127 "ClassRulesModel" "faceMany" "I", Cond.methodLink RX7 134 yX7_classOne, Cond.instanceMethod yX7_classOne, Cond.selects RX7 yX7_classOne yX7_classOne, Cond.code yX7_classOne cX7_classOne 7 (some .int), Cond.methodLink RX7 137 yX7_findFaceOnes, Cond.instanceMethod yX7_findFaceOnes, Cond.selects RX7 yX7_findFaceOnes yX7_findFaceOnes]
def wsX7_call_r6 : List Cond := [Cond.code yX7_findFaceOnes cX7_findFaceOnes 7 none, Cond.fieldLink RX7 59 "ClassRulesModel" "faceOnes" "[I", Cond.methodLink RX7 130 yX7_ofFace, Cond.instanceMethod yX7_ofFace, Cond.selects RX7 yX7_ofFace yX7_ofFace, Cond.code yX7_ofFace cX7_ofFace 5 (some .int), Cond.methodLink RX7 141 yX7_hasDefault, Cond.instanceMethod yX7_hasDefault, Cond.selects RX7 yX7_hasDefault yX7_hasDefault, Cond.code yX7_hasDefault cX7_hasDefault 3 (some .boolean), Cond.methodLink RX7 145 yX7_leastFaceOne, Cond.instanceMethod yX7_leastFaceOne, Cond.selects RX7 yX7_leastFaceOne yX7_leastFaceOne, Cond.code yX7_leastFaceOne cX7_leastFaceOne 6 (some .int), Cond.methodLink RX7 182 yX7_running, Cond.instanceMethod yX7_running, Cond.selects RX7 yX7_running yX7_running, Cond.code yX7_running cX7_running 5 (some .int), Cond.methodLink RX7 188 yX7_findTaking, Cond.instanceMethod yX7_findTaking, Cond.selects RX7 yX7_findTaking yX7_findTaking, Cond.code yX7_findTaking cX7_findTaking 5 none, Cond.methodLink RX7 185 yX7_mayTake, Cond.instanceMethod yX7_mayTake]
def wsX7_call_r7 : List Cond := [Cond.selects RX7 yX7_mayTake yX7_mayTake, Cond.code yX7_mayTake cX7_mayTake 2 (some .boolean)]
def wsX7_call : List Cond := .code yX7_call cX7_call 9 (some .int) :: ((wsX7_call_r1 ++ (wsX7_call_r2 ++ (wsX7_call_r3 ++ (wsX7_call_r4 ++ (wsX7_call_r5 ++ (wsX7_call_r6 ++ wsX7_call_r7)))))) ++ wsX70)
def wsX7_told : List Cond := .code yX7_told cX7_told 2 (some .int) :: ([.fieldLink RX7 65 "ClassRulesModel" "types" "I", .fieldLink RX7 81 "ClassRulesModel" "members" "I"] ++ wsX70)
def wsL_law_r1 : List Cond := [Cond.classLink RL 7 RX6, Cond.instantiable RX6 4, Cond.initialized RX6, Cond.classLink RL 10 RX7, Cond.instantiable RX7 22, Cond.initialized RX7, Cond.methodLink RL 9 yX6_init, Cond.instanceMethod yX6_init, Cond.code yX6_init cX6_init 1 none, Cond.methodLink RX6 3 objectInit, Cond.instanceMethod objectInit, Cond.code objectInit ⟨#[0xb1]⟩ 1 none, Cond.classLink RX6 9 RX5, Cond.instantiable RX5 12, Cond.initialized RX5, Cond.fieldLink RX6 12 "ClassRules" "types" "LClassRules$Types;", Cond.classLink RX6 16 RX3, Cond.instantiable RX3 8, Cond.initialized RX3, Cond.fieldLink RX6 21 "ClassRules" "members" "LClassRules$Members;", Cond.classLink RX6 25 RX0, Cond.instantiable RX0 7, Cond.initialized RX0, Cond.fieldLink RX6 30 "ClassRules" "choice" "LClassRules$Choice;"]
def wsL_law_r2 : List Cond := [Cond.classLink RX6 34 RX1, Cond.instantiable RX1 9, Cond.initialized RX1, Cond.fieldLink RX6 39 "ClassRules" "judge" "LClassRules$Judge;", Cond.instanceMethod yX5_init, Cond.code yX5_init cX5_init 1 none, Cond.methodLink RX5 3 objectInit, Cond.arrayClass .int, Cond.fieldLink RX5 9 "ClassRules$Types" "kinds" "[I", Cond.fieldLink RX5 15 "ClassRules$Types" "marks" "[I", Cond.fieldLink RX5 18 "ClassRules$Types" "packs" "[I", Cond.fieldLink RX5 21 "ClassRules$Types" "parents" "[I", Cond.fieldLink RX5 24 "ClassRules$Types" "parentSets" "[I", Cond.fieldLink RX5 27 "ClassRules$Types" "uppers" "[I", Cond.fieldLink RX5 30 "ClassRules$Types" "uppersTwice" "[I", Cond.fieldLink RX5 33 "ClassRules$Types" "uppersTold" "[I", Cond.fieldLink RX5 36 "ClassRules$Types" "permitted" "[I", Cond.fieldLink RX5 39 "ClassRules$Types" "permittedTold" "[I", Cond.fieldLink RX5 42 "ClassRules$Types" "above" "[I", Cond.fieldLink RX5 45 "ClassRules$Types" "count" "I", Cond.methodLink RX6 18 yX3_init, Cond.instanceMethod yX3_init, Cond.code yX3_init cX3_init 2 none, Cond.methodLink RX3 3 objectInit]
def wsL_law_r3 : List Cond := [Cond.fieldLink RX3 9 "ClassRules$Members" "owners" "[I", Cond.fieldLink RX3 15 "ClassRules$Members" "names" "[I", Cond.fieldLink RX3 18 "ClassRules$Members" "params" "[I", Cond.fieldLink RX3 21 "ClassRules$Members" "marks" "[I", Cond.fieldLink RX3 24 "ClassRules$Members" "accesses" "[I", Cond.fieldLink RX3 27 "ClassRules$Members" "results" "[I", Cond.fieldLink RX3 30 "ClassRules$Members" "count" "I", Cond.fieldLink RX3 34 "ClassRules$Members" "types" "LClassRules$Types;", Cond.methodLink RX6 27 yX0_init, Cond.instanceMethod yX0_init, Cond.code yX0_init cX0_init 3 none, Cond.methodLink RX0 3 objectInit, Cond.fieldLink RX0 9 "ClassRules$Choice" "faceOnes" "[I", Cond.fieldLink RX0 15 "ClassRules$Choice" "chain" "[I", Cond.fieldLink RX0 18 "ClassRules$Choice" "takers" "[I", Cond.fieldLink RX0 21 "ClassRules$Choice" "faceOnesCount" "I", Cond.fieldLink RX0 25 "ClassRules$Choice" "classOne" "I", Cond.fieldLink RX0 28 "ClassRules$Choice" "types" "LClassRules$Types;", Cond.fieldLink RX0 32 "ClassRules$Choice" "members" "LClassRules$Members;", Cond.methodLink RX6 36 yX1_init, Cond.instanceMethod yX1_init, Cond.code yX1_init cX1_init 4 none, Cond.methodLink RX1 3 objectInit, Cond.arrayClass .long]
def wsL_law_r4 : List Cond := [Cond.fieldLink RX1 11 "ClassRules$Judge" "found" "[J", Cond.fieldLink RX1 15 "ClassRules$Judge" "counts" "[I", Cond.fieldLink RX1 19 "ClassRules$Judge" "counted" "I", Cond.fieldLink RX1 23 "ClassRules$Judge" "kept" "I", Cond.fieldLink RX1 26 "ClassRules$Judge" "types" "LClassRules$Types;", Cond.fieldLink RX1 30 "ClassRules$Judge" "members" "LClassRules$Members;", Cond.fieldLink RX1 34 "ClassRules$Judge" "choice" "LClassRules$Choice;", Cond.classLink RX1 38 RX4, Cond.instantiable RX4 1, Cond.initialized RX4, Cond.fieldLink RX1 43 "ClassRules$Judge" "typeRules" "LClassRules$TypeRules;", Cond.classLink RX1 47 RX2, Cond.instantiable RX2 2, Cond.initialized RX2, Cond.fieldLink RX1 52 "ClassRules$Judge" "memberRules" "LClassRules$MemberRules;", Cond.methodLink RX1 40 yX4_init, Cond.instanceMethod yX4_init, Cond.code yX4_init cX4_init 2 none, Cond.methodLink RX4 3 objectInit, Cond.fieldLink RX4 9 "ClassRules$TypeRules" "types" "LClassRules$Types;", Cond.methodLink RX1 49 yX2_init, Cond.instanceMethod yX2_init, Cond.code yX2_init cX2_init 3 none, Cond.methodLink RX2 3 objectInit]
def wsL_law_r5 : List Cond := [Cond.fieldLink RX2 9 "ClassRules$MemberRules" "types" "LClassRules$Types;", Cond.fieldLink RX2 15 "ClassRules$MemberRules" "members" "LClassRules$Members;", Cond.methodLink RL 12 yX7_init, Cond.instanceMethod yX7_init, Cond.code yX7_init cX7_init 1 none, Cond.methodLink RX7 1 objectInit, Cond.fieldLink RX7 7 "ClassRulesModel" "kind" "[I", Cond.fieldLink RX7 13 "ClassRulesModel" "marks" "[I", Cond.fieldLink RX7 16 "ClassRulesModel" "pack" "[I", Cond.fieldLink RX7 19 "ClassRulesModel" "parent" "[I", Cond.fieldLink RX7 22 "ClassRulesModel" "uppers" "[I", Cond.fieldLink RX7 25 "ClassRulesModel" "upperMany" "[I", Cond.fieldLink RX7 28 "ClassRulesModel" "permits" "[I", Cond.fieldLink RX7 31 "ClassRulesModel" "permitMany" "[I", Cond.fieldLink RX7 34 "ClassRulesModel" "of" "[I", Cond.fieldLink RX7 37 "ClassRulesModel" "name" "[I", Cond.fieldLink RX7 40 "ClassRulesModel" "params" "[I", Cond.fieldLink RX7 43 "ClassRulesModel" "mMarks" "[I", Cond.fieldLink RX7 46 "ClassRulesModel" "access" "[I", Cond.fieldLink RX7 49 "ClassRulesModel" "result" "[I", Cond.arrayClass .boolean, Cond.fieldLink RX7 52 "ClassRulesModel" "above" "[Z", Cond.fieldLink RX7 56 "ClassRulesModel" "fault" "[Z", Cond.fieldLink RX7 59 "ClassRulesModel" "faceOnes" "[I"]
def wsL_law_r6 : List Cond := [Cond.fieldLink RX7 62 "ClassRulesModel" "takes" "[Z", Cond.methodLink RL 13 yX6_type, Cond.instanceMethod yX6_type, Cond.selects RX6 yX6_type yX6_type, Cond.code yX6_type cX6_type 5 (some .int), Cond.methodLink RX6 43 yX6_within, Cond.static yX6_within, Cond.code yX6_within cX6_within 2 (some .boolean), Cond.methodLink RX6 51 yX1_forget, Cond.instanceMethod yX1_forget, Cond.selects RX1 yX1_forget yX1_forget, Cond.code yX1_forget cX1_forget 1 none, Cond.methodLink RX6 54 yX5_addType, Cond.instanceMethod yX5_addType, Cond.selects RX5 yX5_addType yX5_addType, Cond.code yX5_addType cX5_addType 6 (some .int), Cond.static yX6_bit, Cond.code yX6_bit cX6_bit 1 (some .int), Cond.methodLink RX5 53 yX5_settleAbove, Cond.instanceMethod yX5_settleAbove, Cond.selects RX5 yX5_settleAbove yX5_settleAbove, Cond.code yX5_settleAbove cX5_settleAbove 3 none, Cond.methodLink RX5 56 yX5_next, Cond.instanceMethod yX5_next]
def wsL_law_r7 : List Cond := [Cond.selects RX5 yX5_next yX5_next, Cond.code yX5_next cX5_next 2 (some .int), Cond.methodLink RX5 59 yX5_everyone, Cond.instanceMethod yX5_everyone, Cond.selects RX5 yX5_everyone yX5_everyone, Cond.code yX5_everyone cX5_everyone 1 (some .int), Cond.static yX6_holds, Cond.code yX6_holds cX6_holds 2 (some .boolean), Cond.methodLink RL 17 yX7_type, Cond.instanceMethod yX7_type, Cond.selects RX7 yX7_type yX7_type, Cond.code yX7_type cX7_type 5 (some .int), Cond.fieldLink RX7 65 "ClassRulesModel" "types" "I", Cond.fieldLink RX7 73 "ClassRulesModel" "known" "Z", Cond.methodLink RX7 69 yX7_in, Cond.static yX7_in, Cond.code yX7_in cX7_in 3 (some .boolean), Cond.methodLink RL 18 yX6_upper, Cond.instanceMethod yX6_upper, Cond.selects RX6 yX6_upper yX6_upper, Cond.code yX6_upper cX6_upper 3 (some .int), Cond.methodLink RX6 58 yX5_there, Cond.instanceMethod yX5_there, Cond.selects RX5 yX5_there yX5_there]
def wsL_law_r8 : List Cond := [Cond.code yX5_there cX5_there 2 (some .boolean), Cond.methodLink RX6 66 yX5_addUpper, Cond.instanceMethod yX5_addUpper, Cond.selects RX5 yX5_addUpper yX5_addUpper, Cond.code yX5_addUpper cX5_addUpper 3 (some .int), Cond.methodLink RL 22 yX7_upper, Cond.instanceMethod yX7_upper, Cond.selects RX7 yX7_upper yX7_upper, Cond.code yX7_upper cX7_upper 3 (some .int), Cond.methodLink RX7 77 yX7_isType, Cond.instanceMethod yX7_isType, Cond.selects RX7 yX7_isType yX7_isType, Cond.code yX7_isType cX7_isType 2 (some .boolean), Cond.methodLink RL 23 yX6_permit, Cond.instanceMethod yX6_permit, Cond.selects RX6 yX6_permit yX6_permit, Cond.code yX6_permit cX6_permit 3 (some .int), Cond.methodLink RX6 73 yX5_addPermitted, Cond.instanceMethod yX5_addPermitted, Cond.selects RX5 yX5_addPermitted yX5_addPermitted, Cond.code yX5_addPermitted cX5_addPermitted 3 (some .int), Cond.methodLink RL 26 yX7_permit, Cond.instanceMethod yX7_permit, Cond.selects RX7 yX7_permit yX7_permit]
def wsL_law_r9 : List Cond := [Cond.code yX7_permit cX7_permit 3 (some .int), Cond.methodLink RL 27 yX6_member, Cond.instanceMethod yX6_member, Cond.selects RX6 yX6_member yX6_member, Cond.code yX6_member cX6_member 7 (some .int), Cond.methodLink RX6 77 yX3_addMember, Cond.instanceMethod yX3_addMember, Cond.selects RX3 yX3_addMember yX3_addMember, Cond.code yX3_addMember cX3_addMember 8 (some .int), Cond.methodLink RL 31 yX7_member, Cond.instanceMethod yX7_member, Cond.selects RX7 yX7_member yX7_member, Cond.code yX7_member cX7_member 7 (some .int), Cond.fieldLink RX7 81 "ClassRulesModel" "members" "I", Cond.methodLink RL 32 yX6_faults, Cond.instanceMethod yX6_faults, Cond.selects RX6 yX6_faults yX6_faults, Cond.code yX6_faults cX6_faults 2 (some .int), Cond.methodLink RX6 81 yX1_countOf, Cond.instanceMethod yX1_countOf, Cond.selects RX1 yX1_countOf yX1_countOf, Cond.code yX1_countOf cX1_countOf 2 (some .int), Cond.methodLink RX1 60 yX1_keep, Cond.instanceMethod yX1_keep]
def wsL_law_r10 : List Cond := [Cond.selects RX1 yX1_keep yX1_keep, Cond.code yX1_keep cX1_keep 2 none, Cond.methodLink RX1 79 yJ7_fill_d0a16, Cond.static yJ7_fill_d0a16, Cond.initialized RJ7, Cond.code yJ7_fill_d0a16 cJ7_fill_d0a16 5 none, Cond.methodLink RX1 85 yX1_findTypeFaults, Cond.instanceMethod yX1_findTypeFaults, Cond.selects RX1 yX1_findTypeFaults yX1_findTypeFaults, Cond.code yX1_findTypeFaults cX1_findTypeFaults 2 none, Cond.methodLink RX1 101 yX4_missing, Cond.instanceMethod yX4_missing, Cond.selects RX4 yX4_missing yX4_missing, Cond.code yX4_missing cX4_missing 2 (some .int), Cond.methodLink RX4 15 yX5_next, Cond.methodLink RX4 25 yX5_everyone, Cond.methodLink RX1 104 yX1_putTypes, Cond.instanceMethod yX1_putTypes, Cond.selects RX1 yX1_putTypes yX1_putTypes, Cond.code yX1_putTypes cX1_putTypes 3 none, Cond.methodLink RX1 108 yX4_ring, Cond.instanceMethod yX4_ring, Cond.selects RX4 yX4_ring yX4_ring, Cond.code yX4_ring cX4_ring 2 (some .int)]
def wsL_law_r11 : List Cond := [Cond.methodLink RX1 111 yX4_wrongKind, Cond.instanceMethod yX4_wrongKind, Cond.selects RX4 yX4_wrongKind yX4_wrongKind, Cond.code yX4_wrongKind cX4_wrongKind 3 (some .int), Cond.methodLink RX4 41 yX5_ofKind, Cond.instanceMethod yX5_ofKind, Cond.selects RX5 yX5_ofKind yX5_ofKind, Cond.code yX5_ofKind cX5_ofKind 4 (some .int), Cond.methodLink RX1 114 yX4_finalParent, Cond.instanceMethod yX4_finalParent, Cond.selects RX4 yX4_finalParent yX4_finalParent, Cond.code yX4_finalParent cX4_finalParent 2 (some .int), Cond.methodLink RX4 47 yX5_withMark, Cond.instanceMethod yX5_withMark, Cond.selects RX5 yX5_withMark yX5_withMark, Cond.code yX5_withMark cX5_withMark 4 (some .int), Cond.methodLink RX5 67 yX5_marked, Cond.instanceMethod yX5_marked, Cond.selects RX5 yX5_marked yX5_marked, Cond.code yX5_marked cX5_marked 3 (some .boolean), Cond.methodLink RX1 117 yX4_wrongMarks, Cond.instanceMethod yX4_wrongMarks, Cond.selects RX4 yX4_wrongMarks yX4_wrongMarks, Cond.code yX4_wrongMarks cX4_wrongMarks 8 (some .int)]
def wsL_law_r12 : List Cond := [Cond.methodLink RX4 53 yJ6_bitCount_0f7a4, Cond.static yJ6_bitCount_0f7a4, Cond.initialized RJ6, Cond.code yJ6_bitCount_0f7a4 cJ6_bitCount_0f7a4 1 (some .int), Cond.constant RJ6 265 (1431655765), Cond.constant RJ6 266 (858993459), Cond.constant RJ6 267 (252645135), Cond.methodLink RX1 120 yX4_wrongUnderSealed, Cond.instanceMethod yX4_wrongUnderSealed, Cond.selects RX4 yX4_wrongUnderSealed yX4_wrongUnderSealed, Cond.code yX4_wrongUnderSealed cX4_wrongUnderSealed 7 (some .int), Cond.methodLink RX4 58 yX5_marked, Cond.methodLink RX1 123 yX4_wrongPermits, Cond.instanceMethod yX4_wrongPermits, Cond.selects RX4 yX4_wrongPermits yX4_wrongPermits, Cond.code yX4_wrongPermits cX4_wrongPermits 5 (some .int), Cond.methodLink RX1 126 yX4_twice, Cond.instanceMethod yX4_twice, Cond.selects RX4 yX4_twice yX4_twice, Cond.code yX4_twice cX4_twice 2 (some .int), Cond.methodLink RX1 88 yX1_findMemberFaults, Cond.instanceMethod yX1_findMemberFaults, Cond.selects RX1 yX1_findMemberFaults yX1_findMemberFaults, Cond.code yX1_findMemberFaults cX1_findMemberFaults 3 none]
def wsL_law_r13 : List Cond := [Cond.methodLink RX1 137 yX2_doubled, Cond.instanceMethod yX2_doubled, Cond.selects RX2 yX2_doubled yX2_doubled, Cond.code yX2_doubled cX2_doubled 3 (some .boolean), Cond.methodLink RX2 25 yX3_alike, Cond.instanceMethod yX3_alike, Cond.selects RX3 yX3_alike yX3_alike, Cond.code yX3_alike cX3_alike 3 (some .boolean), Cond.methodLink RX3 38 yX3_named, Cond.instanceMethod yX3_named, Cond.selects RX3 yX3_named yX3_named, Cond.code yX3_named cX3_named 4 (some .boolean), Cond.methodLink RX1 140 yX1_putIf, Cond.instanceMethod yX1_putIf, Cond.selects RX1 yX1_putIf yX1_putIf, Cond.code yX1_putIf cX1_putIf 4 none, Cond.methodLink RX1 144 yX2_wrongMarks, Cond.instanceMethod yX2_wrongMarks, Cond.selects RX2 yX2_wrongMarks yX2_wrongMarks, Cond.code yX2_wrongMarks cX2_wrongMarks 2 (some .boolean), Cond.methodLink RX2 29 yX3_ofFace, Cond.instanceMethod yX3_ofFace, Cond.selects RX3 yX3_ofFace yX3_ofFace, Cond.code yX3_ofFace cX3_ofFace 2 (some .boolean)]
def wsL_law_r14 : List Cond := [Cond.methodLink RX2 33 yX2_wrongInFace, Cond.instanceMethod yX2_wrongInFace, Cond.selects RX2 yX2_wrongInFace yX2_wrongInFace, Cond.code yX2_wrongInFace cX2_wrongInFace 4 (some .boolean), Cond.methodLink RX2 42 yX3_marked, Cond.instanceMethod yX3_marked, Cond.selects RX3 yX3_marked yX3_marked, Cond.code yX3_marked cX3_marked 3 (some .boolean), Cond.methodLink RX2 48 yJ6_bitCount_0f7a4, Cond.methodLink RX2 36 yX2_wrongElsewhere, Cond.instanceMethod yX2_wrongElsewhere, Cond.selects RX2 yX2_wrongElsewhere yX2_wrongElsewhere, Cond.code yX2_wrongElsewhere cX2_wrongElsewhere 3 (some .boolean), Cond.methodLink RX2 59 yX5_marked, Cond.methodLink RX1 91 yX4_shaky, Cond.instanceMethod yX4_shaky, Cond.selects RX4 yX4_shaky yX4_shaky, Cond.code yX4_shaky cX4_shaky 3 (some .boolean), Cond.methodLink RX4 72 yX5_stands, Cond.instanceMethod yX5_stands, Cond.selects RX5 yX5_stands yX5_stands, Cond.code yX5_stands cX5_stands 3 (some .boolean), Cond.methodLink RX4 75 yX4_missing, Cond.methodLink RX4 78 yX4_ring]
def wsL_law_r15 : List Cond := [Cond.methodLink RX4 81 yX4_wrongKind, Cond.methodLink RX1 95 yX1_findInheritedFaults, Cond.instanceMethod yX1_findInheritedFaults, Cond.selects RX1 yX1_findInheritedFaults yX1_findInheritedFaults, Cond.code yX1_findInheritedFaults cX1_findInheritedFaults 3 none, Cond.methodLink RX1 149 yX1_findOver, Cond.instanceMethod yX1_findOver, Cond.selects RX1 yX1_findOver yX1_findOver, Cond.code yX1_findOver cX1_findOver 4 none, Cond.methodLink RX1 152 yX3_alike, Cond.methodLink RX1 155 yX3_shared, Cond.instanceMethod yX3_shared, Cond.selects RX3 yX3_shared yX3_shared, Cond.code yX3_shared cX3_shared 4 (some .boolean), Cond.methodLink RX3 47 yX3_marked, Cond.methodLink RX3 51 yX3_ofFace, Cond.methodLink RX3 61 yX3_seenFrom, Cond.instanceMethod yX3_seenFrom, Cond.selects RX3 yX3_seenFrom yX3_seenFrom, Cond.code yX3_seenFrom cX3_seenFrom 3 (some .boolean), Cond.methodLink RX1 158 yX3_marked, Cond.methodLink RX1 164 yX2_resultFits, Cond.instanceMethod yX2_resultFits, Cond.selects RX2 yX2_resultFits yX2_resultFits]
def wsL_law_r16 : List Cond := [Cond.code yX2_resultFits cX2_resultFits 5 (some .boolean), Cond.methodLink RX2 60 yX5_there, Cond.methodLink RX2 63 yX5_stands, Cond.methodLink RX1 98 yX1_findGivenFaults, Cond.instanceMethod yX1_findGivenFaults, Cond.selects RX1 yX1_findGivenFaults yX1_findGivenFaults, Cond.code yX1_findGivenFaults cX1_findGivenFaults 6 none, Cond.methodLink RX1 172 yX5_marked, Cond.methodLink RX1 173 yX3_firstOfItsSort, Cond.instanceMethod yX3_firstOfItsSort, Cond.selects RX3 yX3_firstOfItsSort yX3_firstOfItsSort, Cond.code yX3_firstOfItsSort cX3_firstOfItsSort 3 (some .boolean), Cond.methodLink RX3 67 yX3_alike, Cond.methodLink RX1 182 yX0_seekClassOne, Cond.instanceMethod yX0_seekClassOne, Cond.selects RX0 yX0_seekClassOne yX0_seekClassOne, Cond.code yX0_seekClassOne cX0_seekClassOne 7 none, Cond.methodLink RX0 49 yX3_named, Cond.methodLink RX0 53 yX3_marked, Cond.methodLink RX0 57 yX3_shared, Cond.methodLink RX0 60 yX5_parentThere, Cond.instanceMethod yX5_parentThere, Cond.selects RX5 yX5_parentThere yX5_parentThere, Cond.code yX5_parentThere cX5_parentThere 2 (some .int)]
def wsL_law_r17 : List Cond := [Cond.methodLink RX1 188 yX0_seekFaceOnes, Cond.instanceMethod yX0_seekFaceOnes, Cond.selects RX0 yX0_seekFaceOnes yX0_seekFaceOnes, Cond.code yX0_seekFaceOnes cX0_seekFaceOnes 8 none, Cond.methodLink RX0 64 yX0_givenByFace, Cond.instanceMethod yX0_givenByFace, Cond.selects RX0 yX0_givenByFace yX0_givenByFace, Cond.code yX0_givenByFace cX0_givenByFace 5 (some .boolean), Cond.methodLink RX0 77 yX3_ofFace, Cond.methodLink RX0 81 yX5_stands, Cond.methodLink RX1 191 yX0_leastToBeGiven, Cond.instanceMethod yX0_leastToBeGiven, Cond.selects RX0 yX0_leastToBeGiven yX0_leastToBeGiven, Cond.code yX0_leastToBeGiven cX0_leastToBeGiven 1 (some .int), Cond.methodLink RX0 87 yX0_leastFaceOneWith, Cond.instanceMethod yX0_leastFaceOneWith, Cond.selects RX0 yX0_leastFaceOneWith yX0_leastFaceOneWith, Cond.code yX0_leastFaceOneWith cX0_leastFaceOneWith 3 (some .int), Cond.methodLink RX1 194 yX0_leastOfRivals, Cond.instanceMethod yX0_leastOfRivals, Cond.selects RX0 yX0_leastOfRivals yX0_leastOfRivals, Cond.code yX0_leastOfRivals cX0_leastOfRivals 2 (some .int), Cond.methodLink RX1 64 yX1_countFound, Cond.instanceMethod yX1_countFound]
def wsL_law_r18 : List Cond := [Cond.selects RX1 yX1_countFound yX1_countFound, Cond.code yX1_countFound cX1_countFound 3 (some .int), Cond.methodLink RX1 197 yJ13_bitCount_95d88, Cond.static yJ13_bitCount_95d88, Cond.initialized RJ13, Cond.code yJ13_bitCount_95d88 cJ13_bitCount_95d88 2 (some .int), Cond.constantLong RJ13 314 (6148914691236517205), Cond.constantLong RJ13 316 (3689348814741910323), Cond.constantLong RJ13 318 (1085102592571150095), Cond.methodLink RL 36 yX7_faults, Cond.instanceMethod yX7_faults, Cond.selects RX7 yX7_faults yX7_faults, Cond.code yX7_faults cX7_faults 2 (some .int), Cond.methodLink RX7 168 yX7_faultsOf, Cond.instanceMethod yX7_faultsOf, Cond.selects RX7 yX7_faultsOf yX7_faultsOf, Cond.code yX7_faultsOf cX7_faultsOf 4 none, Cond.methodLink RX7 84 yX7_know, Cond.instanceMethod yX7_know, Cond.selects RX7 yX7_know yX7_know, Cond.code yX7_know cX7_know 4 none, Cond.methodLink RX7 149 yX7_firstFaults, Cond.instanceMethod yX7_firstFaults, Cond.selects RX7 yX7_firstFaults yX7_firstFaults]
def wsL_law_r19 : List Cond := [Cond.code yX7_firstFaults cX7_firstFaults 5 none, Cond.methodLink RX7 91 yX7_mark, Cond.instanceMethod yX7_mark, Cond.selects RX7 yX7_mark yX7_mark, Cond.code yX7_mark cX7_mark 4 none, Cond.methodLink RX7 153 yX7_haveAny, Cond.instanceMethod yX7_haveAny, Cond.selects RX7 yX7_haveAny yX7_haveAny, Cond.code yX7_haveAny cX7_haveAny 3 (some .boolean), Cond.methodLink RX7 156 yX7_typeFaults, Cond.instanceMethod yX7_typeFaults, Cond.selects RX7 yX7_typeFaults yX7_typeFaults, Cond.code yX7_typeFaults cX7_typeFaults 8 none, Cond.methodLink RX7 95 yX7_marked, Cond.instanceMethod yX7_marked, Cond.selects RX7 yX7_marked yX7_marked, Cond.code yX7_marked cX7_marked 3 (some .boolean), Cond.methodLink RX7 102 yX7_sealedBy, Cond.instanceMethod yX7_sealedBy, Cond.selects RX7 yX7_sealedBy yX7_sealedBy, Cond.code yX7_sealedBy cX7_sealedBy 4 none, Cond.methodLink RX7 99 yX7_permitsIt, Cond.instanceMethod yX7_permitsIt, Cond.selects RX7 yX7_permitsIt yX7_permitsIt]
def wsL_law_r20 : List Cond := [Cond.code yX7_permitsIt cX7_permitsIt 5 (some .boolean), Cond.methodLink RX7 106 yX7_isSealed, Cond.instanceMethod yX7_isSealed, Cond.selects RX7 yX7_isSealed yX7_isSealed, Cond.code yX7_isSealed cX7_isSealed 2 (some .boolean), Cond.methodLink RX7 109 yX7_isUpper, Cond.instanceMethod yX7_isUpper, Cond.selects RX7 yX7_isUpper yX7_isUpper, Cond.code yX7_isUpper cX7_isUpper 5 (some .boolean), Cond.methodLink RX7 159 yX7_memberFaults, Cond.instanceMethod yX7_memberFaults, Cond.selects RX7 yX7_memberFaults yX7_memberFaults, Cond.code yX7_memberFaults cX7_memberFaults 4 none, Cond.methodLink RX7 112 yX7_areLike, Cond.instanceMethod yX7_areLike, Cond.selects RX7 yX7_areLike yX7_areLike, Cond.code yX7_areLike cX7_areLike 3 (some .boolean), Cond.methodLink RX7 115 yX7_isWrong, Cond.instanceMethod yX7_isWrong, Cond.selects RX7 yX7_isWrong yX7_isWrong, Cond.code yX7_isWrong cX7_isWrong 6 (some .boolean), Cond.methodLink RX7 87 yX7_is, Cond.instanceMethod yX7_is, Cond.selects RX7 yX7_is yX7_is]
def wsL_law_r21 : List Cond := [Cond.code yX7_is cX7_is 4 (some .boolean), Cond.methodLink RX7 162 yX7_overFaults, Cond.instanceMethod yX7_overFaults, Cond.selects RX7 yX7_overFaults yX7_overFaults, Cond.code yX7_overFaults cX7_overFaults 4 none, Cond.methodLink RX7 121 yX7_isShared, Cond.instanceMethod yX7_isShared, Cond.selects RX7 yX7_isShared yX7_isShared, Cond.code yX7_isShared cX7_isShared 4 (some .boolean), Cond.methodLink RX7 124 yX7_fitsResult, Cond.instanceMethod yX7_fitsResult, Cond.selects RX7 yX7_fitsResult yX7_fitsResult, Cond.code yX7_fitsResult cX7_fitsResult 3 (some .boolean), Cond.methodLink RX7 118 yX7_isOf, Cond.instanceMethod yX7_isOf, Cond.selects RX7 yX7_isOf yX7_isOf, Cond.code yX7_isOf cX7_isOf 3 (some .boolean), Cond.methodLink RX7 165 yX7_givenFaults, Cond.instanceMethod yX7_givenFaults, Cond.selects RX7 yX7_givenFaults yX7_givenFaults, Cond.code yX7_givenFaults cX7_givenFaults 7 none, Cond.fieldLink RX7 127 "ClassRulesModel" "faceMany" "I", Cond.methodLink RX7 134 yX7_classOne, Cond.instanceMethod yX7_classOne]
def wsL_law_r22 : List Cond := [Cond.selects RX7 yX7_classOne yX7_classOne, Cond.code yX7_classOne cX7_classOne 7 (some .int), Cond.methodLink RX7 137 yX7_findFaceOnes, Cond.instanceMethod yX7_findFaceOnes, Cond.selects RX7 yX7_findFaceOnes yX7_findFaceOnes, Cond.code yX7_findFaceOnes cX7_findFaceOnes 7 none, Cond.methodLink RX7 130 yX7_ofFace, Cond.instanceMethod yX7_ofFace, Cond.selects RX7 yX7_ofFace yX7_ofFace, Cond.code yX7_ofFace cX7_ofFace 5 (some .int), Cond.methodLink RX7 141 yX7_hasDefault, Cond.instanceMethod yX7_hasDefault, Cond.selects RX7 yX7_hasDefault yX7_hasDefault, Cond.code yX7_hasDefault cX7_hasDefault 3 (some .boolean), Cond.methodLink RX7 145 yX7_leastFaceOne, Cond.instanceMethod yX7_leastFaceOne, Cond.selects RX7 yX7_leastFaceOne yX7_leastFaceOne, Cond.code yX7_leastFaceOne cX7_leastFaceOne 6 (some .int), Cond.methodLink RX7 171 yX7_count, Cond.instanceMethod yX7_count, Cond.selects RX7 yX7_count yX7_count, Cond.code yX7_count cX7_count 3 (some .int), Cond.methodLink RL 37 yX6_fault, Cond.instanceMethod yX6_fault]
def wsL_law_r23 : List Cond := [Cond.selects RX6 yX6_fault yX6_fault, Cond.code yX6_fault cX6_fault 4 (some .int), Cond.methodLink RX6 85 yX1_kindAt, Cond.instanceMethod yX1_kindAt, Cond.selects RX1 yX1_kindAt yX1_kindAt, Cond.code yX1_kindAt cX1_kindAt 3 (some .int), Cond.methodLink RX1 72 yX1_placeAt, Cond.instanceMethod yX1_placeAt, Cond.selects RX1 yX1_placeAt yX1_placeAt, Cond.code yX1_placeAt cX1_placeAt 6 (some .int), Cond.methodLink RX1 76 yX1_isFound, Cond.instanceMethod yX1_isFound, Cond.selects RX1 yX1_isFound yX1_isFound, Cond.code yX1_isFound cX1_isFound 3 (some .boolean), Cond.methodLink RX6 88 yX1_numberAt, Cond.instanceMethod yX1_numberAt, Cond.selects RX1 yX1_numberAt yX1_numberAt, Cond.code yX1_numberAt cX1_numberAt 3 (some .int), Cond.methodLink RL 41 yX7_fault, Cond.instanceMethod yX7_fault, Cond.selects RX7 yX7_fault yX7_fault, Cond.code yX7_fault cX7_fault 6 (some .int), Cond.methodLink RL 42 yX6_all, Cond.instanceMethod yX6_all]
def wsL_law_r24 : List Cond := [Cond.selects RX6 yX6_all yX6_all, Cond.code yX6_all cX6_all 3 (some .int), Cond.methodLink RL 46 yX7_all, Cond.instanceMethod yX7_all, Cond.selects RX7 yX7_all yX7_all, Cond.code yX7_all cX7_all 3 (some .int), Cond.methodLink RX7 175 yX7_faults, Cond.methodLink RL 47 yX6_is, Cond.instanceMethod yX6_is, Cond.selects RX6 yX6_is yX6_is, Cond.code yX6_is cX6_is 3 (some .int), Cond.methodLink RX6 91 yX5_stands, Cond.methodLink RL 50 yX7_is_, Cond.instanceMethod yX7_is_, Cond.selects RX7 yX7_is_ yX7_is_, Cond.code yX7_is_ cX7_is_ 3 (some .int), Cond.methodLink RL 51 yX6_runs, Cond.instanceMethod yX6_runs, Cond.selects RX6 yX6_runs yX6_runs, Cond.code yX6_runs cX6_runs 4 (some .int), Cond.methodLink RX6 94 yX6_canBeMade, Cond.instanceMethod yX6_canBeMade, Cond.selects RX6 yX6_canBeMade yX6_canBeMade, Cond.code yX6_canBeMade cX6_canBeMade 3 (some .boolean)]
def wsL_law_r25 : List Cond := [Cond.methodLink RX6 110 yX5_marked, Cond.methodLink RX6 97 yX0_running, Cond.instanceMethod yX0_running, Cond.selects RX0 yX0_running yX0_running, Cond.code yX0_running cX0_running 4 (some .int), Cond.methodLink RX0 90 yX0_seekClassOne, Cond.methodLink RX0 94 yX0_unlessAbstract, Cond.instanceMethod yX0_unlessAbstract, Cond.selects RX0 yX0_unlessAbstract yX0_unlessAbstract, Cond.code yX0_unlessAbstract cX0_unlessAbstract 2 (some .int), Cond.methodLink RX0 97 yX0_seekFaceOnes, Cond.methodLink RX6 101 yX6_orNone, Cond.static yX6_orNone, Cond.code yX6_orNone cX6_orNone 1 (some .int), Cond.methodLink RL 54 yX7_runs, Cond.instanceMethod yX7_runs, Cond.selects RX7 yX7_runs yX7_runs, Cond.code yX7_runs cX7_runs 4 (some .int), Cond.methodLink RX7 179 yX7_isWrongType, Cond.instanceMethod yX7_isWrongType, Cond.selects RX7 yX7_isWrongType yX7_isWrongType, Cond.code yX7_isWrongType cX7_isWrongType 4 (some .boolean), Cond.methodLink RX7 182 yX7_running, Cond.instanceMethod yX7_running]
def wsL_law_r26 : List Cond := [Cond.selects RX7 yX7_running yX7_running, Cond.code yX7_running cX7_running 5 (some .int), Cond.methodLink RL 55 yX6_call, Cond.instanceMethod yX6_call, Cond.selects RX6 yX6_call yX6_call, Cond.code yX6_call cX6_call 5 (some .int), Cond.methodLink RX6 104 yX0_reached, Cond.instanceMethod yX0_reached, Cond.selects RX0 yX0_reached yX0_reached, Cond.code yX0_reached cX0_reached 6 (some .int), Cond.methodLink RX0 100 yX0_meantBy, Cond.instanceMethod yX0_meantBy, Cond.selects RX0 yX0_meantBy yX0_meantBy, Cond.code yX0_meantBy cX0_meantBy 4 (some .int), Cond.methodLink RX0 104 yX0_running, Cond.methodLink RX0 107 yX0_inPlaceOf, Cond.instanceMethod yX0_inPlaceOf, Cond.selects RX0 yX0_inPlaceOf yX0_inPlaceOf, Cond.code yX0_inPlaceOf cX0_inPlaceOf 7 (some .int), Cond.methodLink RX0 111 yX0_chainUpTo, Cond.instanceMethod yX0_chainUpTo, Cond.selects RX0 yX0_chainUpTo yX0_chainUpTo, Cond.code yX0_chainUpTo cX0_chainUpTo 5 (some .int), Cond.methodLink RX0 114 yX0_overriderIn]
def wsL_law_r27 : List Cond := [Cond.instanceMethod yX0_overriderIn, Cond.selects RX0 yX0_overriderIn yX0_overriderIn, Cond.code yX0_overriderIn cX0_overriderIn 4 (some .int), Cond.methodLink RX0 120 yX3_alike, Cond.methodLink RX0 117 yX0_takesPlace, Cond.instanceMethod yX0_takesPlace, Cond.selects RX0 yX0_takesPlace yX0_takesPlace, Cond.code yX0_takesPlace cX0_takesPlace 4 (some .boolean), Cond.methodLink RX0 123 yX3_seenFrom, Cond.methodLink RL 58 yX7_call, Cond.instanceMethod yX7_call, Cond.selects RX7 yX7_call yX7_call, Cond.code yX7_call cX7_call 9 (some .int), Cond.methodLink RX7 188 yX7_findTaking, Cond.instanceMethod yX7_findTaking, Cond.selects RX7 yX7_findTaking yX7_findTaking, Cond.code yX7_findTaking cX7_findTaking 5 none, Cond.methodLink RX7 185 yX7_mayTake, Cond.instanceMethod yX7_mayTake, Cond.selects RX7 yX7_mayTake yX7_mayTake, Cond.code yX7_mayTake cX7_mayTake 2 (some .boolean), Cond.methodLink RL 59 yX6_told, Cond.instanceMethod yX6_told, Cond.selects RX6 yX6_told yX6_told]
def wsL_law_r28 : List Cond := [Cond.code yX6_told cX6_told 2 (some .int), Cond.methodLink RL 62 yX7_told, Cond.instanceMethod yX7_told, Cond.selects RX7 yX7_told yX7_told, Cond.code yX7_told cX7_told 2 (some .int)]
def wsL_law : List Cond := (wsL_law_r1 ++ (wsL_law_r2 ++ (wsL_law_r3 ++ (wsL_law_r4 ++ (wsL_law_r5 ++ (wsL_law_r6 ++ (wsL_law_r7 ++ (wsL_law_r8 ++ (wsL_law_r9 ++ (wsL_law_r10 ++ (wsL_law_r11 ++ (wsL_law_r12 ++ (wsL_law_r13 ++ (wsL_law_r14 ++ (wsL_law_r15 ++ (wsL_law_r16 ++ (wsL_law_r17 ++ (wsL_law_r18 ++ (wsL_law_r19 ++ (wsL_law_r20 ++ (wsL_law_r21 ++ (wsL_law_r22 ++ (wsL_law_r23 ++ (wsL_law_r24 ++ (wsL_law_r25 ++ (wsL_law_r26 ++ (wsL_law_r27 ++ wsL_law_r28))))))))))))))))))))))))))) ++ wsX60 ++ wsX70 ++ wsX50 ++ wsX30 ++ wsX00 ++ wsX10 ++ wsX40 ++ wsX20 ++ ([] : List Cond)
theorem dX0_init_0 : decode cX0_init 0 = .ok (.aload_n 0, 1) := by decide +kernel
theorem dX0_init_1 : decode cX0_init 1 = .ok (.invokespecial 3, 3) := by decide +kernel
theorem dX0_init_4 : decode cX0_init 4 = .ok (.aload_n 0, 1) := by decide +kernel
theorem dX0_init_5 : decode cX0_init 5 = .ok (.bipush 20, 2) := by decide +kernel
theorem dX0_init_7 : decode cX0_init 7 = .ok (.newarray .int, 2) := by decide +kernel
theorem dX0_init_9 : decode cX0_init 9 = .ok (.putfield 9, 3) := by decide +kernel
theorem dX0_init_12 : decode cX0_init 12 = .ok (.aload_n 0, 1) := by decide +kernel
theorem dX0_init_13 : decode cX0_init 13 = .ok (.bipush 20, 2) := by decide +kernel
theorem dX0_init_15 : decode cX0_init 15 = .ok (.newarray .int, 2) := by decide +kernel
theorem dX0_init_17 : decode cX0_init 17 = .ok (.putfield 15, 3) := by decide +kernel
theorem dX0_init_20 : decode cX0_init 20 = .ok (.aload_n 0, 1) := by decide +kernel
theorem dX0_init_21 : decode cX0_init 21 = .ok (.bipush 20, 2) := by decide +kernel
theorem dX0_init_23 : decode cX0_init 23 = .ok (.newarray .int, 2) := by decide +kernel
theorem dX0_init_25 : decode cX0_init 25 = .ok (.putfield 18, 3) := by decide +kernel
theorem dX0_init_28 : decode cX0_init 28 = .ok (.aload_n 0, 1) := by decide +kernel
theorem dX0_init_29 : decode cX0_init 29 = .ok (.iconst 0, 1) := by decide +kernel
theorem dX0_init_30 : decode cX0_init 30 = .ok (.putfield 21, 3) := by decide +kernel
theorem dX0_init_33 : decode cX0_init 33 = .ok (.aload_n 0, 1) := by decide +kernel
theorem dX0_init_34 : decode cX0_init 34 = .ok (.iconst (-1), 1) := by decide +kernel
theorem dX0_init_35 : decode cX0_init 35 = .ok (.putfield 25, 3) := by decide +kernel
theorem dX0_init_38 : decode cX0_init 38 = .ok (.aload_n 0, 1) := by decide +kernel
theorem dX0_init_39 : decode cX0_init 39 = .ok (.aload_n 1, 1) := by decide +kernel
theorem dX0_init_40 : decode cX0_init 40 = .ok (.putfield 28, 3) := by decide +kernel
theorem dX0_init_43 : decode cX0_init 43 = .ok (.aload_n 0, 1) := by decide +kernel
theorem dX0_init_44 : decode cX0_init 44 = .ok (.aload_n 2, 1) := by decide +kernel
theorem dX0_init_45 : decode cX0_init 45 = .ok (.putfield 32, 3) := by decide +kernel
theorem dX0_init_48 : decode cX0_init 48 = .ok (.return_, 1) := by decide +kernel
theorem dX0_seekClassOne_0 : decode cX0_seekClassOne 0 = .ok (.aload_n 0, 1) := by decide +kernel
theorem dX0_seekClassOne_1 : decode cX0_seekClassOne 1 = .ok (.iconst (-1), 1) := by decide +kernel
theorem dX0_seekClassOne_2 : decode cX0_seekClassOne 2 = .ok (.putfield 25, 3) := by decide +kernel
theorem dX0_seekClassOne_5 : decode cX0_seekClassOne 5 = .ok (.aload_n 0, 1) := by decide +kernel
theorem dX0_seekClassOne_6 : decode cX0_seekClassOne 6 = .ok (.getfield 28, 3) := by decide +kernel
theorem dX0_seekClassOne_9 : decode cX0_seekClassOne 9 = .ok (.getfield 36, 3) := by decide +kernel
theorem dX0_seekClassOne_12 : decode cX0_seekClassOne 12 = .ok (.iload_n 1, 1) := by decide +kernel
theorem dX0_seekClassOne_13 : decode cX0_seekClassOne 13 = .ok (.iaload, 1) := by decide +kernel
theorem dX0_seekClassOne_14 : decode cX0_seekClassOne 14 = .ok (.iconst 1, 1) := by decide +kernel
theorem dX0_seekClassOne_15 : decode cX0_seekClassOne 15 = .ok (.if_icmp .ne 7, 3) := by decide +kernel
theorem dX0_seekClassOne_18 : decode cX0_seekClassOne 18 = .ok (.iconst (-1), 1) := by decide +kernel
theorem dX0_seekClassOne_19 : decode cX0_seekClassOne 19 = .ok (.goto 4, 3) := by decide +kernel
theorem dX0_seekClassOne_22 : decode cX0_seekClassOne 22 = .ok (.iload_n 1, 1) := by decide +kernel
theorem dX0_seekClassOne_23 : decode cX0_seekClassOne 23 = .ok (.istore 4, 2) := by decide +kernel
theorem dX0_seekClassOne_25 : decode cX0_seekClassOne 25 = .ok (.iconst 0, 1) := by decide +kernel
theorem dX0_seekClassOne_26 : decode cX0_seekClassOne 26 = .ok (.istore 5, 2) := by decide +kernel
theorem dX0_seekClassOne_28 : decode cX0_seekClassOne 28 = .ok (.iload 5, 2) := by decide +kernel
theorem dX0_seekClassOne_30 : decode cX0_seekClassOne 30 = .ok (.bipush 20, 2) := by decide +kernel
theorem dX0_seekClassOne_32 : decode cX0_seekClassOne 32 = .ok (.if_icmp .ge 115, 3) := by decide +kernel
theorem dX0_seekClassOne_35 : decode cX0_seekClassOne 35 = .ok (.iload 4, 2) := by decide +kernel
theorem dX0_seekClassOne_37 : decode cX0_seekClassOne 37 = .ok (.iconst (-1), 1) := by decide +kernel
theorem dX0_seekClassOne_38 : decode cX0_seekClassOne 38 = .ok (.if_icmp .eq 109, 3) := by decide +kernel
theorem dX0_seekClassOne_41 : decode cX0_seekClassOne 41 = .ok (.iconst 0, 1) := by decide +kernel
theorem dX0_seekClassOne_42 : decode cX0_seekClassOne 42 = .ok (.istore 6, 2) := by decide +kernel
theorem dX0_seekClassOne_44 : decode cX0_seekClassOne 44 = .ok (.iload 6, 2) := by decide +kernel
theorem dX0_seekClassOne_46 : decode cX0_seekClassOne 46 = .ok (.aload_n 0, 1) := by decide +kernel
theorem dX0_seekClassOne_47 : decode cX0_seekClassOne 47 = .ok (.getfield 32, 3) := by decide +kernel
theorem dX0_seekClassOne_50 : decode cX0_seekClassOne 50 = .ok (.getfield 41, 3) := by decide +kernel
theorem dX0_seekClassOne_53 : decode cX0_seekClassOne 53 = .ok (.if_icmp .ge 77, 3) := by decide +kernel
theorem dX0_seekClassOne_56 : decode cX0_seekClassOne 56 = .ok (.aload_n 0, 1) := by decide +kernel
theorem dX0_seekClassOne_57 : decode cX0_seekClassOne 57 = .ok (.getfield 32, 3) := by decide +kernel
theorem dX0_seekClassOne_60 : decode cX0_seekClassOne 60 = .ok (.getfield 46, 3) := by decide +kernel
theorem dX0_seekClassOne_63 : decode cX0_seekClassOne 63 = .ok (.iload 6, 2) := by decide +kernel
theorem dX0_seekClassOne_65 : decode cX0_seekClassOne 65 = .ok (.iaload, 1) := by decide +kernel
theorem dX0_seekClassOne_66 : decode cX0_seekClassOne 66 = .ok (.iload 4, 2) := by decide +kernel
theorem dX0_seekClassOne_68 : decode cX0_seekClassOne 68 = .ok (.if_icmp .ne 56, 3) := by decide +kernel
theorem dX0_seekClassOne_71 : decode cX0_seekClassOne 71 = .ok (.aload_n 0, 1) := by decide +kernel
theorem dX0_seekClassOne_72 : decode cX0_seekClassOne 72 = .ok (.getfield 32, 3) := by decide +kernel
theorem dX0_seekClassOne_75 : decode cX0_seekClassOne 75 = .ok (.iload 6, 2) := by decide +kernel
theorem dX0_seekClassOne_77 : decode cX0_seekClassOne 77 = .ok (.iload_n 2, 1) := by decide +kernel
theorem dX0_seekClassOne_78 : decode cX0_seekClassOne 78 = .ok (.iload_n 3, 1) := by decide +kernel
theorem dX0_seekClassOne_79 : decode cX0_seekClassOne 79 = .ok (.invokevirtual 49, 3) := by decide +kernel
theorem dX0_seekClassOne_82 : decode cX0_seekClassOne 82 = .ok (.ifCond .eq 42, 3) := by decide +kernel
theorem dX0_seekClassOne_85 : decode cX0_seekClassOne 85 = .ok (.aload_n 0, 1) := by decide +kernel
theorem dX0_seekClassOne_86 : decode cX0_seekClassOne 86 = .ok (.getfield 32, 3) := by decide +kernel
theorem dX0_seekClassOne_89 : decode cX0_seekClassOne 89 = .ok (.iload 6, 2) := by decide +kernel
theorem dX0_seekClassOne_91 : decode cX0_seekClassOne 91 = .ok (.iconst 4, 1) := by decide +kernel
theorem dX0_seekClassOne_92 : decode cX0_seekClassOne 92 = .ok (.invokevirtual 53, 3) := by decide +kernel
theorem dX0_seekClassOne_95 : decode cX0_seekClassOne 95 = .ok (.ifCond .ne 29, 3) := by decide +kernel
theorem dX0_seekClassOne_98 : decode cX0_seekClassOne 98 = .ok (.iload 4, 2) := by decide +kernel
theorem dX0_seekClassOne_100 : decode cX0_seekClassOne 100 = .ok (.iload_n 1, 1) := by decide +kernel
theorem dX0_seekClassOne_101 : decode cX0_seekClassOne 101 = .ok (.if_icmp .eq 16, 3) := by decide +kernel
theorem dX0_seekClassOne_104 : decode cX0_seekClassOne 104 = .ok (.aload_n 0, 1) := by decide +kernel
theorem dX0_seekClassOne_105 : decode cX0_seekClassOne 105 = .ok (.getfield 32, 3) := by decide +kernel
theorem dX0_seekClassOne_108 : decode cX0_seekClassOne 108 = .ok (.iload 6, 2) := by decide +kernel
theorem dX0_seekClassOne_110 : decode cX0_seekClassOne 110 = .ok (.iload_n 1, 1) := by decide +kernel
theorem dX0_seekClassOne_111 : decode cX0_seekClassOne 111 = .ok (.invokevirtual 57, 3) := by decide +kernel
theorem dX0_seekClassOne_114 : decode cX0_seekClassOne 114 = .ok (.ifCond .eq 10, 3) := by decide +kernel
theorem dX0_seekClassOne_117 : decode cX0_seekClassOne 117 = .ok (.aload_n 0, 1) := by decide +kernel
theorem dX0_seekClassOne_118 : decode cX0_seekClassOne 118 = .ok (.iload 6, 2) := by decide +kernel
theorem dX0_seekClassOne_120 : decode cX0_seekClassOne 120 = .ok (.putfield 25, 3) := by decide +kernel
theorem dX0_seekClassOne_123 : decode cX0_seekClassOne 123 = .ok (.return_, 1) := by decide +kernel
theorem dX0_seekClassOne_124 : decode cX0_seekClassOne 124 = .ok (.iinc 6 1, 3) := by decide +kernel
theorem dX0_seekClassOne_127 : decode cX0_seekClassOne 127 = .ok (.goto (-83), 3) := by decide +kernel
theorem dX0_seekClassOne_130 : decode cX0_seekClassOne 130 = .ok (.aload_n 0, 1) := by decide +kernel
theorem dX0_seekClassOne_131 : decode cX0_seekClassOne 131 = .ok (.getfield 28, 3) := by decide +kernel
theorem dX0_seekClassOne_134 : decode cX0_seekClassOne 134 = .ok (.iload 4, 2) := by decide +kernel
theorem dX0_seekClassOne_136 : decode cX0_seekClassOne 136 = .ok (.invokevirtual 60, 3) := by decide +kernel
theorem dX0_seekClassOne_139 : decode cX0_seekClassOne 139 = .ok (.istore 4, 2) := by decide +kernel
theorem dX0_seekClassOne_141 : decode cX0_seekClassOne 141 = .ok (.iinc 5 1, 3) := by decide +kernel
theorem dX0_seekClassOne_144 : decode cX0_seekClassOne 144 = .ok (.goto (-116), 3) := by decide +kernel
theorem dX0_seekClassOne_147 : decode cX0_seekClassOne 147 = .ok (.return_, 1) := by decide +kernel
theorem dX0_seekFaceOnes_0 : decode cX0_seekFaceOnes 0 = .ok (.iconst 0, 1) := by decide +kernel
theorem dX0_seekFaceOnes_1 : decode cX0_seekFaceOnes 1 = .ok (.istore 4, 2) := by decide +kernel
theorem dX0_seekFaceOnes_3 : decode cX0_seekFaceOnes 3 = .ok (.iconst 0, 1) := by decide +kernel
theorem dX0_seekFaceOnes_4 : decode cX0_seekFaceOnes 4 = .ok (.istore 5, 2) := by decide +kernel
theorem dX0_seekFaceOnes_6 : decode cX0_seekFaceOnes 6 = .ok (.iconst 0, 1) := by decide +kernel
theorem dX0_seekFaceOnes_7 : decode cX0_seekFaceOnes 7 = .ok (.istore 6, 2) := by decide +kernel
theorem dX0_seekFaceOnes_9 : decode cX0_seekFaceOnes 9 = .ok (.iload 6, 2) := by decide +kernel
theorem dX0_seekFaceOnes_11 : decode cX0_seekFaceOnes 11 = .ok (.aload_n 0, 1) := by decide +kernel
theorem dX0_seekFaceOnes_12 : decode cX0_seekFaceOnes 12 = .ok (.getfield 32, 3) := by decide +kernel
theorem dX0_seekFaceOnes_15 : decode cX0_seekFaceOnes 15 = .ok (.getfield 41, 3) := by decide +kernel
theorem dX0_seekFaceOnes_18 : decode cX0_seekFaceOnes 18 = .ok (.if_icmp .ge 62, 3) := by decide +kernel
theorem dX0_seekFaceOnes_21 : decode cX0_seekFaceOnes 21 = .ok (.aload_n 0, 1) := by decide +kernel
theorem dX0_seekFaceOnes_22 : decode cX0_seekFaceOnes 22 = .ok (.iload 6, 2) := by decide +kernel
theorem dX0_seekFaceOnes_24 : decode cX0_seekFaceOnes 24 = .ok (.iload_n 1, 1) := by decide +kernel
theorem dX0_seekFaceOnes_25 : decode cX0_seekFaceOnes 25 = .ok (.iload_n 2, 1) := by decide +kernel
theorem dX0_seekFaceOnes_26 : decode cX0_seekFaceOnes 26 = .ok (.iload_n 3, 1) := by decide +kernel
theorem dX0_seekFaceOnes_27 : decode cX0_seekFaceOnes 27 = .ok (.invokevirtual 64, 3) := by decide +kernel
theorem dX0_seekFaceOnes_30 : decode cX0_seekFaceOnes 30 = .ok (.ifCond .eq 44, 3) := by decide +kernel
theorem dX0_seekFaceOnes_33 : decode cX0_seekFaceOnes 33 = .ok (.iload 4, 2) := by decide +kernel
theorem dX0_seekFaceOnes_35 : decode cX0_seekFaceOnes 35 = .ok (.aload_n 0, 1) := by decide +kernel
theorem dX0_seekFaceOnes_36 : decode cX0_seekFaceOnes 36 = .ok (.getfield 32, 3) := by decide +kernel
theorem dX0_seekFaceOnes_39 : decode cX0_seekFaceOnes 39 = .ok (.getfield 46, 3) := by decide +kernel
theorem dX0_seekFaceOnes_42 : decode cX0_seekFaceOnes 42 = .ok (.iload 6, 2) := by decide +kernel
theorem dX0_seekFaceOnes_44 : decode cX0_seekFaceOnes 44 = .ok (.iaload, 1) := by decide +kernel
theorem dX0_seekFaceOnes_45 : decode cX0_seekFaceOnes 45 = .ok (.invokestatic 68, 3) := by decide +kernel
theorem dX0_seekFaceOnes_48 : decode cX0_seekFaceOnes 48 = .ok (.ior, 1) := by decide +kernel
theorem dX0_seekFaceOnes_49 : decode cX0_seekFaceOnes 49 = .ok (.istore 4, 2) := by decide +kernel
theorem dX0_seekFaceOnes_51 : decode cX0_seekFaceOnes 51 = .ok (.iload 5, 2) := by decide +kernel
theorem dX0_seekFaceOnes_53 : decode cX0_seekFaceOnes 53 = .ok (.aload_n 0, 1) := by decide +kernel
theorem dX0_seekFaceOnes_54 : decode cX0_seekFaceOnes 54 = .ok (.getfield 28, 3) := by decide +kernel
theorem dX0_seekFaceOnes_57 : decode cX0_seekFaceOnes 57 = .ok (.getfield 71, 3) := by decide +kernel
theorem dX0_seekFaceOnes_60 : decode cX0_seekFaceOnes 60 = .ok (.aload_n 0, 1) := by decide +kernel
theorem dX0_seekFaceOnes_61 : decode cX0_seekFaceOnes 61 = .ok (.getfield 32, 3) := by decide +kernel
theorem dX0_seekFaceOnes_64 : decode cX0_seekFaceOnes 64 = .ok (.getfield 46, 3) := by decide +kernel
theorem dX0_seekFaceOnes_67 : decode cX0_seekFaceOnes 67 = .ok (.iload 6, 2) := by decide +kernel
theorem dX0_seekFaceOnes_69 : decode cX0_seekFaceOnes 69 = .ok (.iaload, 1) := by decide +kernel
theorem dX0_seekFaceOnes_70 : decode cX0_seekFaceOnes 70 = .ok (.iaload, 1) := by decide +kernel
theorem dX0_seekFaceOnes_71 : decode cX0_seekFaceOnes 71 = .ok (.ior, 1) := by decide +kernel
theorem dX0_seekFaceOnes_72 : decode cX0_seekFaceOnes 72 = .ok (.istore 5, 2) := by decide +kernel
theorem dX0_seekFaceOnes_74 : decode cX0_seekFaceOnes 74 = .ok (.iinc 6 1, 3) := by decide +kernel
theorem dX0_seekFaceOnes_77 : decode cX0_seekFaceOnes 77 = .ok (.goto (-68), 3) := by decide +kernel
theorem dX0_seekFaceOnes_80 : decode cX0_seekFaceOnes 80 = .ok (.iload 4, 2) := by decide +kernel
theorem dX0_seekFaceOnes_82 : decode cX0_seekFaceOnes 82 = .ok (.iload 5, 2) := by decide +kernel
theorem dX0_seekFaceOnes_84 : decode cX0_seekFaceOnes 84 = .ok (.iconst (-1), 1) := by decide +kernel
theorem dX0_seekFaceOnes_85 : decode cX0_seekFaceOnes 85 = .ok (.ixor, 1) := by decide +kernel
theorem dX0_seekFaceOnes_86 : decode cX0_seekFaceOnes 86 = .ok (.iand, 1) := by decide +kernel
theorem dX0_seekFaceOnes_87 : decode cX0_seekFaceOnes 87 = .ok (.istore 6, 2) := by decide +kernel
theorem dX0_seekFaceOnes_89 : decode cX0_seekFaceOnes 89 = .ok (.aload_n 0, 1) := by decide +kernel
theorem dX0_seekFaceOnes_90 : decode cX0_seekFaceOnes 90 = .ok (.iconst 0, 1) := by decide +kernel
theorem dX0_seekFaceOnes_91 : decode cX0_seekFaceOnes 91 = .ok (.putfield 21, 3) := by decide +kernel
theorem dX0_seekFaceOnes_94 : decode cX0_seekFaceOnes 94 = .ok (.iconst 0, 1) := by decide +kernel
theorem dX0_seekFaceOnes_95 : decode cX0_seekFaceOnes 95 = .ok (.istore 7, 2) := by decide +kernel
theorem dX0_seekFaceOnes_97 : decode cX0_seekFaceOnes 97 = .ok (.iload 7, 2) := by decide +kernel
theorem dX0_seekFaceOnes_99 : decode cX0_seekFaceOnes 99 = .ok (.aload_n 0, 1) := by decide +kernel
theorem dX0_seekFaceOnes_100 : decode cX0_seekFaceOnes 100 = .ok (.getfield 32, 3) := by decide +kernel
theorem dX0_seekFaceOnes_103 : decode cX0_seekFaceOnes 103 = .ok (.getfield 41, 3) := by decide +kernel
theorem dX0_seekFaceOnes_106 : decode cX0_seekFaceOnes 106 = .ok (.if_icmp .ge 85, 3) := by decide +kernel
theorem dX0_seekFaceOnes_109 : decode cX0_seekFaceOnes 109 = .ok (.iload 6, 2) := by decide +kernel
theorem dX0_seekFaceOnes_111 : decode cX0_seekFaceOnes 111 = .ok (.ifCond .eq 80, 3) := by decide +kernel
theorem dX0_seekFaceOnes_114 : decode cX0_seekFaceOnes 114 = .ok (.iload 6, 2) := by decide +kernel
theorem dX0_seekFaceOnes_116 : decode cX0_seekFaceOnes 116 = .ok (.aload_n 0, 1) := by decide +kernel
theorem dX0_seekFaceOnes_117 : decode cX0_seekFaceOnes 117 = .ok (.getfield 32, 3) := by decide +kernel
theorem dX0_seekFaceOnes_120 : decode cX0_seekFaceOnes 120 = .ok (.getfield 46, 3) := by decide +kernel
theorem dX0_seekFaceOnes_123 : decode cX0_seekFaceOnes 123 = .ok (.iload 7, 2) := by decide +kernel
theorem dX0_seekFaceOnes_125 : decode cX0_seekFaceOnes 125 = .ok (.iaload, 1) := by decide +kernel
theorem dX0_seekFaceOnes_126 : decode cX0_seekFaceOnes 126 = .ok (.invokestatic 74, 3) := by decide +kernel
theorem dX0_seekFaceOnes_129 : decode cX0_seekFaceOnes 129 = .ok (.ifCond .eq 56, 3) := by decide +kernel
theorem dX0_seekFaceOnes_132 : decode cX0_seekFaceOnes 132 = .ok (.aload_n 0, 1) := by decide +kernel
theorem dX0_seekFaceOnes_133 : decode cX0_seekFaceOnes 133 = .ok (.iload 7, 2) := by decide +kernel
theorem dX0_seekFaceOnes_135 : decode cX0_seekFaceOnes 135 = .ok (.iload_n 1, 1) := by decide +kernel
theorem dX0_seekFaceOnes_136 : decode cX0_seekFaceOnes 136 = .ok (.iload_n 2, 1) := by decide +kernel
theorem dX0_seekFaceOnes_137 : decode cX0_seekFaceOnes 137 = .ok (.iload_n 3, 1) := by decide +kernel
theorem dX0_seekFaceOnes_138 : decode cX0_seekFaceOnes 138 = .ok (.invokevirtual 64, 3) := by decide +kernel
theorem dX0_seekFaceOnes_141 : decode cX0_seekFaceOnes 141 = .ok (.ifCond .eq 44, 3) := by decide +kernel
theorem dX0_seekFaceOnes_144 : decode cX0_seekFaceOnes 144 = .ok (.aload_n 0, 1) := by decide +kernel
theorem dX0_seekFaceOnes_145 : decode cX0_seekFaceOnes 145 = .ok (.getfield 9, 3) := by decide +kernel
theorem dX0_seekFaceOnes_148 : decode cX0_seekFaceOnes 148 = .ok (.aload_n 0, 1) := by decide +kernel
theorem dX0_seekFaceOnes_149 : decode cX0_seekFaceOnes 149 = .ok (.getfield 21, 3) := by decide +kernel
theorem dX0_seekFaceOnes_152 : decode cX0_seekFaceOnes 152 = .ok (.iload 7, 2) := by decide +kernel
theorem dX0_seekFaceOnes_154 : decode cX0_seekFaceOnes 154 = .ok (.iastore, 1) := by decide +kernel
theorem dX0_seekFaceOnes_155 : decode cX0_seekFaceOnes 155 = .ok (.aload_n 0, 1) := by decide +kernel
theorem dX0_seekFaceOnes_156 : decode cX0_seekFaceOnes 156 = .ok (.dup, 1) := by decide +kernel
theorem dX0_seekFaceOnes_157 : decode cX0_seekFaceOnes 157 = .ok (.getfield 21, 3) := by decide +kernel
theorem dX0_seekFaceOnes_160 : decode cX0_seekFaceOnes 160 = .ok (.iconst 1, 1) := by decide +kernel
theorem dX0_seekFaceOnes_161 : decode cX0_seekFaceOnes 161 = .ok (.iadd, 1) := by decide +kernel
theorem dX0_seekFaceOnes_162 : decode cX0_seekFaceOnes 162 = .ok (.putfield 21, 3) := by decide +kernel
theorem dX0_seekFaceOnes_165 : decode cX0_seekFaceOnes 165 = .ok (.iload 6, 2) := by decide +kernel
theorem dX0_seekFaceOnes_167 : decode cX0_seekFaceOnes 167 = .ok (.aload_n 0, 1) := by decide +kernel
theorem dX0_seekFaceOnes_168 : decode cX0_seekFaceOnes 168 = .ok (.getfield 32, 3) := by decide +kernel
theorem dX0_seekFaceOnes_171 : decode cX0_seekFaceOnes 171 = .ok (.getfield 46, 3) := by decide +kernel
theorem dX0_seekFaceOnes_174 : decode cX0_seekFaceOnes 174 = .ok (.iload 7, 2) := by decide +kernel
theorem dX0_seekFaceOnes_176 : decode cX0_seekFaceOnes 176 = .ok (.iaload, 1) := by decide +kernel
theorem dX0_seekFaceOnes_177 : decode cX0_seekFaceOnes 177 = .ok (.invokestatic 68, 3) := by decide +kernel
theorem dX0_seekFaceOnes_180 : decode cX0_seekFaceOnes 180 = .ok (.iconst (-1), 1) := by decide +kernel
theorem dX0_seekFaceOnes_181 : decode cX0_seekFaceOnes 181 = .ok (.ixor, 1) := by decide +kernel
theorem dX0_seekFaceOnes_182 : decode cX0_seekFaceOnes 182 = .ok (.iand, 1) := by decide +kernel
theorem dX0_seekFaceOnes_183 : decode cX0_seekFaceOnes 183 = .ok (.istore 6, 2) := by decide +kernel
theorem dX0_seekFaceOnes_185 : decode cX0_seekFaceOnes 185 = .ok (.iinc 7 1, 3) := by decide +kernel
theorem dX0_seekFaceOnes_188 : decode cX0_seekFaceOnes 188 = .ok (.goto (-91), 3) := by decide +kernel
theorem dX0_seekFaceOnes_191 : decode cX0_seekFaceOnes 191 = .ok (.return_, 1) := by decide +kernel
theorem dX0_givenByFace_0 : decode cX0_givenByFace 0 = .ok (.aload_n 0, 1) := by decide +kernel
theorem dX0_givenByFace_1 : decode cX0_givenByFace 1 = .ok (.getfield 32, 3) := by decide +kernel
theorem dX0_givenByFace_4 : decode cX0_givenByFace 4 = .ok (.iload_n 1, 1) := by decide +kernel
theorem dX0_givenByFace_5 : decode cX0_givenByFace 5 = .ok (.iload_n 3, 1) := by decide +kernel
theorem dX0_givenByFace_6 : decode cX0_givenByFace 6 = .ok (.iload 4, 2) := by decide +kernel
theorem dX0_givenByFace_8 : decode cX0_givenByFace 8 = .ok (.invokevirtual 49, 3) := by decide +kernel
theorem dX0_givenByFace_11 : decode cX0_givenByFace 11 = .ok (.ifCond .eq 62, 3) := by decide +kernel
theorem dX0_givenByFace_14 : decode cX0_givenByFace 14 = .ok (.aload_n 0, 1) := by decide +kernel
theorem dX0_givenByFace_15 : decode cX0_givenByFace 15 = .ok (.getfield 32, 3) := by decide +kernel
theorem dX0_givenByFace_18 : decode cX0_givenByFace 18 = .ok (.iload_n 1, 1) := by decide +kernel
theorem dX0_givenByFace_19 : decode cX0_givenByFace 19 = .ok (.invokevirtual 77, 3) := by decide +kernel
theorem dX0_givenByFace_22 : decode cX0_givenByFace 22 = .ok (.ifCond .eq 51, 3) := by decide +kernel
theorem dX0_givenByFace_25 : decode cX0_givenByFace 25 = .ok (.aload_n 0, 1) := by decide +kernel
theorem dX0_givenByFace_26 : decode cX0_givenByFace 26 = .ok (.getfield 28, 3) := by decide +kernel
theorem dX0_givenByFace_29 : decode cX0_givenByFace 29 = .ok (.iload_n 2, 1) := by decide +kernel
theorem dX0_givenByFace_30 : decode cX0_givenByFace 30 = .ok (.aload_n 0, 1) := by decide +kernel
theorem dX0_givenByFace_31 : decode cX0_givenByFace 31 = .ok (.getfield 32, 3) := by decide +kernel
theorem dX0_givenByFace_34 : decode cX0_givenByFace 34 = .ok (.getfield 46, 3) := by decide +kernel
theorem dX0_givenByFace_37 : decode cX0_givenByFace 37 = .ok (.iload_n 1, 1) := by decide +kernel
theorem dX0_givenByFace_38 : decode cX0_givenByFace 38 = .ok (.iaload, 1) := by decide +kernel
theorem dX0_givenByFace_39 : decode cX0_givenByFace 39 = .ok (.invokevirtual 81, 3) := by decide +kernel
theorem dX0_givenByFace_42 : decode cX0_givenByFace 42 = .ok (.ifCond .eq 31, 3) := by decide +kernel
theorem dX0_givenByFace_45 : decode cX0_givenByFace 45 = .ok (.aload_n 0, 1) := by decide +kernel
theorem dX0_givenByFace_46 : decode cX0_givenByFace 46 = .ok (.getfield 32, 3) := by decide +kernel
theorem dX0_givenByFace_49 : decode cX0_givenByFace 49 = .ok (.iload_n 1, 1) := by decide +kernel
theorem dX0_givenByFace_50 : decode cX0_givenByFace 50 = .ok (.iconst 4, 1) := by decide +kernel
theorem dX0_givenByFace_51 : decode cX0_givenByFace 51 = .ok (.invokevirtual 53, 3) := by decide +kernel
theorem dX0_givenByFace_54 : decode cX0_givenByFace 54 = .ok (.ifCond .ne 19, 3) := by decide +kernel
theorem dX0_givenByFace_57 : decode cX0_givenByFace 57 = .ok (.aload_n 0, 1) := by decide +kernel
theorem dX0_givenByFace_58 : decode cX0_givenByFace 58 = .ok (.getfield 32, 3) := by decide +kernel
theorem dX0_givenByFace_61 : decode cX0_givenByFace 61 = .ok (.getfield 84, 3) := by decide +kernel
theorem dX0_givenByFace_64 : decode cX0_givenByFace 64 = .ok (.iload_n 1, 1) := by decide +kernel
theorem dX0_givenByFace_65 : decode cX0_givenByFace 65 = .ok (.iaload, 1) := by decide +kernel
theorem dX0_givenByFace_66 : decode cX0_givenByFace 66 = .ok (.ifCond .eq 7, 3) := by decide +kernel
theorem dX0_givenByFace_69 : decode cX0_givenByFace 69 = .ok (.iconst 1, 1) := by decide +kernel
theorem dX0_givenByFace_70 : decode cX0_givenByFace 70 = .ok (.goto 4, 3) := by decide +kernel
theorem dX0_givenByFace_73 : decode cX0_givenByFace 73 = .ok (.iconst 0, 1) := by decide +kernel
theorem dX0_givenByFace_74 : decode cX0_givenByFace 74 = .ok (.ireturn, 1) := by decide +kernel
theorem dX0_leastFaceOneWith_0 : decode cX0_leastFaceOneWith 0 = .ok (.iconst 0, 1) := by decide +kernel
theorem dX0_leastFaceOneWith_1 : decode cX0_leastFaceOneWith 1 = .ok (.istore_n 2, 1) := by decide +kernel
theorem dX0_leastFaceOneWith_2 : decode cX0_leastFaceOneWith 2 = .ok (.iload_n 2, 1) := by decide +kernel
theorem dX0_leastFaceOneWith_3 : decode cX0_leastFaceOneWith 3 = .ok (.aload_n 0, 1) := by decide +kernel
theorem dX0_leastFaceOneWith_4 : decode cX0_leastFaceOneWith 4 = .ok (.getfield 21, 3) := by decide +kernel
theorem dX0_leastFaceOneWith_7 : decode cX0_leastFaceOneWith 7 = .ok (.if_icmp .ge 33, 3) := by decide +kernel
theorem dX0_leastFaceOneWith_10 : decode cX0_leastFaceOneWith 10 = .ok (.aload_n 0, 1) := by decide +kernel
theorem dX0_leastFaceOneWith_11 : decode cX0_leastFaceOneWith 11 = .ok (.getfield 32, 3) := by decide +kernel
theorem dX0_leastFaceOneWith_14 : decode cX0_leastFaceOneWith 14 = .ok (.aload_n 0, 1) := by decide +kernel
theorem dX0_leastFaceOneWith_15 : decode cX0_leastFaceOneWith 15 = .ok (.getfield 9, 3) := by decide +kernel
theorem dX0_leastFaceOneWith_18 : decode cX0_leastFaceOneWith 18 = .ok (.iload_n 2, 1) := by decide +kernel
theorem dX0_leastFaceOneWith_19 : decode cX0_leastFaceOneWith 19 = .ok (.iaload, 1) := by decide +kernel
theorem dX0_leastFaceOneWith_20 : decode cX0_leastFaceOneWith 20 = .ok (.iload_n 1, 1) := by decide +kernel
theorem dX0_leastFaceOneWith_21 : decode cX0_leastFaceOneWith 21 = .ok (.invokevirtual 53, 3) := by decide +kernel
theorem dX0_leastFaceOneWith_24 : decode cX0_leastFaceOneWith 24 = .ok (.ifCond .eq 10, 3) := by decide +kernel
theorem dX0_leastFaceOneWith_27 : decode cX0_leastFaceOneWith 27 = .ok (.aload_n 0, 1) := by decide +kernel
theorem dX0_leastFaceOneWith_28 : decode cX0_leastFaceOneWith 28 = .ok (.getfield 9, 3) := by decide +kernel
theorem dX0_leastFaceOneWith_31 : decode cX0_leastFaceOneWith 31 = .ok (.iload_n 2, 1) := by decide +kernel
theorem dX0_leastFaceOneWith_32 : decode cX0_leastFaceOneWith 32 = .ok (.iaload, 1) := by decide +kernel
theorem dX0_leastFaceOneWith_33 : decode cX0_leastFaceOneWith 33 = .ok (.ireturn, 1) := by decide +kernel
theorem dX0_leastFaceOneWith_34 : decode cX0_leastFaceOneWith 34 = .ok (.iinc 2 1, 3) := by decide +kernel
theorem dX0_leastFaceOneWith_37 : decode cX0_leastFaceOneWith 37 = .ok (.goto (-35), 3) := by decide +kernel
theorem dX0_leastFaceOneWith_40 : decode cX0_leastFaceOneWith 40 = .ok (.iconst (-1), 1) := by decide +kernel
theorem dX0_leastFaceOneWith_41 : decode cX0_leastFaceOneWith 41 = .ok (.ireturn, 1) := by decide +kernel
theorem dX0_leastToBeGiven_0 : decode cX0_leastToBeGiven 0 = .ok (.aload_n 0, 1) := by decide +kernel
theorem dX0_leastToBeGiven_1 : decode cX0_leastToBeGiven 1 = .ok (.getfield 25, 3) := by decide +kernel
theorem dX0_leastToBeGiven_4 : decode cX0_leastToBeGiven 4 = .ok (.iconst (-1), 1) := by decide +kernel
theorem dX0_leastToBeGiven_5 : decode cX0_leastToBeGiven 5 = .ok (.if_icmp .eq 27, 3) := by decide +kernel
theorem dX0_leastToBeGiven_8 : decode cX0_leastToBeGiven 8 = .ok (.aload_n 0, 1) := by decide +kernel
theorem dX0_leastToBeGiven_9 : decode cX0_leastToBeGiven 9 = .ok (.getfield 32, 3) := by decide +kernel
theorem dX0_leastToBeGiven_12 : decode cX0_leastToBeGiven 12 = .ok (.aload_n 0, 1) := by decide +kernel
theorem dX0_leastToBeGiven_13 : decode cX0_leastToBeGiven 13 = .ok (.getfield 25, 3) := by decide +kernel
theorem dX0_leastToBeGiven_16 : decode cX0_leastToBeGiven 16 = .ok (.iconst 1, 1) := by decide +kernel
theorem dX0_leastToBeGiven_17 : decode cX0_leastToBeGiven 17 = .ok (.invokevirtual 53, 3) := by decide +kernel
theorem dX0_leastToBeGiven_20 : decode cX0_leastToBeGiven 20 = .ok (.ifCond .eq 10, 3) := by decide +kernel
theorem dX0_leastToBeGiven_23 : decode cX0_leastToBeGiven 23 = .ok (.aload_n 0, 1) := by decide +kernel
theorem dX0_leastToBeGiven_24 : decode cX0_leastToBeGiven 24 = .ok (.getfield 25, 3) := by decide +kernel
theorem dX0_leastToBeGiven_27 : decode cX0_leastToBeGiven 27 = .ok (.goto 4, 3) := by decide +kernel
theorem dX0_leastToBeGiven_30 : decode cX0_leastToBeGiven 30 = .ok (.iconst (-1), 1) := by decide +kernel
theorem dX0_leastToBeGiven_31 : decode cX0_leastToBeGiven 31 = .ok (.ireturn, 1) := by decide +kernel
theorem dX0_leastToBeGiven_32 : decode cX0_leastToBeGiven 32 = .ok (.aload_n 0, 1) := by decide +kernel
theorem dX0_leastToBeGiven_33 : decode cX0_leastToBeGiven 33 = .ok (.bipush 8, 2) := by decide +kernel
theorem dX0_leastToBeGiven_35 : decode cX0_leastToBeGiven 35 = .ok (.invokevirtual 87, 3) := by decide +kernel
theorem dX0_leastToBeGiven_38 : decode cX0_leastToBeGiven 38 = .ok (.iconst (-1), 1) := by decide +kernel
theorem dX0_leastToBeGiven_39 : decode cX0_leastToBeGiven 39 = .ok (.if_icmp .ne 11, 3) := by decide +kernel
theorem dX0_leastToBeGiven_42 : decode cX0_leastToBeGiven 42 = .ok (.aload_n 0, 1) := by decide +kernel
theorem dX0_leastToBeGiven_43 : decode cX0_leastToBeGiven 43 = .ok (.iconst 1, 1) := by decide +kernel
theorem dX0_leastToBeGiven_44 : decode cX0_leastToBeGiven 44 = .ok (.invokevirtual 87, 3) := by decide +kernel
theorem dX0_leastToBeGiven_47 : decode cX0_leastToBeGiven 47 = .ok (.goto 4, 3) := by decide +kernel
theorem dX0_leastToBeGiven_50 : decode cX0_leastToBeGiven 50 = .ok (.iconst (-1), 1) := by decide +kernel
theorem dX0_leastToBeGiven_51 : decode cX0_leastToBeGiven 51 = .ok (.ireturn, 1) := by decide +kernel
theorem dX0_leastOfRivals_0 : decode cX0_leastOfRivals 0 = .ok (.aload_n 0, 1) := by decide +kernel
theorem dX0_leastOfRivals_1 : decode cX0_leastOfRivals 1 = .ok (.getfield 25, 3) := by decide +kernel
theorem dX0_leastOfRivals_4 : decode cX0_leastOfRivals 4 = .ok (.iconst (-1), 1) := by decide +kernel
theorem dX0_leastOfRivals_5 : decode cX0_leastOfRivals 5 = .ok (.if_icmp .ne 25, 3) := by decide +kernel
theorem dX0_leastOfRivals_8 : decode cX0_leastOfRivals 8 = .ok (.aload_n 0, 1) := by decide +kernel
theorem dX0_leastOfRivals_9 : decode cX0_leastOfRivals 9 = .ok (.getfield 21, 3) := by decide +kernel
theorem dX0_leastOfRivals_12 : decode cX0_leastOfRivals 12 = .ok (.iconst 1, 1) := by decide +kernel
theorem dX0_leastOfRivals_13 : decode cX0_leastOfRivals 13 = .ok (.if_icmp .le 17, 3) := by decide +kernel
theorem dX0_leastOfRivals_16 : decode cX0_leastOfRivals 16 = .ok (.aload_n 0, 1) := by decide +kernel
theorem dX0_leastOfRivals_17 : decode cX0_leastOfRivals 17 = .ok (.bipush 8, 2) := by decide +kernel
theorem dX0_leastOfRivals_19 : decode cX0_leastOfRivals 19 = .ok (.invokevirtual 87, 3) := by decide +kernel
theorem dX0_leastOfRivals_22 : decode cX0_leastOfRivals 22 = .ok (.iconst (-1), 1) := by decide +kernel
theorem dX0_leastOfRivals_23 : decode cX0_leastOfRivals 23 = .ok (.if_icmp .eq 7, 3) := by decide +kernel
theorem dX0_leastOfRivals_26 : decode cX0_leastOfRivals 26 = .ok (.iconst 1, 1) := by decide +kernel
theorem dX0_leastOfRivals_27 : decode cX0_leastOfRivals 27 = .ok (.goto 4, 3) := by decide +kernel
theorem dX0_leastOfRivals_30 : decode cX0_leastOfRivals 30 = .ok (.iconst 0, 1) := by decide +kernel
theorem dX0_leastOfRivals_31 : decode cX0_leastOfRivals 31 = .ok (.istore_n 1, 1) := by decide +kernel
theorem dX0_leastOfRivals_32 : decode cX0_leastOfRivals 32 = .ok (.iload_n 1, 1) := by decide +kernel
theorem dX0_leastOfRivals_33 : decode cX0_leastOfRivals 33 = .ok (.ifCond .eq 12, 3) := by decide +kernel
theorem dX0_leastOfRivals_36 : decode cX0_leastOfRivals 36 = .ok (.aload_n 0, 1) := by decide +kernel
theorem dX0_leastOfRivals_37 : decode cX0_leastOfRivals 37 = .ok (.getfield 9, 3) := by decide +kernel
theorem dX0_leastOfRivals_40 : decode cX0_leastOfRivals 40 = .ok (.iconst 0, 1) := by decide +kernel
theorem dX0_leastOfRivals_41 : decode cX0_leastOfRivals 41 = .ok (.iaload, 1) := by decide +kernel
theorem dX0_leastOfRivals_42 : decode cX0_leastOfRivals 42 = .ok (.goto 4, 3) := by decide +kernel
theorem dX0_leastOfRivals_45 : decode cX0_leastOfRivals 45 = .ok (.iconst (-1), 1) := by decide +kernel
theorem dX0_leastOfRivals_46 : decode cX0_leastOfRivals 46 = .ok (.ireturn, 1) := by decide +kernel
theorem dX0_running_0 : decode cX0_running 0 = .ok (.aload_n 0, 1) := by decide +kernel
theorem dX0_running_1 : decode cX0_running 1 = .ok (.iload_n 1, 1) := by decide +kernel
theorem dX0_running_2 : decode cX0_running 2 = .ok (.iload_n 2, 1) := by decide +kernel
theorem dX0_running_3 : decode cX0_running 3 = .ok (.iload_n 3, 1) := by decide +kernel
theorem dX0_running_4 : decode cX0_running 4 = .ok (.invokevirtual 90, 3) := by decide +kernel
theorem dX0_running_7 : decode cX0_running 7 = .ok (.aload_n 0, 1) := by decide +kernel
theorem dX0_running_8 : decode cX0_running 8 = .ok (.getfield 25, 3) := by decide +kernel
theorem dX0_running_11 : decode cX0_running 11 = .ok (.iconst (-1), 1) := by decide +kernel
theorem dX0_running_12 : decode cX0_running 12 = .ok (.if_icmp .eq 12, 3) := by decide +kernel
theorem dX0_running_15 : decode cX0_running 15 = .ok (.aload_n 0, 1) := by decide +kernel
theorem dX0_running_16 : decode cX0_running 16 = .ok (.aload_n 0, 1) := by decide +kernel
theorem dX0_running_17 : decode cX0_running 17 = .ok (.getfield 25, 3) := by decide +kernel
theorem dX0_running_20 : decode cX0_running 20 = .ok (.invokevirtual 94, 3) := by decide +kernel
theorem dX0_running_23 : decode cX0_running 23 = .ok (.ireturn, 1) := by decide +kernel
theorem dX0_running_24 : decode cX0_running 24 = .ok (.aload_n 0, 1) := by decide +kernel
theorem dX0_running_25 : decode cX0_running 25 = .ok (.iload_n 1, 1) := by decide +kernel
theorem dX0_running_26 : decode cX0_running 26 = .ok (.iload_n 2, 1) := by decide +kernel
theorem dX0_running_27 : decode cX0_running 27 = .ok (.iload_n 3, 1) := by decide +kernel
theorem dX0_running_28 : decode cX0_running 28 = .ok (.invokevirtual 97, 3) := by decide +kernel
theorem dX0_running_31 : decode cX0_running 31 = .ok (.aload_n 0, 1) := by decide +kernel
theorem dX0_running_32 : decode cX0_running 32 = .ok (.getfield 21, 3) := by decide +kernel
theorem dX0_running_35 : decode cX0_running 35 = .ok (.iconst 1, 1) := by decide +kernel
theorem dX0_running_36 : decode cX0_running 36 = .ok (.if_icmp .ne 12, 3) := by decide +kernel
theorem dX0_running_39 : decode cX0_running 39 = .ok (.aload_n 0, 1) := by decide +kernel
theorem dX0_running_40 : decode cX0_running 40 = .ok (.bipush 8, 2) := by decide +kernel
theorem dX0_running_42 : decode cX0_running 42 = .ok (.invokevirtual 87, 3) := by decide +kernel
theorem dX0_running_45 : decode cX0_running 45 = .ok (.goto 4, 3) := by decide +kernel
theorem dX0_running_48 : decode cX0_running 48 = .ok (.iconst (-1), 1) := by decide +kernel
theorem dX0_running_49 : decode cX0_running 49 = .ok (.ireturn, 1) := by decide +kernel
theorem dX0_reached_0 : decode cX0_reached 0 = .ok (.aload_n 0, 1) := by decide +kernel
theorem dX0_reached_1 : decode cX0_reached 1 = .ok (.iload_n 1, 1) := by decide +kernel
theorem dX0_reached_2 : decode cX0_reached 2 = .ok (.iload_n 3, 1) := by decide +kernel
theorem dX0_reached_3 : decode cX0_reached 3 = .ok (.iload 4, 2) := by decide +kernel
theorem dX0_reached_5 : decode cX0_reached 5 = .ok (.invokevirtual 100, 3) := by decide +kernel
theorem dX0_reached_8 : decode cX0_reached 8 = .ok (.istore 5, 2) := by decide +kernel
theorem dX0_reached_10 : decode cX0_reached 10 = .ok (.iload 5, 2) := by decide +kernel
theorem dX0_reached_12 : decode cX0_reached 12 = .ok (.iconst (-1), 1) := by decide +kernel
theorem dX0_reached_13 : decode cX0_reached 13 = .ok (.if_icmp .eq 16, 3) := by decide +kernel
theorem dX0_reached_16 : decode cX0_reached 16 = .ok (.aload_n 0, 1) := by decide +kernel
theorem dX0_reached_17 : decode cX0_reached 17 = .ok (.getfield 32, 3) := by decide +kernel
theorem dX0_reached_20 : decode cX0_reached 20 = .ok (.getfield 84, 3) := by decide +kernel
theorem dX0_reached_23 : decode cX0_reached 23 = .ok (.iload 5, 2) := by decide +kernel
theorem dX0_reached_25 : decode cX0_reached 25 = .ok (.iaload, 1) := by decide +kernel
theorem dX0_reached_26 : decode cX0_reached 26 = .ok (.ifCond .ne 6, 3) := by decide +kernel
theorem dX0_reached_29 : decode cX0_reached 29 = .ok (.iload 5, 2) := by decide +kernel
theorem dX0_reached_31 : decode cX0_reached 31 = .ok (.ireturn, 1) := by decide +kernel
theorem dX0_reached_32 : decode cX0_reached 32 = .ok (.aload_n 0, 1) := by decide +kernel
theorem dX0_reached_33 : decode cX0_reached 33 = .ok (.getfield 32, 3) := by decide +kernel
theorem dX0_reached_36 : decode cX0_reached 36 = .ok (.iload 5, 2) := by decide +kernel
theorem dX0_reached_38 : decode cX0_reached 38 = .ok (.invokevirtual 77, 3) := by decide +kernel
theorem dX0_reached_41 : decode cX0_reached 41 = .ok (.ifCond .eq 12, 3) := by decide +kernel
theorem dX0_reached_44 : decode cX0_reached 44 = .ok (.aload_n 0, 1) := by decide +kernel
theorem dX0_reached_45 : decode cX0_reached 45 = .ok (.iload_n 2, 1) := by decide +kernel
theorem dX0_reached_46 : decode cX0_reached 46 = .ok (.iload_n 3, 1) := by decide +kernel
theorem dX0_reached_47 : decode cX0_reached 47 = .ok (.iload 4, 2) := by decide +kernel
theorem dX0_reached_49 : decode cX0_reached 49 = .ok (.invokevirtual 104, 3) := by decide +kernel
theorem dX0_reached_52 : decode cX0_reached 52 = .ok (.ireturn, 1) := by decide +kernel
theorem dX0_reached_53 : decode cX0_reached 53 = .ok (.aload_n 0, 1) := by decide +kernel
theorem dX0_reached_54 : decode cX0_reached 54 = .ok (.aload_n 0, 1) := by decide +kernel
theorem dX0_reached_55 : decode cX0_reached 55 = .ok (.iload 5, 2) := by decide +kernel
theorem dX0_reached_57 : decode cX0_reached 57 = .ok (.iload_n 2, 1) := by decide +kernel
theorem dX0_reached_58 : decode cX0_reached 58 = .ok (.invokevirtual 107, 3) := by decide +kernel
theorem dX0_reached_61 : decode cX0_reached 61 = .ok (.invokevirtual 94, 3) := by decide +kernel
theorem dX0_reached_64 : decode cX0_reached 64 = .ok (.ireturn, 1) := by decide +kernel
theorem dX0_meantBy_0 : decode cX0_meantBy 0 = .ok (.aload_n 0, 1) := by decide +kernel
theorem dX0_meantBy_1 : decode cX0_meantBy 1 = .ok (.iload_n 1, 1) := by decide +kernel
theorem dX0_meantBy_2 : decode cX0_meantBy 2 = .ok (.iload_n 2, 1) := by decide +kernel
theorem dX0_meantBy_3 : decode cX0_meantBy 3 = .ok (.iload_n 3, 1) := by decide +kernel
theorem dX0_meantBy_4 : decode cX0_meantBy 4 = .ok (.invokevirtual 90, 3) := by decide +kernel
theorem dX0_meantBy_7 : decode cX0_meantBy 7 = .ok (.aload_n 0, 1) := by decide +kernel
theorem dX0_meantBy_8 : decode cX0_meantBy 8 = .ok (.getfield 25, 3) := by decide +kernel
theorem dX0_meantBy_11 : decode cX0_meantBy 11 = .ok (.iconst (-1), 1) := by decide +kernel
theorem dX0_meantBy_12 : decode cX0_meantBy 12 = .ok (.if_icmp .eq 8, 3) := by decide +kernel
theorem dX0_meantBy_15 : decode cX0_meantBy 15 = .ok (.aload_n 0, 1) := by decide +kernel
theorem dX0_meantBy_16 : decode cX0_meantBy 16 = .ok (.getfield 25, 3) := by decide +kernel
theorem dX0_meantBy_19 : decode cX0_meantBy 19 = .ok (.ireturn, 1) := by decide +kernel
theorem dX0_meantBy_20 : decode cX0_meantBy 20 = .ok (.aload_n 0, 1) := by decide +kernel
theorem dX0_meantBy_21 : decode cX0_meantBy 21 = .ok (.iload_n 1, 1) := by decide +kernel
theorem dX0_meantBy_22 : decode cX0_meantBy 22 = .ok (.iload_n 2, 1) := by decide +kernel
theorem dX0_meantBy_23 : decode cX0_meantBy 23 = .ok (.iload_n 3, 1) := by decide +kernel
theorem dX0_meantBy_24 : decode cX0_meantBy 24 = .ok (.invokevirtual 97, 3) := by decide +kernel
theorem dX0_meantBy_27 : decode cX0_meantBy 27 = .ok (.aload_n 0, 1) := by decide +kernel
theorem dX0_meantBy_28 : decode cX0_meantBy 28 = .ok (.getfield 21, 3) := by decide +kernel
theorem dX0_meantBy_31 : decode cX0_meantBy 31 = .ok (.ifCond .le 12, 3) := by decide +kernel
theorem dX0_meantBy_34 : decode cX0_meantBy 34 = .ok (.aload_n 0, 1) := by decide +kernel
theorem dX0_meantBy_35 : decode cX0_meantBy 35 = .ok (.getfield 9, 3) := by decide +kernel
theorem dX0_meantBy_38 : decode cX0_meantBy 38 = .ok (.iconst 0, 1) := by decide +kernel
theorem dX0_meantBy_39 : decode cX0_meantBy 39 = .ok (.iaload, 1) := by decide +kernel
theorem dX0_meantBy_40 : decode cX0_meantBy 40 = .ok (.goto 4, 3) := by decide +kernel
theorem dX0_meantBy_43 : decode cX0_meantBy 43 = .ok (.iconst (-1), 1) := by decide +kernel
theorem dX0_meantBy_44 : decode cX0_meantBy 44 = .ok (.ireturn, 1) := by decide +kernel
theorem dX0_inPlaceOf_0 : decode cX0_inPlaceOf 0 = .ok (.aload_n 0, 1) := by decide +kernel
theorem dX0_inPlaceOf_1 : decode cX0_inPlaceOf 1 = .ok (.aload_n 0, 1) := by decide +kernel
theorem dX0_inPlaceOf_2 : decode cX0_inPlaceOf 2 = .ok (.getfield 32, 3) := by decide +kernel
theorem dX0_inPlaceOf_5 : decode cX0_inPlaceOf 5 = .ok (.getfield 46, 3) := by decide +kernel
theorem dX0_inPlaceOf_8 : decode cX0_inPlaceOf 8 = .ok (.iload_n 1, 1) := by decide +kernel
theorem dX0_inPlaceOf_9 : decode cX0_inPlaceOf 9 = .ok (.iaload, 1) := by decide +kernel
theorem dX0_inPlaceOf_10 : decode cX0_inPlaceOf 10 = .ok (.iload_n 2, 1) := by decide +kernel
theorem dX0_inPlaceOf_11 : decode cX0_inPlaceOf 11 = .ok (.invokevirtual 111, 3) := by decide +kernel
theorem dX0_inPlaceOf_14 : decode cX0_inPlaceOf 14 = .ok (.istore_n 3, 1) := by decide +kernel
theorem dX0_inPlaceOf_15 : decode cX0_inPlaceOf 15 = .ok (.aload_n 0, 1) := by decide +kernel
theorem dX0_inPlaceOf_16 : decode cX0_inPlaceOf 16 = .ok (.getfield 18, 3) := by decide +kernel
theorem dX0_inPlaceOf_19 : decode cX0_inPlaceOf 19 = .ok (.iconst 0, 1) := by decide +kernel
theorem dX0_inPlaceOf_20 : decode cX0_inPlaceOf 20 = .ok (.iload_n 1, 1) := by decide +kernel
theorem dX0_inPlaceOf_21 : decode cX0_inPlaceOf 21 = .ok (.iastore, 1) := by decide +kernel
theorem dX0_inPlaceOf_22 : decode cX0_inPlaceOf 22 = .ok (.iconst 1, 1) := by decide +kernel
theorem dX0_inPlaceOf_23 : decode cX0_inPlaceOf 23 = .ok (.istore 4, 2) := by decide +kernel
theorem dX0_inPlaceOf_25 : decode cX0_inPlaceOf 25 = .ok (.iload_n 3, 1) := by decide +kernel
theorem dX0_inPlaceOf_26 : decode cX0_inPlaceOf 26 = .ok (.iconst 2, 1) := by decide +kernel
theorem dX0_inPlaceOf_27 : decode cX0_inPlaceOf 27 = .ok (.isub, 1) := by decide +kernel
theorem dX0_inPlaceOf_28 : decode cX0_inPlaceOf 28 = .ok (.istore 5, 2) := by decide +kernel
theorem dX0_inPlaceOf_30 : decode cX0_inPlaceOf 30 = .ok (.iload 5, 2) := by decide +kernel
theorem dX0_inPlaceOf_32 : decode cX0_inPlaceOf 32 = .ok (.ifCond .lt 52, 3) := by decide +kernel
theorem dX0_inPlaceOf_35 : decode cX0_inPlaceOf 35 = .ok (.aload_n 0, 1) := by decide +kernel
theorem dX0_inPlaceOf_36 : decode cX0_inPlaceOf 36 = .ok (.aload_n 0, 1) := by decide +kernel
theorem dX0_inPlaceOf_37 : decode cX0_inPlaceOf 37 = .ok (.getfield 15, 3) := by decide +kernel
theorem dX0_inPlaceOf_40 : decode cX0_inPlaceOf 40 = .ok (.iload 5, 2) := by decide +kernel
theorem dX0_inPlaceOf_42 : decode cX0_inPlaceOf 42 = .ok (.iaload, 1) := by decide +kernel
theorem dX0_inPlaceOf_43 : decode cX0_inPlaceOf 43 = .ok (.iload_n 1, 1) := by decide +kernel
theorem dX0_inPlaceOf_44 : decode cX0_inPlaceOf 44 = .ok (.invokevirtual 114, 3) := by decide +kernel
theorem dX0_inPlaceOf_47 : decode cX0_inPlaceOf 47 = .ok (.istore 6, 2) := by decide +kernel
theorem dX0_inPlaceOf_49 : decode cX0_inPlaceOf 49 = .ok (.iload 6, 2) := by decide +kernel
theorem dX0_inPlaceOf_51 : decode cX0_inPlaceOf 51 = .ok (.iconst (-1), 1) := by decide +kernel
theorem dX0_inPlaceOf_52 : decode cX0_inPlaceOf 52 = .ok (.if_icmp .eq 26, 3) := by decide +kernel
theorem dX0_inPlaceOf_55 : decode cX0_inPlaceOf 55 = .ok (.aload_n 0, 1) := by decide +kernel
theorem dX0_inPlaceOf_56 : decode cX0_inPlaceOf 56 = .ok (.iload 6, 2) := by decide +kernel
theorem dX0_inPlaceOf_58 : decode cX0_inPlaceOf 58 = .ok (.iload 4, 2) := by decide +kernel
theorem dX0_inPlaceOf_60 : decode cX0_inPlaceOf 60 = .ok (.invokevirtual 117, 3) := by decide +kernel
theorem dX0_inPlaceOf_63 : decode cX0_inPlaceOf 63 = .ok (.ifCond .eq 15, 3) := by decide +kernel
theorem dX0_inPlaceOf_66 : decode cX0_inPlaceOf 66 = .ok (.aload_n 0, 1) := by decide +kernel
theorem dX0_inPlaceOf_67 : decode cX0_inPlaceOf 67 = .ok (.getfield 18, 3) := by decide +kernel
theorem dX0_inPlaceOf_70 : decode cX0_inPlaceOf 70 = .ok (.iload 4, 2) := by decide +kernel
theorem dX0_inPlaceOf_72 : decode cX0_inPlaceOf 72 = .ok (.iload 6, 2) := by decide +kernel
theorem dX0_inPlaceOf_74 : decode cX0_inPlaceOf 74 = .ok (.iastore, 1) := by decide +kernel
theorem dX0_inPlaceOf_75 : decode cX0_inPlaceOf 75 = .ok (.iinc 4 1, 3) := by decide +kernel
theorem dX0_inPlaceOf_78 : decode cX0_inPlaceOf 78 = .ok (.iinc 5 (-1), 3) := by decide +kernel
theorem dX0_inPlaceOf_81 : decode cX0_inPlaceOf 81 = .ok (.goto (-51), 3) := by decide +kernel
theorem dX0_inPlaceOf_84 : decode cX0_inPlaceOf 84 = .ok (.aload_n 0, 1) := by decide +kernel
theorem dX0_inPlaceOf_85 : decode cX0_inPlaceOf 85 = .ok (.getfield 18, 3) := by decide +kernel
theorem dX0_inPlaceOf_88 : decode cX0_inPlaceOf 88 = .ok (.iload 4, 2) := by decide +kernel
theorem dX0_inPlaceOf_90 : decode cX0_inPlaceOf 90 = .ok (.iconst 1, 1) := by decide +kernel
theorem dX0_inPlaceOf_91 : decode cX0_inPlaceOf 91 = .ok (.isub, 1) := by decide +kernel
theorem dX0_inPlaceOf_92 : decode cX0_inPlaceOf 92 = .ok (.iaload, 1) := by decide +kernel
theorem dX0_inPlaceOf_93 : decode cX0_inPlaceOf 93 = .ok (.ireturn, 1) := by decide +kernel
theorem dX0_chainUpTo_0 : decode cX0_chainUpTo 0 = .ok (.iload_n 2, 1) := by decide +kernel
theorem dX0_chainUpTo_1 : decode cX0_chainUpTo 1 = .ok (.istore_n 3, 1) := by decide +kernel
theorem dX0_chainUpTo_2 : decode cX0_chainUpTo 2 = .ok (.iconst 0, 1) := by decide +kernel
theorem dX0_chainUpTo_3 : decode cX0_chainUpTo 3 = .ok (.istore 4, 2) := by decide +kernel
theorem dX0_chainUpTo_5 : decode cX0_chainUpTo 5 = .ok (.iload 4, 2) := by decide +kernel
theorem dX0_chainUpTo_7 : decode cX0_chainUpTo 7 = .ok (.bipush 20, 2) := by decide +kernel
theorem dX0_chainUpTo_9 : decode cX0_chainUpTo 9 = .ok (.if_icmp .ge 41, 3) := by decide +kernel
theorem dX0_chainUpTo_12 : decode cX0_chainUpTo 12 = .ok (.iload_n 3, 1) := by decide +kernel
theorem dX0_chainUpTo_13 : decode cX0_chainUpTo 13 = .ok (.iconst (-1), 1) := by decide +kernel
theorem dX0_chainUpTo_14 : decode cX0_chainUpTo 14 = .ok (.if_icmp .eq 36, 3) := by decide +kernel
theorem dX0_chainUpTo_17 : decode cX0_chainUpTo 17 = .ok (.aload_n 0, 1) := by decide +kernel
theorem dX0_chainUpTo_18 : decode cX0_chainUpTo 18 = .ok (.getfield 15, 3) := by decide +kernel
theorem dX0_chainUpTo_21 : decode cX0_chainUpTo 21 = .ok (.iload 4, 2) := by decide +kernel
theorem dX0_chainUpTo_23 : decode cX0_chainUpTo 23 = .ok (.iload_n 3, 1) := by decide +kernel
theorem dX0_chainUpTo_24 : decode cX0_chainUpTo 24 = .ok (.iastore, 1) := by decide +kernel
theorem dX0_chainUpTo_25 : decode cX0_chainUpTo 25 = .ok (.iload_n 3, 1) := by decide +kernel
theorem dX0_chainUpTo_26 : decode cX0_chainUpTo 26 = .ok (.iload_n 1, 1) := by decide +kernel
theorem dX0_chainUpTo_27 : decode cX0_chainUpTo 27 = .ok (.if_icmp .ne 8, 3) := by decide +kernel
theorem dX0_chainUpTo_30 : decode cX0_chainUpTo 30 = .ok (.iload 4, 2) := by decide +kernel
theorem dX0_chainUpTo_32 : decode cX0_chainUpTo 32 = .ok (.iconst 1, 1) := by decide +kernel
theorem dX0_chainUpTo_33 : decode cX0_chainUpTo 33 = .ok (.iadd, 1) := by decide +kernel
theorem dX0_chainUpTo_34 : decode cX0_chainUpTo 34 = .ok (.ireturn, 1) := by decide +kernel
theorem dX0_chainUpTo_35 : decode cX0_chainUpTo 35 = .ok (.aload_n 0, 1) := by decide +kernel
theorem dX0_chainUpTo_36 : decode cX0_chainUpTo 36 = .ok (.getfield 28, 3) := by decide +kernel
theorem dX0_chainUpTo_39 : decode cX0_chainUpTo 39 = .ok (.iload_n 3, 1) := by decide +kernel
theorem dX0_chainUpTo_40 : decode cX0_chainUpTo 40 = .ok (.invokevirtual 60, 3) := by decide +kernel
theorem dX0_chainUpTo_43 : decode cX0_chainUpTo 43 = .ok (.istore_n 3, 1) := by decide +kernel
theorem dX0_chainUpTo_44 : decode cX0_chainUpTo 44 = .ok (.iinc 4 1, 3) := by decide +kernel
theorem dX0_chainUpTo_47 : decode cX0_chainUpTo 47 = .ok (.goto (-42), 3) := by decide +kernel
theorem dX0_chainUpTo_50 : decode cX0_chainUpTo 50 = .ok (.iconst 0, 1) := by decide +kernel
theorem dX0_chainUpTo_51 : decode cX0_chainUpTo 51 = .ok (.ireturn, 1) := by decide +kernel
theorem dX0_overriderIn_0 : decode cX0_overriderIn 0 = .ok (.iconst 0, 1) := by decide +kernel
theorem dX0_overriderIn_1 : decode cX0_overriderIn 1 = .ok (.istore_n 3, 1) := by decide +kernel
theorem dX0_overriderIn_2 : decode cX0_overriderIn 2 = .ok (.iload_n 3, 1) := by decide +kernel
theorem dX0_overriderIn_3 : decode cX0_overriderIn 3 = .ok (.aload_n 0, 1) := by decide +kernel
theorem dX0_overriderIn_4 : decode cX0_overriderIn 4 = .ok (.getfield 32, 3) := by decide +kernel
theorem dX0_overriderIn_7 : decode cX0_overriderIn 7 = .ok (.getfield 41, 3) := by decide +kernel
theorem dX0_overriderIn_10 : decode cX0_overriderIn 10 = .ok (.if_icmp .ge 60, 3) := by decide +kernel
theorem dX0_overriderIn_13 : decode cX0_overriderIn 13 = .ok (.aload_n 0, 1) := by decide +kernel
theorem dX0_overriderIn_14 : decode cX0_overriderIn 14 = .ok (.getfield 32, 3) := by decide +kernel
theorem dX0_overriderIn_17 : decode cX0_overriderIn 17 = .ok (.getfield 46, 3) := by decide +kernel
theorem dX0_overriderIn_20 : decode cX0_overriderIn 20 = .ok (.iload_n 3, 1) := by decide +kernel
theorem dX0_overriderIn_21 : decode cX0_overriderIn 21 = .ok (.iaload, 1) := by decide +kernel
theorem dX0_overriderIn_22 : decode cX0_overriderIn 22 = .ok (.iload_n 1, 1) := by decide +kernel
theorem dX0_overriderIn_23 : decode cX0_overriderIn 23 = .ok (.if_icmp .ne 41, 3) := by decide +kernel
theorem dX0_overriderIn_26 : decode cX0_overriderIn 26 = .ok (.aload_n 0, 1) := by decide +kernel
theorem dX0_overriderIn_27 : decode cX0_overriderIn 27 = .ok (.getfield 32, 3) := by decide +kernel
theorem dX0_overriderIn_30 : decode cX0_overriderIn 30 = .ok (.iload_n 3, 1) := by decide +kernel
theorem dX0_overriderIn_31 : decode cX0_overriderIn 31 = .ok (.iload_n 2, 1) := by decide +kernel
theorem dX0_overriderIn_32 : decode cX0_overriderIn 32 = .ok (.invokevirtual 120, 3) := by decide +kernel
theorem dX0_overriderIn_35 : decode cX0_overriderIn 35 = .ok (.ifCond .eq 29, 3) := by decide +kernel
theorem dX0_overriderIn_38 : decode cX0_overriderIn 38 = .ok (.aload_n 0, 1) := by decide +kernel
theorem dX0_overriderIn_39 : decode cX0_overriderIn 39 = .ok (.getfield 32, 3) := by decide +kernel
theorem dX0_overriderIn_42 : decode cX0_overriderIn 42 = .ok (.iload_n 3, 1) := by decide +kernel
theorem dX0_overriderIn_43 : decode cX0_overriderIn 43 = .ok (.iconst 4, 1) := by decide +kernel
theorem dX0_overriderIn_44 : decode cX0_overriderIn 44 = .ok (.invokevirtual 53, 3) := by decide +kernel
theorem dX0_overriderIn_47 : decode cX0_overriderIn 47 = .ok (.ifCond .ne 17, 3) := by decide +kernel
theorem dX0_overriderIn_50 : decode cX0_overriderIn 50 = .ok (.aload_n 0, 1) := by decide +kernel
theorem dX0_overriderIn_51 : decode cX0_overriderIn 51 = .ok (.getfield 32, 3) := by decide +kernel
theorem dX0_overriderIn_54 : decode cX0_overriderIn 54 = .ok (.getfield 84, 3) := by decide +kernel
theorem dX0_overriderIn_57 : decode cX0_overriderIn 57 = .ok (.iload_n 3, 1) := by decide +kernel
theorem dX0_overriderIn_58 : decode cX0_overriderIn 58 = .ok (.iaload, 1) := by decide +kernel
theorem dX0_overriderIn_59 : decode cX0_overriderIn 59 = .ok (.ifCond .eq 5, 3) := by decide +kernel
theorem dX0_overriderIn_62 : decode cX0_overriderIn 62 = .ok (.iload_n 3, 1) := by decide +kernel
theorem dX0_overriderIn_63 : decode cX0_overriderIn 63 = .ok (.ireturn, 1) := by decide +kernel
theorem dX0_overriderIn_64 : decode cX0_overriderIn 64 = .ok (.iinc 3 1, 3) := by decide +kernel
theorem dX0_overriderIn_67 : decode cX0_overriderIn 67 = .ok (.goto (-65), 3) := by decide +kernel
theorem dX0_overriderIn_70 : decode cX0_overriderIn 70 = .ok (.iconst (-1), 1) := by decide +kernel
theorem dX0_overriderIn_71 : decode cX0_overriderIn 71 = .ok (.ireturn, 1) := by decide +kernel
theorem dX0_takesPlace_0 : decode cX0_takesPlace 0 = .ok (.iconst 0, 1) := by decide +kernel
theorem dX0_takesPlace_1 : decode cX0_takesPlace 1 = .ok (.istore_n 3, 1) := by decide +kernel
theorem dX0_takesPlace_2 : decode cX0_takesPlace 2 = .ok (.iload_n 3, 1) := by decide +kernel
theorem dX0_takesPlace_3 : decode cX0_takesPlace 3 = .ok (.iload_n 2, 1) := by decide +kernel
theorem dX0_takesPlace_4 : decode cX0_takesPlace 4 = .ok (.if_icmp .ge 36, 3) := by decide +kernel
theorem dX0_takesPlace_7 : decode cX0_takesPlace 7 = .ok (.aload_n 0, 1) := by decide +kernel
theorem dX0_takesPlace_8 : decode cX0_takesPlace 8 = .ok (.getfield 32, 3) := by decide +kernel
theorem dX0_takesPlace_11 : decode cX0_takesPlace 11 = .ok (.aload_n 0, 1) := by decide +kernel
theorem dX0_takesPlace_12 : decode cX0_takesPlace 12 = .ok (.getfield 18, 3) := by decide +kernel
theorem dX0_takesPlace_15 : decode cX0_takesPlace 15 = .ok (.iload_n 3, 1) := by decide +kernel
theorem dX0_takesPlace_16 : decode cX0_takesPlace 16 = .ok (.iaload, 1) := by decide +kernel
theorem dX0_takesPlace_17 : decode cX0_takesPlace 17 = .ok (.aload_n 0, 1) := by decide +kernel
theorem dX0_takesPlace_18 : decode cX0_takesPlace 18 = .ok (.getfield 32, 3) := by decide +kernel
theorem dX0_takesPlace_21 : decode cX0_takesPlace 21 = .ok (.getfield 46, 3) := by decide +kernel
theorem dX0_takesPlace_24 : decode cX0_takesPlace 24 = .ok (.iload_n 1, 1) := by decide +kernel
theorem dX0_takesPlace_25 : decode cX0_takesPlace 25 = .ok (.iaload, 1) := by decide +kernel
theorem dX0_takesPlace_26 : decode cX0_takesPlace 26 = .ok (.invokevirtual 123, 3) := by decide +kernel
theorem dX0_takesPlace_29 : decode cX0_takesPlace 29 = .ok (.ifCond .eq 5, 3) := by decide +kernel
theorem dX0_takesPlace_32 : decode cX0_takesPlace 32 = .ok (.iconst 1, 1) := by decide +kernel
theorem dX0_takesPlace_33 : decode cX0_takesPlace 33 = .ok (.ireturn, 1) := by decide +kernel
theorem dX0_takesPlace_34 : decode cX0_takesPlace 34 = .ok (.iinc 3 1, 3) := by decide +kernel
theorem dX0_takesPlace_37 : decode cX0_takesPlace 37 = .ok (.goto (-35), 3) := by decide +kernel
theorem dX0_takesPlace_40 : decode cX0_takesPlace 40 = .ok (.iconst 0, 1) := by decide +kernel
theorem dX0_takesPlace_41 : decode cX0_takesPlace 41 = .ok (.ireturn, 1) := by decide +kernel
theorem dX0_unlessAbstract_0 : decode cX0_unlessAbstract 0 = .ok (.aload_n 0, 1) := by decide +kernel
theorem dX0_unlessAbstract_1 : decode cX0_unlessAbstract 1 = .ok (.getfield 32, 3) := by decide +kernel
theorem dX0_unlessAbstract_4 : decode cX0_unlessAbstract 4 = .ok (.iload_n 1, 1) := by decide +kernel
theorem dX0_unlessAbstract_5 : decode cX0_unlessAbstract 5 = .ok (.iconst 1, 1) := by decide +kernel
theorem dX0_unlessAbstract_6 : decode cX0_unlessAbstract 6 = .ok (.invokevirtual 53, 3) := by decide +kernel
theorem dX0_unlessAbstract_9 : decode cX0_unlessAbstract 9 = .ok (.ifCond .eq 7, 3) := by decide +kernel
theorem dX0_unlessAbstract_12 : decode cX0_unlessAbstract 12 = .ok (.iconst (-1), 1) := by decide +kernel
theorem dX0_unlessAbstract_13 : decode cX0_unlessAbstract 13 = .ok (.goto 4, 3) := by decide +kernel
theorem dX0_unlessAbstract_16 : decode cX0_unlessAbstract 16 = .ok (.iload_n 1, 1) := by decide +kernel
theorem dX0_unlessAbstract_17 : decode cX0_unlessAbstract 17 = .ok (.ireturn, 1) := by decide +kernel
theorem dX1_init_0 : decode cX1_init 0 = .ok (.aload_n 0, 1) := by decide +kernel
theorem dX1_init_1 : decode cX1_init 1 = .ok (.invokespecial 3, 3) := by decide +kernel
theorem dX1_init_4 : decode cX1_init 4 = .ok (.aload_n 0, 1) := by decide +kernel
theorem dX1_init_5 : decode cX1_init 5 = .ok (.bipush 36, 2) := by decide +kernel
theorem dX1_init_7 : decode cX1_init 7 = .ok (.newarray .long, 2) := by decide +kernel
theorem dX1_init_9 : decode cX1_init 9 = .ok (.putfield 11, 3) := by decide +kernel
theorem dX1_init_12 : decode cX1_init 12 = .ok (.aload_n 0, 1) := by decide +kernel
theorem dX1_init_13 : decode cX1_init 13 = .ok (.bipush 20, 2) := by decide +kernel
theorem dX1_init_15 : decode cX1_init 15 = .ok (.newarray .int, 2) := by decide +kernel
theorem dX1_init_17 : decode cX1_init 17 = .ok (.putfield 15, 3) := by decide +kernel
theorem dX1_init_20 : decode cX1_init 20 = .ok (.aload_n 0, 1) := by decide +kernel
theorem dX1_init_21 : decode cX1_init 21 = .ok (.iconst 0, 1) := by decide +kernel
theorem dX1_init_22 : decode cX1_init 22 = .ok (.putfield 19, 3) := by decide +kernel
theorem dX1_init_25 : decode cX1_init 25 = .ok (.aload_n 0, 1) := by decide +kernel
theorem dX1_init_26 : decode cX1_init 26 = .ok (.iconst (-1), 1) := by decide +kernel
theorem dX1_init_27 : decode cX1_init 27 = .ok (.putfield 23, 3) := by decide +kernel
theorem dX1_init_30 : decode cX1_init 30 = .ok (.aload_n 0, 1) := by decide +kernel
theorem dX1_init_31 : decode cX1_init 31 = .ok (.aload_n 1, 1) := by decide +kernel
theorem dX1_init_32 : decode cX1_init 32 = .ok (.putfield 26, 3) := by decide +kernel
theorem dX1_init_35 : decode cX1_init 35 = .ok (.aload_n 0, 1) := by decide +kernel
theorem dX1_init_36 : decode cX1_init 36 = .ok (.aload_n 2, 1) := by decide +kernel
theorem dX1_init_37 : decode cX1_init 37 = .ok (.putfield 30, 3) := by decide +kernel
theorem dX1_init_40 : decode cX1_init 40 = .ok (.aload_n 0, 1) := by decide +kernel
theorem dX1_init_41 : decode cX1_init 41 = .ok (.aload_n 3, 1) := by decide +kernel
theorem dX1_init_42 : decode cX1_init 42 = .ok (.putfield 34, 3) := by decide +kernel
theorem dX1_init_45 : decode cX1_init 45 = .ok (.aload_n 0, 1) := by decide +kernel
theorem dX1_init_46 : decode cX1_init 46 = .ok (.new 38, 3) := by decide +kernel
theorem dX1_init_49 : decode cX1_init 49 = .ok (.dup, 1) := by decide +kernel
theorem dX1_init_50 : decode cX1_init 50 = .ok (.aload_n 1, 1) := by decide +kernel
theorem dX1_init_51 : decode cX1_init 51 = .ok (.invokespecial 40, 3) := by decide +kernel
theorem dX1_init_54 : decode cX1_init 54 = .ok (.putfield 43, 3) := by decide +kernel
theorem dX1_init_57 : decode cX1_init 57 = .ok (.aload_n 0, 1) := by decide +kernel
theorem dX1_init_58 : decode cX1_init 58 = .ok (.new 47, 3) := by decide +kernel
theorem dX1_init_61 : decode cX1_init 61 = .ok (.dup, 1) := by decide +kernel
theorem dX1_init_62 : decode cX1_init 62 = .ok (.aload_n 1, 1) := by decide +kernel
theorem dX1_init_63 : decode cX1_init 63 = .ok (.aload_n 2, 1) := by decide +kernel
theorem dX1_init_64 : decode cX1_init 64 = .ok (.invokespecial 49, 3) := by decide +kernel
theorem dX1_init_67 : decode cX1_init 67 = .ok (.putfield 52, 3) := by decide +kernel
theorem dX1_init_70 : decode cX1_init 70 = .ok (.return_, 1) := by decide +kernel
theorem dX1_forget_0 : decode cX1_forget 0 = .ok (.aload_n 0, 1) := by decide +kernel
theorem dX1_forget_1 : decode cX1_forget 1 = .ok (.iconst 0, 1) := by decide +kernel
theorem dX1_forget_2 : decode cX1_forget 2 = .ok (.putfield 19, 3) := by decide +kernel
theorem dX1_forget_5 : decode cX1_forget 5 = .ok (.aload_n 0, 1) := by decide +kernel
theorem dX1_forget_6 : decode cX1_forget 6 = .ok (.iconst (-1), 1) := by decide +kernel
theorem dX1_forget_7 : decode cX1_forget 7 = .ok (.putfield 23, 3) := by decide +kernel
theorem dX1_forget_10 : decode cX1_forget 10 = .ok (.return_, 1) := by decide +kernel
theorem dX1_countOf_0 : decode cX1_countOf 0 = .ok (.aload_n 0, 1) := by decide +kernel
theorem dX1_countOf_1 : decode cX1_countOf 1 = .ok (.getfield 19, 3) := by decide +kernel
theorem dX1_countOf_4 : decode cX1_countOf 4 = .ok (.iload_n 1, 1) := by decide +kernel
theorem dX1_countOf_5 : decode cX1_countOf 5 = .ok (.invokestatic 56, 3) := by decide +kernel
theorem dX1_countOf_8 : decode cX1_countOf 8 = .ok (.ifCond .ne 31, 3) := by decide +kernel
theorem dX1_countOf_11 : decode cX1_countOf 11 = .ok (.aload_n 0, 1) := by decide +kernel
theorem dX1_countOf_12 : decode cX1_countOf 12 = .ok (.iload_n 1, 1) := by decide +kernel
theorem dX1_countOf_13 : decode cX1_countOf 13 = .ok (.invokevirtual 60, 3) := by decide +kernel
theorem dX1_countOf_16 : decode cX1_countOf 16 = .ok (.aload_n 0, 1) := by decide +kernel
theorem dX1_countOf_17 : decode cX1_countOf 17 = .ok (.getfield 15, 3) := by decide +kernel
theorem dX1_countOf_20 : decode cX1_countOf 20 = .ok (.iload_n 1, 1) := by decide +kernel
theorem dX1_countOf_21 : decode cX1_countOf 21 = .ok (.aload_n 0, 1) := by decide +kernel
theorem dX1_countOf_22 : decode cX1_countOf 22 = .ok (.invokevirtual 64, 3) := by decide +kernel
theorem dX1_countOf_25 : decode cX1_countOf 25 = .ok (.iastore, 1) := by decide +kernel
theorem dX1_countOf_26 : decode cX1_countOf 26 = .ok (.aload_n 0, 1) := by decide +kernel
theorem dX1_countOf_27 : decode cX1_countOf 27 = .ok (.dup, 1) := by decide +kernel
theorem dX1_countOf_28 : decode cX1_countOf 28 = .ok (.getfield 19, 3) := by decide +kernel
theorem dX1_countOf_31 : decode cX1_countOf 31 = .ok (.iload_n 1, 1) := by decide +kernel
theorem dX1_countOf_32 : decode cX1_countOf 32 = .ok (.invokestatic 68, 3) := by decide +kernel
theorem dX1_countOf_35 : decode cX1_countOf 35 = .ok (.ior, 1) := by decide +kernel
theorem dX1_countOf_36 : decode cX1_countOf 36 = .ok (.putfield 19, 3) := by decide +kernel
theorem dX1_countOf_39 : decode cX1_countOf 39 = .ok (.aload_n 0, 1) := by decide +kernel
theorem dX1_countOf_40 : decode cX1_countOf 40 = .ok (.getfield 15, 3) := by decide +kernel
theorem dX1_countOf_43 : decode cX1_countOf 43 = .ok (.iload_n 1, 1) := by decide +kernel
theorem dX1_countOf_44 : decode cX1_countOf 44 = .ok (.iaload, 1) := by decide +kernel
theorem dX1_countOf_45 : decode cX1_countOf 45 = .ok (.ireturn, 1) := by decide +kernel
theorem dX1_kindAt_0 : decode cX1_kindAt 0 = .ok (.aload_n 0, 1) := by decide +kernel
theorem dX1_kindAt_1 : decode cX1_kindAt 1 = .ok (.iload_n 1, 1) := by decide +kernel
theorem dX1_kindAt_2 : decode cX1_kindAt 2 = .ok (.iload_n 2, 1) := by decide +kernel
theorem dX1_kindAt_3 : decode cX1_kindAt 3 = .ok (.invokevirtual 72, 3) := by decide +kernel
theorem dX1_kindAt_6 : decode cX1_kindAt 6 = .ok (.bipush 80, 2) := by decide +kernel
theorem dX1_kindAt_8 : decode cX1_kindAt 8 = .ok (.idiv, 1) := by decide +kernel
theorem dX1_kindAt_9 : decode cX1_kindAt 9 = .ok (.ireturn, 1) := by decide +kernel
theorem dX1_numberAt_0 : decode cX1_numberAt 0 = .ok (.aload_n 0, 1) := by decide +kernel
theorem dX1_numberAt_1 : decode cX1_numberAt 1 = .ok (.iload_n 1, 1) := by decide +kernel
theorem dX1_numberAt_2 : decode cX1_numberAt 2 = .ok (.iload_n 2, 1) := by decide +kernel
theorem dX1_numberAt_3 : decode cX1_numberAt 3 = .ok (.invokevirtual 72, 3) := by decide +kernel
theorem dX1_numberAt_6 : decode cX1_numberAt 6 = .ok (.bipush 80, 2) := by decide +kernel
theorem dX1_numberAt_8 : decode cX1_numberAt 8 = .ok (.irem, 1) := by decide +kernel
theorem dX1_numberAt_9 : decode cX1_numberAt 9 = .ok (.ireturn, 1) := by decide +kernel
theorem dX1_placeAt_0 : decode cX1_placeAt 0 = .ok (.aload_n 0, 1) := by decide +kernel
theorem dX1_placeAt_1 : decode cX1_placeAt 1 = .ok (.iload_n 1, 1) := by decide +kernel
theorem dX1_placeAt_2 : decode cX1_placeAt 2 = .ok (.invokevirtual 60, 3) := by decide +kernel
theorem dX1_placeAt_5 : decode cX1_placeAt 5 = .ok (.iconst 0, 1) := by decide +kernel
theorem dX1_placeAt_6 : decode cX1_placeAt 6 = .ok (.istore_n 3, 1) := by decide +kernel
theorem dX1_placeAt_7 : decode cX1_placeAt 7 = .ok (.iconst 1, 1) := by decide +kernel
theorem dX1_placeAt_8 : decode cX1_placeAt 8 = .ok (.istore 4, 2) := by decide +kernel
theorem dX1_placeAt_10 : decode cX1_placeAt 10 = .ok (.iload 4, 2) := by decide +kernel
theorem dX1_placeAt_12 : decode cX1_placeAt 12 = .ok (.bipush 17, 2) := by decide +kernel
theorem dX1_placeAt_14 : decode cX1_placeAt 14 = .ok (.if_icmp .gt 53, 3) := by decide +kernel
theorem dX1_placeAt_17 : decode cX1_placeAt 17 = .ok (.iconst 0, 1) := by decide +kernel
theorem dX1_placeAt_18 : decode cX1_placeAt 18 = .ok (.istore 5, 2) := by decide +kernel
theorem dX1_placeAt_20 : decode cX1_placeAt 20 = .ok (.iload 5, 2) := by decide +kernel
theorem dX1_placeAt_22 : decode cX1_placeAt 22 = .ok (.bipush 80, 2) := by decide +kernel
theorem dX1_placeAt_24 : decode cX1_placeAt 24 = .ok (.if_icmp .ge 37, 3) := by decide +kernel
theorem dX1_placeAt_27 : decode cX1_placeAt 27 = .ok (.aload_n 0, 1) := by decide +kernel
theorem dX1_placeAt_28 : decode cX1_placeAt 28 = .ok (.iload 4, 2) := by decide +kernel
theorem dX1_placeAt_30 : decode cX1_placeAt 30 = .ok (.iload 5, 2) := by decide +kernel
theorem dX1_placeAt_32 : decode cX1_placeAt 32 = .ok (.invokevirtual 76, 3) := by decide +kernel
theorem dX1_placeAt_35 : decode cX1_placeAt 35 = .ok (.ifCond .eq 20, 3) := by decide +kernel
theorem dX1_placeAt_38 : decode cX1_placeAt 38 = .ok (.iload_n 3, 1) := by decide +kernel
theorem dX1_placeAt_39 : decode cX1_placeAt 39 = .ok (.iload_n 2, 1) := by decide +kernel
theorem dX1_placeAt_40 : decode cX1_placeAt 40 = .ok (.if_icmp .ne 12, 3) := by decide +kernel
theorem dX1_placeAt_43 : decode cX1_placeAt 43 = .ok (.iload 4, 2) := by decide +kernel
theorem dX1_placeAt_45 : decode cX1_placeAt 45 = .ok (.bipush 80, 2) := by decide +kernel
theorem dX1_placeAt_47 : decode cX1_placeAt 47 = .ok (.imul, 1) := by decide +kernel
theorem dX1_placeAt_48 : decode cX1_placeAt 48 = .ok (.iload 5, 2) := by decide +kernel
theorem dX1_placeAt_50 : decode cX1_placeAt 50 = .ok (.iadd, 1) := by decide +kernel
theorem dX1_placeAt_51 : decode cX1_placeAt 51 = .ok (.ireturn, 1) := by decide +kernel
theorem dX1_placeAt_52 : decode cX1_placeAt 52 = .ok (.iinc 3 1, 3) := by decide +kernel
theorem dX1_placeAt_55 : decode cX1_placeAt 55 = .ok (.iinc 5 1, 3) := by decide +kernel
theorem dX1_placeAt_58 : decode cX1_placeAt 58 = .ok (.goto (-38), 3) := by decide +kernel
theorem dX1_placeAt_61 : decode cX1_placeAt 61 = .ok (.iinc 4 1, 3) := by decide +kernel
theorem dX1_placeAt_64 : decode cX1_placeAt 64 = .ok (.goto (-54), 3) := by decide +kernel
theorem dX1_placeAt_67 : decode cX1_placeAt 67 = .ok (.iconst (-1), 1) := by decide +kernel
theorem dX1_placeAt_68 : decode cX1_placeAt 68 = .ok (.ireturn, 1) := by decide +kernel
theorem dX1_keep_0 : decode cX1_keep 0 = .ok (.aload_n 0, 1) := by decide +kernel
theorem dX1_keep_1 : decode cX1_keep 1 = .ok (.getfield 23, 3) := by decide +kernel
theorem dX1_keep_4 : decode cX1_keep 4 = .ok (.iload_n 1, 1) := by decide +kernel
theorem dX1_keep_5 : decode cX1_keep 5 = .ok (.if_icmp .ne 4, 3) := by decide +kernel
theorem dX1_keep_8 : decode cX1_keep 8 = .ok (.return_, 1) := by decide +kernel
theorem dX1_keep_9 : decode cX1_keep 9 = .ok (.aload_n 0, 1) := by decide +kernel
theorem dX1_keep_10 : decode cX1_keep 10 = .ok (.getfield 11, 3) := by decide +kernel
theorem dX1_keep_13 : decode cX1_keep 13 = .ok (.lconst 0, 1) := by decide +kernel
theorem dX1_keep_14 : decode cX1_keep 14 = .ok (.invokestatic 79, 3) := by decide +kernel
theorem dX1_keep_17 : decode cX1_keep 17 = .ok (.aload_n 0, 1) := by decide +kernel
theorem dX1_keep_18 : decode cX1_keep 18 = .ok (.iload_n 1, 1) := by decide +kernel
theorem dX1_keep_19 : decode cX1_keep 19 = .ok (.invokevirtual 85, 3) := by decide +kernel
theorem dX1_keep_22 : decode cX1_keep 22 = .ok (.aload_n 0, 1) := by decide +kernel
theorem dX1_keep_23 : decode cX1_keep 23 = .ok (.iload_n 1, 1) := by decide +kernel
theorem dX1_keep_24 : decode cX1_keep 24 = .ok (.invokevirtual 88, 3) := by decide +kernel
theorem dX1_keep_27 : decode cX1_keep 27 = .ok (.aload_n 0, 1) := by decide +kernel
theorem dX1_keep_28 : decode cX1_keep 28 = .ok (.getfield 43, 3) := by decide +kernel
theorem dX1_keep_31 : decode cX1_keep 31 = .ok (.iload_n 1, 1) := by decide +kernel
theorem dX1_keep_32 : decode cX1_keep 32 = .ok (.invokevirtual 91, 3) := by decide +kernel
theorem dX1_keep_35 : decode cX1_keep 35 = .ok (.ifCond .ne 13, 3) := by decide +kernel
theorem dX1_keep_38 : decode cX1_keep 38 = .ok (.aload_n 0, 1) := by decide +kernel
theorem dX1_keep_39 : decode cX1_keep 39 = .ok (.iload_n 1, 1) := by decide +kernel
theorem dX1_keep_40 : decode cX1_keep 40 = .ok (.invokevirtual 95, 3) := by decide +kernel
theorem dX1_keep_43 : decode cX1_keep 43 = .ok (.aload_n 0, 1) := by decide +kernel
theorem dX1_keep_44 : decode cX1_keep 44 = .ok (.iload_n 1, 1) := by decide +kernel
theorem dX1_keep_45 : decode cX1_keep 45 = .ok (.invokevirtual 98, 3) := by decide +kernel
theorem dX1_keep_48 : decode cX1_keep 48 = .ok (.aload_n 0, 1) := by decide +kernel
theorem dX1_keep_49 : decode cX1_keep 49 = .ok (.iload_n 1, 1) := by decide +kernel
theorem dX1_keep_50 : decode cX1_keep 50 = .ok (.putfield 23, 3) := by decide +kernel
theorem dX1_keep_53 : decode cX1_keep 53 = .ok (.return_, 1) := by decide +kernel
theorem dX1_findTypeFaults_0 : decode cX1_findTypeFaults 0 = .ok (.aload_n 0, 1) := by decide +kernel
theorem dX1_findTypeFaults_1 : decode cX1_findTypeFaults 1 = .ok (.iconst 1, 1) := by decide +kernel
theorem dX1_findTypeFaults_2 : decode cX1_findTypeFaults 2 = .ok (.aload_n 0, 1) := by decide +kernel
theorem dX1_findTypeFaults_3 : decode cX1_findTypeFaults 3 = .ok (.getfield 43, 3) := by decide +kernel
theorem dX1_findTypeFaults_6 : decode cX1_findTypeFaults 6 = .ok (.iload_n 1, 1) := by decide +kernel
theorem dX1_findTypeFaults_7 : decode cX1_findTypeFaults 7 = .ok (.invokevirtual 101, 3) := by decide +kernel
theorem dX1_findTypeFaults_10 : decode cX1_findTypeFaults 10 = .ok (.invokevirtual 104, 3) := by decide +kernel
theorem dX1_findTypeFaults_13 : decode cX1_findTypeFaults 13 = .ok (.aload_n 0, 1) := by decide +kernel
theorem dX1_findTypeFaults_14 : decode cX1_findTypeFaults 14 = .ok (.iconst 2, 1) := by decide +kernel
theorem dX1_findTypeFaults_15 : decode cX1_findTypeFaults 15 = .ok (.aload_n 0, 1) := by decide +kernel
theorem dX1_findTypeFaults_16 : decode cX1_findTypeFaults 16 = .ok (.getfield 43, 3) := by decide +kernel
theorem dX1_findTypeFaults_19 : decode cX1_findTypeFaults 19 = .ok (.iload_n 1, 1) := by decide +kernel
theorem dX1_findTypeFaults_20 : decode cX1_findTypeFaults 20 = .ok (.invokevirtual 108, 3) := by decide +kernel
theorem dX1_findTypeFaults_23 : decode cX1_findTypeFaults 23 = .ok (.invokevirtual 104, 3) := by decide +kernel
theorem dX1_findTypeFaults_26 : decode cX1_findTypeFaults 26 = .ok (.aload_n 0, 1) := by decide +kernel
theorem dX1_findTypeFaults_27 : decode cX1_findTypeFaults 27 = .ok (.iconst 3, 1) := by decide +kernel
theorem dX1_findTypeFaults_28 : decode cX1_findTypeFaults 28 = .ok (.aload_n 0, 1) := by decide +kernel
theorem dX1_findTypeFaults_29 : decode cX1_findTypeFaults 29 = .ok (.getfield 43, 3) := by decide +kernel
theorem dX1_findTypeFaults_32 : decode cX1_findTypeFaults 32 = .ok (.iload_n 1, 1) := by decide +kernel
theorem dX1_findTypeFaults_33 : decode cX1_findTypeFaults 33 = .ok (.invokevirtual 111, 3) := by decide +kernel
theorem dX1_findTypeFaults_36 : decode cX1_findTypeFaults 36 = .ok (.invokevirtual 104, 3) := by decide +kernel
theorem dX1_findTypeFaults_39 : decode cX1_findTypeFaults 39 = .ok (.aload_n 0, 1) := by decide +kernel
theorem dX1_findTypeFaults_40 : decode cX1_findTypeFaults 40 = .ok (.iconst 4, 1) := by decide +kernel
theorem dX1_findTypeFaults_41 : decode cX1_findTypeFaults 41 = .ok (.aload_n 0, 1) := by decide +kernel
theorem dX1_findTypeFaults_42 : decode cX1_findTypeFaults 42 = .ok (.getfield 43, 3) := by decide +kernel
theorem dX1_findTypeFaults_45 : decode cX1_findTypeFaults 45 = .ok (.iload_n 1, 1) := by decide +kernel
theorem dX1_findTypeFaults_46 : decode cX1_findTypeFaults 46 = .ok (.invokevirtual 114, 3) := by decide +kernel
theorem dX1_findTypeFaults_49 : decode cX1_findTypeFaults 49 = .ok (.invokevirtual 104, 3) := by decide +kernel
theorem dX1_findTypeFaults_52 : decode cX1_findTypeFaults 52 = .ok (.aload_n 0, 1) := by decide +kernel
theorem dX1_findTypeFaults_53 : decode cX1_findTypeFaults 53 = .ok (.iconst 5, 1) := by decide +kernel
theorem dX1_findTypeFaults_54 : decode cX1_findTypeFaults 54 = .ok (.aload_n 0, 1) := by decide +kernel
theorem dX1_findTypeFaults_55 : decode cX1_findTypeFaults 55 = .ok (.getfield 43, 3) := by decide +kernel
theorem dX1_findTypeFaults_58 : decode cX1_findTypeFaults 58 = .ok (.iload_n 1, 1) := by decide +kernel
theorem dX1_findTypeFaults_59 : decode cX1_findTypeFaults 59 = .ok (.invokevirtual 117, 3) := by decide +kernel
theorem dX1_findTypeFaults_62 : decode cX1_findTypeFaults 62 = .ok (.invokevirtual 104, 3) := by decide +kernel
theorem dX1_findTypeFaults_65 : decode cX1_findTypeFaults 65 = .ok (.aload_n 0, 1) := by decide +kernel
theorem dX1_findTypeFaults_66 : decode cX1_findTypeFaults 66 = .ok (.bipush 6, 2) := by decide +kernel
theorem dX1_findTypeFaults_68 : decode cX1_findTypeFaults 68 = .ok (.aload_n 0, 1) := by decide +kernel
theorem dX1_findTypeFaults_69 : decode cX1_findTypeFaults 69 = .ok (.getfield 43, 3) := by decide +kernel
theorem dX1_findTypeFaults_72 : decode cX1_findTypeFaults 72 = .ok (.iload_n 1, 1) := by decide +kernel
theorem dX1_findTypeFaults_73 : decode cX1_findTypeFaults 73 = .ok (.invokevirtual 120, 3) := by decide +kernel
theorem dX1_findTypeFaults_76 : decode cX1_findTypeFaults 76 = .ok (.invokevirtual 104, 3) := by decide +kernel
theorem dX1_findTypeFaults_79 : decode cX1_findTypeFaults 79 = .ok (.aload_n 0, 1) := by decide +kernel
theorem dX1_findTypeFaults_80 : decode cX1_findTypeFaults 80 = .ok (.bipush 7, 2) := by decide +kernel
theorem dX1_findTypeFaults_82 : decode cX1_findTypeFaults 82 = .ok (.aload_n 0, 1) := by decide +kernel
theorem dX1_findTypeFaults_83 : decode cX1_findTypeFaults 83 = .ok (.getfield 43, 3) := by decide +kernel
theorem dX1_findTypeFaults_86 : decode cX1_findTypeFaults 86 = .ok (.iload_n 1, 1) := by decide +kernel
theorem dX1_findTypeFaults_87 : decode cX1_findTypeFaults 87 = .ok (.invokevirtual 123, 3) := by decide +kernel
theorem dX1_findTypeFaults_90 : decode cX1_findTypeFaults 90 = .ok (.invokevirtual 104, 3) := by decide +kernel
theorem dX1_findTypeFaults_93 : decode cX1_findTypeFaults 93 = .ok (.aload_n 0, 1) := by decide +kernel
theorem dX1_findTypeFaults_94 : decode cX1_findTypeFaults 94 = .ok (.bipush 8, 2) := by decide +kernel
theorem dX1_findTypeFaults_96 : decode cX1_findTypeFaults 96 = .ok (.aload_n 0, 1) := by decide +kernel
theorem dX1_findTypeFaults_97 : decode cX1_findTypeFaults 97 = .ok (.getfield 43, 3) := by decide +kernel
theorem dX1_findTypeFaults_100 : decode cX1_findTypeFaults 100 = .ok (.iload_n 1, 1) := by decide +kernel
theorem dX1_findTypeFaults_101 : decode cX1_findTypeFaults 101 = .ok (.invokevirtual 126, 3) := by decide +kernel
theorem dX1_findTypeFaults_104 : decode cX1_findTypeFaults 104 = .ok (.invokevirtual 104, 3) := by decide +kernel
theorem dX1_findTypeFaults_107 : decode cX1_findTypeFaults 107 = .ok (.return_, 1) := by decide +kernel
theorem dX1_findMemberFaults_0 : decode cX1_findMemberFaults 0 = .ok (.iconst 0, 1) := by decide +kernel
theorem dX1_findMemberFaults_1 : decode cX1_findMemberFaults 1 = .ok (.istore_n 2, 1) := by decide +kernel
theorem dX1_findMemberFaults_2 : decode cX1_findMemberFaults 2 = .ok (.iload_n 2, 1) := by decide +kernel
theorem dX1_findMemberFaults_3 : decode cX1_findMemberFaults 3 = .ok (.aload_n 0, 1) := by decide +kernel
theorem dX1_findMemberFaults_4 : decode cX1_findMemberFaults 4 = .ok (.getfield 30, 3) := by decide +kernel
theorem dX1_findMemberFaults_7 : decode cX1_findMemberFaults 7 = .ok (.getfield 129, 3) := by decide +kernel
theorem dX1_findMemberFaults_10 : decode cX1_findMemberFaults 10 = .ok (.if_icmp .ge 52, 3) := by decide +kernel
theorem dX1_findMemberFaults_13 : decode cX1_findMemberFaults 13 = .ok (.aload_n 0, 1) := by decide +kernel
theorem dX1_findMemberFaults_14 : decode cX1_findMemberFaults 14 = .ok (.getfield 30, 3) := by decide +kernel
theorem dX1_findMemberFaults_17 : decode cX1_findMemberFaults 17 = .ok (.getfield 134, 3) := by decide +kernel
theorem dX1_findMemberFaults_20 : decode cX1_findMemberFaults 20 = .ok (.iload_n 2, 1) := by decide +kernel
theorem dX1_findMemberFaults_21 : decode cX1_findMemberFaults 21 = .ok (.iaload, 1) := by decide +kernel
theorem dX1_findMemberFaults_22 : decode cX1_findMemberFaults 22 = .ok (.iload_n 1, 1) := by decide +kernel
theorem dX1_findMemberFaults_23 : decode cX1_findMemberFaults 23 = .ok (.if_icmp .ne 33, 3) := by decide +kernel
theorem dX1_findMemberFaults_26 : decode cX1_findMemberFaults 26 = .ok (.aload_n 0, 1) := by decide +kernel
theorem dX1_findMemberFaults_27 : decode cX1_findMemberFaults 27 = .ok (.aload_n 0, 1) := by decide +kernel
theorem dX1_findMemberFaults_28 : decode cX1_findMemberFaults 28 = .ok (.getfield 52, 3) := by decide +kernel
theorem dX1_findMemberFaults_31 : decode cX1_findMemberFaults 31 = .ok (.iload_n 2, 1) := by decide +kernel
theorem dX1_findMemberFaults_32 : decode cX1_findMemberFaults 32 = .ok (.invokevirtual 137, 3) := by decide +kernel
theorem dX1_findMemberFaults_35 : decode cX1_findMemberFaults 35 = .ok (.bipush 10, 2) := by decide +kernel
theorem dX1_findMemberFaults_37 : decode cX1_findMemberFaults 37 = .ok (.iload_n 2, 1) := by decide +kernel
theorem dX1_findMemberFaults_38 : decode cX1_findMemberFaults 38 = .ok (.invokevirtual 140, 3) := by decide +kernel
theorem dX1_findMemberFaults_41 : decode cX1_findMemberFaults 41 = .ok (.aload_n 0, 1) := by decide +kernel
theorem dX1_findMemberFaults_42 : decode cX1_findMemberFaults 42 = .ok (.aload_n 0, 1) := by decide +kernel
theorem dX1_findMemberFaults_43 : decode cX1_findMemberFaults 43 = .ok (.getfield 52, 3) := by decide +kernel
theorem dX1_findMemberFaults_46 : decode cX1_findMemberFaults 46 = .ok (.iload_n 2, 1) := by decide +kernel
theorem dX1_findMemberFaults_47 : decode cX1_findMemberFaults 47 = .ok (.invokevirtual 144, 3) := by decide +kernel
theorem dX1_findMemberFaults_50 : decode cX1_findMemberFaults 50 = .ok (.bipush 11, 2) := by decide +kernel
theorem dX1_findMemberFaults_52 : decode cX1_findMemberFaults 52 = .ok (.iload_n 2, 1) := by decide +kernel
theorem dX1_findMemberFaults_53 : decode cX1_findMemberFaults 53 = .ok (.invokevirtual 140, 3) := by decide +kernel
theorem dX1_findMemberFaults_56 : decode cX1_findMemberFaults 56 = .ok (.iinc 2 1, 3) := by decide +kernel
theorem dX1_findMemberFaults_59 : decode cX1_findMemberFaults 59 = .ok (.goto (-57), 3) := by decide +kernel
theorem dX1_findMemberFaults_62 : decode cX1_findMemberFaults 62 = .ok (.return_, 1) := by decide +kernel
theorem dX1_findInheritedFaults_0 : decode cX1_findInheritedFaults 0 = .ok (.iconst 0, 1) := by decide +kernel
theorem dX1_findInheritedFaults_1 : decode cX1_findInheritedFaults 1 = .ok (.istore_n 2, 1) := by decide +kernel
theorem dX1_findInheritedFaults_2 : decode cX1_findInheritedFaults 2 = .ok (.iload_n 2, 1) := by decide +kernel
theorem dX1_findInheritedFaults_3 : decode cX1_findInheritedFaults 3 = .ok (.aload_n 0, 1) := by decide +kernel
theorem dX1_findInheritedFaults_4 : decode cX1_findInheritedFaults 4 = .ok (.getfield 30, 3) := by decide +kernel
theorem dX1_findInheritedFaults_7 : decode cX1_findInheritedFaults 7 = .ok (.getfield 129, 3) := by decide +kernel
theorem dX1_findInheritedFaults_10 : decode cX1_findInheritedFaults 10 = .ok (.if_icmp .ge 40, 3) := by decide +kernel
theorem dX1_findInheritedFaults_13 : decode cX1_findInheritedFaults 13 = .ok (.aload_n 0, 1) := by decide +kernel
theorem dX1_findInheritedFaults_14 : decode cX1_findInheritedFaults 14 = .ok (.getfield 30, 3) := by decide +kernel
theorem dX1_findInheritedFaults_17 : decode cX1_findInheritedFaults 17 = .ok (.getfield 134, 3) := by decide +kernel
theorem dX1_findInheritedFaults_20 : decode cX1_findInheritedFaults 20 = .ok (.iload_n 2, 1) := by decide +kernel
theorem dX1_findInheritedFaults_21 : decode cX1_findInheritedFaults 21 = .ok (.iaload, 1) := by decide +kernel
theorem dX1_findInheritedFaults_22 : decode cX1_findInheritedFaults 22 = .ok (.iload_n 1, 1) := by decide +kernel
theorem dX1_findInheritedFaults_23 : decode cX1_findInheritedFaults 23 = .ok (.if_icmp .ne 21, 3) := by decide +kernel
theorem dX1_findInheritedFaults_26 : decode cX1_findInheritedFaults 26 = .ok (.aload_n 0, 1) := by decide +kernel
theorem dX1_findInheritedFaults_27 : decode cX1_findInheritedFaults 27 = .ok (.getfield 30, 3) := by decide +kernel
theorem dX1_findInheritedFaults_30 : decode cX1_findInheritedFaults 30 = .ok (.getfield 146, 3) := by decide +kernel
theorem dX1_findInheritedFaults_33 : decode cX1_findInheritedFaults 33 = .ok (.iload_n 2, 1) := by decide +kernel
theorem dX1_findInheritedFaults_34 : decode cX1_findInheritedFaults 34 = .ok (.iaload, 1) := by decide +kernel
theorem dX1_findInheritedFaults_35 : decode cX1_findInheritedFaults 35 = .ok (.ifCond .eq 9, 3) := by decide +kernel
theorem dX1_findInheritedFaults_38 : decode cX1_findInheritedFaults 38 = .ok (.aload_n 0, 1) := by decide +kernel
theorem dX1_findInheritedFaults_39 : decode cX1_findInheritedFaults 39 = .ok (.iload_n 1, 1) := by decide +kernel
theorem dX1_findInheritedFaults_40 : decode cX1_findInheritedFaults 40 = .ok (.iload_n 2, 1) := by decide +kernel
theorem dX1_findInheritedFaults_41 : decode cX1_findInheritedFaults 41 = .ok (.invokevirtual 149, 3) := by decide +kernel
theorem dX1_findInheritedFaults_44 : decode cX1_findInheritedFaults 44 = .ok (.iinc 2 1, 3) := by decide +kernel
theorem dX1_findInheritedFaults_47 : decode cX1_findInheritedFaults 47 = .ok (.goto (-45), 3) := by decide +kernel
theorem dX1_findInheritedFaults_50 : decode cX1_findInheritedFaults 50 = .ok (.return_, 1) := by decide +kernel
theorem dX1_findOver_0 : decode cX1_findOver 0 = .ok (.iconst 0, 1) := by decide +kernel
theorem dX1_findOver_1 : decode cX1_findOver 1 = .ok (.istore_n 3, 1) := by decide +kernel
theorem dX1_findOver_2 : decode cX1_findOver 2 = .ok (.iload_n 3, 1) := by decide +kernel
theorem dX1_findOver_3 : decode cX1_findOver 3 = .ok (.aload_n 0, 1) := by decide +kernel
theorem dX1_findOver_4 : decode cX1_findOver 4 = .ok (.getfield 30, 3) := by decide +kernel
theorem dX1_findOver_7 : decode cX1_findOver 7 = .ok (.getfield 129, 3) := by decide +kernel
theorem dX1_findOver_10 : decode cX1_findOver 10 = .ok (.if_icmp .ge 155, 3) := by decide +kernel
theorem dX1_findOver_13 : decode cX1_findOver 13 = .ok (.aload_n 0, 1) := by decide +kernel
theorem dX1_findOver_14 : decode cX1_findOver 14 = .ok (.getfield 30, 3) := by decide +kernel
theorem dX1_findOver_17 : decode cX1_findOver 17 = .ok (.iload_n 3, 1) := by decide +kernel
theorem dX1_findOver_18 : decode cX1_findOver 18 = .ok (.iload_n 2, 1) := by decide +kernel
theorem dX1_findOver_19 : decode cX1_findOver 19 = .ok (.invokevirtual 152, 3) := by decide +kernel
theorem dX1_findOver_22 : decode cX1_findOver 22 = .ok (.ifCond .eq 137, 3) := by decide +kernel
theorem dX1_findOver_25 : decode cX1_findOver 25 = .ok (.aload_n 0, 1) := by decide +kernel
theorem dX1_findOver_26 : decode cX1_findOver 26 = .ok (.getfield 30, 3) := by decide +kernel
theorem dX1_findOver_29 : decode cX1_findOver 29 = .ok (.iload_n 3, 1) := by decide +kernel
theorem dX1_findOver_30 : decode cX1_findOver 30 = .ok (.iload_n 1, 1) := by decide +kernel
theorem dX1_findOver_31 : decode cX1_findOver 31 = .ok (.invokevirtual 155, 3) := by decide +kernel
theorem dX1_findOver_34 : decode cX1_findOver 34 = .ok (.ifCond .eq 125, 3) := by decide +kernel
theorem dX1_findOver_37 : decode cX1_findOver 37 = .ok (.aload_n 0, 1) := by decide +kernel
theorem dX1_findOver_38 : decode cX1_findOver 38 = .ok (.aload_n 0, 1) := by decide +kernel
theorem dX1_findOver_39 : decode cX1_findOver 39 = .ok (.getfield 30, 3) := by decide +kernel
theorem dX1_findOver_42 : decode cX1_findOver 42 = .ok (.iload_n 3, 1) := by decide +kernel
theorem dX1_findOver_43 : decode cX1_findOver 43 = .ok (.iconst 2, 1) := by decide +kernel
theorem dX1_findOver_44 : decode cX1_findOver 44 = .ok (.invokevirtual 158, 3) := by decide +kernel
theorem dX1_findOver_47 : decode cX1_findOver 47 = .ok (.bipush 12, 2) := by decide +kernel
theorem dX1_findOver_49 : decode cX1_findOver 49 = .ok (.iload_n 2, 1) := by decide +kernel
theorem dX1_findOver_50 : decode cX1_findOver 50 = .ok (.invokevirtual 140, 3) := by decide +kernel
theorem dX1_findOver_53 : decode cX1_findOver 53 = .ok (.aload_n 0, 1) := by decide +kernel
theorem dX1_findOver_54 : decode cX1_findOver 54 = .ok (.aload_n 0, 1) := by decide +kernel
theorem dX1_findOver_55 : decode cX1_findOver 55 = .ok (.getfield 30, 3) := by decide +kernel
theorem dX1_findOver_58 : decode cX1_findOver 58 = .ok (.iload_n 3, 1) := by decide +kernel
theorem dX1_findOver_59 : decode cX1_findOver 59 = .ok (.iconst 4, 1) := by decide +kernel
theorem dX1_findOver_60 : decode cX1_findOver 60 = .ok (.invokevirtual 158, 3) := by decide +kernel
theorem dX1_findOver_63 : decode cX1_findOver 63 = .ok (.aload_n 0, 1) := by decide +kernel
theorem dX1_findOver_64 : decode cX1_findOver 64 = .ok (.getfield 30, 3) := by decide +kernel
theorem dX1_findOver_67 : decode cX1_findOver 67 = .ok (.iload_n 2, 1) := by decide +kernel
theorem dX1_findOver_68 : decode cX1_findOver 68 = .ok (.iconst 4, 1) := by decide +kernel
theorem dX1_findOver_69 : decode cX1_findOver 69 = .ok (.invokevirtual 158, 3) := by decide +kernel
theorem dX1_findOver_72 : decode cX1_findOver 72 = .ok (.if_icmp .eq 7, 3) := by decide +kernel
theorem dX1_findOver_75 : decode cX1_findOver 75 = .ok (.iconst 1, 1) := by decide +kernel
theorem dX1_findOver_76 : decode cX1_findOver 76 = .ok (.goto 4, 3) := by decide +kernel
theorem dX1_findOver_79 : decode cX1_findOver 79 = .ok (.iconst 0, 1) := by decide +kernel
theorem dX1_findOver_80 : decode cX1_findOver 80 = .ok (.bipush 13, 2) := by decide +kernel
theorem dX1_findOver_82 : decode cX1_findOver 82 = .ok (.iload_n 2, 1) := by decide +kernel
theorem dX1_findOver_83 : decode cX1_findOver 83 = .ok (.invokevirtual 140, 3) := by decide +kernel
theorem dX1_findOver_86 : decode cX1_findOver 86 = .ok (.aload_n 0, 1) := by decide +kernel
theorem dX1_findOver_87 : decode cX1_findOver 87 = .ok (.aload_n 0, 1) := by decide +kernel
theorem dX1_findOver_88 : decode cX1_findOver 88 = .ok (.getfield 30, 3) := by decide +kernel
theorem dX1_findOver_91 : decode cX1_findOver 91 = .ok (.getfield 146, 3) := by decide +kernel
theorem dX1_findOver_94 : decode cX1_findOver 94 = .ok (.iload_n 3, 1) := by decide +kernel
theorem dX1_findOver_95 : decode cX1_findOver 95 = .ok (.iaload, 1) := by decide +kernel
theorem dX1_findOver_96 : decode cX1_findOver 96 = .ok (.aload_n 0, 1) := by decide +kernel
theorem dX1_findOver_97 : decode cX1_findOver 97 = .ok (.getfield 30, 3) := by decide +kernel
theorem dX1_findOver_100 : decode cX1_findOver 100 = .ok (.getfield 146, 3) := by decide +kernel
theorem dX1_findOver_103 : decode cX1_findOver 103 = .ok (.iload_n 2, 1) := by decide +kernel
theorem dX1_findOver_104 : decode cX1_findOver 104 = .ok (.iaload, 1) := by decide +kernel
theorem dX1_findOver_105 : decode cX1_findOver 105 = .ok (.if_icmp .le 7, 3) := by decide +kernel
theorem dX1_findOver_108 : decode cX1_findOver 108 = .ok (.iconst 1, 1) := by decide +kernel
theorem dX1_findOver_109 : decode cX1_findOver 109 = .ok (.goto 4, 3) := by decide +kernel
theorem dX1_findOver_112 : decode cX1_findOver 112 = .ok (.iconst 0, 1) := by decide +kernel
theorem dX1_findOver_113 : decode cX1_findOver 113 = .ok (.bipush 14, 2) := by decide +kernel
theorem dX1_findOver_115 : decode cX1_findOver 115 = .ok (.iload_n 2, 1) := by decide +kernel
theorem dX1_findOver_116 : decode cX1_findOver 116 = .ok (.invokevirtual 140, 3) := by decide +kernel
theorem dX1_findOver_119 : decode cX1_findOver 119 = .ok (.aload_n 0, 1) := by decide +kernel
theorem dX1_findOver_120 : decode cX1_findOver 120 = .ok (.aload_n 0, 1) := by decide +kernel
theorem dX1_findOver_121 : decode cX1_findOver 121 = .ok (.getfield 52, 3) := by decide +kernel
theorem dX1_findOver_124 : decode cX1_findOver 124 = .ok (.aload_n 0, 1) := by decide +kernel
theorem dX1_findOver_125 : decode cX1_findOver 125 = .ok (.getfield 30, 3) := by decide +kernel
theorem dX1_findOver_128 : decode cX1_findOver 128 = .ok (.getfield 161, 3) := by decide +kernel
theorem dX1_findOver_131 : decode cX1_findOver 131 = .ok (.iload_n 2, 1) := by decide +kernel
theorem dX1_findOver_132 : decode cX1_findOver 132 = .ok (.iaload, 1) := by decide +kernel
theorem dX1_findOver_133 : decode cX1_findOver 133 = .ok (.aload_n 0, 1) := by decide +kernel
theorem dX1_findOver_134 : decode cX1_findOver 134 = .ok (.getfield 30, 3) := by decide +kernel
theorem dX1_findOver_137 : decode cX1_findOver 137 = .ok (.getfield 161, 3) := by decide +kernel
theorem dX1_findOver_140 : decode cX1_findOver 140 = .ok (.iload_n 3, 1) := by decide +kernel
theorem dX1_findOver_141 : decode cX1_findOver 141 = .ok (.iaload, 1) := by decide +kernel
theorem dX1_findOver_142 : decode cX1_findOver 142 = .ok (.invokevirtual 164, 3) := by decide +kernel
theorem dX1_findOver_145 : decode cX1_findOver 145 = .ok (.ifCond .ne 7, 3) := by decide +kernel
theorem dX1_findOver_148 : decode cX1_findOver 148 = .ok (.iconst 1, 1) := by decide +kernel
theorem dX1_findOver_149 : decode cX1_findOver 149 = .ok (.goto 4, 3) := by decide +kernel
theorem dX1_findOver_152 : decode cX1_findOver 152 = .ok (.iconst 0, 1) := by decide +kernel
theorem dX1_findOver_153 : decode cX1_findOver 153 = .ok (.bipush 15, 2) := by decide +kernel
theorem dX1_findOver_155 : decode cX1_findOver 155 = .ok (.iload_n 2, 1) := by decide +kernel
theorem dX1_findOver_156 : decode cX1_findOver 156 = .ok (.invokevirtual 140, 3) := by decide +kernel
theorem dX1_findOver_159 : decode cX1_findOver 159 = .ok (.iinc 3 1, 3) := by decide +kernel
theorem dX1_findOver_162 : decode cX1_findOver 162 = .ok (.goto (-160), 3) := by decide +kernel
theorem dX1_findOver_165 : decode cX1_findOver 165 = .ok (.return_, 1) := by decide +kernel
theorem dX1_findGivenFaults_0 : decode cX1_findGivenFaults 0 = .ok (.aload_n 0, 1) := by decide +kernel
theorem dX1_findGivenFaults_1 : decode cX1_findGivenFaults 1 = .ok (.getfield 26, 3) := by decide +kernel
theorem dX1_findGivenFaults_4 : decode cX1_findGivenFaults 4 = .ok (.getfield 167, 3) := by decide +kernel
theorem dX1_findGivenFaults_7 : decode cX1_findGivenFaults 7 = .ok (.iload_n 1, 1) := by decide +kernel
theorem dX1_findGivenFaults_8 : decode cX1_findGivenFaults 8 = .ok (.iaload, 1) := by decide +kernel
theorem dX1_findGivenFaults_9 : decode cX1_findGivenFaults 9 = .ok (.iconst 1, 1) := by decide +kernel
theorem dX1_findGivenFaults_10 : decode cX1_findGivenFaults 10 = .ok (.if_icmp .eq 19, 3) := by decide +kernel
theorem dX1_findGivenFaults_13 : decode cX1_findGivenFaults 13 = .ok (.aload_n 0, 1) := by decide +kernel
theorem dX1_findGivenFaults_14 : decode cX1_findGivenFaults 14 = .ok (.getfield 26, 3) := by decide +kernel
theorem dX1_findGivenFaults_17 : decode cX1_findGivenFaults 17 = .ok (.iload_n 1, 1) := by decide +kernel
theorem dX1_findGivenFaults_18 : decode cX1_findGivenFaults 18 = .ok (.iconst 1, 1) := by decide +kernel
theorem dX1_findGivenFaults_19 : decode cX1_findGivenFaults 19 = .ok (.invokevirtual 172, 3) := by decide +kernel
theorem dX1_findGivenFaults_22 : decode cX1_findGivenFaults 22 = .ok (.ifCond .ne 7, 3) := by decide +kernel
theorem dX1_findGivenFaults_25 : decode cX1_findGivenFaults 25 = .ok (.iconst 1, 1) := by decide +kernel
theorem dX1_findGivenFaults_26 : decode cX1_findGivenFaults 26 = .ok (.goto 4, 3) := by decide +kernel
theorem dX1_findGivenFaults_29 : decode cX1_findGivenFaults 29 = .ok (.iconst 0, 1) := by decide +kernel
theorem dX1_findGivenFaults_30 : decode cX1_findGivenFaults 30 = .ok (.istore_n 2, 1) := by decide +kernel
theorem dX1_findGivenFaults_31 : decode cX1_findGivenFaults 31 = .ok (.iconst 0, 1) := by decide +kernel
theorem dX1_findGivenFaults_32 : decode cX1_findGivenFaults 32 = .ok (.istore_n 3, 1) := by decide +kernel
theorem dX1_findGivenFaults_33 : decode cX1_findGivenFaults 33 = .ok (.iload_n 3, 1) := by decide +kernel
theorem dX1_findGivenFaults_34 : decode cX1_findGivenFaults 34 = .ok (.aload_n 0, 1) := by decide +kernel
theorem dX1_findGivenFaults_35 : decode cX1_findGivenFaults 35 = .ok (.getfield 30, 3) := by decide +kernel
theorem dX1_findGivenFaults_38 : decode cX1_findGivenFaults 38 = .ok (.getfield 129, 3) := by decide +kernel
theorem dX1_findGivenFaults_41 : decode cX1_findGivenFaults 41 = .ok (.if_icmp .ge 132, 3) := by decide +kernel
theorem dX1_findGivenFaults_44 : decode cX1_findGivenFaults 44 = .ok (.aload_n 0, 1) := by decide +kernel
theorem dX1_findGivenFaults_45 : decode cX1_findGivenFaults 45 = .ok (.getfield 30, 3) := by decide +kernel
theorem dX1_findGivenFaults_48 : decode cX1_findGivenFaults 48 = .ok (.iload_n 3, 1) := by decide +kernel
theorem dX1_findGivenFaults_49 : decode cX1_findGivenFaults 49 = .ok (.invokevirtual 173, 3) := by decide +kernel
theorem dX1_findGivenFaults_52 : decode cX1_findGivenFaults 52 = .ok (.ifCond .eq 115, 3) := by decide +kernel
theorem dX1_findGivenFaults_55 : decode cX1_findGivenFaults 55 = .ok (.aload_n 0, 1) := by decide +kernel
theorem dX1_findGivenFaults_56 : decode cX1_findGivenFaults 56 = .ok (.getfield 34, 3) := by decide +kernel
theorem dX1_findGivenFaults_59 : decode cX1_findGivenFaults 59 = .ok (.iload_n 1, 1) := by decide +kernel
theorem dX1_findGivenFaults_60 : decode cX1_findGivenFaults 60 = .ok (.aload_n 0, 1) := by decide +kernel
theorem dX1_findGivenFaults_61 : decode cX1_findGivenFaults 61 = .ok (.getfield 30, 3) := by decide +kernel
theorem dX1_findGivenFaults_64 : decode cX1_findGivenFaults 64 = .ok (.getfield 176, 3) := by decide +kernel
theorem dX1_findGivenFaults_67 : decode cX1_findGivenFaults 67 = .ok (.iload_n 3, 1) := by decide +kernel
theorem dX1_findGivenFaults_68 : decode cX1_findGivenFaults 68 = .ok (.iaload, 1) := by decide +kernel
theorem dX1_findGivenFaults_69 : decode cX1_findGivenFaults 69 = .ok (.aload_n 0, 1) := by decide +kernel
theorem dX1_findGivenFaults_70 : decode cX1_findGivenFaults 70 = .ok (.getfield 30, 3) := by decide +kernel
theorem dX1_findGivenFaults_73 : decode cX1_findGivenFaults 73 = .ok (.getfield 179, 3) := by decide +kernel
theorem dX1_findGivenFaults_76 : decode cX1_findGivenFaults 76 = .ok (.iload_n 3, 1) := by decide +kernel
theorem dX1_findGivenFaults_77 : decode cX1_findGivenFaults 77 = .ok (.iaload, 1) := by decide +kernel
theorem dX1_findGivenFaults_78 : decode cX1_findGivenFaults 78 = .ok (.invokevirtual 182, 3) := by decide +kernel
theorem dX1_findGivenFaults_81 : decode cX1_findGivenFaults 81 = .ok (.aload_n 0, 1) := by decide +kernel
theorem dX1_findGivenFaults_82 : decode cX1_findGivenFaults 82 = .ok (.getfield 34, 3) := by decide +kernel
theorem dX1_findGivenFaults_85 : decode cX1_findGivenFaults 85 = .ok (.iload_n 1, 1) := by decide +kernel
theorem dX1_findGivenFaults_86 : decode cX1_findGivenFaults 86 = .ok (.aload_n 0, 1) := by decide +kernel
theorem dX1_findGivenFaults_87 : decode cX1_findGivenFaults 87 = .ok (.getfield 30, 3) := by decide +kernel
theorem dX1_findGivenFaults_90 : decode cX1_findGivenFaults 90 = .ok (.getfield 176, 3) := by decide +kernel
theorem dX1_findGivenFaults_93 : decode cX1_findGivenFaults 93 = .ok (.iload_n 3, 1) := by decide +kernel
theorem dX1_findGivenFaults_94 : decode cX1_findGivenFaults 94 = .ok (.iaload, 1) := by decide +kernel
theorem dX1_findGivenFaults_95 : decode cX1_findGivenFaults 95 = .ok (.aload_n 0, 1) := by decide +kernel
theorem dX1_findGivenFaults_96 : decode cX1_findGivenFaults 96 = .ok (.getfield 30, 3) := by decide +kernel
theorem dX1_findGivenFaults_99 : decode cX1_findGivenFaults 99 = .ok (.getfield 179, 3) := by decide +kernel
theorem dX1_findGivenFaults_102 : decode cX1_findGivenFaults 102 = .ok (.iload_n 3, 1) := by decide +kernel
theorem dX1_findGivenFaults_103 : decode cX1_findGivenFaults 103 = .ok (.iaload, 1) := by decide +kernel
theorem dX1_findGivenFaults_104 : decode cX1_findGivenFaults 104 = .ok (.invokevirtual 188, 3) := by decide +kernel
theorem dX1_findGivenFaults_107 : decode cX1_findGivenFaults 107 = .ok (.aload_n 0, 1) := by decide +kernel
theorem dX1_findGivenFaults_108 : decode cX1_findGivenFaults 108 = .ok (.getfield 34, 3) := by decide +kernel
theorem dX1_findGivenFaults_111 : decode cX1_findGivenFaults 111 = .ok (.invokevirtual 191, 3) := by decide +kernel
theorem dX1_findGivenFaults_114 : decode cX1_findGivenFaults 114 = .ok (.istore 4, 2) := by decide +kernel
theorem dX1_findGivenFaults_116 : decode cX1_findGivenFaults 116 = .ok (.aload_n 0, 1) := by decide +kernel
theorem dX1_findGivenFaults_117 : decode cX1_findGivenFaults 117 = .ok (.iload_n 2, 1) := by decide +kernel
theorem dX1_findGivenFaults_118 : decode cX1_findGivenFaults 118 = .ok (.ifCond .eq 13, 3) := by decide +kernel
theorem dX1_findGivenFaults_121 : decode cX1_findGivenFaults 121 = .ok (.iload 4, 2) := by decide +kernel
theorem dX1_findGivenFaults_123 : decode cX1_findGivenFaults 123 = .ok (.iconst (-1), 1) := by decide +kernel
theorem dX1_findGivenFaults_124 : decode cX1_findGivenFaults 124 = .ok (.if_icmp .eq 7, 3) := by decide +kernel
theorem dX1_findGivenFaults_127 : decode cX1_findGivenFaults 127 = .ok (.iconst 1, 1) := by decide +kernel
theorem dX1_findGivenFaults_128 : decode cX1_findGivenFaults 128 = .ok (.goto 4, 3) := by decide +kernel
theorem dX1_findGivenFaults_131 : decode cX1_findGivenFaults 131 = .ok (.iconst 0, 1) := by decide +kernel
theorem dX1_findGivenFaults_132 : decode cX1_findGivenFaults 132 = .ok (.bipush 16, 2) := by decide +kernel
theorem dX1_findGivenFaults_134 : decode cX1_findGivenFaults 134 = .ok (.iload 4, 2) := by decide +kernel
theorem dX1_findGivenFaults_136 : decode cX1_findGivenFaults 136 = .ok (.invokevirtual 140, 3) := by decide +kernel
theorem dX1_findGivenFaults_139 : decode cX1_findGivenFaults 139 = .ok (.aload_n 0, 1) := by decide +kernel
theorem dX1_findGivenFaults_140 : decode cX1_findGivenFaults 140 = .ok (.getfield 34, 3) := by decide +kernel
theorem dX1_findGivenFaults_143 : decode cX1_findGivenFaults 143 = .ok (.invokevirtual 194, 3) := by decide +kernel
theorem dX1_findGivenFaults_146 : decode cX1_findGivenFaults 146 = .ok (.istore 5, 2) := by decide +kernel
theorem dX1_findGivenFaults_148 : decode cX1_findGivenFaults 148 = .ok (.aload_n 0, 1) := by decide +kernel
theorem dX1_findGivenFaults_149 : decode cX1_findGivenFaults 149 = .ok (.iload 5, 2) := by decide +kernel
theorem dX1_findGivenFaults_151 : decode cX1_findGivenFaults 151 = .ok (.iconst (-1), 1) := by decide +kernel
theorem dX1_findGivenFaults_152 : decode cX1_findGivenFaults 152 = .ok (.if_icmp .eq 7, 3) := by decide +kernel
theorem dX1_findGivenFaults_155 : decode cX1_findGivenFaults 155 = .ok (.iconst 1, 1) := by decide +kernel
theorem dX1_findGivenFaults_156 : decode cX1_findGivenFaults 156 = .ok (.goto 4, 3) := by decide +kernel
theorem dX1_findGivenFaults_159 : decode cX1_findGivenFaults 159 = .ok (.iconst 0, 1) := by decide +kernel
theorem dX1_findGivenFaults_160 : decode cX1_findGivenFaults 160 = .ok (.bipush 17, 2) := by decide +kernel
theorem dX1_findGivenFaults_162 : decode cX1_findGivenFaults 162 = .ok (.iload 5, 2) := by decide +kernel
theorem dX1_findGivenFaults_164 : decode cX1_findGivenFaults 164 = .ok (.invokevirtual 140, 3) := by decide +kernel
theorem dX1_findGivenFaults_167 : decode cX1_findGivenFaults 167 = .ok (.iinc 3 1, 3) := by decide +kernel
theorem dX1_findGivenFaults_170 : decode cX1_findGivenFaults 170 = .ok (.goto (-137), 3) := by decide +kernel
theorem dX1_findGivenFaults_173 : decode cX1_findGivenFaults 173 = .ok (.return_, 1) := by decide +kernel
theorem dX1_putTypes_0 : decode cX1_putTypes 0 = .ok (.aload_n 0, 1) := by decide +kernel
theorem dX1_putTypes_1 : decode cX1_putTypes 1 = .ok (.getfield 11, 3) := by decide +kernel
theorem dX1_putTypes_4 : decode cX1_putTypes 4 = .ok (.iload_n 1, 1) := by decide +kernel
theorem dX1_putTypes_5 : decode cX1_putTypes 5 = .ok (.iconst 2, 1) := by decide +kernel
theorem dX1_putTypes_6 : decode cX1_putTypes 6 = .ok (.imul, 1) := by decide +kernel
theorem dX1_putTypes_7 : decode cX1_putTypes 7 = .ok (.iload_n 2, 1) := by decide +kernel
theorem dX1_putTypes_8 : decode cX1_putTypes 8 = .ok (.i2l, 1) := by decide +kernel
theorem dX1_putTypes_9 : decode cX1_putTypes 9 = .ok (.lastore, 1) := by decide +kernel
theorem dX1_putTypes_10 : decode cX1_putTypes 10 = .ok (.return_, 1) := by decide +kernel
theorem dX1_putIf_0 : decode cX1_putIf 0 = .ok (.iload_n 1, 1) := by decide +kernel
theorem dX1_putIf_1 : decode cX1_putIf 1 = .ok (.ifCond .eq 25, 3) := by decide +kernel
theorem dX1_putIf_4 : decode cX1_putIf 4 = .ok (.aload_n 0, 1) := by decide +kernel
theorem dX1_putIf_5 : decode cX1_putIf 5 = .ok (.getfield 11, 3) := by decide +kernel
theorem dX1_putIf_8 : decode cX1_putIf 8 = .ok (.iload_n 2, 1) := by decide +kernel
theorem dX1_putIf_9 : decode cX1_putIf 9 = .ok (.iconst 2, 1) := by decide +kernel
theorem dX1_putIf_10 : decode cX1_putIf 10 = .ok (.imul, 1) := by decide +kernel
theorem dX1_putIf_11 : decode cX1_putIf 11 = .ok (.iload_n 3, 1) := by decide +kernel
theorem dX1_putIf_12 : decode cX1_putIf 12 = .ok (.bipush 64, 2) := by decide +kernel
theorem dX1_putIf_14 : decode cX1_putIf 14 = .ok (.idiv, 1) := by decide +kernel
theorem dX1_putIf_15 : decode cX1_putIf 15 = .ok (.iadd, 1) := by decide +kernel
theorem dX1_putIf_16 : decode cX1_putIf 16 = .ok (.dup2, 1) := by decide +kernel
theorem dX1_putIf_17 : decode cX1_putIf 17 = .ok (.laload, 1) := by decide +kernel
theorem dX1_putIf_18 : decode cX1_putIf 18 = .ok (.lconst 1, 1) := by decide +kernel
theorem dX1_putIf_19 : decode cX1_putIf 19 = .ok (.iload_n 3, 1) := by decide +kernel
theorem dX1_putIf_20 : decode cX1_putIf 20 = .ok (.bipush 64, 2) := by decide +kernel
theorem dX1_putIf_22 : decode cX1_putIf 22 = .ok (.irem, 1) := by decide +kernel
theorem dX1_putIf_23 : decode cX1_putIf 23 = .ok (.lshl, 1) := by decide +kernel
theorem dX1_putIf_24 : decode cX1_putIf 24 = .ok (.lor, 1) := by decide +kernel
theorem dX1_putIf_25 : decode cX1_putIf 25 = .ok (.lastore, 1) := by decide +kernel
theorem dX1_putIf_26 : decode cX1_putIf 26 = .ok (.return_, 1) := by decide +kernel
theorem dX1_isFound_0 : decode cX1_isFound 0 = .ok (.aload_n 0, 1) := by decide +kernel
theorem dX1_isFound_1 : decode cX1_isFound 1 = .ok (.getfield 11, 3) := by decide +kernel
theorem dX1_isFound_4 : decode cX1_isFound 4 = .ok (.iload_n 1, 1) := by decide +kernel
theorem dX1_isFound_5 : decode cX1_isFound 5 = .ok (.iconst 2, 1) := by decide +kernel
theorem dX1_isFound_6 : decode cX1_isFound 6 = .ok (.imul, 1) := by decide +kernel
theorem dX1_isFound_7 : decode cX1_isFound 7 = .ok (.iload_n 2, 1) := by decide +kernel
theorem dX1_isFound_8 : decode cX1_isFound 8 = .ok (.bipush 64, 2) := by decide +kernel
theorem dX1_isFound_10 : decode cX1_isFound 10 = .ok (.idiv, 1) := by decide +kernel
theorem dX1_isFound_11 : decode cX1_isFound 11 = .ok (.iadd, 1) := by decide +kernel
theorem dX1_isFound_12 : decode cX1_isFound 12 = .ok (.laload, 1) := by decide +kernel
theorem dX1_isFound_13 : decode cX1_isFound 13 = .ok (.iload_n 2, 1) := by decide +kernel
theorem dX1_isFound_14 : decode cX1_isFound 14 = .ok (.bipush 64, 2) := by decide +kernel
theorem dX1_isFound_16 : decode cX1_isFound 16 = .ok (.irem, 1) := by decide +kernel
theorem dX1_isFound_17 : decode cX1_isFound 17 = .ok (.lshr, 1) := by decide +kernel
theorem dX1_isFound_18 : decode cX1_isFound 18 = .ok (.lconst 1, 1) := by decide +kernel
theorem dX1_isFound_19 : decode cX1_isFound 19 = .ok (.land, 1) := by decide +kernel
theorem dX1_isFound_20 : decode cX1_isFound 20 = .ok (.lconst 0, 1) := by decide +kernel
theorem dX1_isFound_21 : decode cX1_isFound 21 = .ok (.lcmp, 1) := by decide +kernel
theorem dX1_isFound_22 : decode cX1_isFound 22 = .ok (.ifCond .eq 7, 3) := by decide +kernel
theorem dX1_isFound_25 : decode cX1_isFound 25 = .ok (.iconst 1, 1) := by decide +kernel
theorem dX1_isFound_26 : decode cX1_isFound 26 = .ok (.goto 4, 3) := by decide +kernel
theorem dX1_isFound_29 : decode cX1_isFound 29 = .ok (.iconst 0, 1) := by decide +kernel
theorem dX1_isFound_30 : decode cX1_isFound 30 = .ok (.ireturn, 1) := by decide +kernel
theorem dX1_countFound_0 : decode cX1_countFound 0 = .ok (.iconst 0, 1) := by decide +kernel
theorem dX1_countFound_1 : decode cX1_countFound 1 = .ok (.istore_n 1, 1) := by decide +kernel
theorem dX1_countFound_2 : decode cX1_countFound 2 = .ok (.iconst 0, 1) := by decide +kernel
theorem dX1_countFound_3 : decode cX1_countFound 3 = .ok (.istore_n 2, 1) := by decide +kernel
theorem dX1_countFound_4 : decode cX1_countFound 4 = .ok (.iload_n 2, 1) := by decide +kernel
theorem dX1_countFound_5 : decode cX1_countFound 5 = .ok (.aload_n 0, 1) := by decide +kernel
theorem dX1_countFound_6 : decode cX1_countFound 6 = .ok (.getfield 11, 3) := by decide +kernel
theorem dX1_countFound_9 : decode cX1_countFound 9 = .ok (.arraylength, 1) := by decide +kernel
theorem dX1_countFound_10 : decode cX1_countFound 10 = .ok (.if_icmp .ge 21, 3) := by decide +kernel
theorem dX1_countFound_13 : decode cX1_countFound 13 = .ok (.iload_n 1, 1) := by decide +kernel
theorem dX1_countFound_14 : decode cX1_countFound 14 = .ok (.aload_n 0, 1) := by decide +kernel
theorem dX1_countFound_15 : decode cX1_countFound 15 = .ok (.getfield 11, 3) := by decide +kernel
theorem dX1_countFound_18 : decode cX1_countFound 18 = .ok (.iload_n 2, 1) := by decide +kernel
theorem dX1_countFound_19 : decode cX1_countFound 19 = .ok (.laload, 1) := by decide +kernel
theorem dX1_countFound_20 : decode cX1_countFound 20 = .ok (.invokestatic 197, 3) := by decide +kernel
theorem dX1_countFound_23 : decode cX1_countFound 23 = .ok (.iadd, 1) := by decide +kernel
theorem dX1_countFound_24 : decode cX1_countFound 24 = .ok (.istore_n 1, 1) := by decide +kernel
theorem dX1_countFound_25 : decode cX1_countFound 25 = .ok (.iinc 2 1, 3) := by decide +kernel
theorem dX1_countFound_28 : decode cX1_countFound 28 = .ok (.goto (-24), 3) := by decide +kernel
theorem dX1_countFound_31 : decode cX1_countFound 31 = .ok (.iload_n 1, 1) := by decide +kernel
theorem dX1_countFound_32 : decode cX1_countFound 32 = .ok (.ireturn, 1) := by decide +kernel
theorem dX2_init_0 : decode cX2_init 0 = .ok (.aload_n 0, 1) := by decide +kernel
theorem dX2_init_1 : decode cX2_init 1 = .ok (.invokespecial 3, 3) := by decide +kernel
theorem dX2_init_4 : decode cX2_init 4 = .ok (.aload_n 0, 1) := by decide +kernel
theorem dX2_init_5 : decode cX2_init 5 = .ok (.aload_n 1, 1) := by decide +kernel
theorem dX2_init_6 : decode cX2_init 6 = .ok (.putfield 9, 3) := by decide +kernel
theorem dX2_init_9 : decode cX2_init 9 = .ok (.aload_n 0, 1) := by decide +kernel
theorem dX2_init_10 : decode cX2_init 10 = .ok (.aload_n 2, 1) := by decide +kernel
theorem dX2_init_11 : decode cX2_init 11 = .ok (.putfield 15, 3) := by decide +kernel
theorem dX2_init_14 : decode cX2_init 14 = .ok (.return_, 1) := by decide +kernel
theorem dX2_doubled_0 : decode cX2_doubled 0 = .ok (.iconst 0, 1) := by decide +kernel
theorem dX2_doubled_1 : decode cX2_doubled 1 = .ok (.istore_n 2, 1) := by decide +kernel
theorem dX2_doubled_2 : decode cX2_doubled 2 = .ok (.iload_n 2, 1) := by decide +kernel
theorem dX2_doubled_3 : decode cX2_doubled 3 = .ok (.iload_n 1, 1) := by decide +kernel
theorem dX2_doubled_4 : decode cX2_doubled 4 = .ok (.if_icmp .ge 44, 3) := by decide +kernel
theorem dX2_doubled_7 : decode cX2_doubled 7 = .ok (.aload_n 0, 1) := by decide +kernel
theorem dX2_doubled_8 : decode cX2_doubled 8 = .ok (.getfield 15, 3) := by decide +kernel
theorem dX2_doubled_11 : decode cX2_doubled 11 = .ok (.getfield 19, 3) := by decide +kernel
theorem dX2_doubled_14 : decode cX2_doubled 14 = .ok (.iload_n 2, 1) := by decide +kernel
theorem dX2_doubled_15 : decode cX2_doubled 15 = .ok (.iaload, 1) := by decide +kernel
theorem dX2_doubled_16 : decode cX2_doubled 16 = .ok (.aload_n 0, 1) := by decide +kernel
theorem dX2_doubled_17 : decode cX2_doubled 17 = .ok (.getfield 15, 3) := by decide +kernel
theorem dX2_doubled_20 : decode cX2_doubled 20 = .ok (.getfield 19, 3) := by decide +kernel
theorem dX2_doubled_23 : decode cX2_doubled 23 = .ok (.iload_n 1, 1) := by decide +kernel
theorem dX2_doubled_24 : decode cX2_doubled 24 = .ok (.iaload, 1) := by decide +kernel
theorem dX2_doubled_25 : decode cX2_doubled 25 = .ok (.if_icmp .ne 17, 3) := by decide +kernel
theorem dX2_doubled_28 : decode cX2_doubled 28 = .ok (.aload_n 0, 1) := by decide +kernel
theorem dX2_doubled_29 : decode cX2_doubled 29 = .ok (.getfield 15, 3) := by decide +kernel
theorem dX2_doubled_32 : decode cX2_doubled 32 = .ok (.iload_n 2, 1) := by decide +kernel
theorem dX2_doubled_33 : decode cX2_doubled 33 = .ok (.iload_n 1, 1) := by decide +kernel
theorem dX2_doubled_34 : decode cX2_doubled 34 = .ok (.invokevirtual 25, 3) := by decide +kernel
theorem dX2_doubled_37 : decode cX2_doubled 37 = .ok (.ifCond .eq 5, 3) := by decide +kernel
theorem dX2_doubled_40 : decode cX2_doubled 40 = .ok (.iconst 1, 1) := by decide +kernel
theorem dX2_doubled_41 : decode cX2_doubled 41 = .ok (.ireturn, 1) := by decide +kernel
theorem dX2_doubled_42 : decode cX2_doubled 42 = .ok (.iinc 2 1, 3) := by decide +kernel
theorem dX2_doubled_45 : decode cX2_doubled 45 = .ok (.goto (-43), 3) := by decide +kernel
theorem dX2_doubled_48 : decode cX2_doubled 48 = .ok (.iconst 0, 1) := by decide +kernel
theorem dX2_doubled_49 : decode cX2_doubled 49 = .ok (.ireturn, 1) := by decide +kernel
theorem dX2_wrongMarks_0 : decode cX2_wrongMarks 0 = .ok (.aload_n 0, 1) := by decide +kernel
theorem dX2_wrongMarks_1 : decode cX2_wrongMarks 1 = .ok (.getfield 15, 3) := by decide +kernel
theorem dX2_wrongMarks_4 : decode cX2_wrongMarks 4 = .ok (.iload_n 1, 1) := by decide +kernel
theorem dX2_wrongMarks_5 : decode cX2_wrongMarks 5 = .ok (.invokevirtual 29, 3) := by decide +kernel
theorem dX2_wrongMarks_8 : decode cX2_wrongMarks 8 = .ok (.ifCond .eq 11, 3) := by decide +kernel
theorem dX2_wrongMarks_11 : decode cX2_wrongMarks 11 = .ok (.aload_n 0, 1) := by decide +kernel
theorem dX2_wrongMarks_12 : decode cX2_wrongMarks 12 = .ok (.iload_n 1, 1) := by decide +kernel
theorem dX2_wrongMarks_13 : decode cX2_wrongMarks 13 = .ok (.invokevirtual 33, 3) := by decide +kernel
theorem dX2_wrongMarks_16 : decode cX2_wrongMarks 16 = .ok (.goto 8, 3) := by decide +kernel
theorem dX2_wrongMarks_19 : decode cX2_wrongMarks 19 = .ok (.aload_n 0, 1) := by decide +kernel
theorem dX2_wrongMarks_20 : decode cX2_wrongMarks 20 = .ok (.iload_n 1, 1) := by decide +kernel
theorem dX2_wrongMarks_21 : decode cX2_wrongMarks 21 = .ok (.invokevirtual 36, 3) := by decide +kernel
theorem dX2_wrongMarks_24 : decode cX2_wrongMarks 24 = .ok (.ireturn, 1) := by decide +kernel
theorem dX2_wrongInFace_0 : decode cX2_wrongInFace 0 = .ok (.aload_n 0, 1) := by decide +kernel
theorem dX2_wrongInFace_1 : decode cX2_wrongInFace 1 = .ok (.getfield 15, 3) := by decide +kernel
theorem dX2_wrongInFace_4 : decode cX2_wrongInFace 4 = .ok (.getfield 39, 3) := by decide +kernel
theorem dX2_wrongInFace_7 : decode cX2_wrongInFace 7 = .ok (.iload_n 1, 1) := by decide +kernel
theorem dX2_wrongInFace_8 : decode cX2_wrongInFace 8 = .ok (.iaload, 1) := by decide +kernel
theorem dX2_wrongInFace_9 : decode cX2_wrongInFace 9 = .ok (.istore_n 2, 1) := by decide +kernel
theorem dX2_wrongInFace_10 : decode cX2_wrongInFace 10 = .ok (.aload_n 0, 1) := by decide +kernel
theorem dX2_wrongInFace_11 : decode cX2_wrongInFace 11 = .ok (.getfield 15, 3) := by decide +kernel
theorem dX2_wrongInFace_14 : decode cX2_wrongInFace 14 = .ok (.iload_n 1, 1) := by decide +kernel
theorem dX2_wrongInFace_15 : decode cX2_wrongInFace 15 = .ok (.iconst 2, 1) := by decide +kernel
theorem dX2_wrongInFace_16 : decode cX2_wrongInFace 16 = .ok (.invokevirtual 42, 3) := by decide +kernel
theorem dX2_wrongInFace_19 : decode cX2_wrongInFace 19 = .ok (.ifCond .ne 13, 3) := by decide +kernel
theorem dX2_wrongInFace_22 : decode cX2_wrongInFace 22 = .ok (.iload_n 2, 1) := by decide +kernel
theorem dX2_wrongInFace_23 : decode cX2_wrongInFace 23 = .ok (.iconst 1, 1) := by decide +kernel
theorem dX2_wrongInFace_24 : decode cX2_wrongInFace 24 = .ok (.if_icmp .eq 8, 3) := by decide +kernel
theorem dX2_wrongInFace_27 : decode cX2_wrongInFace 27 = .ok (.iload_n 2, 1) := by decide +kernel
theorem dX2_wrongInFace_28 : decode cX2_wrongInFace 28 = .ok (.iconst 2, 1) := by decide +kernel
theorem dX2_wrongInFace_29 : decode cX2_wrongInFace 29 = .ok (.if_icmp .ne 5, 3) := by decide +kernel
theorem dX2_wrongInFace_32 : decode cX2_wrongInFace 32 = .ok (.iconst 1, 1) := by decide +kernel
theorem dX2_wrongInFace_33 : decode cX2_wrongInFace 33 = .ok (.ireturn, 1) := by decide +kernel
theorem dX2_wrongInFace_34 : decode cX2_wrongInFace 34 = .ok (.aload_n 0, 1) := by decide +kernel
theorem dX2_wrongInFace_35 : decode cX2_wrongInFace 35 = .ok (.getfield 15, 3) := by decide +kernel
theorem dX2_wrongInFace_38 : decode cX2_wrongInFace 38 = .ok (.getfield 45, 3) := by decide +kernel
theorem dX2_wrongInFace_41 : decode cX2_wrongInFace 41 = .ok (.iload_n 1, 1) := by decide +kernel
theorem dX2_wrongInFace_42 : decode cX2_wrongInFace 42 = .ok (.iaload, 1) := by decide +kernel
theorem dX2_wrongInFace_43 : decode cX2_wrongInFace 43 = .ok (.bipush 13, 2) := by decide +kernel
theorem dX2_wrongInFace_45 : decode cX2_wrongInFace 45 = .ok (.iand, 1) := by decide +kernel
theorem dX2_wrongInFace_46 : decode cX2_wrongInFace 46 = .ok (.invokestatic 48, 3) := by decide +kernel
theorem dX2_wrongInFace_49 : decode cX2_wrongInFace 49 = .ok (.istore_n 3, 1) := by decide +kernel
theorem dX2_wrongInFace_50 : decode cX2_wrongInFace 50 = .ok (.iload_n 3, 1) := by decide +kernel
theorem dX2_wrongInFace_51 : decode cX2_wrongInFace 51 = .ok (.iload_n 2, 1) := by decide +kernel
theorem dX2_wrongInFace_52 : decode cX2_wrongInFace 52 = .ok (.ifCond .ne 7, 3) := by decide +kernel
theorem dX2_wrongInFace_55 : decode cX2_wrongInFace 55 = .ok (.iconst 1, 1) := by decide +kernel
theorem dX2_wrongInFace_56 : decode cX2_wrongInFace 56 = .ok (.goto 4, 3) := by decide +kernel
theorem dX2_wrongInFace_59 : decode cX2_wrongInFace 59 = .ok (.iconst 0, 1) := by decide +kernel
theorem dX2_wrongInFace_60 : decode cX2_wrongInFace 60 = .ok (.iadd, 1) := by decide +kernel
theorem dX2_wrongInFace_61 : decode cX2_wrongInFace 61 = .ok (.iconst 1, 1) := by decide +kernel
theorem dX2_wrongInFace_62 : decode cX2_wrongInFace 62 = .ok (.if_icmp .eq 7, 3) := by decide +kernel
theorem dX2_wrongInFace_65 : decode cX2_wrongInFace 65 = .ok (.iconst 1, 1) := by decide +kernel
theorem dX2_wrongInFace_66 : decode cX2_wrongInFace 66 = .ok (.goto 4, 3) := by decide +kernel
theorem dX2_wrongInFace_69 : decode cX2_wrongInFace 69 = .ok (.iconst 0, 1) := by decide +kernel
theorem dX2_wrongInFace_70 : decode cX2_wrongInFace 70 = .ok (.ireturn, 1) := by decide +kernel
theorem dX2_wrongElsewhere_0 : decode cX2_wrongElsewhere 0 = .ok (.aload_n 0, 1) := by decide +kernel
theorem dX2_wrongElsewhere_1 : decode cX2_wrongElsewhere 1 = .ok (.getfield 15, 3) := by decide +kernel
theorem dX2_wrongElsewhere_4 : decode cX2_wrongElsewhere 4 = .ok (.iload_n 1, 1) := by decide +kernel
theorem dX2_wrongElsewhere_5 : decode cX2_wrongElsewhere 5 = .ok (.iconst 1, 1) := by decide +kernel
theorem dX2_wrongElsewhere_6 : decode cX2_wrongElsewhere 6 = .ok (.invokevirtual 42, 3) := by decide +kernel
theorem dX2_wrongElsewhere_9 : decode cX2_wrongElsewhere 9 = .ok (.ifCond .ne 14, 3) := by decide +kernel
theorem dX2_wrongElsewhere_12 : decode cX2_wrongElsewhere 12 = .ok (.aload_n 0, 1) := by decide +kernel
theorem dX2_wrongElsewhere_13 : decode cX2_wrongElsewhere 13 = .ok (.getfield 15, 3) := by decide +kernel
theorem dX2_wrongElsewhere_16 : decode cX2_wrongElsewhere 16 = .ok (.iload_n 1, 1) := by decide +kernel
theorem dX2_wrongElsewhere_17 : decode cX2_wrongElsewhere 17 = .ok (.bipush 8, 2) := by decide +kernel
theorem dX2_wrongElsewhere_19 : decode cX2_wrongElsewhere 19 = .ok (.invokevirtual 42, 3) := by decide +kernel
theorem dX2_wrongElsewhere_22 : decode cX2_wrongElsewhere 22 = .ok (.ireturn, 1) := by decide +kernel
theorem dX2_wrongElsewhere_23 : decode cX2_wrongElsewhere 23 = .ok (.aload_n 0, 1) := by decide +kernel
theorem dX2_wrongElsewhere_24 : decode cX2_wrongElsewhere 24 = .ok (.getfield 15, 3) := by decide +kernel
theorem dX2_wrongElsewhere_27 : decode cX2_wrongElsewhere 27 = .ok (.getfield 19, 3) := by decide +kernel
theorem dX2_wrongElsewhere_30 : decode cX2_wrongElsewhere 30 = .ok (.iload_n 1, 1) := by decide +kernel
theorem dX2_wrongElsewhere_31 : decode cX2_wrongElsewhere 31 = .ok (.iaload, 1) := by decide +kernel
theorem dX2_wrongElsewhere_32 : decode cX2_wrongElsewhere 32 = .ok (.istore_n 2, 1) := by decide +kernel
theorem dX2_wrongElsewhere_33 : decode cX2_wrongElsewhere 33 = .ok (.aload_n 0, 1) := by decide +kernel
theorem dX2_wrongElsewhere_34 : decode cX2_wrongElsewhere 34 = .ok (.getfield 15, 3) := by decide +kernel
theorem dX2_wrongElsewhere_37 : decode cX2_wrongElsewhere 37 = .ok (.iload_n 1, 1) := by decide +kernel
theorem dX2_wrongElsewhere_38 : decode cX2_wrongElsewhere 38 = .ok (.bipush 14, 2) := by decide +kernel
theorem dX2_wrongElsewhere_40 : decode cX2_wrongElsewhere 40 = .ok (.invokevirtual 42, 3) := by decide +kernel
theorem dX2_wrongElsewhere_43 : decode cX2_wrongElsewhere 43 = .ok (.ifCond .ne 39, 3) := by decide +kernel
theorem dX2_wrongElsewhere_46 : decode cX2_wrongElsewhere 46 = .ok (.aload_n 0, 1) := by decide +kernel
theorem dX2_wrongElsewhere_47 : decode cX2_wrongElsewhere 47 = .ok (.getfield 15, 3) := by decide +kernel
theorem dX2_wrongElsewhere_50 : decode cX2_wrongElsewhere 50 = .ok (.getfield 39, 3) := by decide +kernel
theorem dX2_wrongElsewhere_53 : decode cX2_wrongElsewhere 53 = .ok (.iload_n 1, 1) := by decide +kernel
theorem dX2_wrongElsewhere_54 : decode cX2_wrongElsewhere 54 = .ok (.iaload, 1) := by decide +kernel
theorem dX2_wrongElsewhere_55 : decode cX2_wrongElsewhere 55 = .ok (.ifCond .eq 27, 3) := by decide +kernel
theorem dX2_wrongElsewhere_58 : decode cX2_wrongElsewhere 58 = .ok (.aload_n 0, 1) := by decide +kernel
theorem dX2_wrongElsewhere_59 : decode cX2_wrongElsewhere 59 = .ok (.getfield 9, 3) := by decide +kernel
theorem dX2_wrongElsewhere_62 : decode cX2_wrongElsewhere 62 = .ok (.getfield 54, 3) := by decide +kernel
theorem dX2_wrongElsewhere_65 : decode cX2_wrongElsewhere 65 = .ok (.iload_n 2, 1) := by decide +kernel
theorem dX2_wrongElsewhere_66 : decode cX2_wrongElsewhere 66 = .ok (.iaload, 1) := by decide +kernel
theorem dX2_wrongElsewhere_67 : decode cX2_wrongElsewhere 67 = .ok (.ifCond .ne 15, 3) := by decide +kernel
theorem dX2_wrongElsewhere_70 : decode cX2_wrongElsewhere 70 = .ok (.aload_n 0, 1) := by decide +kernel
theorem dX2_wrongElsewhere_71 : decode cX2_wrongElsewhere 71 = .ok (.getfield 9, 3) := by decide +kernel
theorem dX2_wrongElsewhere_74 : decode cX2_wrongElsewhere 74 = .ok (.iload_n 2, 1) := by decide +kernel
theorem dX2_wrongElsewhere_75 : decode cX2_wrongElsewhere 75 = .ok (.iconst 1, 1) := by decide +kernel
theorem dX2_wrongElsewhere_76 : decode cX2_wrongElsewhere 76 = .ok (.invokevirtual 59, 3) := by decide +kernel
theorem dX2_wrongElsewhere_79 : decode cX2_wrongElsewhere 79 = .ok (.ifCond .ne 7, 3) := by decide +kernel
theorem dX2_wrongElsewhere_82 : decode cX2_wrongElsewhere 82 = .ok (.iconst 1, 1) := by decide +kernel
theorem dX2_wrongElsewhere_83 : decode cX2_wrongElsewhere 83 = .ok (.goto 4, 3) := by decide +kernel
theorem dX2_wrongElsewhere_86 : decode cX2_wrongElsewhere 86 = .ok (.iconst 0, 1) := by decide +kernel
theorem dX2_wrongElsewhere_87 : decode cX2_wrongElsewhere 87 = .ok (.ireturn, 1) := by decide +kernel
theorem dX2_resultFits_0 : decode cX2_resultFits 0 = .ok (.iload_n 1, 1) := by decide +kernel
theorem dX2_resultFits_1 : decode cX2_resultFits 1 = .ok (.iload_n 2, 1) := by decide +kernel
theorem dX2_resultFits_2 : decode cX2_resultFits 2 = .ok (.if_icmp .ne 5, 3) := by decide +kernel
theorem dX2_resultFits_5 : decode cX2_resultFits 5 = .ok (.iconst 1, 1) := by decide +kernel
theorem dX2_resultFits_6 : decode cX2_resultFits 6 = .ok (.ireturn, 1) := by decide +kernel
theorem dX2_resultFits_7 : decode cX2_resultFits 7 = .ok (.iload_n 1, 1) := by decide +kernel
theorem dX2_resultFits_8 : decode cX2_resultFits 8 = .ok (.bipush 10, 2) := by decide +kernel
theorem dX2_resultFits_10 : decode cX2_resultFits 10 = .ok (.isub, 1) := by decide +kernel
theorem dX2_resultFits_11 : decode cX2_resultFits 11 = .ok (.istore_n 3, 1) := by decide +kernel
theorem dX2_resultFits_12 : decode cX2_resultFits 12 = .ok (.iload_n 2, 1) := by decide +kernel
theorem dX2_resultFits_13 : decode cX2_resultFits 13 = .ok (.bipush 10, 2) := by decide +kernel
theorem dX2_resultFits_15 : decode cX2_resultFits 15 = .ok (.isub, 1) := by decide +kernel
theorem dX2_resultFits_16 : decode cX2_resultFits 16 = .ok (.istore 4, 2) := by decide +kernel
theorem dX2_resultFits_18 : decode cX2_resultFits 18 = .ok (.aload_n 0, 1) := by decide +kernel
theorem dX2_resultFits_19 : decode cX2_resultFits 19 = .ok (.getfield 9, 3) := by decide +kernel
theorem dX2_resultFits_22 : decode cX2_resultFits 22 = .ok (.iload_n 3, 1) := by decide +kernel
theorem dX2_resultFits_23 : decode cX2_resultFits 23 = .ok (.invokevirtual 60, 3) := by decide +kernel
theorem dX2_resultFits_26 : decode cX2_resultFits 26 = .ok (.ifCond .eq 32, 3) := by decide +kernel
theorem dX2_resultFits_29 : decode cX2_resultFits 29 = .ok (.aload_n 0, 1) := by decide +kernel
theorem dX2_resultFits_30 : decode cX2_resultFits 30 = .ok (.getfield 9, 3) := by decide +kernel
theorem dX2_resultFits_33 : decode cX2_resultFits 33 = .ok (.iload 4, 2) := by decide +kernel
theorem dX2_resultFits_35 : decode cX2_resultFits 35 = .ok (.invokevirtual 60, 3) := by decide +kernel
theorem dX2_resultFits_38 : decode cX2_resultFits 38 = .ok (.ifCond .eq 20, 3) := by decide +kernel
theorem dX2_resultFits_41 : decode cX2_resultFits 41 = .ok (.aload_n 0, 1) := by decide +kernel
theorem dX2_resultFits_42 : decode cX2_resultFits 42 = .ok (.getfield 9, 3) := by decide +kernel
theorem dX2_resultFits_45 : decode cX2_resultFits 45 = .ok (.iload_n 3, 1) := by decide +kernel
theorem dX2_resultFits_46 : decode cX2_resultFits 46 = .ok (.iload 4, 2) := by decide +kernel
theorem dX2_resultFits_48 : decode cX2_resultFits 48 = .ok (.invokevirtual 63, 3) := by decide +kernel
theorem dX2_resultFits_51 : decode cX2_resultFits 51 = .ok (.ifCond .eq 7, 3) := by decide +kernel
theorem dX2_resultFits_54 : decode cX2_resultFits 54 = .ok (.iconst 1, 1) := by decide +kernel
theorem dX2_resultFits_55 : decode cX2_resultFits 55 = .ok (.goto 4, 3) := by decide +kernel
theorem dX2_resultFits_58 : decode cX2_resultFits 58 = .ok (.iconst 0, 1) := by decide +kernel
theorem dX2_resultFits_59 : decode cX2_resultFits 59 = .ok (.ireturn, 1) := by decide +kernel
theorem dX3_init_0 : decode cX3_init 0 = .ok (.aload_n 0, 1) := by decide +kernel
theorem dX3_init_1 : decode cX3_init 1 = .ok (.invokespecial 3, 3) := by decide +kernel
theorem dX3_init_4 : decode cX3_init 4 = .ok (.aload_n 0, 1) := by decide +kernel
theorem dX3_init_5 : decode cX3_init 5 = .ok (.bipush 80, 2) := by decide +kernel
theorem dX3_init_7 : decode cX3_init 7 = .ok (.newarray .int, 2) := by decide +kernel
theorem dX3_init_9 : decode cX3_init 9 = .ok (.putfield 9, 3) := by decide +kernel
theorem dX3_init_12 : decode cX3_init 12 = .ok (.aload_n 0, 1) := by decide +kernel
theorem dX3_init_13 : decode cX3_init 13 = .ok (.bipush 80, 2) := by decide +kernel
theorem dX3_init_15 : decode cX3_init 15 = .ok (.newarray .int, 2) := by decide +kernel
theorem dX3_init_17 : decode cX3_init 17 = .ok (.putfield 15, 3) := by decide +kernel
theorem dX3_init_20 : decode cX3_init 20 = .ok (.aload_n 0, 1) := by decide +kernel
theorem dX3_init_21 : decode cX3_init 21 = .ok (.bipush 80, 2) := by decide +kernel
theorem dX3_init_23 : decode cX3_init 23 = .ok (.newarray .int, 2) := by decide +kernel
theorem dX3_init_25 : decode cX3_init 25 = .ok (.putfield 18, 3) := by decide +kernel
theorem dX3_init_28 : decode cX3_init 28 = .ok (.aload_n 0, 1) := by decide +kernel
theorem dX3_init_29 : decode cX3_init 29 = .ok (.bipush 80, 2) := by decide +kernel
theorem dX3_init_31 : decode cX3_init 31 = .ok (.newarray .int, 2) := by decide +kernel
theorem dX3_init_33 : decode cX3_init 33 = .ok (.putfield 21, 3) := by decide +kernel
theorem dX3_init_36 : decode cX3_init 36 = .ok (.aload_n 0, 1) := by decide +kernel
theorem dX3_init_37 : decode cX3_init 37 = .ok (.bipush 80, 2) := by decide +kernel
theorem dX3_init_39 : decode cX3_init 39 = .ok (.newarray .int, 2) := by decide +kernel
theorem dX3_init_41 : decode cX3_init 41 = .ok (.putfield 24, 3) := by decide +kernel
theorem dX3_init_44 : decode cX3_init 44 = .ok (.aload_n 0, 1) := by decide +kernel
theorem dX3_init_45 : decode cX3_init 45 = .ok (.bipush 80, 2) := by decide +kernel
theorem dX3_init_47 : decode cX3_init 47 = .ok (.newarray .int, 2) := by decide +kernel
theorem dX3_init_49 : decode cX3_init 49 = .ok (.putfield 27, 3) := by decide +kernel
theorem dX3_init_52 : decode cX3_init 52 = .ok (.aload_n 0, 1) := by decide +kernel
theorem dX3_init_53 : decode cX3_init 53 = .ok (.iconst 0, 1) := by decide +kernel
theorem dX3_init_54 : decode cX3_init 54 = .ok (.putfield 30, 3) := by decide +kernel
theorem dX3_init_57 : decode cX3_init 57 = .ok (.aload_n 0, 1) := by decide +kernel
theorem dX3_init_58 : decode cX3_init 58 = .ok (.aload_n 1, 1) := by decide +kernel
theorem dX3_init_59 : decode cX3_init 59 = .ok (.putfield 34, 3) := by decide +kernel
theorem dX3_init_62 : decode cX3_init 62 = .ok (.return_, 1) := by decide +kernel
theorem dX3_addMember_0 : decode cX3_addMember 0 = .ok (.aload_n 0, 1) := by decide +kernel
theorem dX3_addMember_1 : decode cX3_addMember 1 = .ok (.getfield 30, 3) := by decide +kernel
theorem dX3_addMember_4 : decode cX3_addMember 4 = .ok (.istore 7, 2) := by decide +kernel
theorem dX3_addMember_6 : decode cX3_addMember 6 = .ok (.aload_n 0, 1) := by decide +kernel
theorem dX3_addMember_7 : decode cX3_addMember 7 = .ok (.getfield 9, 3) := by decide +kernel
theorem dX3_addMember_10 : decode cX3_addMember 10 = .ok (.iload 7, 2) := by decide +kernel
theorem dX3_addMember_12 : decode cX3_addMember 12 = .ok (.iload_n 1, 1) := by decide +kernel
theorem dX3_addMember_13 : decode cX3_addMember 13 = .ok (.iastore, 1) := by decide +kernel
theorem dX3_addMember_14 : decode cX3_addMember 14 = .ok (.aload_n 0, 1) := by decide +kernel
theorem dX3_addMember_15 : decode cX3_addMember 15 = .ok (.getfield 15, 3) := by decide +kernel
theorem dX3_addMember_18 : decode cX3_addMember 18 = .ok (.iload 7, 2) := by decide +kernel
theorem dX3_addMember_20 : decode cX3_addMember 20 = .ok (.iload_n 2, 1) := by decide +kernel
theorem dX3_addMember_21 : decode cX3_addMember 21 = .ok (.iastore, 1) := by decide +kernel
theorem dX3_addMember_22 : decode cX3_addMember 22 = .ok (.aload_n 0, 1) := by decide +kernel
theorem dX3_addMember_23 : decode cX3_addMember 23 = .ok (.getfield 18, 3) := by decide +kernel
theorem dX3_addMember_26 : decode cX3_addMember 26 = .ok (.iload 7, 2) := by decide +kernel
theorem dX3_addMember_28 : decode cX3_addMember 28 = .ok (.iload_n 3, 1) := by decide +kernel
theorem dX3_addMember_29 : decode cX3_addMember 29 = .ok (.iastore, 1) := by decide +kernel
theorem dX3_addMember_30 : decode cX3_addMember 30 = .ok (.aload_n 0, 1) := by decide +kernel
theorem dX3_addMember_31 : decode cX3_addMember 31 = .ok (.getfield 21, 3) := by decide +kernel
theorem dX3_addMember_34 : decode cX3_addMember 34 = .ok (.iload 7, 2) := by decide +kernel
theorem dX3_addMember_36 : decode cX3_addMember 36 = .ok (.iload 4, 2) := by decide +kernel
theorem dX3_addMember_38 : decode cX3_addMember 38 = .ok (.iastore, 1) := by decide +kernel
theorem dX3_addMember_39 : decode cX3_addMember 39 = .ok (.aload_n 0, 1) := by decide +kernel
theorem dX3_addMember_40 : decode cX3_addMember 40 = .ok (.getfield 24, 3) := by decide +kernel
theorem dX3_addMember_43 : decode cX3_addMember 43 = .ok (.iload 7, 2) := by decide +kernel
theorem dX3_addMember_45 : decode cX3_addMember 45 = .ok (.iload 5, 2) := by decide +kernel
theorem dX3_addMember_47 : decode cX3_addMember 47 = .ok (.iastore, 1) := by decide +kernel
theorem dX3_addMember_48 : decode cX3_addMember 48 = .ok (.aload_n 0, 1) := by decide +kernel
theorem dX3_addMember_49 : decode cX3_addMember 49 = .ok (.getfield 27, 3) := by decide +kernel
theorem dX3_addMember_52 : decode cX3_addMember 52 = .ok (.iload 7, 2) := by decide +kernel
theorem dX3_addMember_54 : decode cX3_addMember 54 = .ok (.iload 6, 2) := by decide +kernel
theorem dX3_addMember_56 : decode cX3_addMember 56 = .ok (.iastore, 1) := by decide +kernel
theorem dX3_addMember_57 : decode cX3_addMember 57 = .ok (.aload_n 0, 1) := by decide +kernel
theorem dX3_addMember_58 : decode cX3_addMember 58 = .ok (.dup, 1) := by decide +kernel
theorem dX3_addMember_59 : decode cX3_addMember 59 = .ok (.getfield 30, 3) := by decide +kernel
theorem dX3_addMember_62 : decode cX3_addMember 62 = .ok (.iconst 1, 1) := by decide +kernel
theorem dX3_addMember_63 : decode cX3_addMember 63 = .ok (.iadd, 1) := by decide +kernel
theorem dX3_addMember_64 : decode cX3_addMember 64 = .ok (.putfield 30, 3) := by decide +kernel
theorem dX3_addMember_67 : decode cX3_addMember 67 = .ok (.iload 7, 2) := by decide +kernel
theorem dX3_addMember_69 : decode cX3_addMember 69 = .ok (.ireturn, 1) := by decide +kernel
theorem dX3_marked_0 : decode cX3_marked 0 = .ok (.aload_n 0, 1) := by decide +kernel
theorem dX3_marked_1 : decode cX3_marked 1 = .ok (.getfield 21, 3) := by decide +kernel
theorem dX3_marked_4 : decode cX3_marked 4 = .ok (.iload_n 1, 1) := by decide +kernel
theorem dX3_marked_5 : decode cX3_marked 5 = .ok (.iaload, 1) := by decide +kernel
theorem dX3_marked_6 : decode cX3_marked 6 = .ok (.iload_n 2, 1) := by decide +kernel
theorem dX3_marked_7 : decode cX3_marked 7 = .ok (.iand, 1) := by decide +kernel
theorem dX3_marked_8 : decode cX3_marked 8 = .ok (.ifCond .eq 7, 3) := by decide +kernel
theorem dX3_marked_11 : decode cX3_marked 11 = .ok (.iconst 1, 1) := by decide +kernel
theorem dX3_marked_12 : decode cX3_marked 12 = .ok (.goto 4, 3) := by decide +kernel
theorem dX3_marked_15 : decode cX3_marked 15 = .ok (.iconst 0, 1) := by decide +kernel
theorem dX3_marked_16 : decode cX3_marked 16 = .ok (.ireturn, 1) := by decide +kernel
theorem dX3_named_0 : decode cX3_named 0 = .ok (.aload_n 0, 1) := by decide +kernel
theorem dX3_named_1 : decode cX3_named 1 = .ok (.getfield 15, 3) := by decide +kernel
theorem dX3_named_4 : decode cX3_named 4 = .ok (.iload_n 1, 1) := by decide +kernel
theorem dX3_named_5 : decode cX3_named 5 = .ok (.iaload, 1) := by decide +kernel
theorem dX3_named_6 : decode cX3_named 6 = .ok (.iload_n 2, 1) := by decide +kernel
theorem dX3_named_7 : decode cX3_named 7 = .ok (.if_icmp .ne 17, 3) := by decide +kernel
theorem dX3_named_10 : decode cX3_named 10 = .ok (.aload_n 0, 1) := by decide +kernel
theorem dX3_named_11 : decode cX3_named 11 = .ok (.getfield 18, 3) := by decide +kernel
theorem dX3_named_14 : decode cX3_named 14 = .ok (.iload_n 1, 1) := by decide +kernel
theorem dX3_named_15 : decode cX3_named 15 = .ok (.iaload, 1) := by decide +kernel
theorem dX3_named_16 : decode cX3_named 16 = .ok (.iload_n 3, 1) := by decide +kernel
theorem dX3_named_17 : decode cX3_named 17 = .ok (.if_icmp .ne 7, 3) := by decide +kernel
theorem dX3_named_20 : decode cX3_named 20 = .ok (.iconst 1, 1) := by decide +kernel
theorem dX3_named_21 : decode cX3_named 21 = .ok (.goto 4, 3) := by decide +kernel
theorem dX3_named_24 : decode cX3_named 24 = .ok (.iconst 0, 1) := by decide +kernel
theorem dX3_named_25 : decode cX3_named 25 = .ok (.ireturn, 1) := by decide +kernel
theorem dX3_alike_0 : decode cX3_alike 0 = .ok (.aload_n 0, 1) := by decide +kernel
theorem dX3_alike_1 : decode cX3_alike 1 = .ok (.iload_n 1, 1) := by decide +kernel
theorem dX3_alike_2 : decode cX3_alike 2 = .ok (.aload_n 0, 1) := by decide +kernel
theorem dX3_alike_3 : decode cX3_alike 3 = .ok (.getfield 15, 3) := by decide +kernel
theorem dX3_alike_6 : decode cX3_alike 6 = .ok (.iload_n 2, 1) := by decide +kernel
theorem dX3_alike_7 : decode cX3_alike 7 = .ok (.iaload, 1) := by decide +kernel
theorem dX3_alike_8 : decode cX3_alike 8 = .ok (.aload_n 0, 1) := by decide +kernel
theorem dX3_alike_9 : decode cX3_alike 9 = .ok (.getfield 18, 3) := by decide +kernel
theorem dX3_alike_12 : decode cX3_alike 12 = .ok (.iload_n 2, 1) := by decide +kernel
theorem dX3_alike_13 : decode cX3_alike 13 = .ok (.iaload, 1) := by decide +kernel
theorem dX3_alike_14 : decode cX3_alike 14 = .ok (.invokevirtual 38, 3) := by decide +kernel
theorem dX3_alike_17 : decode cX3_alike 17 = .ok (.ireturn, 1) := by decide +kernel
theorem dX3_ofFace_0 : decode cX3_ofFace 0 = .ok (.aload_n 0, 1) := by decide +kernel
theorem dX3_ofFace_1 : decode cX3_ofFace 1 = .ok (.getfield 34, 3) := by decide +kernel
theorem dX3_ofFace_4 : decode cX3_ofFace 4 = .ok (.getfield 42, 3) := by decide +kernel
theorem dX3_ofFace_7 : decode cX3_ofFace 7 = .ok (.aload_n 0, 1) := by decide +kernel
theorem dX3_ofFace_8 : decode cX3_ofFace 8 = .ok (.getfield 9, 3) := by decide +kernel
theorem dX3_ofFace_11 : decode cX3_ofFace 11 = .ok (.iload_n 1, 1) := by decide +kernel
theorem dX3_ofFace_12 : decode cX3_ofFace 12 = .ok (.iaload, 1) := by decide +kernel
theorem dX3_ofFace_13 : decode cX3_ofFace 13 = .ok (.iaload, 1) := by decide +kernel
theorem dX3_ofFace_14 : decode cX3_ofFace 14 = .ok (.iconst 1, 1) := by decide +kernel
theorem dX3_ofFace_15 : decode cX3_ofFace 15 = .ok (.if_icmp .ne 7, 3) := by decide +kernel
theorem dX3_ofFace_18 : decode cX3_ofFace 18 = .ok (.iconst 1, 1) := by decide +kernel
theorem dX3_ofFace_19 : decode cX3_ofFace 19 = .ok (.goto 4, 3) := by decide +kernel
theorem dX3_ofFace_22 : decode cX3_ofFace 22 = .ok (.iconst 0, 1) := by decide +kernel
theorem dX3_ofFace_23 : decode cX3_ofFace 23 = .ok (.ireturn, 1) := by decide +kernel
theorem dX3_shared_0 : decode cX3_shared 0 = .ok (.aload_n 0, 1) := by decide +kernel
theorem dX3_shared_1 : decode cX3_shared 1 = .ok (.iload_n 1, 1) := by decide +kernel
theorem dX3_shared_2 : decode cX3_shared 2 = .ok (.iconst 4, 1) := by decide +kernel
theorem dX3_shared_3 : decode cX3_shared 3 = .ok (.invokevirtual 47, 3) := by decide +kernel
theorem dX3_shared_6 : decode cX3_shared 6 = .ok (.ifCond .eq 15, 3) := by decide +kernel
theorem dX3_shared_9 : decode cX3_shared 9 = .ok (.aload_n 0, 1) := by decide +kernel
theorem dX3_shared_10 : decode cX3_shared 10 = .ok (.iload_n 1, 1) := by decide +kernel
theorem dX3_shared_11 : decode cX3_shared 11 = .ok (.invokevirtual 51, 3) := by decide +kernel
theorem dX3_shared_14 : decode cX3_shared 14 = .ok (.ifCond .eq 7, 3) := by decide +kernel
theorem dX3_shared_17 : decode cX3_shared 17 = .ok (.iconst 1, 1) := by decide +kernel
theorem dX3_shared_18 : decode cX3_shared 18 = .ok (.goto 4, 3) := by decide +kernel
theorem dX3_shared_21 : decode cX3_shared 21 = .ok (.iconst 0, 1) := by decide +kernel
theorem dX3_shared_22 : decode cX3_shared 22 = .ok (.istore_n 3, 1) := by decide +kernel
theorem dX3_shared_23 : decode cX3_shared 23 = .ok (.aload_n 0, 1) := by decide +kernel
theorem dX3_shared_24 : decode cX3_shared 24 = .ok (.getfield 34, 3) := by decide +kernel
theorem dX3_shared_27 : decode cX3_shared 27 = .ok (.getfield 55, 3) := by decide +kernel
theorem dX3_shared_30 : decode cX3_shared 30 = .ok (.iload_n 2, 1) := by decide +kernel
theorem dX3_shared_31 : decode cX3_shared 31 = .ok (.iaload, 1) := by decide +kernel
theorem dX3_shared_32 : decode cX3_shared 32 = .ok (.aload_n 0, 1) := by decide +kernel
theorem dX3_shared_33 : decode cX3_shared 33 = .ok (.getfield 9, 3) := by decide +kernel
theorem dX3_shared_36 : decode cX3_shared 36 = .ok (.iload_n 1, 1) := by decide +kernel
theorem dX3_shared_37 : decode cX3_shared 37 = .ok (.iaload, 1) := by decide +kernel
theorem dX3_shared_38 : decode cX3_shared 38 = .ok (.invokestatic 58, 3) := by decide +kernel
theorem dX3_shared_41 : decode cX3_shared 41 = .ok (.ifCond .eq 20, 3) := by decide +kernel
theorem dX3_shared_44 : decode cX3_shared 44 = .ok (.aload_n 0, 1) := by decide +kernel
theorem dX3_shared_45 : decode cX3_shared 45 = .ok (.iload_n 1, 1) := by decide +kernel
theorem dX3_shared_46 : decode cX3_shared 46 = .ok (.iload_n 2, 1) := by decide +kernel
theorem dX3_shared_47 : decode cX3_shared 47 = .ok (.invokevirtual 61, 3) := by decide +kernel
theorem dX3_shared_50 : decode cX3_shared 50 = .ok (.ifCond .eq 11, 3) := by decide +kernel
theorem dX3_shared_53 : decode cX3_shared 53 = .ok (.iload_n 3, 1) := by decide +kernel
theorem dX3_shared_54 : decode cX3_shared 54 = .ok (.ifCond .ne 7, 3) := by decide +kernel
theorem dX3_shared_57 : decode cX3_shared 57 = .ok (.iconst 1, 1) := by decide +kernel
theorem dX3_shared_58 : decode cX3_shared 58 = .ok (.goto 4, 3) := by decide +kernel
theorem dX3_shared_61 : decode cX3_shared 61 = .ok (.iconst 0, 1) := by decide +kernel
theorem dX3_shared_62 : decode cX3_shared 62 = .ok (.ireturn, 1) := by decide +kernel
theorem dX3_seenFrom_0 : decode cX3_seenFrom 0 = .ok (.aload_n 0, 1) := by decide +kernel
theorem dX3_seenFrom_1 : decode cX3_seenFrom 1 = .ok (.getfield 24, 3) := by decide +kernel
theorem dX3_seenFrom_4 : decode cX3_seenFrom 4 = .ok (.iload_n 1, 1) := by decide +kernel
theorem dX3_seenFrom_5 : decode cX3_seenFrom 5 = .ok (.iaload, 1) := by decide +kernel
theorem dX3_seenFrom_6 : decode cX3_seenFrom 6 = .ok (.iconst 1, 1) := by decide +kernel
theorem dX3_seenFrom_7 : decode cX3_seenFrom 7 = .ok (.if_icmp .ne 35, 3) := by decide +kernel
theorem dX3_seenFrom_10 : decode cX3_seenFrom 10 = .ok (.aload_n 0, 1) := by decide +kernel
theorem dX3_seenFrom_11 : decode cX3_seenFrom 11 = .ok (.getfield 34, 3) := by decide +kernel
theorem dX3_seenFrom_14 : decode cX3_seenFrom 14 = .ok (.getfield 64, 3) := by decide +kernel
theorem dX3_seenFrom_17 : decode cX3_seenFrom 17 = .ok (.aload_n 0, 1) := by decide +kernel
theorem dX3_seenFrom_18 : decode cX3_seenFrom 18 = .ok (.getfield 9, 3) := by decide +kernel
theorem dX3_seenFrom_21 : decode cX3_seenFrom 21 = .ok (.iload_n 1, 1) := by decide +kernel
theorem dX3_seenFrom_22 : decode cX3_seenFrom 22 = .ok (.iaload, 1) := by decide +kernel
theorem dX3_seenFrom_23 : decode cX3_seenFrom 23 = .ok (.iaload, 1) := by decide +kernel
theorem dX3_seenFrom_24 : decode cX3_seenFrom 24 = .ok (.aload_n 0, 1) := by decide +kernel
theorem dX3_seenFrom_25 : decode cX3_seenFrom 25 = .ok (.getfield 34, 3) := by decide +kernel
theorem dX3_seenFrom_28 : decode cX3_seenFrom 28 = .ok (.getfield 64, 3) := by decide +kernel
theorem dX3_seenFrom_31 : decode cX3_seenFrom 31 = .ok (.iload_n 2, 1) := by decide +kernel
theorem dX3_seenFrom_32 : decode cX3_seenFrom 32 = .ok (.iaload, 1) := by decide +kernel
theorem dX3_seenFrom_33 : decode cX3_seenFrom 33 = .ok (.if_icmp .ne 7, 3) := by decide +kernel
theorem dX3_seenFrom_36 : decode cX3_seenFrom 36 = .ok (.iconst 1, 1) := by decide +kernel
theorem dX3_seenFrom_37 : decode cX3_seenFrom 37 = .ok (.goto 4, 3) := by decide +kernel
theorem dX3_seenFrom_40 : decode cX3_seenFrom 40 = .ok (.iconst 0, 1) := by decide +kernel
theorem dX3_seenFrom_41 : decode cX3_seenFrom 41 = .ok (.ireturn, 1) := by decide +kernel
theorem dX3_seenFrom_42 : decode cX3_seenFrom 42 = .ok (.aload_n 0, 1) := by decide +kernel
theorem dX3_seenFrom_43 : decode cX3_seenFrom 43 = .ok (.getfield 24, 3) := by decide +kernel
theorem dX3_seenFrom_46 : decode cX3_seenFrom 46 = .ok (.iload_n 1, 1) := by decide +kernel
theorem dX3_seenFrom_47 : decode cX3_seenFrom 47 = .ok (.iaload, 1) := by decide +kernel
theorem dX3_seenFrom_48 : decode cX3_seenFrom 48 = .ok (.ifCond .eq 7, 3) := by decide +kernel
theorem dX3_seenFrom_51 : decode cX3_seenFrom 51 = .ok (.iconst 1, 1) := by decide +kernel
theorem dX3_seenFrom_52 : decode cX3_seenFrom 52 = .ok (.goto 4, 3) := by decide +kernel
theorem dX3_seenFrom_55 : decode cX3_seenFrom 55 = .ok (.iconst 0, 1) := by decide +kernel
theorem dX3_seenFrom_56 : decode cX3_seenFrom 56 = .ok (.ireturn, 1) := by decide +kernel
theorem dX3_firstOfItsSort_0 : decode cX3_firstOfItsSort 0 = .ok (.iconst 0, 1) := by decide +kernel
theorem dX3_firstOfItsSort_1 : decode cX3_firstOfItsSort 1 = .ok (.istore_n 2, 1) := by decide +kernel
theorem dX3_firstOfItsSort_2 : decode cX3_firstOfItsSort 2 = .ok (.iload_n 2, 1) := by decide +kernel
theorem dX3_firstOfItsSort_3 : decode cX3_firstOfItsSort 3 = .ok (.iload_n 1, 1) := by decide +kernel
theorem dX3_firstOfItsSort_4 : decode cX3_firstOfItsSort 4 = .ok (.if_icmp .ge 20, 3) := by decide +kernel
theorem dX3_firstOfItsSort_7 : decode cX3_firstOfItsSort 7 = .ok (.aload_n 0, 1) := by decide +kernel
theorem dX3_firstOfItsSort_8 : decode cX3_firstOfItsSort 8 = .ok (.iload_n 2, 1) := by decide +kernel
theorem dX3_firstOfItsSort_9 : decode cX3_firstOfItsSort 9 = .ok (.iload_n 1, 1) := by decide +kernel
theorem dX3_firstOfItsSort_10 : decode cX3_firstOfItsSort 10 = .ok (.invokevirtual 67, 3) := by decide +kernel
theorem dX3_firstOfItsSort_13 : decode cX3_firstOfItsSort 13 = .ok (.ifCond .eq 5, 3) := by decide +kernel
theorem dX3_firstOfItsSort_16 : decode cX3_firstOfItsSort 16 = .ok (.iconst 0, 1) := by decide +kernel
theorem dX3_firstOfItsSort_17 : decode cX3_firstOfItsSort 17 = .ok (.ireturn, 1) := by decide +kernel
theorem dX3_firstOfItsSort_18 : decode cX3_firstOfItsSort 18 = .ok (.iinc 2 1, 3) := by decide +kernel
theorem dX3_firstOfItsSort_21 : decode cX3_firstOfItsSort 21 = .ok (.goto (-19), 3) := by decide +kernel
theorem dX3_firstOfItsSort_24 : decode cX3_firstOfItsSort 24 = .ok (.iconst 1, 1) := by decide +kernel
theorem dX3_firstOfItsSort_25 : decode cX3_firstOfItsSort 25 = .ok (.ireturn, 1) := by decide +kernel
theorem dX4_init_0 : decode cX4_init 0 = .ok (.aload_n 0, 1) := by decide +kernel
theorem dX4_init_1 : decode cX4_init 1 = .ok (.invokespecial 3, 3) := by decide +kernel
theorem dX4_init_4 : decode cX4_init 4 = .ok (.aload_n 0, 1) := by decide +kernel
theorem dX4_init_5 : decode cX4_init 5 = .ok (.aload_n 1, 1) := by decide +kernel
theorem dX4_init_6 : decode cX4_init 6 = .ok (.putfield 9, 3) := by decide +kernel
theorem dX4_init_9 : decode cX4_init 9 = .ok (.return_, 1) := by decide +kernel
theorem dX4_missing_0 : decode cX4_missing 0 = .ok (.aload_n 0, 1) := by decide +kernel
theorem dX4_missing_1 : decode cX4_missing 1 = .ok (.getfield 9, 3) := by decide +kernel
theorem dX4_missing_4 : decode cX4_missing 4 = .ok (.iload_n 1, 1) := by decide +kernel
theorem dX4_missing_5 : decode cX4_missing 5 = .ok (.invokevirtual 15, 3) := by decide +kernel
theorem dX4_missing_8 : decode cX4_missing 8 = .ok (.aload_n 0, 1) := by decide +kernel
theorem dX4_missing_9 : decode cX4_missing 9 = .ok (.getfield 9, 3) := by decide +kernel
theorem dX4_missing_12 : decode cX4_missing 12 = .ok (.getfield 21, 3) := by decide +kernel
theorem dX4_missing_15 : decode cX4_missing 15 = .ok (.iload_n 1, 1) := by decide +kernel
theorem dX4_missing_16 : decode cX4_missing 16 = .ok (.iaload, 1) := by decide +kernel
theorem dX4_missing_17 : decode cX4_missing 17 = .ok (.ior, 1) := by decide +kernel
theorem dX4_missing_18 : decode cX4_missing 18 = .ok (.aload_n 0, 1) := by decide +kernel
theorem dX4_missing_19 : decode cX4_missing 19 = .ok (.getfield 9, 3) := by decide +kernel
theorem dX4_missing_22 : decode cX4_missing 22 = .ok (.invokevirtual 25, 3) := by decide +kernel
theorem dX4_missing_25 : decode cX4_missing 25 = .ok (.iconst (-1), 1) := by decide +kernel
theorem dX4_missing_26 : decode cX4_missing 26 = .ok (.ixor, 1) := by decide +kernel
theorem dX4_missing_27 : decode cX4_missing 27 = .ok (.iand, 1) := by decide +kernel
theorem dX4_missing_28 : decode cX4_missing 28 = .ok (.ireturn, 1) := by decide +kernel
theorem dX4_ring_0 : decode cX4_ring 0 = .ok (.aload_n 0, 1) := by decide +kernel
theorem dX4_ring_1 : decode cX4_ring 1 = .ok (.getfield 9, 3) := by decide +kernel
theorem dX4_ring_4 : decode cX4_ring 4 = .ok (.getfield 29, 3) := by decide +kernel
theorem dX4_ring_7 : decode cX4_ring 7 = .ok (.iload_n 1, 1) := by decide +kernel
theorem dX4_ring_8 : decode cX4_ring 8 = .ok (.iaload, 1) := by decide +kernel
theorem dX4_ring_9 : decode cX4_ring 9 = .ok (.iload_n 1, 1) := by decide +kernel
theorem dX4_ring_10 : decode cX4_ring 10 = .ok (.invokestatic 32, 3) := by decide +kernel
theorem dX4_ring_13 : decode cX4_ring 13 = .ok (.iand, 1) := by decide +kernel
theorem dX4_ring_14 : decode cX4_ring 14 = .ok (.ireturn, 1) := by decide +kernel
theorem dX4_wrongKind_0 : decode cX4_wrongKind 0 = .ok (.aload_n 0, 1) := by decide +kernel
theorem dX4_wrongKind_1 : decode cX4_wrongKind 1 = .ok (.getfield 9, 3) := by decide +kernel
theorem dX4_wrongKind_4 : decode cX4_wrongKind 4 = .ok (.getfield 35, 3) := by decide +kernel
theorem dX4_wrongKind_7 : decode cX4_wrongKind 7 = .ok (.iload_n 1, 1) := by decide +kernel
theorem dX4_wrongKind_8 : decode cX4_wrongKind 8 = .ok (.iaload, 1) := by decide +kernel
theorem dX4_wrongKind_9 : decode cX4_wrongKind 9 = .ok (.istore_n 2, 1) := by decide +kernel
theorem dX4_wrongKind_10 : decode cX4_wrongKind 10 = .ok (.aload_n 0, 1) := by decide +kernel
theorem dX4_wrongKind_11 : decode cX4_wrongKind 11 = .ok (.getfield 9, 3) := by decide +kernel
theorem dX4_wrongKind_14 : decode cX4_wrongKind 14 = .ok (.getfield 38, 3) := by decide +kernel
theorem dX4_wrongKind_17 : decode cX4_wrongKind 17 = .ok (.iload_n 1, 1) := by decide +kernel
theorem dX4_wrongKind_18 : decode cX4_wrongKind 18 = .ok (.iaload, 1) := by decide +kernel
theorem dX4_wrongKind_19 : decode cX4_wrongKind 19 = .ok (.ifCond .ne 16, 3) := by decide +kernel
theorem dX4_wrongKind_22 : decode cX4_wrongKind 22 = .ok (.iload_n 2, 1) := by decide +kernel
theorem dX4_wrongKind_23 : decode cX4_wrongKind 23 = .ok (.aload_n 0, 1) := by decide +kernel
theorem dX4_wrongKind_24 : decode cX4_wrongKind 24 = .ok (.getfield 9, 3) := by decide +kernel
theorem dX4_wrongKind_27 : decode cX4_wrongKind 27 = .ok (.iconst 0, 1) := by decide +kernel
theorem dX4_wrongKind_28 : decode cX4_wrongKind 28 = .ok (.invokevirtual 41, 3) := by decide +kernel
theorem dX4_wrongKind_31 : decode cX4_wrongKind 31 = .ok (.iconst (-1), 1) := by decide +kernel
theorem dX4_wrongKind_32 : decode cX4_wrongKind 32 = .ok (.ixor, 1) := by decide +kernel
theorem dX4_wrongKind_33 : decode cX4_wrongKind 33 = .ok (.iand, 1) := by decide +kernel
theorem dX4_wrongKind_34 : decode cX4_wrongKind 34 = .ok (.istore_n 2, 1) := by decide +kernel
theorem dX4_wrongKind_35 : decode cX4_wrongKind 35 = .ok (.iload_n 2, 1) := by decide +kernel
theorem dX4_wrongKind_36 : decode cX4_wrongKind 36 = .ok (.aload_n 0, 1) := by decide +kernel
theorem dX4_wrongKind_37 : decode cX4_wrongKind 37 = .ok (.getfield 9, 3) := by decide +kernel
theorem dX4_wrongKind_40 : decode cX4_wrongKind 40 = .ok (.getfield 44, 3) := by decide +kernel
theorem dX4_wrongKind_43 : decode cX4_wrongKind 43 = .ok (.iload_n 1, 1) := by decide +kernel
theorem dX4_wrongKind_44 : decode cX4_wrongKind 44 = .ok (.iaload, 1) := by decide +kernel
theorem dX4_wrongKind_45 : decode cX4_wrongKind 45 = .ok (.aload_n 0, 1) := by decide +kernel
theorem dX4_wrongKind_46 : decode cX4_wrongKind 46 = .ok (.getfield 9, 3) := by decide +kernel
theorem dX4_wrongKind_49 : decode cX4_wrongKind 49 = .ok (.iconst 1, 1) := by decide +kernel
theorem dX4_wrongKind_50 : decode cX4_wrongKind 50 = .ok (.invokevirtual 41, 3) := by decide +kernel
theorem dX4_wrongKind_53 : decode cX4_wrongKind 53 = .ok (.iconst (-1), 1) := by decide +kernel
theorem dX4_wrongKind_54 : decode cX4_wrongKind 54 = .ok (.ixor, 1) := by decide +kernel
theorem dX4_wrongKind_55 : decode cX4_wrongKind 55 = .ok (.iand, 1) := by decide +kernel
theorem dX4_wrongKind_56 : decode cX4_wrongKind 56 = .ok (.ior, 1) := by decide +kernel
theorem dX4_wrongKind_57 : decode cX4_wrongKind 57 = .ok (.ireturn, 1) := by decide +kernel
theorem dX4_finalParent_0 : decode cX4_finalParent 0 = .ok (.aload_n 0, 1) := by decide +kernel
theorem dX4_finalParent_1 : decode cX4_finalParent 1 = .ok (.getfield 9, 3) := by decide +kernel
theorem dX4_finalParent_4 : decode cX4_finalParent 4 = .ok (.getfield 35, 3) := by decide +kernel
theorem dX4_finalParent_7 : decode cX4_finalParent 7 = .ok (.iload_n 1, 1) := by decide +kernel
theorem dX4_finalParent_8 : decode cX4_finalParent 8 = .ok (.iaload, 1) := by decide +kernel
theorem dX4_finalParent_9 : decode cX4_finalParent 9 = .ok (.aload_n 0, 1) := by decide +kernel
theorem dX4_finalParent_10 : decode cX4_finalParent 10 = .ok (.getfield 9, 3) := by decide +kernel
theorem dX4_finalParent_13 : decode cX4_finalParent 13 = .ok (.iconst 2, 1) := by decide +kernel
theorem dX4_finalParent_14 : decode cX4_finalParent 14 = .ok (.invokevirtual 47, 3) := by decide +kernel
theorem dX4_finalParent_17 : decode cX4_finalParent 17 = .ok (.iand, 1) := by decide +kernel
theorem dX4_finalParent_18 : decode cX4_finalParent 18 = .ok (.ireturn, 1) := by decide +kernel
theorem dX4_wrongMarks_0 : decode cX4_wrongMarks 0 = .ok (.aload_n 0, 1) := by decide +kernel
theorem dX4_wrongMarks_1 : decode cX4_wrongMarks 1 = .ok (.getfield 9, 3) := by decide +kernel
theorem dX4_wrongMarks_4 : decode cX4_wrongMarks 4 = .ok (.getfield 50, 3) := by decide +kernel
theorem dX4_wrongMarks_7 : decode cX4_wrongMarks 7 = .ok (.iload_n 1, 1) := by decide +kernel
theorem dX4_wrongMarks_8 : decode cX4_wrongMarks 8 = .ok (.iaload, 1) := by decide +kernel
theorem dX4_wrongMarks_9 : decode cX4_wrongMarks 9 = .ok (.istore_n 2, 1) := by decide +kernel
theorem dX4_wrongMarks_10 : decode cX4_wrongMarks 10 = .ok (.aload_n 0, 1) := by decide +kernel
theorem dX4_wrongMarks_11 : decode cX4_wrongMarks 11 = .ok (.getfield 9, 3) := by decide +kernel
theorem dX4_wrongMarks_14 : decode cX4_wrongMarks 14 = .ok (.getfield 38, 3) := by decide +kernel
theorem dX4_wrongMarks_17 : decode cX4_wrongMarks 17 = .ok (.iload_n 1, 1) := by decide +kernel
theorem dX4_wrongMarks_18 : decode cX4_wrongMarks 18 = .ok (.iaload, 1) := by decide +kernel
theorem dX4_wrongMarks_19 : decode cX4_wrongMarks 19 = .ok (.istore_n 3, 1) := by decide +kernel
theorem dX4_wrongMarks_20 : decode cX4_wrongMarks 20 = .ok (.iload_n 2, 1) := by decide +kernel
theorem dX4_wrongMarks_21 : decode cX4_wrongMarks 21 = .ok (.bipush 14, 2) := by decide +kernel
theorem dX4_wrongMarks_23 : decode cX4_wrongMarks 23 = .ok (.iand, 1) := by decide +kernel
theorem dX4_wrongMarks_24 : decode cX4_wrongMarks 24 = .ok (.invokestatic 53, 3) := by decide +kernel
theorem dX4_wrongMarks_27 : decode cX4_wrongMarks 27 = .ok (.iconst 1, 1) := by decide +kernel
theorem dX4_wrongMarks_28 : decode cX4_wrongMarks 28 = .ok (.if_icmp .le 7, 3) := by decide +kernel
theorem dX4_wrongMarks_31 : decode cX4_wrongMarks 31 = .ok (.iconst 1, 1) := by decide +kernel
theorem dX4_wrongMarks_32 : decode cX4_wrongMarks 32 = .ok (.goto 4, 3) := by decide +kernel
theorem dX4_wrongMarks_35 : decode cX4_wrongMarks 35 = .ok (.iconst 0, 1) := by decide +kernel
theorem dX4_wrongMarks_36 : decode cX4_wrongMarks 36 = .ok (.istore 4, 2) := by decide +kernel
theorem dX4_wrongMarks_38 : decode cX4_wrongMarks 38 = .ok (.iload_n 3, 1) := by decide +kernel
theorem dX4_wrongMarks_39 : decode cX4_wrongMarks 39 = .ok (.iconst 1, 1) := by decide +kernel
theorem dX4_wrongMarks_40 : decode cX4_wrongMarks 40 = .ok (.if_icmp .eq 9, 3) := by decide +kernel
theorem dX4_wrongMarks_43 : decode cX4_wrongMarks 43 = .ok (.iload_n 2, 1) := by decide +kernel
theorem dX4_wrongMarks_44 : decode cX4_wrongMarks 44 = .ok (.iconst 1, 1) := by decide +kernel
theorem dX4_wrongMarks_45 : decode cX4_wrongMarks 45 = .ok (.iand, 1) := by decide +kernel
theorem dX4_wrongMarks_46 : decode cX4_wrongMarks 46 = .ok (.ifCond .eq 7, 3) := by decide +kernel
theorem dX4_wrongMarks_49 : decode cX4_wrongMarks 49 = .ok (.iconst 1, 1) := by decide +kernel
theorem dX4_wrongMarks_50 : decode cX4_wrongMarks 50 = .ok (.goto 4, 3) := by decide +kernel
theorem dX4_wrongMarks_53 : decode cX4_wrongMarks 53 = .ok (.iconst 0, 1) := by decide +kernel
theorem dX4_wrongMarks_54 : decode cX4_wrongMarks 54 = .ok (.istore 5, 2) := by decide +kernel
theorem dX4_wrongMarks_56 : decode cX4_wrongMarks 56 = .ok (.iload_n 3, 1) := by decide +kernel
theorem dX4_wrongMarks_57 : decode cX4_wrongMarks 57 = .ok (.ifCond .eq 12, 3) := by decide +kernel
theorem dX4_wrongMarks_60 : decode cX4_wrongMarks 60 = .ok (.iload_n 3, 1) := by decide +kernel
theorem dX4_wrongMarks_61 : decode cX4_wrongMarks 61 = .ok (.iconst 1, 1) := by decide +kernel
theorem dX4_wrongMarks_62 : decode cX4_wrongMarks 62 = .ok (.if_icmp .eq 7, 3) := by decide +kernel
theorem dX4_wrongMarks_65 : decode cX4_wrongMarks 65 = .ok (.iconst 1, 1) := by decide +kernel
theorem dX4_wrongMarks_66 : decode cX4_wrongMarks 66 = .ok (.goto 4, 3) := by decide +kernel
theorem dX4_wrongMarks_69 : decode cX4_wrongMarks 69 = .ok (.iconst 0, 1) := by decide +kernel
theorem dX4_wrongMarks_70 : decode cX4_wrongMarks 70 = .ok (.istore 6, 2) := by decide +kernel
theorem dX4_wrongMarks_72 : decode cX4_wrongMarks 72 = .ok (.iload 4, 2) := by decide +kernel
theorem dX4_wrongMarks_74 : decode cX4_wrongMarks 74 = .ok (.ifCond .ne 23, 3) := by decide +kernel
theorem dX4_wrongMarks_77 : decode cX4_wrongMarks 77 = .ok (.iload 5, 2) := by decide +kernel
theorem dX4_wrongMarks_79 : decode cX4_wrongMarks 79 = .ok (.ifCond .eq 9, 3) := by decide +kernel
theorem dX4_wrongMarks_82 : decode cX4_wrongMarks 82 = .ok (.iload_n 2, 1) := by decide +kernel
theorem dX4_wrongMarks_83 : decode cX4_wrongMarks 83 = .ok (.iconst 2, 1) := by decide +kernel
theorem dX4_wrongMarks_84 : decode cX4_wrongMarks 84 = .ok (.iand, 1) := by decide +kernel
theorem dX4_wrongMarks_85 : decode cX4_wrongMarks 85 = .ok (.ifCond .ne 12, 3) := by decide +kernel
theorem dX4_wrongMarks_88 : decode cX4_wrongMarks 88 = .ok (.iload 6, 2) := by decide +kernel
theorem dX4_wrongMarks_90 : decode cX4_wrongMarks 90 = .ok (.ifCond .eq 11, 3) := by decide +kernel
theorem dX4_wrongMarks_93 : decode cX4_wrongMarks 93 = .ok (.iload_n 2, 1) := by decide +kernel
theorem dX4_wrongMarks_94 : decode cX4_wrongMarks 94 = .ok (.ifCond .eq 7, 3) := by decide +kernel
theorem dX4_wrongMarks_97 : decode cX4_wrongMarks 97 = .ok (.iconst 1, 1) := by decide +kernel
theorem dX4_wrongMarks_98 : decode cX4_wrongMarks 98 = .ok (.goto 4, 3) := by decide +kernel
theorem dX4_wrongMarks_101 : decode cX4_wrongMarks 101 = .ok (.iconst 0, 1) := by decide +kernel
theorem dX4_wrongMarks_102 : decode cX4_wrongMarks 102 = .ok (.istore 7, 2) := by decide +kernel
theorem dX4_wrongMarks_104 : decode cX4_wrongMarks 104 = .ok (.iload 7, 2) := by decide +kernel
theorem dX4_wrongMarks_106 : decode cX4_wrongMarks 106 = .ok (.ifCond .eq 10, 3) := by decide +kernel
theorem dX4_wrongMarks_109 : decode cX4_wrongMarks 109 = .ok (.iload_n 1, 1) := by decide +kernel
theorem dX4_wrongMarks_110 : decode cX4_wrongMarks 110 = .ok (.invokestatic 32, 3) := by decide +kernel
theorem dX4_wrongMarks_113 : decode cX4_wrongMarks 113 = .ok (.goto 4, 3) := by decide +kernel
theorem dX4_wrongMarks_116 : decode cX4_wrongMarks 116 = .ok (.iconst 0, 1) := by decide +kernel
theorem dX4_wrongMarks_117 : decode cX4_wrongMarks 117 = .ok (.ireturn, 1) := by decide +kernel
theorem dX4_wrongUnderSealed_0 : decode cX4_wrongUnderSealed 0 = .ok (.aload_n 0, 1) := by decide +kernel
theorem dX4_wrongUnderSealed_1 : decode cX4_wrongUnderSealed 1 = .ok (.getfield 9, 3) := by decide +kernel
theorem dX4_wrongUnderSealed_4 : decode cX4_wrongUnderSealed 4 = .ok (.iload_n 1, 1) := by decide +kernel
theorem dX4_wrongUnderSealed_5 : decode cX4_wrongUnderSealed 5 = .ok (.invokevirtual 15, 3) := by decide +kernel
theorem dX4_wrongUnderSealed_8 : decode cX4_wrongUnderSealed 8 = .ok (.aload_n 0, 1) := by decide +kernel
theorem dX4_wrongUnderSealed_9 : decode cX4_wrongUnderSealed 9 = .ok (.getfield 9, 3) := by decide +kernel
theorem dX4_wrongUnderSealed_12 : decode cX4_wrongUnderSealed 12 = .ok (.iconst 4, 1) := by decide +kernel
theorem dX4_wrongUnderSealed_13 : decode cX4_wrongUnderSealed 13 = .ok (.invokevirtual 47, 3) := by decide +kernel
theorem dX4_wrongUnderSealed_16 : decode cX4_wrongUnderSealed 16 = .ok (.iand, 1) := by decide +kernel
theorem dX4_wrongUnderSealed_17 : decode cX4_wrongUnderSealed 17 = .ok (.istore_n 2, 1) := by decide +kernel
theorem dX4_wrongUnderSealed_18 : decode cX4_wrongUnderSealed 18 = .ok (.iload_n 2, 1) := by decide +kernel
theorem dX4_wrongUnderSealed_19 : decode cX4_wrongUnderSealed 19 = .ok (.ifCond .ne 25, 3) := by decide +kernel
theorem dX4_wrongUnderSealed_22 : decode cX4_wrongUnderSealed 22 = .ok (.aload_n 0, 1) := by decide +kernel
theorem dX4_wrongUnderSealed_23 : decode cX4_wrongUnderSealed 23 = .ok (.getfield 9, 3) := by decide +kernel
theorem dX4_wrongUnderSealed_26 : decode cX4_wrongUnderSealed 26 = .ok (.iload_n 1, 1) := by decide +kernel
theorem dX4_wrongUnderSealed_27 : decode cX4_wrongUnderSealed 27 = .ok (.bipush 8, 2) := by decide +kernel
theorem dX4_wrongUnderSealed_29 : decode cX4_wrongUnderSealed 29 = .ok (.invokevirtual 58, 3) := by decide +kernel
theorem dX4_wrongUnderSealed_32 : decode cX4_wrongUnderSealed 32 = .ok (.ifCond .eq 10, 3) := by decide +kernel
theorem dX4_wrongUnderSealed_35 : decode cX4_wrongUnderSealed 35 = .ok (.iload_n 1, 1) := by decide +kernel
theorem dX4_wrongUnderSealed_36 : decode cX4_wrongUnderSealed 36 = .ok (.invokestatic 32, 3) := by decide +kernel
theorem dX4_wrongUnderSealed_39 : decode cX4_wrongUnderSealed 39 = .ok (.goto 4, 3) := by decide +kernel
theorem dX4_wrongUnderSealed_42 : decode cX4_wrongUnderSealed 42 = .ok (.iconst 0, 1) := by decide +kernel
theorem dX4_wrongUnderSealed_43 : decode cX4_wrongUnderSealed 43 = .ok (.ireturn, 1) := by decide +kernel
theorem dX4_wrongUnderSealed_44 : decode cX4_wrongUnderSealed 44 = .ok (.aload_n 0, 1) := by decide +kernel
theorem dX4_wrongUnderSealed_45 : decode cX4_wrongUnderSealed 45 = .ok (.getfield 9, 3) := by decide +kernel
theorem dX4_wrongUnderSealed_48 : decode cX4_wrongUnderSealed 48 = .ok (.getfield 38, 3) := by decide +kernel
theorem dX4_wrongUnderSealed_51 : decode cX4_wrongUnderSealed 51 = .ok (.iload_n 1, 1) := by decide +kernel
theorem dX4_wrongUnderSealed_52 : decode cX4_wrongUnderSealed 52 = .ok (.iaload, 1) := by decide +kernel
theorem dX4_wrongUnderSealed_53 : decode cX4_wrongUnderSealed 53 = .ok (.istore_n 3, 1) := by decide +kernel
theorem dX4_wrongUnderSealed_54 : decode cX4_wrongUnderSealed 54 = .ok (.iload_n 3, 1) := by decide +kernel
theorem dX4_wrongUnderSealed_55 : decode cX4_wrongUnderSealed 55 = .ok (.ifCond .eq 8, 3) := by decide +kernel
theorem dX4_wrongUnderSealed_58 : decode cX4_wrongUnderSealed 58 = .ok (.iload_n 3, 1) := by decide +kernel
theorem dX4_wrongUnderSealed_59 : decode cX4_wrongUnderSealed 59 = .ok (.iconst 1, 1) := by decide +kernel
theorem dX4_wrongUnderSealed_60 : decode cX4_wrongUnderSealed 60 = .ok (.if_icmp .ne 20, 3) := by decide +kernel
theorem dX4_wrongUnderSealed_63 : decode cX4_wrongUnderSealed 63 = .ok (.aload_n 0, 1) := by decide +kernel
theorem dX4_wrongUnderSealed_64 : decode cX4_wrongUnderSealed 64 = .ok (.getfield 9, 3) := by decide +kernel
theorem dX4_wrongUnderSealed_67 : decode cX4_wrongUnderSealed 67 = .ok (.iload_n 1, 1) := by decide +kernel
theorem dX4_wrongUnderSealed_68 : decode cX4_wrongUnderSealed 68 = .ok (.bipush 14, 2) := by decide +kernel
theorem dX4_wrongUnderSealed_70 : decode cX4_wrongUnderSealed 70 = .ok (.invokevirtual 58, 3) := by decide +kernel
theorem dX4_wrongUnderSealed_73 : decode cX4_wrongUnderSealed 73 = .ok (.ifCond .ne 7, 3) := by decide +kernel
theorem dX4_wrongUnderSealed_76 : decode cX4_wrongUnderSealed 76 = .ok (.iconst 1, 1) := by decide +kernel
theorem dX4_wrongUnderSealed_77 : decode cX4_wrongUnderSealed 77 = .ok (.goto 4, 3) := by decide +kernel
theorem dX4_wrongUnderSealed_80 : decode cX4_wrongUnderSealed 80 = .ok (.iconst 0, 1) := by decide +kernel
theorem dX4_wrongUnderSealed_81 : decode cX4_wrongUnderSealed 81 = .ok (.istore 4, 2) := by decide +kernel
theorem dX4_wrongUnderSealed_83 : decode cX4_wrongUnderSealed 83 = .ok (.iconst 0, 1) := by decide +kernel
theorem dX4_wrongUnderSealed_84 : decode cX4_wrongUnderSealed 84 = .ok (.istore 5, 2) := by decide +kernel
theorem dX4_wrongUnderSealed_86 : decode cX4_wrongUnderSealed 86 = .ok (.iconst 0, 1) := by decide +kernel
theorem dX4_wrongUnderSealed_87 : decode cX4_wrongUnderSealed 87 = .ok (.istore 6, 2) := by decide +kernel
theorem dX4_wrongUnderSealed_89 : decode cX4_wrongUnderSealed 89 = .ok (.iload 6, 2) := by decide +kernel
theorem dX4_wrongUnderSealed_91 : decode cX4_wrongUnderSealed 91 = .ok (.aload_n 0, 1) := by decide +kernel
theorem dX4_wrongUnderSealed_92 : decode cX4_wrongUnderSealed 92 = .ok (.getfield 9, 3) := by decide +kernel
theorem dX4_wrongUnderSealed_95 : decode cX4_wrongUnderSealed 95 = .ok (.getfield 62, 3) := by decide +kernel
theorem dX4_wrongUnderSealed_98 : decode cX4_wrongUnderSealed 98 = .ok (.if_icmp .ge 50, 3) := by decide +kernel
theorem dX4_wrongUnderSealed_101 : decode cX4_wrongUnderSealed 101 = .ok (.iload_n 2, 1) := by decide +kernel
theorem dX4_wrongUnderSealed_102 : decode cX4_wrongUnderSealed 102 = .ok (.iload 6, 2) := by decide +kernel
theorem dX4_wrongUnderSealed_104 : decode cX4_wrongUnderSealed 104 = .ok (.invokestatic 66, 3) := by decide +kernel
theorem dX4_wrongUnderSealed_107 : decode cX4_wrongUnderSealed 107 = .ok (.ifCond .eq 35, 3) := by decide +kernel
theorem dX4_wrongUnderSealed_110 : decode cX4_wrongUnderSealed 110 = .ok (.iload 4, 2) := by decide +kernel
theorem dX4_wrongUnderSealed_112 : decode cX4_wrongUnderSealed 112 = .ok (.ifCond .ne 20, 3) := by decide +kernel
theorem dX4_wrongUnderSealed_115 : decode cX4_wrongUnderSealed 115 = .ok (.aload_n 0, 1) := by decide +kernel
theorem dX4_wrongUnderSealed_116 : decode cX4_wrongUnderSealed 116 = .ok (.getfield 9, 3) := by decide +kernel
theorem dX4_wrongUnderSealed_119 : decode cX4_wrongUnderSealed 119 = .ok (.getfield 21, 3) := by decide +kernel
theorem dX4_wrongUnderSealed_122 : decode cX4_wrongUnderSealed 122 = .ok (.iload 6, 2) := by decide +kernel
theorem dX4_wrongUnderSealed_124 : decode cX4_wrongUnderSealed 124 = .ok (.iaload, 1) := by decide +kernel
theorem dX4_wrongUnderSealed_125 : decode cX4_wrongUnderSealed 125 = .ok (.iload_n 1, 1) := by decide +kernel
theorem dX4_wrongUnderSealed_126 : decode cX4_wrongUnderSealed 126 = .ok (.invokestatic 66, 3) := by decide +kernel
theorem dX4_wrongUnderSealed_129 : decode cX4_wrongUnderSealed 129 = .ok (.ifCond .ne 13, 3) := by decide +kernel
theorem dX4_wrongUnderSealed_132 : decode cX4_wrongUnderSealed 132 = .ok (.iload 5, 2) := by decide +kernel
theorem dX4_wrongUnderSealed_134 : decode cX4_wrongUnderSealed 134 = .ok (.iload 6, 2) := by decide +kernel
theorem dX4_wrongUnderSealed_136 : decode cX4_wrongUnderSealed 136 = .ok (.invokestatic 32, 3) := by decide +kernel
theorem dX4_wrongUnderSealed_139 : decode cX4_wrongUnderSealed 139 = .ok (.ior, 1) := by decide +kernel
theorem dX4_wrongUnderSealed_140 : decode cX4_wrongUnderSealed 140 = .ok (.istore 5, 2) := by decide +kernel
theorem dX4_wrongUnderSealed_142 : decode cX4_wrongUnderSealed 142 = .ok (.iinc 6 1, 3) := by decide +kernel
theorem dX4_wrongUnderSealed_145 : decode cX4_wrongUnderSealed 145 = .ok (.goto (-56), 3) := by decide +kernel
theorem dX4_wrongUnderSealed_148 : decode cX4_wrongUnderSealed 148 = .ok (.iload 5, 2) := by decide +kernel
theorem dX4_wrongUnderSealed_150 : decode cX4_wrongUnderSealed 150 = .ok (.ireturn, 1) := by decide +kernel
theorem dX4_wrongPermits_0 : decode cX4_wrongPermits 0 = .ok (.aload_n 0, 1) := by decide +kernel
theorem dX4_wrongPermits_1 : decode cX4_wrongPermits 1 = .ok (.getfield 9, 3) := by decide +kernel
theorem dX4_wrongPermits_4 : decode cX4_wrongPermits 4 = .ok (.getfield 21, 3) := by decide +kernel
theorem dX4_wrongPermits_7 : decode cX4_wrongPermits 7 = .ok (.iload_n 1, 1) := by decide +kernel
theorem dX4_wrongPermits_8 : decode cX4_wrongPermits 8 = .ok (.iaload, 1) := by decide +kernel
theorem dX4_wrongPermits_9 : decode cX4_wrongPermits 9 = .ok (.aload_n 0, 1) := by decide +kernel
theorem dX4_wrongPermits_10 : decode cX4_wrongPermits 10 = .ok (.getfield 9, 3) := by decide +kernel
theorem dX4_wrongPermits_13 : decode cX4_wrongPermits 13 = .ok (.invokevirtual 25, 3) := by decide +kernel
theorem dX4_wrongPermits_16 : decode cX4_wrongPermits 16 = .ok (.iand, 1) := by decide +kernel
theorem dX4_wrongPermits_17 : decode cX4_wrongPermits 17 = .ok (.istore_n 2, 1) := by decide +kernel
theorem dX4_wrongPermits_18 : decode cX4_wrongPermits 18 = .ok (.iload_n 2, 1) := by decide +kernel
theorem dX4_wrongPermits_19 : decode cX4_wrongPermits 19 = .ok (.ifCond .eq 7, 3) := by decide +kernel
theorem dX4_wrongPermits_22 : decode cX4_wrongPermits 22 = .ok (.iconst 1, 1) := by decide +kernel
theorem dX4_wrongPermits_23 : decode cX4_wrongPermits 23 = .ok (.goto 4, 3) := by decide +kernel
theorem dX4_wrongPermits_26 : decode cX4_wrongPermits 26 = .ok (.iconst 0, 1) := by decide +kernel
theorem dX4_wrongPermits_27 : decode cX4_wrongPermits 27 = .ok (.aload_n 0, 1) := by decide +kernel
theorem dX4_wrongPermits_28 : decode cX4_wrongPermits 28 = .ok (.getfield 9, 3) := by decide +kernel
theorem dX4_wrongPermits_31 : decode cX4_wrongPermits 31 = .ok (.iload_n 1, 1) := by decide +kernel
theorem dX4_wrongPermits_32 : decode cX4_wrongPermits 32 = .ok (.iconst 4, 1) := by decide +kernel
theorem dX4_wrongPermits_33 : decode cX4_wrongPermits 33 = .ok (.invokevirtual 58, 3) := by decide +kernel
theorem dX4_wrongPermits_36 : decode cX4_wrongPermits 36 = .ok (.if_icmp .ne 7, 3) := by decide +kernel
theorem dX4_wrongPermits_39 : decode cX4_wrongPermits 39 = .ok (.iconst 0, 1) := by decide +kernel
theorem dX4_wrongPermits_40 : decode cX4_wrongPermits 40 = .ok (.goto 7, 3) := by decide +kernel
theorem dX4_wrongPermits_43 : decode cX4_wrongPermits 43 = .ok (.iload_n 1, 1) := by decide +kernel
theorem dX4_wrongPermits_44 : decode cX4_wrongPermits 44 = .ok (.invokestatic 32, 3) := by decide +kernel
theorem dX4_wrongPermits_47 : decode cX4_wrongPermits 47 = .ok (.istore_n 3, 1) := by decide +kernel
theorem dX4_wrongPermits_48 : decode cX4_wrongPermits 48 = .ok (.iconst 0, 1) := by decide +kernel
theorem dX4_wrongPermits_49 : decode cX4_wrongPermits 49 = .ok (.istore 4, 2) := by decide +kernel
theorem dX4_wrongPermits_51 : decode cX4_wrongPermits 51 = .ok (.iload 4, 2) := by decide +kernel
theorem dX4_wrongPermits_53 : decode cX4_wrongPermits 53 = .ok (.aload_n 0, 1) := by decide +kernel
theorem dX4_wrongPermits_54 : decode cX4_wrongPermits 54 = .ok (.getfield 9, 3) := by decide +kernel
theorem dX4_wrongPermits_57 : decode cX4_wrongPermits 57 = .ok (.getfield 62, 3) := by decide +kernel
theorem dX4_wrongPermits_60 : decode cX4_wrongPermits 60 = .ok (.if_icmp .ge 42, 3) := by decide +kernel
theorem dX4_wrongPermits_63 : decode cX4_wrongPermits 63 = .ok (.iload_n 2, 1) := by decide +kernel
theorem dX4_wrongPermits_64 : decode cX4_wrongPermits 64 = .ok (.iload 4, 2) := by decide +kernel
theorem dX4_wrongPermits_66 : decode cX4_wrongPermits 66 = .ok (.invokestatic 66, 3) := by decide +kernel
theorem dX4_wrongPermits_69 : decode cX4_wrongPermits 69 = .ok (.ifCond .eq 27, 3) := by decide +kernel
theorem dX4_wrongPermits_72 : decode cX4_wrongPermits 72 = .ok (.aload_n 0, 1) := by decide +kernel
theorem dX4_wrongPermits_73 : decode cX4_wrongPermits 73 = .ok (.getfield 9, 3) := by decide +kernel
theorem dX4_wrongPermits_76 : decode cX4_wrongPermits 76 = .ok (.iload 4, 2) := by decide +kernel
theorem dX4_wrongPermits_78 : decode cX4_wrongPermits 78 = .ok (.invokevirtual 15, 3) := by decide +kernel
theorem dX4_wrongPermits_81 : decode cX4_wrongPermits 81 = .ok (.iload_n 1, 1) := by decide +kernel
theorem dX4_wrongPermits_82 : decode cX4_wrongPermits 82 = .ok (.invokestatic 66, 3) := by decide +kernel
theorem dX4_wrongPermits_85 : decode cX4_wrongPermits 85 = .ok (.ifCond .ne 11, 3) := by decide +kernel
theorem dX4_wrongPermits_88 : decode cX4_wrongPermits 88 = .ok (.iload_n 3, 1) := by decide +kernel
theorem dX4_wrongPermits_89 : decode cX4_wrongPermits 89 = .ok (.iload 4, 2) := by decide +kernel
theorem dX4_wrongPermits_91 : decode cX4_wrongPermits 91 = .ok (.invokestatic 32, 3) := by decide +kernel
theorem dX4_wrongPermits_94 : decode cX4_wrongPermits 94 = .ok (.ior, 1) := by decide +kernel
theorem dX4_wrongPermits_95 : decode cX4_wrongPermits 95 = .ok (.istore_n 3, 1) := by decide +kernel
theorem dX4_wrongPermits_96 : decode cX4_wrongPermits 96 = .ok (.iinc 4 1, 3) := by decide +kernel
theorem dX4_wrongPermits_99 : decode cX4_wrongPermits 99 = .ok (.goto (-48), 3) := by decide +kernel
theorem dX4_wrongPermits_102 : decode cX4_wrongPermits 102 = .ok (.iload_n 3, 1) := by decide +kernel
theorem dX4_wrongPermits_103 : decode cX4_wrongPermits 103 = .ok (.ireturn, 1) := by decide +kernel
theorem dX4_twice_0 : decode cX4_twice 0 = .ok (.aload_n 0, 1) := by decide +kernel
theorem dX4_twice_1 : decode cX4_twice 1 = .ok (.getfield 9, 3) := by decide +kernel
theorem dX4_twice_4 : decode cX4_twice 4 = .ok (.getfield 69, 3) := by decide +kernel
theorem dX4_twice_7 : decode cX4_twice 7 = .ok (.iload_n 1, 1) := by decide +kernel
theorem dX4_twice_8 : decode cX4_twice 8 = .ok (.iaload, 1) := by decide +kernel
theorem dX4_twice_9 : decode cX4_twice 9 = .ok (.aload_n 0, 1) := by decide +kernel
theorem dX4_twice_10 : decode cX4_twice 10 = .ok (.getfield 9, 3) := by decide +kernel
theorem dX4_twice_13 : decode cX4_twice 13 = .ok (.invokevirtual 25, 3) := by decide +kernel
theorem dX4_twice_16 : decode cX4_twice 16 = .ok (.iand, 1) := by decide +kernel
theorem dX4_twice_17 : decode cX4_twice 17 = .ok (.ireturn, 1) := by decide +kernel
theorem dX4_shaky_0 : decode cX4_shaky 0 = .ok (.iconst 0, 1) := by decide +kernel
theorem dX4_shaky_1 : decode cX4_shaky 1 = .ok (.istore_n 2, 1) := by decide +kernel
theorem dX4_shaky_2 : decode cX4_shaky 2 = .ok (.iload_n 2, 1) := by decide +kernel
theorem dX4_shaky_3 : decode cX4_shaky 3 = .ok (.aload_n 0, 1) := by decide +kernel
theorem dX4_shaky_4 : decode cX4_shaky 4 = .ok (.getfield 9, 3) := by decide +kernel
theorem dX4_shaky_7 : decode cX4_shaky 7 = .ok (.getfield 62, 3) := by decide +kernel
theorem dX4_shaky_10 : decode cX4_shaky 10 = .ok (.if_icmp .ge 43, 3) := by decide +kernel
theorem dX4_shaky_13 : decode cX4_shaky 13 = .ok (.aload_n 0, 1) := by decide +kernel
theorem dX4_shaky_14 : decode cX4_shaky 14 = .ok (.getfield 9, 3) := by decide +kernel
theorem dX4_shaky_17 : decode cX4_shaky 17 = .ok (.iload_n 1, 1) := by decide +kernel
theorem dX4_shaky_18 : decode cX4_shaky 18 = .ok (.iload_n 2, 1) := by decide +kernel
theorem dX4_shaky_19 : decode cX4_shaky 19 = .ok (.invokevirtual 72, 3) := by decide +kernel
theorem dX4_shaky_22 : decode cX4_shaky 22 = .ok (.ifCond .eq 25, 3) := by decide +kernel
theorem dX4_shaky_25 : decode cX4_shaky 25 = .ok (.aload_n 0, 1) := by decide +kernel
theorem dX4_shaky_26 : decode cX4_shaky 26 = .ok (.iload_n 2, 1) := by decide +kernel
theorem dX4_shaky_27 : decode cX4_shaky 27 = .ok (.invokevirtual 75, 3) := by decide +kernel
theorem dX4_shaky_30 : decode cX4_shaky 30 = .ok (.aload_n 0, 1) := by decide +kernel
theorem dX4_shaky_31 : decode cX4_shaky 31 = .ok (.iload_n 2, 1) := by decide +kernel
theorem dX4_shaky_32 : decode cX4_shaky 32 = .ok (.invokevirtual 78, 3) := by decide +kernel
theorem dX4_shaky_35 : decode cX4_shaky 35 = .ok (.ior, 1) := by decide +kernel
theorem dX4_shaky_36 : decode cX4_shaky 36 = .ok (.aload_n 0, 1) := by decide +kernel
theorem dX4_shaky_37 : decode cX4_shaky 37 = .ok (.iload_n 2, 1) := by decide +kernel
theorem dX4_shaky_38 : decode cX4_shaky 38 = .ok (.invokevirtual 81, 3) := by decide +kernel
theorem dX4_shaky_41 : decode cX4_shaky 41 = .ok (.ior, 1) := by decide +kernel
theorem dX4_shaky_42 : decode cX4_shaky 42 = .ok (.ifCond .eq 5, 3) := by decide +kernel
theorem dX4_shaky_45 : decode cX4_shaky 45 = .ok (.iconst 1, 1) := by decide +kernel
theorem dX4_shaky_46 : decode cX4_shaky 46 = .ok (.ireturn, 1) := by decide +kernel
theorem dX4_shaky_47 : decode cX4_shaky 47 = .ok (.iinc 2 1, 3) := by decide +kernel
theorem dX4_shaky_50 : decode cX4_shaky 50 = .ok (.goto (-48), 3) := by decide +kernel
theorem dX4_shaky_53 : decode cX4_shaky 53 = .ok (.iconst 0, 1) := by decide +kernel
theorem dX4_shaky_54 : decode cX4_shaky 54 = .ok (.ireturn, 1) := by decide +kernel
theorem dX5_init_0 : decode cX5_init 0 = .ok (.aload_n 0, 1) := by decide +kernel
theorem dX5_init_1 : decode cX5_init 1 = .ok (.invokespecial 3, 3) := by decide +kernel
theorem dX5_init_4 : decode cX5_init 4 = .ok (.aload_n 0, 1) := by decide +kernel
theorem dX5_init_5 : decode cX5_init 5 = .ok (.bipush 20, 2) := by decide +kernel
theorem dX5_init_7 : decode cX5_init 7 = .ok (.newarray .int, 2) := by decide +kernel
theorem dX5_init_9 : decode cX5_init 9 = .ok (.putfield 9, 3) := by decide +kernel
theorem dX5_init_12 : decode cX5_init 12 = .ok (.aload_n 0, 1) := by decide +kernel
theorem dX5_init_13 : decode cX5_init 13 = .ok (.bipush 20, 2) := by decide +kernel
theorem dX5_init_15 : decode cX5_init 15 = .ok (.newarray .int, 2) := by decide +kernel
theorem dX5_init_17 : decode cX5_init 17 = .ok (.putfield 15, 3) := by decide +kernel
theorem dX5_init_20 : decode cX5_init 20 = .ok (.aload_n 0, 1) := by decide +kernel
theorem dX5_init_21 : decode cX5_init 21 = .ok (.bipush 20, 2) := by decide +kernel
theorem dX5_init_23 : decode cX5_init 23 = .ok (.newarray .int, 2) := by decide +kernel
theorem dX5_init_25 : decode cX5_init 25 = .ok (.putfield 18, 3) := by decide +kernel
theorem dX5_init_28 : decode cX5_init 28 = .ok (.aload_n 0, 1) := by decide +kernel
theorem dX5_init_29 : decode cX5_init 29 = .ok (.bipush 20, 2) := by decide +kernel
theorem dX5_init_31 : decode cX5_init 31 = .ok (.newarray .int, 2) := by decide +kernel
theorem dX5_init_33 : decode cX5_init 33 = .ok (.putfield 21, 3) := by decide +kernel
theorem dX5_init_36 : decode cX5_init 36 = .ok (.aload_n 0, 1) := by decide +kernel
theorem dX5_init_37 : decode cX5_init 37 = .ok (.bipush 20, 2) := by decide +kernel
theorem dX5_init_39 : decode cX5_init 39 = .ok (.newarray .int, 2) := by decide +kernel
theorem dX5_init_41 : decode cX5_init 41 = .ok (.putfield 24, 3) := by decide +kernel
theorem dX5_init_44 : decode cX5_init 44 = .ok (.aload_n 0, 1) := by decide +kernel
theorem dX5_init_45 : decode cX5_init 45 = .ok (.bipush 20, 2) := by decide +kernel
theorem dX5_init_47 : decode cX5_init 47 = .ok (.newarray .int, 2) := by decide +kernel
theorem dX5_init_49 : decode cX5_init 49 = .ok (.putfield 27, 3) := by decide +kernel
theorem dX5_init_52 : decode cX5_init 52 = .ok (.aload_n 0, 1) := by decide +kernel
theorem dX5_init_53 : decode cX5_init 53 = .ok (.bipush 20, 2) := by decide +kernel
theorem dX5_init_55 : decode cX5_init 55 = .ok (.newarray .int, 2) := by decide +kernel
theorem dX5_init_57 : decode cX5_init 57 = .ok (.putfield 30, 3) := by decide +kernel
theorem dX5_init_60 : decode cX5_init 60 = .ok (.aload_n 0, 1) := by decide +kernel
theorem dX5_init_61 : decode cX5_init 61 = .ok (.bipush 20, 2) := by decide +kernel
theorem dX5_init_63 : decode cX5_init 63 = .ok (.newarray .int, 2) := by decide +kernel
theorem dX5_init_65 : decode cX5_init 65 = .ok (.putfield 33, 3) := by decide +kernel
theorem dX5_init_68 : decode cX5_init 68 = .ok (.aload_n 0, 1) := by decide +kernel
theorem dX5_init_69 : decode cX5_init 69 = .ok (.bipush 20, 2) := by decide +kernel
theorem dX5_init_71 : decode cX5_init 71 = .ok (.newarray .int, 2) := by decide +kernel
theorem dX5_init_73 : decode cX5_init 73 = .ok (.putfield 36, 3) := by decide +kernel
theorem dX5_init_76 : decode cX5_init 76 = .ok (.aload_n 0, 1) := by decide +kernel
theorem dX5_init_77 : decode cX5_init 77 = .ok (.bipush 20, 2) := by decide +kernel
theorem dX5_init_79 : decode cX5_init 79 = .ok (.newarray .int, 2) := by decide +kernel
theorem dX5_init_81 : decode cX5_init 81 = .ok (.putfield 39, 3) := by decide +kernel
theorem dX5_init_84 : decode cX5_init 84 = .ok (.aload_n 0, 1) := by decide +kernel
theorem dX5_init_85 : decode cX5_init 85 = .ok (.bipush 20, 2) := by decide +kernel
theorem dX5_init_87 : decode cX5_init 87 = .ok (.newarray .int, 2) := by decide +kernel
theorem dX5_init_89 : decode cX5_init 89 = .ok (.putfield 42, 3) := by decide +kernel
theorem dX5_init_92 : decode cX5_init 92 = .ok (.aload_n 0, 1) := by decide +kernel
theorem dX5_init_93 : decode cX5_init 93 = .ok (.iconst 0, 1) := by decide +kernel
theorem dX5_init_94 : decode cX5_init 94 = .ok (.putfield 45, 3) := by decide +kernel
theorem dX5_init_97 : decode cX5_init 97 = .ok (.return_, 1) := by decide +kernel
theorem dX5_addType_0 : decode cX5_addType 0 = .ok (.aload_n 0, 1) := by decide +kernel
theorem dX5_addType_1 : decode cX5_addType 1 = .ok (.getfield 45, 3) := by decide +kernel
theorem dX5_addType_4 : decode cX5_addType 4 = .ok (.istore 5, 2) := by decide +kernel
theorem dX5_addType_6 : decode cX5_addType 6 = .ok (.aload_n 0, 1) := by decide +kernel
theorem dX5_addType_7 : decode cX5_addType 7 = .ok (.getfield 9, 3) := by decide +kernel
theorem dX5_addType_10 : decode cX5_addType 10 = .ok (.iload 5, 2) := by decide +kernel
theorem dX5_addType_12 : decode cX5_addType 12 = .ok (.iload_n 1, 1) := by decide +kernel
theorem dX5_addType_13 : decode cX5_addType 13 = .ok (.iastore, 1) := by decide +kernel
theorem dX5_addType_14 : decode cX5_addType 14 = .ok (.aload_n 0, 1) := by decide +kernel
theorem dX5_addType_15 : decode cX5_addType 15 = .ok (.getfield 15, 3) := by decide +kernel
theorem dX5_addType_18 : decode cX5_addType 18 = .ok (.iload 5, 2) := by decide +kernel
theorem dX5_addType_20 : decode cX5_addType 20 = .ok (.iload_n 2, 1) := by decide +kernel
theorem dX5_addType_21 : decode cX5_addType 21 = .ok (.iastore, 1) := by decide +kernel
theorem dX5_addType_22 : decode cX5_addType 22 = .ok (.aload_n 0, 1) := by decide +kernel
theorem dX5_addType_23 : decode cX5_addType 23 = .ok (.getfield 18, 3) := by decide +kernel
theorem dX5_addType_26 : decode cX5_addType 26 = .ok (.iload 5, 2) := by decide +kernel
theorem dX5_addType_28 : decode cX5_addType 28 = .ok (.iload_n 3, 1) := by decide +kernel
theorem dX5_addType_29 : decode cX5_addType 29 = .ok (.iastore, 1) := by decide +kernel
theorem dX5_addType_30 : decode cX5_addType 30 = .ok (.aload_n 0, 1) := by decide +kernel
theorem dX5_addType_31 : decode cX5_addType 31 = .ok (.getfield 21, 3) := by decide +kernel
theorem dX5_addType_34 : decode cX5_addType 34 = .ok (.iload 5, 2) := by decide +kernel
theorem dX5_addType_36 : decode cX5_addType 36 = .ok (.iload 4, 2) := by decide +kernel
theorem dX5_addType_38 : decode cX5_addType 38 = .ok (.iastore, 1) := by decide +kernel
theorem dX5_addType_39 : decode cX5_addType 39 = .ok (.aload_n 0, 1) := by decide +kernel
theorem dX5_addType_40 : decode cX5_addType 40 = .ok (.getfield 24, 3) := by decide +kernel
theorem dX5_addType_43 : decode cX5_addType 43 = .ok (.iload 5, 2) := by decide +kernel
theorem dX5_addType_45 : decode cX5_addType 45 = .ok (.iload 4, 2) := by decide +kernel
theorem dX5_addType_47 : decode cX5_addType 47 = .ok (.iconst (-1), 1) := by decide +kernel
theorem dX5_addType_48 : decode cX5_addType 48 = .ok (.if_icmp .ne 7, 3) := by decide +kernel
theorem dX5_addType_51 : decode cX5_addType 51 = .ok (.iconst 0, 1) := by decide +kernel
theorem dX5_addType_52 : decode cX5_addType 52 = .ok (.goto 8, 3) := by decide +kernel
theorem dX5_addType_55 : decode cX5_addType 55 = .ok (.iload 4, 2) := by decide +kernel
theorem dX5_addType_57 : decode cX5_addType 57 = .ok (.invokestatic 49, 3) := by decide +kernel
theorem dX5_addType_60 : decode cX5_addType 60 = .ok (.iastore, 1) := by decide +kernel
theorem dX5_addType_61 : decode cX5_addType 61 = .ok (.aload_n 0, 1) := by decide +kernel
theorem dX5_addType_62 : decode cX5_addType 62 = .ok (.dup, 1) := by decide +kernel
theorem dX5_addType_63 : decode cX5_addType 63 = .ok (.getfield 45, 3) := by decide +kernel
theorem dX5_addType_66 : decode cX5_addType 66 = .ok (.iconst 1, 1) := by decide +kernel
theorem dX5_addType_67 : decode cX5_addType 67 = .ok (.iadd, 1) := by decide +kernel
theorem dX5_addType_68 : decode cX5_addType 68 = .ok (.putfield 45, 3) := by decide +kernel
theorem dX5_addType_71 : decode cX5_addType 71 = .ok (.aload_n 0, 1) := by decide +kernel
theorem dX5_addType_72 : decode cX5_addType 72 = .ok (.invokevirtual 53, 3) := by decide +kernel
theorem dX5_addType_75 : decode cX5_addType 75 = .ok (.iload 5, 2) := by decide +kernel
theorem dX5_addType_77 : decode cX5_addType 77 = .ok (.ireturn, 1) := by decide +kernel
theorem dX5_addUpper_0 : decode cX5_addUpper 0 = .ok (.aload_n 0, 1) := by decide +kernel
theorem dX5_addUpper_1 : decode cX5_addUpper 1 = .ok (.getfield 30, 3) := by decide +kernel
theorem dX5_addUpper_4 : decode cX5_addUpper 4 = .ok (.iload_n 1, 1) := by decide +kernel
theorem dX5_addUpper_5 : decode cX5_addUpper 5 = .ok (.dup2, 1) := by decide +kernel
theorem dX5_addUpper_6 : decode cX5_addUpper 6 = .ok (.iaload, 1) := by decide +kernel
theorem dX5_addUpper_7 : decode cX5_addUpper 7 = .ok (.aload_n 0, 1) := by decide +kernel
theorem dX5_addUpper_8 : decode cX5_addUpper 8 = .ok (.getfield 27, 3) := by decide +kernel
theorem dX5_addUpper_11 : decode cX5_addUpper 11 = .ok (.iload_n 1, 1) := by decide +kernel
theorem dX5_addUpper_12 : decode cX5_addUpper 12 = .ok (.iaload, 1) := by decide +kernel
theorem dX5_addUpper_13 : decode cX5_addUpper 13 = .ok (.iload_n 2, 1) := by decide +kernel
theorem dX5_addUpper_14 : decode cX5_addUpper 14 = .ok (.invokestatic 49, 3) := by decide +kernel
theorem dX5_addUpper_17 : decode cX5_addUpper 17 = .ok (.iand, 1) := by decide +kernel
theorem dX5_addUpper_18 : decode cX5_addUpper 18 = .ok (.ior, 1) := by decide +kernel
theorem dX5_addUpper_19 : decode cX5_addUpper 19 = .ok (.iastore, 1) := by decide +kernel
theorem dX5_addUpper_20 : decode cX5_addUpper 20 = .ok (.aload_n 0, 1) := by decide +kernel
theorem dX5_addUpper_21 : decode cX5_addUpper 21 = .ok (.getfield 27, 3) := by decide +kernel
theorem dX5_addUpper_24 : decode cX5_addUpper 24 = .ok (.iload_n 1, 1) := by decide +kernel
theorem dX5_addUpper_25 : decode cX5_addUpper 25 = .ok (.dup2, 1) := by decide +kernel
theorem dX5_addUpper_26 : decode cX5_addUpper 26 = .ok (.iaload, 1) := by decide +kernel
theorem dX5_addUpper_27 : decode cX5_addUpper 27 = .ok (.iload_n 2, 1) := by decide +kernel
theorem dX5_addUpper_28 : decode cX5_addUpper 28 = .ok (.invokestatic 49, 3) := by decide +kernel
theorem dX5_addUpper_31 : decode cX5_addUpper 31 = .ok (.ior, 1) := by decide +kernel
theorem dX5_addUpper_32 : decode cX5_addUpper 32 = .ok (.iastore, 1) := by decide +kernel
theorem dX5_addUpper_33 : decode cX5_addUpper 33 = .ok (.aload_n 0, 1) := by decide +kernel
theorem dX5_addUpper_34 : decode cX5_addUpper 34 = .ok (.getfield 33, 3) := by decide +kernel
theorem dX5_addUpper_37 : decode cX5_addUpper 37 = .ok (.iload_n 1, 1) := by decide +kernel
theorem dX5_addUpper_38 : decode cX5_addUpper 38 = .ok (.dup2, 1) := by decide +kernel
theorem dX5_addUpper_39 : decode cX5_addUpper 39 = .ok (.iaload, 1) := by decide +kernel
theorem dX5_addUpper_40 : decode cX5_addUpper 40 = .ok (.iconst 1, 1) := by decide +kernel
theorem dX5_addUpper_41 : decode cX5_addUpper 41 = .ok (.iadd, 1) := by decide +kernel
theorem dX5_addUpper_42 : decode cX5_addUpper 42 = .ok (.iastore, 1) := by decide +kernel
theorem dX5_addUpper_43 : decode cX5_addUpper 43 = .ok (.aload_n 0, 1) := by decide +kernel
theorem dX5_addUpper_44 : decode cX5_addUpper 44 = .ok (.invokevirtual 53, 3) := by decide +kernel
theorem dX5_addUpper_47 : decode cX5_addUpper 47 = .ok (.aload_n 0, 1) := by decide +kernel
theorem dX5_addUpper_48 : decode cX5_addUpper 48 = .ok (.getfield 33, 3) := by decide +kernel
theorem dX5_addUpper_51 : decode cX5_addUpper 51 = .ok (.iload_n 1, 1) := by decide +kernel
theorem dX5_addUpper_52 : decode cX5_addUpper 52 = .ok (.iaload, 1) := by decide +kernel
theorem dX5_addUpper_53 : decode cX5_addUpper 53 = .ok (.ireturn, 1) := by decide +kernel
theorem dX5_addPermitted_0 : decode cX5_addPermitted 0 = .ok (.aload_n 0, 1) := by decide +kernel
theorem dX5_addPermitted_1 : decode cX5_addPermitted 1 = .ok (.getfield 36, 3) := by decide +kernel
theorem dX5_addPermitted_4 : decode cX5_addPermitted 4 = .ok (.iload_n 1, 1) := by decide +kernel
theorem dX5_addPermitted_5 : decode cX5_addPermitted 5 = .ok (.dup2, 1) := by decide +kernel
theorem dX5_addPermitted_6 : decode cX5_addPermitted 6 = .ok (.iaload, 1) := by decide +kernel
theorem dX5_addPermitted_7 : decode cX5_addPermitted 7 = .ok (.iload_n 2, 1) := by decide +kernel
theorem dX5_addPermitted_8 : decode cX5_addPermitted 8 = .ok (.invokestatic 49, 3) := by decide +kernel
theorem dX5_addPermitted_11 : decode cX5_addPermitted 11 = .ok (.ior, 1) := by decide +kernel
theorem dX5_addPermitted_12 : decode cX5_addPermitted 12 = .ok (.iastore, 1) := by decide +kernel
theorem dX5_addPermitted_13 : decode cX5_addPermitted 13 = .ok (.aload_n 0, 1) := by decide +kernel
theorem dX5_addPermitted_14 : decode cX5_addPermitted 14 = .ok (.getfield 39, 3) := by decide +kernel
theorem dX5_addPermitted_17 : decode cX5_addPermitted 17 = .ok (.iload_n 1, 1) := by decide +kernel
theorem dX5_addPermitted_18 : decode cX5_addPermitted 18 = .ok (.dup2, 1) := by decide +kernel
theorem dX5_addPermitted_19 : decode cX5_addPermitted 19 = .ok (.iaload, 1) := by decide +kernel
theorem dX5_addPermitted_20 : decode cX5_addPermitted 20 = .ok (.iconst 1, 1) := by decide +kernel
theorem dX5_addPermitted_21 : decode cX5_addPermitted 21 = .ok (.iadd, 1) := by decide +kernel
theorem dX5_addPermitted_22 : decode cX5_addPermitted 22 = .ok (.iastore, 1) := by decide +kernel
theorem dX5_addPermitted_23 : decode cX5_addPermitted 23 = .ok (.aload_n 0, 1) := by decide +kernel
theorem dX5_addPermitted_24 : decode cX5_addPermitted 24 = .ok (.getfield 39, 3) := by decide +kernel
theorem dX5_addPermitted_27 : decode cX5_addPermitted 27 = .ok (.iload_n 1, 1) := by decide +kernel
theorem dX5_addPermitted_28 : decode cX5_addPermitted 28 = .ok (.iaload, 1) := by decide +kernel
theorem dX5_addPermitted_29 : decode cX5_addPermitted 29 = .ok (.ireturn, 1) := by decide +kernel
theorem dX5_settleAbove_0 : decode cX5_settleAbove 0 = .ok (.iconst 0, 1) := by decide +kernel
theorem dX5_settleAbove_1 : decode cX5_settleAbove 1 = .ok (.istore_n 1, 1) := by decide +kernel
theorem dX5_settleAbove_2 : decode cX5_settleAbove 2 = .ok (.iload_n 1, 1) := by decide +kernel
theorem dX5_settleAbove_3 : decode cX5_settleAbove 3 = .ok (.aload_n 0, 1) := by decide +kernel
theorem dX5_settleAbove_4 : decode cX5_settleAbove 4 = .ok (.getfield 45, 3) := by decide +kernel
theorem dX5_settleAbove_7 : decode cX5_settleAbove 7 = .ok (.if_icmp .ge 25, 3) := by decide +kernel
theorem dX5_settleAbove_10 : decode cX5_settleAbove 10 = .ok (.aload_n 0, 1) := by decide +kernel
theorem dX5_settleAbove_11 : decode cX5_settleAbove 11 = .ok (.getfield 42, 3) := by decide +kernel
theorem dX5_settleAbove_14 : decode cX5_settleAbove 14 = .ok (.iload_n 1, 1) := by decide +kernel
theorem dX5_settleAbove_15 : decode cX5_settleAbove 15 = .ok (.aload_n 0, 1) := by decide +kernel
theorem dX5_settleAbove_16 : decode cX5_settleAbove 16 = .ok (.iload_n 1, 1) := by decide +kernel
theorem dX5_settleAbove_17 : decode cX5_settleAbove 17 = .ok (.invokevirtual 56, 3) := by decide +kernel
theorem dX5_settleAbove_20 : decode cX5_settleAbove 20 = .ok (.aload_n 0, 1) := by decide +kernel
theorem dX5_settleAbove_21 : decode cX5_settleAbove 21 = .ok (.invokevirtual 59, 3) := by decide +kernel
theorem dX5_settleAbove_24 : decode cX5_settleAbove 24 = .ok (.iand, 1) := by decide +kernel
theorem dX5_settleAbove_25 : decode cX5_settleAbove 25 = .ok (.iastore, 1) := by decide +kernel
theorem dX5_settleAbove_26 : decode cX5_settleAbove 26 = .ok (.iinc 1 1, 3) := by decide +kernel
theorem dX5_settleAbove_29 : decode cX5_settleAbove 29 = .ok (.goto (-27), 3) := by decide +kernel
theorem dX5_settleAbove_32 : decode cX5_settleAbove 32 = .ok (.iconst 0, 1) := by decide +kernel
theorem dX5_settleAbove_33 : decode cX5_settleAbove 33 = .ok (.istore_n 1, 1) := by decide +kernel
theorem dX5_settleAbove_34 : decode cX5_settleAbove 34 = .ok (.iload_n 1, 1) := by decide +kernel
theorem dX5_settleAbove_35 : decode cX5_settleAbove 35 = .ok (.aload_n 0, 1) := by decide +kernel
theorem dX5_settleAbove_36 : decode cX5_settleAbove 36 = .ok (.getfield 45, 3) := by decide +kernel
theorem dX5_settleAbove_39 : decode cX5_settleAbove 39 = .ok (.if_icmp .ge 53, 3) := by decide +kernel
theorem dX5_settleAbove_42 : decode cX5_settleAbove 42 = .ok (.iconst 0, 1) := by decide +kernel
theorem dX5_settleAbove_43 : decode cX5_settleAbove 43 = .ok (.istore_n 2, 1) := by decide +kernel
theorem dX5_settleAbove_44 : decode cX5_settleAbove 44 = .ok (.iload_n 2, 1) := by decide +kernel
theorem dX5_settleAbove_45 : decode cX5_settleAbove 45 = .ok (.aload_n 0, 1) := by decide +kernel
theorem dX5_settleAbove_46 : decode cX5_settleAbove 46 = .ok (.getfield 45, 3) := by decide +kernel
theorem dX5_settleAbove_49 : decode cX5_settleAbove 49 = .ok (.if_icmp .ge 37, 3) := by decide +kernel
theorem dX5_settleAbove_52 : decode cX5_settleAbove 52 = .ok (.aload_n 0, 1) := by decide +kernel
theorem dX5_settleAbove_53 : decode cX5_settleAbove 53 = .ok (.getfield 42, 3) := by decide +kernel
theorem dX5_settleAbove_56 : decode cX5_settleAbove 56 = .ok (.iload_n 2, 1) := by decide +kernel
theorem dX5_settleAbove_57 : decode cX5_settleAbove 57 = .ok (.iaload, 1) := by decide +kernel
theorem dX5_settleAbove_58 : decode cX5_settleAbove 58 = .ok (.iload_n 1, 1) := by decide +kernel
theorem dX5_settleAbove_59 : decode cX5_settleAbove 59 = .ok (.invokestatic 63, 3) := by decide +kernel
theorem dX5_settleAbove_62 : decode cX5_settleAbove 62 = .ok (.ifCond .eq 18, 3) := by decide +kernel
theorem dX5_settleAbove_65 : decode cX5_settleAbove 65 = .ok (.aload_n 0, 1) := by decide +kernel
theorem dX5_settleAbove_66 : decode cX5_settleAbove 66 = .ok (.getfield 42, 3) := by decide +kernel
theorem dX5_settleAbove_69 : decode cX5_settleAbove 69 = .ok (.iload_n 2, 1) := by decide +kernel
theorem dX5_settleAbove_70 : decode cX5_settleAbove 70 = .ok (.dup2, 1) := by decide +kernel
theorem dX5_settleAbove_71 : decode cX5_settleAbove 71 = .ok (.iaload, 1) := by decide +kernel
theorem dX5_settleAbove_72 : decode cX5_settleAbove 72 = .ok (.aload_n 0, 1) := by decide +kernel
theorem dX5_settleAbove_73 : decode cX5_settleAbove 73 = .ok (.getfield 42, 3) := by decide +kernel
theorem dX5_settleAbove_76 : decode cX5_settleAbove 76 = .ok (.iload_n 1, 1) := by decide +kernel
theorem dX5_settleAbove_77 : decode cX5_settleAbove 77 = .ok (.iaload, 1) := by decide +kernel
theorem dX5_settleAbove_78 : decode cX5_settleAbove 78 = .ok (.ior, 1) := by decide +kernel
theorem dX5_settleAbove_79 : decode cX5_settleAbove 79 = .ok (.iastore, 1) := by decide +kernel
theorem dX5_settleAbove_80 : decode cX5_settleAbove 80 = .ok (.iinc 2 1, 3) := by decide +kernel
theorem dX5_settleAbove_83 : decode cX5_settleAbove 83 = .ok (.goto (-39), 3) := by decide +kernel
theorem dX5_settleAbove_86 : decode cX5_settleAbove 86 = .ok (.iinc 1 1, 3) := by decide +kernel
theorem dX5_settleAbove_89 : decode cX5_settleAbove 89 = .ok (.goto (-55), 3) := by decide +kernel
theorem dX5_settleAbove_92 : decode cX5_settleAbove 92 = .ok (.return_, 1) := by decide +kernel
theorem dX5_there_0 : decode cX5_there 0 = .ok (.iload_n 1, 1) := by decide +kernel
theorem dX5_there_1 : decode cX5_there 1 = .ok (.ifCond .lt 15, 3) := by decide +kernel
theorem dX5_there_4 : decode cX5_there 4 = .ok (.iload_n 1, 1) := by decide +kernel
theorem dX5_there_5 : decode cX5_there 5 = .ok (.aload_n 0, 1) := by decide +kernel
theorem dX5_there_6 : decode cX5_there 6 = .ok (.getfield 45, 3) := by decide +kernel
theorem dX5_there_9 : decode cX5_there 9 = .ok (.if_icmp .ge 7, 3) := by decide +kernel
theorem dX5_there_12 : decode cX5_there 12 = .ok (.iconst 1, 1) := by decide +kernel
theorem dX5_there_13 : decode cX5_there 13 = .ok (.goto 4, 3) := by decide +kernel
theorem dX5_there_16 : decode cX5_there 16 = .ok (.iconst 0, 1) := by decide +kernel
theorem dX5_there_17 : decode cX5_there 17 = .ok (.ireturn, 1) := by decide +kernel
theorem dX5_everyone_0 : decode cX5_everyone 0 = .ok (.aload_n 0, 1) := by decide +kernel
theorem dX5_everyone_1 : decode cX5_everyone 1 = .ok (.getfield 45, 3) := by decide +kernel
theorem dX5_everyone_4 : decode cX5_everyone 4 = .ok (.invokestatic 49, 3) := by decide +kernel
theorem dX5_everyone_7 : decode cX5_everyone 7 = .ok (.iconst 1, 1) := by decide +kernel
theorem dX5_everyone_8 : decode cX5_everyone 8 = .ok (.isub, 1) := by decide +kernel
theorem dX5_everyone_9 : decode cX5_everyone 9 = .ok (.ireturn, 1) := by decide +kernel
theorem dX5_marked_0 : decode cX5_marked 0 = .ok (.aload_n 0, 1) := by decide +kernel
theorem dX5_marked_1 : decode cX5_marked 1 = .ok (.getfield 15, 3) := by decide +kernel
theorem dX5_marked_4 : decode cX5_marked 4 = .ok (.iload_n 1, 1) := by decide +kernel
theorem dX5_marked_5 : decode cX5_marked 5 = .ok (.iaload, 1) := by decide +kernel
theorem dX5_marked_6 : decode cX5_marked 6 = .ok (.iload_n 2, 1) := by decide +kernel
theorem dX5_marked_7 : decode cX5_marked 7 = .ok (.iand, 1) := by decide +kernel
theorem dX5_marked_8 : decode cX5_marked 8 = .ok (.ifCond .eq 7, 3) := by decide +kernel
theorem dX5_marked_11 : decode cX5_marked 11 = .ok (.iconst 1, 1) := by decide +kernel
theorem dX5_marked_12 : decode cX5_marked 12 = .ok (.goto 4, 3) := by decide +kernel
theorem dX5_marked_15 : decode cX5_marked 15 = .ok (.iconst 0, 1) := by decide +kernel
theorem dX5_marked_16 : decode cX5_marked 16 = .ok (.ireturn, 1) := by decide +kernel
theorem dX5_next_0 : decode cX5_next 0 = .ok (.aload_n 0, 1) := by decide +kernel
theorem dX5_next_1 : decode cX5_next 1 = .ok (.getfield 24, 3) := by decide +kernel
theorem dX5_next_4 : decode cX5_next 4 = .ok (.iload_n 1, 1) := by decide +kernel
theorem dX5_next_5 : decode cX5_next 5 = .ok (.iaload, 1) := by decide +kernel
theorem dX5_next_6 : decode cX5_next 6 = .ok (.aload_n 0, 1) := by decide +kernel
theorem dX5_next_7 : decode cX5_next 7 = .ok (.getfield 27, 3) := by decide +kernel
theorem dX5_next_10 : decode cX5_next 10 = .ok (.iload_n 1, 1) := by decide +kernel
theorem dX5_next_11 : decode cX5_next 11 = .ok (.iaload, 1) := by decide +kernel
theorem dX5_next_12 : decode cX5_next 12 = .ok (.ior, 1) := by decide +kernel
theorem dX5_next_13 : decode cX5_next 13 = .ok (.ireturn, 1) := by decide +kernel
theorem dX5_parentThere_0 : decode cX5_parentThere 0 = .ok (.aload_n 0, 1) := by decide +kernel
theorem dX5_parentThere_1 : decode cX5_parentThere 1 = .ok (.getfield 21, 3) := by decide +kernel
theorem dX5_parentThere_4 : decode cX5_parentThere 4 = .ok (.iload_n 1, 1) := by decide +kernel
theorem dX5_parentThere_5 : decode cX5_parentThere 5 = .ok (.iaload, 1) := by decide +kernel
theorem dX5_parentThere_6 : decode cX5_parentThere 6 = .ok (.aload_n 0, 1) := by decide +kernel
theorem dX5_parentThere_7 : decode cX5_parentThere 7 = .ok (.getfield 45, 3) := by decide +kernel
theorem dX5_parentThere_10 : decode cX5_parentThere 10 = .ok (.if_icmp .ge 12, 3) := by decide +kernel
theorem dX5_parentThere_13 : decode cX5_parentThere 13 = .ok (.aload_n 0, 1) := by decide +kernel
theorem dX5_parentThere_14 : decode cX5_parentThere 14 = .ok (.getfield 21, 3) := by decide +kernel
theorem dX5_parentThere_17 : decode cX5_parentThere 17 = .ok (.iload_n 1, 1) := by decide +kernel
theorem dX5_parentThere_18 : decode cX5_parentThere 18 = .ok (.iaload, 1) := by decide +kernel
theorem dX5_parentThere_19 : decode cX5_parentThere 19 = .ok (.goto 4, 3) := by decide +kernel
theorem dX5_parentThere_22 : decode cX5_parentThere 22 = .ok (.iconst (-1), 1) := by decide +kernel
theorem dX5_parentThere_23 : decode cX5_parentThere 23 = .ok (.ireturn, 1) := by decide +kernel
theorem dX5_stands_0 : decode cX5_stands 0 = .ok (.iload_n 1, 1) := by decide +kernel
theorem dX5_stands_1 : decode cX5_stands 1 = .ok (.iload_n 2, 1) := by decide +kernel
theorem dX5_stands_2 : decode cX5_stands 2 = .ok (.if_icmp .eq 16, 3) := by decide +kernel
theorem dX5_stands_5 : decode cX5_stands 5 = .ok (.aload_n 0, 1) := by decide +kernel
theorem dX5_stands_6 : decode cX5_stands 6 = .ok (.getfield 42, 3) := by decide +kernel
theorem dX5_stands_9 : decode cX5_stands 9 = .ok (.iload_n 1, 1) := by decide +kernel
theorem dX5_stands_10 : decode cX5_stands 10 = .ok (.iaload, 1) := by decide +kernel
theorem dX5_stands_11 : decode cX5_stands 11 = .ok (.iload_n 2, 1) := by decide +kernel
theorem dX5_stands_12 : decode cX5_stands 12 = .ok (.ishr, 1) := by decide +kernel
theorem dX5_stands_13 : decode cX5_stands 13 = .ok (.iconst 1, 1) := by decide +kernel
theorem dX5_stands_14 : decode cX5_stands 14 = .ok (.iand, 1) := by decide +kernel
theorem dX5_stands_15 : decode cX5_stands 15 = .ok (.ifCond .eq 7, 3) := by decide +kernel
theorem dX5_stands_18 : decode cX5_stands 18 = .ok (.iconst 1, 1) := by decide +kernel
theorem dX5_stands_19 : decode cX5_stands 19 = .ok (.goto 4, 3) := by decide +kernel
theorem dX5_stands_22 : decode cX5_stands 22 = .ok (.iconst 0, 1) := by decide +kernel
theorem dX5_stands_23 : decode cX5_stands 23 = .ok (.ireturn, 1) := by decide +kernel
theorem dX5_ofKind_0 : decode cX5_ofKind 0 = .ok (.iconst 0, 1) := by decide +kernel
theorem dX5_ofKind_1 : decode cX5_ofKind 1 = .ok (.istore_n 2, 1) := by decide +kernel
theorem dX5_ofKind_2 : decode cX5_ofKind 2 = .ok (.iconst 0, 1) := by decide +kernel
theorem dX5_ofKind_3 : decode cX5_ofKind 3 = .ok (.istore_n 3, 1) := by decide +kernel
theorem dX5_ofKind_4 : decode cX5_ofKind 4 = .ok (.iload_n 3, 1) := by decide +kernel
theorem dX5_ofKind_5 : decode cX5_ofKind 5 = .ok (.aload_n 0, 1) := by decide +kernel
theorem dX5_ofKind_6 : decode cX5_ofKind 6 = .ok (.getfield 45, 3) := by decide +kernel
theorem dX5_ofKind_9 : decode cX5_ofKind 9 = .ok (.if_icmp .ge 30, 3) := by decide +kernel
theorem dX5_ofKind_12 : decode cX5_ofKind 12 = .ok (.iload_n 2, 1) := by decide +kernel
theorem dX5_ofKind_13 : decode cX5_ofKind 13 = .ok (.aload_n 0, 1) := by decide +kernel
theorem dX5_ofKind_14 : decode cX5_ofKind 14 = .ok (.getfield 9, 3) := by decide +kernel
theorem dX5_ofKind_17 : decode cX5_ofKind 17 = .ok (.iload_n 3, 1) := by decide +kernel
theorem dX5_ofKind_18 : decode cX5_ofKind 18 = .ok (.iaload, 1) := by decide +kernel
theorem dX5_ofKind_19 : decode cX5_ofKind 19 = .ok (.iload_n 1, 1) := by decide +kernel
theorem dX5_ofKind_20 : decode cX5_ofKind 20 = .ok (.if_icmp .ne 10, 3) := by decide +kernel
theorem dX5_ofKind_23 : decode cX5_ofKind 23 = .ok (.iload_n 3, 1) := by decide +kernel
theorem dX5_ofKind_24 : decode cX5_ofKind 24 = .ok (.invokestatic 49, 3) := by decide +kernel
theorem dX5_ofKind_27 : decode cX5_ofKind 27 = .ok (.goto 4, 3) := by decide +kernel
theorem dX5_ofKind_30 : decode cX5_ofKind 30 = .ok (.iconst 0, 1) := by decide +kernel
theorem dX5_ofKind_31 : decode cX5_ofKind 31 = .ok (.ior, 1) := by decide +kernel
theorem dX5_ofKind_32 : decode cX5_ofKind 32 = .ok (.istore_n 2, 1) := by decide +kernel
theorem dX5_ofKind_33 : decode cX5_ofKind 33 = .ok (.iinc 3 1, 3) := by decide +kernel
theorem dX5_ofKind_36 : decode cX5_ofKind 36 = .ok (.goto (-32), 3) := by decide +kernel
theorem dX5_ofKind_39 : decode cX5_ofKind 39 = .ok (.iload_n 2, 1) := by decide +kernel
theorem dX5_ofKind_40 : decode cX5_ofKind 40 = .ok (.ireturn, 1) := by decide +kernel
theorem dX5_withMark_0 : decode cX5_withMark 0 = .ok (.iconst 0, 1) := by decide +kernel
theorem dX5_withMark_1 : decode cX5_withMark 1 = .ok (.istore_n 2, 1) := by decide +kernel
theorem dX5_withMark_2 : decode cX5_withMark 2 = .ok (.iconst 0, 1) := by decide +kernel
theorem dX5_withMark_3 : decode cX5_withMark 3 = .ok (.istore_n 3, 1) := by decide +kernel
theorem dX5_withMark_4 : decode cX5_withMark 4 = .ok (.iload_n 3, 1) := by decide +kernel
theorem dX5_withMark_5 : decode cX5_withMark 5 = .ok (.aload_n 0, 1) := by decide +kernel
theorem dX5_withMark_6 : decode cX5_withMark 6 = .ok (.getfield 45, 3) := by decide +kernel
theorem dX5_withMark_9 : decode cX5_withMark 9 = .ok (.if_icmp .ge 29, 3) := by decide +kernel
theorem dX5_withMark_12 : decode cX5_withMark 12 = .ok (.iload_n 2, 1) := by decide +kernel
theorem dX5_withMark_13 : decode cX5_withMark 13 = .ok (.aload_n 0, 1) := by decide +kernel
theorem dX5_withMark_14 : decode cX5_withMark 14 = .ok (.iload_n 3, 1) := by decide +kernel
theorem dX5_withMark_15 : decode cX5_withMark 15 = .ok (.iload_n 1, 1) := by decide +kernel
theorem dX5_withMark_16 : decode cX5_withMark 16 = .ok (.invokevirtual 67, 3) := by decide +kernel
theorem dX5_withMark_19 : decode cX5_withMark 19 = .ok (.ifCond .eq 10, 3) := by decide +kernel
theorem dX5_withMark_22 : decode cX5_withMark 22 = .ok (.iload_n 3, 1) := by decide +kernel
theorem dX5_withMark_23 : decode cX5_withMark 23 = .ok (.invokestatic 49, 3) := by decide +kernel
theorem dX5_withMark_26 : decode cX5_withMark 26 = .ok (.goto 4, 3) := by decide +kernel
theorem dX5_withMark_29 : decode cX5_withMark 29 = .ok (.iconst 0, 1) := by decide +kernel
theorem dX5_withMark_30 : decode cX5_withMark 30 = .ok (.ior, 1) := by decide +kernel
theorem dX5_withMark_31 : decode cX5_withMark 31 = .ok (.istore_n 2, 1) := by decide +kernel
theorem dX5_withMark_32 : decode cX5_withMark 32 = .ok (.iinc 3 1, 3) := by decide +kernel
theorem dX5_withMark_35 : decode cX5_withMark 35 = .ok (.goto (-31), 3) := by decide +kernel
theorem dX5_withMark_38 : decode cX5_withMark 38 = .ok (.iload_n 2, 1) := by decide +kernel
theorem dX5_withMark_39 : decode cX5_withMark 39 = .ok (.ireturn, 1) := by decide +kernel
theorem dX6_init_0 : decode cX6_init 0 = .ok (.aload_n 0, 1) := by decide +kernel
theorem dX6_init_1 : decode cX6_init 1 = .ok (.invokespecial 3, 3) := by decide +kernel
theorem dX6_init_4 : decode cX6_init 4 = .ok (.aload_n 0, 1) := by decide +kernel
theorem dX6_init_5 : decode cX6_init 5 = .ok (.new 9, 3) := by decide +kernel
theorem dX6_init_8 : decode cX6_init 8 = .ok (.dup, 1) := by decide +kernel
theorem dX6_init_9 : decode cX6_init 9 = .ok (.invokespecial 11, 3) := by decide +kernel
theorem dX6_init_12 : decode cX6_init 12 = .ok (.putfield 12, 3) := by decide +kernel
theorem dX6_init_15 : decode cX6_init 15 = .ok (.aload_n 0, 1) := by decide +kernel
theorem dX6_init_16 : decode cX6_init 16 = .ok (.new 16, 3) := by decide +kernel
theorem dX6_init_19 : decode cX6_init 19 = .ok (.dup, 1) := by decide +kernel
theorem dX6_init_20 : decode cX6_init 20 = .ok (.aload_n 0, 1) := by decide +kernel
theorem dX6_init_21 : decode cX6_init 21 = .ok (.getfield 12, 3) := by decide +kernel
theorem dX6_init_24 : decode cX6_init 24 = .ok (.invokespecial 18, 3) := by decide +kernel
theorem dX6_init_27 : decode cX6_init 27 = .ok (.putfield 21, 3) := by decide +kernel
theorem dX6_init_30 : decode cX6_init 30 = .ok (.aload_n 0, 1) := by decide +kernel
theorem dX6_init_31 : decode cX6_init 31 = .ok (.new 25, 3) := by decide +kernel
theorem dX6_init_34 : decode cX6_init 34 = .ok (.dup, 1) := by decide +kernel
theorem dX6_init_35 : decode cX6_init 35 = .ok (.aload_n 0, 1) := by decide +kernel
theorem dX6_init_36 : decode cX6_init 36 = .ok (.getfield 12, 3) := by decide +kernel
theorem dX6_init_39 : decode cX6_init 39 = .ok (.aload_n 0, 1) := by decide +kernel
theorem dX6_init_40 : decode cX6_init 40 = .ok (.getfield 21, 3) := by decide +kernel
theorem dX6_init_43 : decode cX6_init 43 = .ok (.invokespecial 27, 3) := by decide +kernel
theorem dX6_init_46 : decode cX6_init 46 = .ok (.putfield 30, 3) := by decide +kernel
theorem dX6_init_49 : decode cX6_init 49 = .ok (.aload_n 0, 1) := by decide +kernel
theorem dX6_init_50 : decode cX6_init 50 = .ok (.new 34, 3) := by decide +kernel
theorem dX6_init_53 : decode cX6_init 53 = .ok (.dup, 1) := by decide +kernel
theorem dX6_init_54 : decode cX6_init 54 = .ok (.aload_n 0, 1) := by decide +kernel
theorem dX6_init_55 : decode cX6_init 55 = .ok (.getfield 12, 3) := by decide +kernel
theorem dX6_init_58 : decode cX6_init 58 = .ok (.aload_n 0, 1) := by decide +kernel
theorem dX6_init_59 : decode cX6_init 59 = .ok (.getfield 21, 3) := by decide +kernel
theorem dX6_init_62 : decode cX6_init 62 = .ok (.aload_n 0, 1) := by decide +kernel
theorem dX6_init_63 : decode cX6_init 63 = .ok (.getfield 30, 3) := by decide +kernel
theorem dX6_init_66 : decode cX6_init 66 = .ok (.invokespecial 36, 3) := by decide +kernel
theorem dX6_init_69 : decode cX6_init 69 = .ok (.putfield 39, 3) := by decide +kernel
theorem dX6_init_72 : decode cX6_init 72 = .ok (.return_, 1) := by decide +kernel
theorem dX6_type_0 : decode cX6_type 0 = .ok (.iload_n 1, 1) := by decide +kernel
theorem dX6_type_1 : decode cX6_type 1 = .ok (.iconst 4, 1) := by decide +kernel
theorem dX6_type_2 : decode cX6_type 2 = .ok (.invokestatic 43, 3) := by decide +kernel
theorem dX6_type_5 : decode cX6_type 5 = .ok (.ifCond .eq 20, 3) := by decide +kernel
theorem dX6_type_8 : decode cX6_type 8 = .ok (.iload_n 2, 1) := by decide +kernel
theorem dX6_type_9 : decode cX6_type 9 = .ok (.bipush 16, 2) := by decide +kernel
theorem dX6_type_11 : decode cX6_type 11 = .ok (.invokestatic 43, 3) := by decide +kernel
theorem dX6_type_14 : decode cX6_type 14 = .ok (.ifCond .eq 11, 3) := by decide +kernel
theorem dX6_type_17 : decode cX6_type 17 = .ok (.iload_n 3, 1) := by decide +kernel
theorem dX6_type_18 : decode cX6_type 18 = .ok (.iconst 4, 1) := by decide +kernel
theorem dX6_type_19 : decode cX6_type 19 = .ok (.invokestatic 43, 3) := by decide +kernel
theorem dX6_type_22 : decode cX6_type 22 = .ok (.ifCond .ne 5, 3) := by decide +kernel
theorem dX6_type_25 : decode cX6_type 25 = .ok (.iconst (-1), 1) := by decide +kernel
theorem dX6_type_26 : decode cX6_type 26 = .ok (.ireturn, 1) := by decide +kernel
theorem dX6_type_27 : decode cX6_type 27 = .ok (.iload 4, 2) := by decide +kernel
theorem dX6_type_29 : decode cX6_type 29 = .ok (.iconst (-1), 1) := by decide +kernel
theorem dX6_type_30 : decode cX6_type 30 = .ok (.if_icmp .eq 15, 3) := by decide +kernel
theorem dX6_type_33 : decode cX6_type 33 = .ok (.iload 4, 2) := by decide +kernel
theorem dX6_type_35 : decode cX6_type 35 = .ok (.bipush 20, 2) := by decide +kernel
theorem dX6_type_37 : decode cX6_type 37 = .ok (.invokestatic 43, 3) := by decide +kernel
theorem dX6_type_40 : decode cX6_type 40 = .ok (.ifCond .ne 5, 3) := by decide +kernel
theorem dX6_type_43 : decode cX6_type 43 = .ok (.iconst (-1), 1) := by decide +kernel
theorem dX6_type_44 : decode cX6_type 44 = .ok (.ireturn, 1) := by decide +kernel
theorem dX6_type_45 : decode cX6_type 45 = .ok (.aload_n 0, 1) := by decide +kernel
theorem dX6_type_46 : decode cX6_type 46 = .ok (.getfield 12, 3) := by decide +kernel
theorem dX6_type_49 : decode cX6_type 49 = .ok (.getfield 47, 3) := by decide +kernel
theorem dX6_type_52 : decode cX6_type 52 = .ok (.bipush 20, 2) := by decide +kernel
theorem dX6_type_54 : decode cX6_type 54 = .ok (.if_icmp .lt 6, 3) := by decide +kernel
theorem dX6_type_57 : decode cX6_type 57 = .ok (.bipush (-2), 2) := by decide +kernel
theorem dX6_type_59 : decode cX6_type 59 = .ok (.ireturn, 1) := by decide +kernel
theorem dX6_type_60 : decode cX6_type 60 = .ok (.aload_n 0, 1) := by decide +kernel
theorem dX6_type_61 : decode cX6_type 61 = .ok (.getfield 39, 3) := by decide +kernel
theorem dX6_type_64 : decode cX6_type 64 = .ok (.invokevirtual 51, 3) := by decide +kernel
theorem dX6_type_67 : decode cX6_type 67 = .ok (.aload_n 0, 1) := by decide +kernel
theorem dX6_type_68 : decode cX6_type 68 = .ok (.getfield 12, 3) := by decide +kernel
theorem dX6_type_71 : decode cX6_type 71 = .ok (.iload_n 1, 1) := by decide +kernel
theorem dX6_type_72 : decode cX6_type 72 = .ok (.iload_n 2, 1) := by decide +kernel
theorem dX6_type_73 : decode cX6_type 73 = .ok (.iload_n 3, 1) := by decide +kernel
theorem dX6_type_74 : decode cX6_type 74 = .ok (.iload 4, 2) := by decide +kernel
theorem dX6_type_76 : decode cX6_type 76 = .ok (.invokevirtual 54, 3) := by decide +kernel
theorem dX6_type_79 : decode cX6_type 79 = .ok (.ireturn, 1) := by decide +kernel
theorem dX6_upper_0 : decode cX6_upper 0 = .ok (.aload_n 0, 1) := by decide +kernel
theorem dX6_upper_1 : decode cX6_upper 1 = .ok (.getfield 12, 3) := by decide +kernel
theorem dX6_upper_4 : decode cX6_upper 4 = .ok (.iload_n 1, 1) := by decide +kernel
theorem dX6_upper_5 : decode cX6_upper 5 = .ok (.invokevirtual 58, 3) := by decide +kernel
theorem dX6_upper_8 : decode cX6_upper 8 = .ok (.ifCond .eq 12, 3) := by decide +kernel
theorem dX6_upper_11 : decode cX6_upper 11 = .ok (.iload_n 2, 1) := by decide +kernel
theorem dX6_upper_12 : decode cX6_upper 12 = .ok (.bipush 20, 2) := by decide +kernel
theorem dX6_upper_14 : decode cX6_upper 14 = .ok (.invokestatic 43, 3) := by decide +kernel
theorem dX6_upper_17 : decode cX6_upper 17 = .ok (.ifCond .ne 5, 3) := by decide +kernel
theorem dX6_upper_20 : decode cX6_upper 20 = .ok (.iconst (-1), 1) := by decide +kernel
theorem dX6_upper_21 : decode cX6_upper 21 = .ok (.ireturn, 1) := by decide +kernel
theorem dX6_upper_22 : decode cX6_upper 22 = .ok (.aload_n 0, 1) := by decide +kernel
theorem dX6_upper_23 : decode cX6_upper 23 = .ok (.getfield 12, 3) := by decide +kernel
theorem dX6_upper_26 : decode cX6_upper 26 = .ok (.getfield 62, 3) := by decide +kernel
theorem dX6_upper_29 : decode cX6_upper 29 = .ok (.iload_n 1, 1) := by decide +kernel
theorem dX6_upper_30 : decode cX6_upper 30 = .ok (.iaload, 1) := by decide +kernel
theorem dX6_upper_31 : decode cX6_upper 31 = .ok (.iconst 3, 1) := by decide +kernel
theorem dX6_upper_32 : decode cX6_upper 32 = .ok (.if_icmp .lt 6, 3) := by decide +kernel
theorem dX6_upper_35 : decode cX6_upper 35 = .ok (.bipush (-2), 2) := by decide +kernel
theorem dX6_upper_37 : decode cX6_upper 37 = .ok (.ireturn, 1) := by decide +kernel
theorem dX6_upper_38 : decode cX6_upper 38 = .ok (.aload_n 0, 1) := by decide +kernel
theorem dX6_upper_39 : decode cX6_upper 39 = .ok (.getfield 39, 3) := by decide +kernel
theorem dX6_upper_42 : decode cX6_upper 42 = .ok (.invokevirtual 51, 3) := by decide +kernel
theorem dX6_upper_45 : decode cX6_upper 45 = .ok (.aload_n 0, 1) := by decide +kernel
theorem dX6_upper_46 : decode cX6_upper 46 = .ok (.getfield 12, 3) := by decide +kernel
theorem dX6_upper_49 : decode cX6_upper 49 = .ok (.iload_n 1, 1) := by decide +kernel
theorem dX6_upper_50 : decode cX6_upper 50 = .ok (.iload_n 2, 1) := by decide +kernel
theorem dX6_upper_51 : decode cX6_upper 51 = .ok (.invokevirtual 66, 3) := by decide +kernel
theorem dX6_upper_54 : decode cX6_upper 54 = .ok (.ireturn, 1) := by decide +kernel
theorem dX6_permit_0 : decode cX6_permit 0 = .ok (.aload_n 0, 1) := by decide +kernel
theorem dX6_permit_1 : decode cX6_permit 1 = .ok (.getfield 12, 3) := by decide +kernel
theorem dX6_permit_4 : decode cX6_permit 4 = .ok (.iload_n 1, 1) := by decide +kernel
theorem dX6_permit_5 : decode cX6_permit 5 = .ok (.invokevirtual 58, 3) := by decide +kernel
theorem dX6_permit_8 : decode cX6_permit 8 = .ok (.ifCond .eq 12, 3) := by decide +kernel
theorem dX6_permit_11 : decode cX6_permit 11 = .ok (.iload_n 2, 1) := by decide +kernel
theorem dX6_permit_12 : decode cX6_permit 12 = .ok (.bipush 20, 2) := by decide +kernel
theorem dX6_permit_14 : decode cX6_permit 14 = .ok (.invokestatic 43, 3) := by decide +kernel
theorem dX6_permit_17 : decode cX6_permit 17 = .ok (.ifCond .ne 5, 3) := by decide +kernel
theorem dX6_permit_20 : decode cX6_permit 20 = .ok (.iconst (-1), 1) := by decide +kernel
theorem dX6_permit_21 : decode cX6_permit 21 = .ok (.ireturn, 1) := by decide +kernel
theorem dX6_permit_22 : decode cX6_permit 22 = .ok (.aload_n 0, 1) := by decide +kernel
theorem dX6_permit_23 : decode cX6_permit 23 = .ok (.getfield 12, 3) := by decide +kernel
theorem dX6_permit_26 : decode cX6_permit 26 = .ok (.getfield 70, 3) := by decide +kernel
theorem dX6_permit_29 : decode cX6_permit 29 = .ok (.iload_n 1, 1) := by decide +kernel
theorem dX6_permit_30 : decode cX6_permit 30 = .ok (.iaload, 1) := by decide +kernel
theorem dX6_permit_31 : decode cX6_permit 31 = .ok (.iconst 3, 1) := by decide +kernel
theorem dX6_permit_32 : decode cX6_permit 32 = .ok (.if_icmp .lt 6, 3) := by decide +kernel
theorem dX6_permit_35 : decode cX6_permit 35 = .ok (.bipush (-2), 2) := by decide +kernel
theorem dX6_permit_37 : decode cX6_permit 37 = .ok (.ireturn, 1) := by decide +kernel
theorem dX6_permit_38 : decode cX6_permit 38 = .ok (.aload_n 0, 1) := by decide +kernel
theorem dX6_permit_39 : decode cX6_permit 39 = .ok (.getfield 39, 3) := by decide +kernel
theorem dX6_permit_42 : decode cX6_permit 42 = .ok (.invokevirtual 51, 3) := by decide +kernel
theorem dX6_permit_45 : decode cX6_permit 45 = .ok (.aload_n 0, 1) := by decide +kernel
theorem dX6_permit_46 : decode cX6_permit 46 = .ok (.getfield 12, 3) := by decide +kernel
theorem dX6_permit_49 : decode cX6_permit 49 = .ok (.iload_n 1, 1) := by decide +kernel
theorem dX6_permit_50 : decode cX6_permit 50 = .ok (.iload_n 2, 1) := by decide +kernel
theorem dX6_permit_51 : decode cX6_permit 51 = .ok (.invokevirtual 73, 3) := by decide +kernel
theorem dX6_permit_54 : decode cX6_permit 54 = .ok (.ireturn, 1) := by decide +kernel
theorem dX6_member_0 : decode cX6_member 0 = .ok (.aload_n 0, 1) := by decide +kernel
theorem dX6_member_1 : decode cX6_member 1 = .ok (.getfield 12, 3) := by decide +kernel
theorem dX6_member_4 : decode cX6_member 4 = .ok (.iload_n 1, 1) := by decide +kernel
theorem dX6_member_5 : decode cX6_member 5 = .ok (.invokevirtual 58, 3) := by decide +kernel
theorem dX6_member_8 : decode cX6_member 8 = .ok (.ifCond .eq 20, 3) := by decide +kernel
theorem dX6_member_11 : decode cX6_member 11 = .ok (.iload_n 2, 1) := by decide +kernel
theorem dX6_member_12 : decode cX6_member 12 = .ok (.bipush 10, 2) := by decide +kernel
theorem dX6_member_14 : decode cX6_member 14 = .ok (.invokestatic 43, 3) := by decide +kernel
theorem dX6_member_17 : decode cX6_member 17 = .ok (.ifCond .eq 11, 3) := by decide +kernel
theorem dX6_member_20 : decode cX6_member 20 = .ok (.iload_n 3, 1) := by decide +kernel
theorem dX6_member_21 : decode cX6_member 21 = .ok (.iconst 5, 1) := by decide +kernel
theorem dX6_member_22 : decode cX6_member 22 = .ok (.invokestatic 43, 3) := by decide +kernel
theorem dX6_member_25 : decode cX6_member 25 = .ok (.ifCond .ne 5, 3) := by decide +kernel
theorem dX6_member_28 : decode cX6_member 28 = .ok (.iconst (-1), 1) := by decide +kernel
theorem dX6_member_29 : decode cX6_member 29 = .ok (.ireturn, 1) := by decide +kernel
theorem dX6_member_30 : decode cX6_member 30 = .ok (.iload 4, 2) := by decide +kernel
theorem dX6_member_32 : decode cX6_member 32 = .ok (.bipush 16, 2) := by decide +kernel
theorem dX6_member_34 : decode cX6_member 34 = .ok (.invokestatic 43, 3) := by decide +kernel
theorem dX6_member_37 : decode cX6_member 37 = .ok (.ifCond .eq 22, 3) := by decide +kernel
theorem dX6_member_40 : decode cX6_member 40 = .ok (.iload 5, 2) := by decide +kernel
theorem dX6_member_42 : decode cX6_member 42 = .ok (.iconst 4, 1) := by decide +kernel
theorem dX6_member_43 : decode cX6_member 43 = .ok (.invokestatic 43, 3) := by decide +kernel
theorem dX6_member_46 : decode cX6_member 46 = .ok (.ifCond .eq 13, 3) := by decide +kernel
theorem dX6_member_49 : decode cX6_member 49 = .ok (.iload 6, 2) := by decide +kernel
theorem dX6_member_51 : decode cX6_member 51 = .ok (.bipush 30, 2) := by decide +kernel
theorem dX6_member_53 : decode cX6_member 53 = .ok (.invokestatic 43, 3) := by decide +kernel
theorem dX6_member_56 : decode cX6_member 56 = .ok (.ifCond .ne 5, 3) := by decide +kernel
theorem dX6_member_59 : decode cX6_member 59 = .ok (.iconst (-1), 1) := by decide +kernel
theorem dX6_member_60 : decode cX6_member 60 = .ok (.ireturn, 1) := by decide +kernel
theorem dX6_member_61 : decode cX6_member 61 = .ok (.aload_n 0, 1) := by decide +kernel
theorem dX6_member_62 : decode cX6_member 62 = .ok (.getfield 21, 3) := by decide +kernel
theorem dX6_member_65 : decode cX6_member 65 = .ok (.getfield 76, 3) := by decide +kernel
theorem dX6_member_68 : decode cX6_member 68 = .ok (.bipush 80, 2) := by decide +kernel
theorem dX6_member_70 : decode cX6_member 70 = .ok (.if_icmp .lt 6, 3) := by decide +kernel
theorem dX6_member_73 : decode cX6_member 73 = .ok (.bipush (-2), 2) := by decide +kernel
theorem dX6_member_75 : decode cX6_member 75 = .ok (.ireturn, 1) := by decide +kernel
theorem dX6_member_76 : decode cX6_member 76 = .ok (.aload_n 0, 1) := by decide +kernel
theorem dX6_member_77 : decode cX6_member 77 = .ok (.getfield 39, 3) := by decide +kernel
theorem dX6_member_80 : decode cX6_member 80 = .ok (.invokevirtual 51, 3) := by decide +kernel
theorem dX6_member_83 : decode cX6_member 83 = .ok (.aload_n 0, 1) := by decide +kernel
theorem dX6_member_84 : decode cX6_member 84 = .ok (.getfield 21, 3) := by decide +kernel
theorem dX6_member_87 : decode cX6_member 87 = .ok (.iload_n 1, 1) := by decide +kernel
theorem dX6_member_88 : decode cX6_member 88 = .ok (.iload_n 2, 1) := by decide +kernel
theorem dX6_member_89 : decode cX6_member 89 = .ok (.iload_n 3, 1) := by decide +kernel
theorem dX6_member_90 : decode cX6_member 90 = .ok (.iload 4, 2) := by decide +kernel
theorem dX6_member_92 : decode cX6_member 92 = .ok (.iload 5, 2) := by decide +kernel
theorem dX6_member_94 : decode cX6_member 94 = .ok (.iload 6, 2) := by decide +kernel
theorem dX6_member_96 : decode cX6_member 96 = .ok (.invokevirtual 77, 3) := by decide +kernel
theorem dX6_member_99 : decode cX6_member 99 = .ok (.ireturn, 1) := by decide +kernel
theorem dX6_faults_0 : decode cX6_faults 0 = .ok (.aload_n 0, 1) := by decide +kernel
theorem dX6_faults_1 : decode cX6_faults 1 = .ok (.getfield 12, 3) := by decide +kernel
theorem dX6_faults_4 : decode cX6_faults 4 = .ok (.iload_n 1, 1) := by decide +kernel
theorem dX6_faults_5 : decode cX6_faults 5 = .ok (.invokevirtual 58, 3) := by decide +kernel
theorem dX6_faults_8 : decode cX6_faults 8 = .ok (.ifCond .eq 14, 3) := by decide +kernel
theorem dX6_faults_11 : decode cX6_faults 11 = .ok (.aload_n 0, 1) := by decide +kernel
theorem dX6_faults_12 : decode cX6_faults 12 = .ok (.getfield 39, 3) := by decide +kernel
theorem dX6_faults_15 : decode cX6_faults 15 = .ok (.iload_n 1, 1) := by decide +kernel
theorem dX6_faults_16 : decode cX6_faults 16 = .ok (.invokevirtual 81, 3) := by decide +kernel
theorem dX6_faults_19 : decode cX6_faults 19 = .ok (.goto 4, 3) := by decide +kernel
theorem dX6_faults_22 : decode cX6_faults 22 = .ok (.iconst (-1), 1) := by decide +kernel
theorem dX6_faults_23 : decode cX6_faults 23 = .ok (.ireturn, 1) := by decide +kernel
theorem dX6_fault_0 : decode cX6_fault 0 = .ok (.aload_n 0, 1) := by decide +kernel
theorem dX6_fault_1 : decode cX6_fault 1 = .ok (.getfield 12, 3) := by decide +kernel
theorem dX6_fault_4 : decode cX6_fault 4 = .ok (.iload_n 1, 1) := by decide +kernel
theorem dX6_fault_5 : decode cX6_fault 5 = .ok (.invokevirtual 58, 3) := by decide +kernel
theorem dX6_fault_8 : decode cX6_fault 8 = .ok (.ifCond .eq 26, 3) := by decide +kernel
theorem dX6_fault_11 : decode cX6_fault 11 = .ok (.iload_n 3, 1) := by decide +kernel
theorem dX6_fault_12 : decode cX6_fault 12 = .ok (.iconst 2, 1) := by decide +kernel
theorem dX6_fault_13 : decode cX6_fault 13 = .ok (.invokestatic 43, 3) := by decide +kernel
theorem dX6_fault_16 : decode cX6_fault 16 = .ok (.ifCond .eq 18, 3) := by decide +kernel
theorem dX6_fault_19 : decode cX6_fault 19 = .ok (.iload_n 2, 1) := by decide +kernel
theorem dX6_fault_20 : decode cX6_fault 20 = .ok (.aload_n 0, 1) := by decide +kernel
theorem dX6_fault_21 : decode cX6_fault 21 = .ok (.getfield 39, 3) := by decide +kernel
theorem dX6_fault_24 : decode cX6_fault 24 = .ok (.iload_n 1, 1) := by decide +kernel
theorem dX6_fault_25 : decode cX6_fault 25 = .ok (.invokevirtual 81, 3) := by decide +kernel
theorem dX6_fault_28 : decode cX6_fault 28 = .ok (.invokestatic 43, 3) := by decide +kernel
theorem dX6_fault_31 : decode cX6_fault 31 = .ok (.ifCond .ne 5, 3) := by decide +kernel
theorem dX6_fault_34 : decode cX6_fault 34 = .ok (.iconst (-1), 1) := by decide +kernel
theorem dX6_fault_35 : decode cX6_fault 35 = .ok (.ireturn, 1) := by decide +kernel
theorem dX6_fault_36 : decode cX6_fault 36 = .ok (.iload_n 3, 1) := by decide +kernel
theorem dX6_fault_37 : decode cX6_fault 37 = .ok (.ifCond .ne 15, 3) := by decide +kernel
theorem dX6_fault_40 : decode cX6_fault 40 = .ok (.aload_n 0, 1) := by decide +kernel
theorem dX6_fault_41 : decode cX6_fault 41 = .ok (.getfield 39, 3) := by decide +kernel
theorem dX6_fault_44 : decode cX6_fault 44 = .ok (.iload_n 1, 1) := by decide +kernel
theorem dX6_fault_45 : decode cX6_fault 45 = .ok (.iload_n 2, 1) := by decide +kernel
theorem dX6_fault_46 : decode cX6_fault 46 = .ok (.invokevirtual 85, 3) := by decide +kernel
theorem dX6_fault_49 : decode cX6_fault 49 = .ok (.goto 12, 3) := by decide +kernel
theorem dX6_fault_52 : decode cX6_fault 52 = .ok (.aload_n 0, 1) := by decide +kernel
theorem dX6_fault_53 : decode cX6_fault 53 = .ok (.getfield 39, 3) := by decide +kernel
theorem dX6_fault_56 : decode cX6_fault 56 = .ok (.iload_n 1, 1) := by decide +kernel
theorem dX6_fault_57 : decode cX6_fault 57 = .ok (.iload_n 2, 1) := by decide +kernel
theorem dX6_fault_58 : decode cX6_fault 58 = .ok (.invokevirtual 88, 3) := by decide +kernel
theorem dX6_fault_61 : decode cX6_fault 61 = .ok (.ireturn, 1) := by decide +kernel
theorem dX6_all_0 : decode cX6_all 0 = .ok (.iconst 0, 1) := by decide +kernel
theorem dX6_all_1 : decode cX6_all 1 = .ok (.istore_n 1, 1) := by decide +kernel
theorem dX6_all_2 : decode cX6_all 2 = .ok (.iconst 0, 1) := by decide +kernel
theorem dX6_all_3 : decode cX6_all 3 = .ok (.istore_n 2, 1) := by decide +kernel
theorem dX6_all_4 : decode cX6_all 4 = .ok (.iload_n 2, 1) := by decide +kernel
theorem dX6_all_5 : decode cX6_all 5 = .ok (.aload_n 0, 1) := by decide +kernel
theorem dX6_all_6 : decode cX6_all 6 = .ok (.getfield 12, 3) := by decide +kernel
theorem dX6_all_9 : decode cX6_all 9 = .ok (.getfield 47, 3) := by decide +kernel
theorem dX6_all_12 : decode cX6_all 12 = .ok (.if_icmp .ge 20, 3) := by decide +kernel
theorem dX6_all_15 : decode cX6_all 15 = .ok (.iload_n 1, 1) := by decide +kernel
theorem dX6_all_16 : decode cX6_all 16 = .ok (.aload_n 0, 1) := by decide +kernel
theorem dX6_all_17 : decode cX6_all 17 = .ok (.getfield 39, 3) := by decide +kernel
theorem dX6_all_20 : decode cX6_all 20 = .ok (.iload_n 2, 1) := by decide +kernel
theorem dX6_all_21 : decode cX6_all 21 = .ok (.invokevirtual 81, 3) := by decide +kernel
theorem dX6_all_24 : decode cX6_all 24 = .ok (.iadd, 1) := by decide +kernel
theorem dX6_all_25 : decode cX6_all 25 = .ok (.istore_n 1, 1) := by decide +kernel
theorem dX6_all_26 : decode cX6_all 26 = .ok (.iinc 2 1, 3) := by decide +kernel
theorem dX6_all_29 : decode cX6_all 29 = .ok (.goto (-25), 3) := by decide +kernel
theorem dX6_all_32 : decode cX6_all 32 = .ok (.iload_n 1, 1) := by decide +kernel
theorem dX6_all_33 : decode cX6_all 33 = .ok (.ireturn, 1) := by decide +kernel
theorem dX6_is_0 : decode cX6_is 0 = .ok (.aload_n 0, 1) := by decide +kernel
theorem dX6_is_1 : decode cX6_is 1 = .ok (.getfield 12, 3) := by decide +kernel
theorem dX6_is_4 : decode cX6_is 4 = .ok (.iload_n 1, 1) := by decide +kernel
theorem dX6_is_5 : decode cX6_is 5 = .ok (.invokevirtual 58, 3) := by decide +kernel
theorem dX6_is_8 : decode cX6_is 8 = .ok (.ifCond .eq 14, 3) := by decide +kernel
theorem dX6_is_11 : decode cX6_is 11 = .ok (.aload_n 0, 1) := by decide +kernel
theorem dX6_is_12 : decode cX6_is 12 = .ok (.getfield 12, 3) := by decide +kernel
theorem dX6_is_15 : decode cX6_is 15 = .ok (.iload_n 2, 1) := by decide +kernel
theorem dX6_is_16 : decode cX6_is 16 = .ok (.invokevirtual 58, 3) := by decide +kernel
theorem dX6_is_19 : decode cX6_is 19 = .ok (.ifCond .ne 5, 3) := by decide +kernel
theorem dX6_is_22 : decode cX6_is 22 = .ok (.iconst (-1), 1) := by decide +kernel
theorem dX6_is_23 : decode cX6_is 23 = .ok (.ireturn, 1) := by decide +kernel
theorem dX6_is_24 : decode cX6_is 24 = .ok (.aload_n 0, 1) := by decide +kernel
theorem dX6_is_25 : decode cX6_is 25 = .ok (.getfield 12, 3) := by decide +kernel
theorem dX6_is_28 : decode cX6_is 28 = .ok (.iload_n 1, 1) := by decide +kernel
theorem dX6_is_29 : decode cX6_is 29 = .ok (.iload_n 2, 1) := by decide +kernel
theorem dX6_is_30 : decode cX6_is 30 = .ok (.invokevirtual 91, 3) := by decide +kernel
theorem dX6_is_33 : decode cX6_is 33 = .ok (.ifCond .eq 7, 3) := by decide +kernel
theorem dX6_is_36 : decode cX6_is 36 = .ok (.iconst 1, 1) := by decide +kernel
theorem dX6_is_37 : decode cX6_is 37 = .ok (.goto 4, 3) := by decide +kernel
theorem dX6_is_40 : decode cX6_is 40 = .ok (.iconst 0, 1) := by decide +kernel
theorem dX6_is_41 : decode cX6_is 41 = .ok (.ireturn, 1) := by decide +kernel
theorem dX6_runs_0 : decode cX6_runs 0 = .ok (.aload_n 0, 1) := by decide +kernel
theorem dX6_runs_1 : decode cX6_runs 1 = .ok (.getfield 12, 3) := by decide +kernel
theorem dX6_runs_4 : decode cX6_runs 4 = .ok (.iload_n 1, 1) := by decide +kernel
theorem dX6_runs_5 : decode cX6_runs 5 = .ok (.invokevirtual 58, 3) := by decide +kernel
theorem dX6_runs_8 : decode cX6_runs 8 = .ok (.ifCond .eq 20, 3) := by decide +kernel
theorem dX6_runs_11 : decode cX6_runs 11 = .ok (.iload_n 2, 1) := by decide +kernel
theorem dX6_runs_12 : decode cX6_runs 12 = .ok (.bipush 10, 2) := by decide +kernel
theorem dX6_runs_14 : decode cX6_runs 14 = .ok (.invokestatic 43, 3) := by decide +kernel
theorem dX6_runs_17 : decode cX6_runs 17 = .ok (.ifCond .eq 11, 3) := by decide +kernel
theorem dX6_runs_20 : decode cX6_runs 20 = .ok (.iload_n 3, 1) := by decide +kernel
theorem dX6_runs_21 : decode cX6_runs 21 = .ok (.iconst 5, 1) := by decide +kernel
theorem dX6_runs_22 : decode cX6_runs 22 = .ok (.invokestatic 43, 3) := by decide +kernel
theorem dX6_runs_25 : decode cX6_runs 25 = .ok (.ifCond .ne 5, 3) := by decide +kernel
theorem dX6_runs_28 : decode cX6_runs 28 = .ok (.iconst (-1), 1) := by decide +kernel
theorem dX6_runs_29 : decode cX6_runs 29 = .ok (.ireturn, 1) := by decide +kernel
theorem dX6_runs_30 : decode cX6_runs 30 = .ok (.aload_n 0, 1) := by decide +kernel
theorem dX6_runs_31 : decode cX6_runs 31 = .ok (.iload_n 1, 1) := by decide +kernel
theorem dX6_runs_32 : decode cX6_runs 32 = .ok (.invokevirtual 94, 3) := by decide +kernel
theorem dX6_runs_35 : decode cX6_runs 35 = .ok (.ifCond .ne 6, 3) := by decide +kernel
theorem dX6_runs_38 : decode cX6_runs 38 = .ok (.bipush (-4), 2) := by decide +kernel
theorem dX6_runs_40 : decode cX6_runs 40 = .ok (.ireturn, 1) := by decide +kernel
theorem dX6_runs_41 : decode cX6_runs 41 = .ok (.aload_n 0, 1) := by decide +kernel
theorem dX6_runs_42 : decode cX6_runs 42 = .ok (.getfield 30, 3) := by decide +kernel
theorem dX6_runs_45 : decode cX6_runs 45 = .ok (.iload_n 1, 1) := by decide +kernel
theorem dX6_runs_46 : decode cX6_runs 46 = .ok (.iload_n 2, 1) := by decide +kernel
theorem dX6_runs_47 : decode cX6_runs 47 = .ok (.iload_n 3, 1) := by decide +kernel
theorem dX6_runs_48 : decode cX6_runs 48 = .ok (.invokevirtual 97, 3) := by decide +kernel
theorem dX6_runs_51 : decode cX6_runs 51 = .ok (.invokestatic 101, 3) := by decide +kernel
theorem dX6_runs_54 : decode cX6_runs 54 = .ok (.ireturn, 1) := by decide +kernel
theorem dX6_call_0 : decode cX6_call 0 = .ok (.aload_n 0, 1) := by decide +kernel
theorem dX6_call_1 : decode cX6_call 1 = .ok (.getfield 12, 3) := by decide +kernel
theorem dX6_call_4 : decode cX6_call 4 = .ok (.iload_n 1, 1) := by decide +kernel
theorem dX6_call_5 : decode cX6_call 5 = .ok (.invokevirtual 58, 3) := by decide +kernel
theorem dX6_call_8 : decode cX6_call 8 = .ok (.ifCond .eq 32, 3) := by decide +kernel
theorem dX6_call_11 : decode cX6_call 11 = .ok (.aload_n 0, 1) := by decide +kernel
theorem dX6_call_12 : decode cX6_call 12 = .ok (.getfield 12, 3) := by decide +kernel
theorem dX6_call_15 : decode cX6_call 15 = .ok (.iload_n 2, 1) := by decide +kernel
theorem dX6_call_16 : decode cX6_call 16 = .ok (.invokevirtual 58, 3) := by decide +kernel
theorem dX6_call_19 : decode cX6_call 19 = .ok (.ifCond .eq 21, 3) := by decide +kernel
theorem dX6_call_22 : decode cX6_call 22 = .ok (.iload_n 3, 1) := by decide +kernel
theorem dX6_call_23 : decode cX6_call 23 = .ok (.bipush 10, 2) := by decide +kernel
theorem dX6_call_25 : decode cX6_call 25 = .ok (.invokestatic 43, 3) := by decide +kernel
theorem dX6_call_28 : decode cX6_call 28 = .ok (.ifCond .eq 12, 3) := by decide +kernel
theorem dX6_call_31 : decode cX6_call 31 = .ok (.iload 4, 2) := by decide +kernel
theorem dX6_call_33 : decode cX6_call 33 = .ok (.iconst 5, 1) := by decide +kernel
theorem dX6_call_34 : decode cX6_call 34 = .ok (.invokestatic 43, 3) := by decide +kernel
theorem dX6_call_37 : decode cX6_call 37 = .ok (.ifCond .ne 5, 3) := by decide +kernel
theorem dX6_call_40 : decode cX6_call 40 = .ok (.iconst (-1), 1) := by decide +kernel
theorem dX6_call_41 : decode cX6_call 41 = .ok (.ireturn, 1) := by decide +kernel
theorem dX6_call_42 : decode cX6_call 42 = .ok (.aload_n 0, 1) := by decide +kernel
theorem dX6_call_43 : decode cX6_call 43 = .ok (.iload_n 2, 1) := by decide +kernel
theorem dX6_call_44 : decode cX6_call 44 = .ok (.invokevirtual 94, 3) := by decide +kernel
theorem dX6_call_47 : decode cX6_call 47 = .ok (.ifCond .eq 15, 3) := by decide +kernel
theorem dX6_call_50 : decode cX6_call 50 = .ok (.aload_n 0, 1) := by decide +kernel
theorem dX6_call_51 : decode cX6_call 51 = .ok (.getfield 12, 3) := by decide +kernel
theorem dX6_call_54 : decode cX6_call 54 = .ok (.iload_n 2, 1) := by decide +kernel
theorem dX6_call_55 : decode cX6_call 55 = .ok (.iload_n 1, 1) := by decide +kernel
theorem dX6_call_56 : decode cX6_call 56 = .ok (.invokevirtual 91, 3) := by decide +kernel
theorem dX6_call_59 : decode cX6_call 59 = .ok (.ifCond .ne 6, 3) := by decide +kernel
theorem dX6_call_62 : decode cX6_call 62 = .ok (.bipush (-4), 2) := by decide +kernel
theorem dX6_call_64 : decode cX6_call 64 = .ok (.ireturn, 1) := by decide +kernel
theorem dX6_call_65 : decode cX6_call 65 = .ok (.aload_n 0, 1) := by decide +kernel
theorem dX6_call_66 : decode cX6_call 66 = .ok (.getfield 30, 3) := by decide +kernel
theorem dX6_call_69 : decode cX6_call 69 = .ok (.iload_n 1, 1) := by decide +kernel
theorem dX6_call_70 : decode cX6_call 70 = .ok (.iload_n 2, 1) := by decide +kernel
theorem dX6_call_71 : decode cX6_call 71 = .ok (.iload_n 3, 1) := by decide +kernel
theorem dX6_call_72 : decode cX6_call 72 = .ok (.iload 4, 2) := by decide +kernel
theorem dX6_call_74 : decode cX6_call 74 = .ok (.invokevirtual 104, 3) := by decide +kernel
theorem dX6_call_77 : decode cX6_call 77 = .ok (.invokestatic 101, 3) := by decide +kernel
theorem dX6_call_80 : decode cX6_call 80 = .ok (.ireturn, 1) := by decide +kernel
theorem dX6_told_0 : decode cX6_told 0 = .ok (.iload_n 1, 1) := by decide +kernel
theorem dX6_told_1 : decode cX6_told 1 = .ok (.ifCond .ne 11, 3) := by decide +kernel
theorem dX6_told_4 : decode cX6_told 4 = .ok (.aload_n 0, 1) := by decide +kernel
theorem dX6_told_5 : decode cX6_told 5 = .ok (.getfield 12, 3) := by decide +kernel
theorem dX6_told_8 : decode cX6_told 8 = .ok (.getfield 47, 3) := by decide +kernel
theorem dX6_told_11 : decode cX6_told 11 = .ok (.ireturn, 1) := by decide +kernel
theorem dX6_told_12 : decode cX6_told 12 = .ok (.iload_n 1, 1) := by decide +kernel
theorem dX6_told_13 : decode cX6_told 13 = .ok (.iconst 1, 1) := by decide +kernel
theorem dX6_told_14 : decode cX6_told 14 = .ok (.if_icmp .ne 13, 3) := by decide +kernel
theorem dX6_told_17 : decode cX6_told 17 = .ok (.aload_n 0, 1) := by decide +kernel
theorem dX6_told_18 : decode cX6_told 18 = .ok (.getfield 21, 3) := by decide +kernel
theorem dX6_told_21 : decode cX6_told 21 = .ok (.getfield 76, 3) := by decide +kernel
theorem dX6_told_24 : decode cX6_told 24 = .ok (.goto 4, 3) := by decide +kernel
theorem dX6_told_27 : decode cX6_told 27 = .ok (.iconst (-1), 1) := by decide +kernel
theorem dX6_told_28 : decode cX6_told 28 = .ok (.ireturn, 1) := by decide +kernel
theorem dX6_canBeMade_0 : decode cX6_canBeMade 0 = .ok (.aload_n 0, 1) := by decide +kernel
theorem dX6_canBeMade_1 : decode cX6_canBeMade 1 = .ok (.getfield 12, 3) := by decide +kernel
theorem dX6_canBeMade_4 : decode cX6_canBeMade 4 = .ok (.getfield 107, 3) := by decide +kernel
theorem dX6_canBeMade_7 : decode cX6_canBeMade 7 = .ok (.iload_n 1, 1) := by decide +kernel
theorem dX6_canBeMade_8 : decode cX6_canBeMade 8 = .ok (.iaload, 1) := by decide +kernel
theorem dX6_canBeMade_9 : decode cX6_canBeMade 9 = .ok (.iconst 1, 1) := by decide +kernel
theorem dX6_canBeMade_10 : decode cX6_canBeMade 10 = .ok (.if_icmp .eq 15, 3) := by decide +kernel
theorem dX6_canBeMade_13 : decode cX6_canBeMade 13 = .ok (.aload_n 0, 1) := by decide +kernel
theorem dX6_canBeMade_14 : decode cX6_canBeMade 14 = .ok (.getfield 12, 3) := by decide +kernel
theorem dX6_canBeMade_17 : decode cX6_canBeMade 17 = .ok (.iload_n 1, 1) := by decide +kernel
theorem dX6_canBeMade_18 : decode cX6_canBeMade 18 = .ok (.iconst 1, 1) := by decide +kernel
theorem dX6_canBeMade_19 : decode cX6_canBeMade 19 = .ok (.invokevirtual 110, 3) := by decide +kernel
theorem dX6_canBeMade_22 : decode cX6_canBeMade 22 = .ok (.ifCond .eq 5, 3) := by decide +kernel
theorem dX6_canBeMade_25 : decode cX6_canBeMade 25 = .ok (.iconst 0, 1) := by decide +kernel
theorem dX6_canBeMade_26 : decode cX6_canBeMade 26 = .ok (.ireturn, 1) := by decide +kernel
theorem dX6_canBeMade_27 : decode cX6_canBeMade 27 = .ok (.iconst 0, 1) := by decide +kernel
theorem dX6_canBeMade_28 : decode cX6_canBeMade 28 = .ok (.istore_n 2, 1) := by decide +kernel
theorem dX6_canBeMade_29 : decode cX6_canBeMade 29 = .ok (.iload_n 2, 1) := by decide +kernel
theorem dX6_canBeMade_30 : decode cX6_canBeMade 30 = .ok (.aload_n 0, 1) := by decide +kernel
theorem dX6_canBeMade_31 : decode cX6_canBeMade 31 = .ok (.getfield 12, 3) := by decide +kernel
theorem dX6_canBeMade_34 : decode cX6_canBeMade 34 = .ok (.getfield 47, 3) := by decide +kernel
theorem dX6_canBeMade_37 : decode cX6_canBeMade 37 = .ok (.if_icmp .ge 34, 3) := by decide +kernel
theorem dX6_canBeMade_40 : decode cX6_canBeMade 40 = .ok (.aload_n 0, 1) := by decide +kernel
theorem dX6_canBeMade_41 : decode cX6_canBeMade 41 = .ok (.getfield 12, 3) := by decide +kernel
theorem dX6_canBeMade_44 : decode cX6_canBeMade 44 = .ok (.iload_n 1, 1) := by decide +kernel
theorem dX6_canBeMade_45 : decode cX6_canBeMade 45 = .ok (.iload_n 2, 1) := by decide +kernel
theorem dX6_canBeMade_46 : decode cX6_canBeMade 46 = .ok (.invokevirtual 91, 3) := by decide +kernel
theorem dX6_canBeMade_49 : decode cX6_canBeMade 49 = .ok (.ifCond .eq 16, 3) := by decide +kernel
theorem dX6_canBeMade_52 : decode cX6_canBeMade 52 = .ok (.aload_n 0, 1) := by decide +kernel
theorem dX6_canBeMade_53 : decode cX6_canBeMade 53 = .ok (.getfield 39, 3) := by decide +kernel
theorem dX6_canBeMade_56 : decode cX6_canBeMade 56 = .ok (.iload_n 2, 1) := by decide +kernel
theorem dX6_canBeMade_57 : decode cX6_canBeMade 57 = .ok (.invokevirtual 81, 3) := by decide +kernel
theorem dX6_canBeMade_60 : decode cX6_canBeMade 60 = .ok (.ifCond .le 5, 3) := by decide +kernel
theorem dX6_canBeMade_63 : decode cX6_canBeMade 63 = .ok (.iconst 0, 1) := by decide +kernel
theorem dX6_canBeMade_64 : decode cX6_canBeMade 64 = .ok (.ireturn, 1) := by decide +kernel
theorem dX6_canBeMade_65 : decode cX6_canBeMade 65 = .ok (.iinc 2 1, 3) := by decide +kernel
theorem dX6_canBeMade_68 : decode cX6_canBeMade 68 = .ok (.goto (-39), 3) := by decide +kernel
theorem dX6_canBeMade_71 : decode cX6_canBeMade 71 = .ok (.iconst 1, 1) := by decide +kernel
theorem dX6_canBeMade_72 : decode cX6_canBeMade 72 = .ok (.ireturn, 1) := by decide +kernel
theorem dX6_within_0 : decode cX6_within 0 = .ok (.iload_n 0, 1) := by decide +kernel
theorem dX6_within_1 : decode cX6_within 1 = .ok (.ifCond .lt 12, 3) := by decide +kernel
theorem dX6_within_4 : decode cX6_within 4 = .ok (.iload_n 0, 1) := by decide +kernel
theorem dX6_within_5 : decode cX6_within 5 = .ok (.iload_n 1, 1) := by decide +kernel
theorem dX6_within_6 : decode cX6_within 6 = .ok (.if_icmp .ge 7, 3) := by decide +kernel
theorem dX6_within_9 : decode cX6_within 9 = .ok (.iconst 1, 1) := by decide +kernel
theorem dX6_within_10 : decode cX6_within 10 = .ok (.goto 4, 3) := by decide +kernel
theorem dX6_within_13 : decode cX6_within 13 = .ok (.iconst 0, 1) := by decide +kernel
theorem dX6_within_14 : decode cX6_within 14 = .ok (.ireturn, 1) := by decide +kernel
theorem dX6_orNone_0 : decode cX6_orNone 0 = .ok (.iload_n 0, 1) := by decide +kernel
theorem dX6_orNone_1 : decode cX6_orNone 1 = .ok (.iconst (-1), 1) := by decide +kernel
theorem dX6_orNone_2 : decode cX6_orNone 2 = .ok (.if_icmp .ne 8, 3) := by decide +kernel
theorem dX6_orNone_5 : decode cX6_orNone 5 = .ok (.bipush (-3), 2) := by decide +kernel
theorem dX6_orNone_7 : decode cX6_orNone 7 = .ok (.goto 4, 3) := by decide +kernel
theorem dX6_orNone_10 : decode cX6_orNone 10 = .ok (.iload_n 0, 1) := by decide +kernel
theorem dX6_orNone_11 : decode cX6_orNone 11 = .ok (.ireturn, 1) := by decide +kernel
theorem dX6_bit_0 : decode cX6_bit 0 = .ok (.iconst 1, 1) := by decide +kernel
theorem dX6_bit_1 : decode cX6_bit 1 = .ok (.iload_n 0, 1) := by decide +kernel
theorem dX6_bit_2 : decode cX6_bit 2 = .ok (.ishl, 1) := by decide +kernel
theorem dX6_bit_3 : decode cX6_bit 3 = .ok (.ireturn, 1) := by decide +kernel
theorem dX6_holds_0 : decode cX6_holds 0 = .ok (.iload_n 0, 1) := by decide +kernel
theorem dX6_holds_1 : decode cX6_holds 1 = .ok (.iload_n 1, 1) := by decide +kernel
theorem dX6_holds_2 : decode cX6_holds 2 = .ok (.ishr, 1) := by decide +kernel
theorem dX6_holds_3 : decode cX6_holds 3 = .ok (.iconst 1, 1) := by decide +kernel
theorem dX6_holds_4 : decode cX6_holds 4 = .ok (.iand, 1) := by decide +kernel
theorem dX6_holds_5 : decode cX6_holds 5 = .ok (.ifCond .eq 7, 3) := by decide +kernel
theorem dX6_holds_8 : decode cX6_holds 8 = .ok (.iconst 1, 1) := by decide +kernel
theorem dX6_holds_9 : decode cX6_holds 9 = .ok (.goto 4, 3) := by decide +kernel
theorem dX6_holds_12 : decode cX6_holds 12 = .ok (.iconst 0, 1) := by decide +kernel
theorem dX6_holds_13 : decode cX6_holds 13 = .ok (.ireturn, 1) := by decide +kernel
theorem dX7_init_0 : decode cX7_init 0 = .ok (.aload_n 0, 1) := by decide +kernel
theorem dX7_init_1 : decode cX7_init 1 = .ok (.invokespecial 1, 3) := by decide +kernel
theorem dX7_init_4 : decode cX7_init 4 = .ok (.aload_n 0, 1) := by decide +kernel
theorem dX7_init_5 : decode cX7_init 5 = .ok (.bipush 20, 2) := by decide +kernel
theorem dX7_init_7 : decode cX7_init 7 = .ok (.newarray .int, 2) := by decide +kernel
theorem dX7_init_9 : decode cX7_init 9 = .ok (.putfield 7, 3) := by decide +kernel
theorem dX7_init_12 : decode cX7_init 12 = .ok (.aload_n 0, 1) := by decide +kernel
theorem dX7_init_13 : decode cX7_init 13 = .ok (.bipush 20, 2) := by decide +kernel
theorem dX7_init_15 : decode cX7_init 15 = .ok (.newarray .int, 2) := by decide +kernel
theorem dX7_init_17 : decode cX7_init 17 = .ok (.putfield 13, 3) := by decide +kernel
theorem dX7_init_20 : decode cX7_init 20 = .ok (.aload_n 0, 1) := by decide +kernel
theorem dX7_init_21 : decode cX7_init 21 = .ok (.bipush 20, 2) := by decide +kernel
theorem dX7_init_23 : decode cX7_init 23 = .ok (.newarray .int, 2) := by decide +kernel
theorem dX7_init_25 : decode cX7_init 25 = .ok (.putfield 16, 3) := by decide +kernel
theorem dX7_init_28 : decode cX7_init 28 = .ok (.aload_n 0, 1) := by decide +kernel
theorem dX7_init_29 : decode cX7_init 29 = .ok (.bipush 20, 2) := by decide +kernel
theorem dX7_init_31 : decode cX7_init 31 = .ok (.newarray .int, 2) := by decide +kernel
theorem dX7_init_33 : decode cX7_init 33 = .ok (.putfield 19, 3) := by decide +kernel
theorem dX7_init_36 : decode cX7_init 36 = .ok (.aload_n 0, 1) := by decide +kernel
theorem dX7_init_37 : decode cX7_init 37 = .ok (.bipush 60, 2) := by decide +kernel
theorem dX7_init_39 : decode cX7_init 39 = .ok (.newarray .int, 2) := by decide +kernel
theorem dX7_init_41 : decode cX7_init 41 = .ok (.putfield 22, 3) := by decide +kernel
theorem dX7_init_44 : decode cX7_init 44 = .ok (.aload_n 0, 1) := by decide +kernel
theorem dX7_init_45 : decode cX7_init 45 = .ok (.bipush 20, 2) := by decide +kernel
theorem dX7_init_47 : decode cX7_init 47 = .ok (.newarray .int, 2) := by decide +kernel
theorem dX7_init_49 : decode cX7_init 49 = .ok (.putfield 25, 3) := by decide +kernel
theorem dX7_init_52 : decode cX7_init 52 = .ok (.aload_n 0, 1) := by decide +kernel
theorem dX7_init_53 : decode cX7_init 53 = .ok (.bipush 60, 2) := by decide +kernel
theorem dX7_init_55 : decode cX7_init 55 = .ok (.newarray .int, 2) := by decide +kernel
theorem dX7_init_57 : decode cX7_init 57 = .ok (.putfield 28, 3) := by decide +kernel
theorem dX7_init_60 : decode cX7_init 60 = .ok (.aload_n 0, 1) := by decide +kernel
theorem dX7_init_61 : decode cX7_init 61 = .ok (.bipush 20, 2) := by decide +kernel
theorem dX7_init_63 : decode cX7_init 63 = .ok (.newarray .int, 2) := by decide +kernel
theorem dX7_init_65 : decode cX7_init 65 = .ok (.putfield 31, 3) := by decide +kernel
theorem dX7_init_68 : decode cX7_init 68 = .ok (.aload_n 0, 1) := by decide +kernel
theorem dX7_init_69 : decode cX7_init 69 = .ok (.bipush 80, 2) := by decide +kernel
theorem dX7_init_71 : decode cX7_init 71 = .ok (.newarray .int, 2) := by decide +kernel
theorem dX7_init_73 : decode cX7_init 73 = .ok (.putfield 34, 3) := by decide +kernel
theorem dX7_init_76 : decode cX7_init 76 = .ok (.aload_n 0, 1) := by decide +kernel
theorem dX7_init_77 : decode cX7_init 77 = .ok (.bipush 80, 2) := by decide +kernel
theorem dX7_init_79 : decode cX7_init 79 = .ok (.newarray .int, 2) := by decide +kernel
theorem dX7_init_81 : decode cX7_init 81 = .ok (.putfield 37, 3) := by decide +kernel
theorem dX7_init_84 : decode cX7_init 84 = .ok (.aload_n 0, 1) := by decide +kernel
theorem dX7_init_85 : decode cX7_init 85 = .ok (.bipush 80, 2) := by decide +kernel
theorem dX7_init_87 : decode cX7_init 87 = .ok (.newarray .int, 2) := by decide +kernel
theorem dX7_init_89 : decode cX7_init 89 = .ok (.putfield 40, 3) := by decide +kernel
theorem dX7_init_92 : decode cX7_init 92 = .ok (.aload_n 0, 1) := by decide +kernel
theorem dX7_init_93 : decode cX7_init 93 = .ok (.bipush 80, 2) := by decide +kernel
theorem dX7_init_95 : decode cX7_init 95 = .ok (.newarray .int, 2) := by decide +kernel
theorem dX7_init_97 : decode cX7_init 97 = .ok (.putfield 43, 3) := by decide +kernel
theorem dX7_init_100 : decode cX7_init 100 = .ok (.aload_n 0, 1) := by decide +kernel
theorem dX7_init_101 : decode cX7_init 101 = .ok (.bipush 80, 2) := by decide +kernel
theorem dX7_init_103 : decode cX7_init 103 = .ok (.newarray .int, 2) := by decide +kernel
theorem dX7_init_105 : decode cX7_init 105 = .ok (.putfield 46, 3) := by decide +kernel
theorem dX7_init_108 : decode cX7_init 108 = .ok (.aload_n 0, 1) := by decide +kernel
theorem dX7_init_109 : decode cX7_init 109 = .ok (.bipush 80, 2) := by decide +kernel
theorem dX7_init_111 : decode cX7_init 111 = .ok (.newarray .int, 2) := by decide +kernel
theorem dX7_init_113 : decode cX7_init 113 = .ok (.putfield 49, 3) := by decide +kernel
theorem dX7_init_116 : decode cX7_init 116 = .ok (.aload_n 0, 1) := by decide +kernel
theorem dX7_init_117 : decode cX7_init 117 = .ok (.sipush 400, 3) := by decide +kernel
theorem dX7_init_120 : decode cX7_init 120 = .ok (.newarray .boolean, 2) := by decide +kernel
theorem dX7_init_122 : decode cX7_init 122 = .ok (.putfield 52, 3) := by decide +kernel
theorem dX7_init_125 : decode cX7_init 125 = .ok (.aload_n 0, 1) := by decide +kernel
theorem dX7_init_126 : decode cX7_init 126 = .ok (.sipush 1600, 3) := by decide +kernel
theorem dX7_init_129 : decode cX7_init 129 = .ok (.newarray .boolean, 2) := by decide +kernel
theorem dX7_init_131 : decode cX7_init 131 = .ok (.putfield 56, 3) := by decide +kernel
theorem dX7_init_134 : decode cX7_init 134 = .ok (.aload_n 0, 1) := by decide +kernel
theorem dX7_init_135 : decode cX7_init 135 = .ok (.bipush 20, 2) := by decide +kernel
theorem dX7_init_137 : decode cX7_init 137 = .ok (.newarray .int, 2) := by decide +kernel
theorem dX7_init_139 : decode cX7_init 139 = .ok (.putfield 59, 3) := by decide +kernel
theorem dX7_init_142 : decode cX7_init 142 = .ok (.aload_n 0, 1) := by decide +kernel
theorem dX7_init_143 : decode cX7_init 143 = .ok (.sipush 6400, 3) := by decide +kernel
theorem dX7_init_146 : decode cX7_init 146 = .ok (.newarray .boolean, 2) := by decide +kernel
theorem dX7_init_148 : decode cX7_init 148 = .ok (.putfield 62, 3) := by decide +kernel
theorem dX7_init_151 : decode cX7_init 151 = .ok (.return_, 1) := by decide +kernel
theorem dX7_in_0 : decode cX7_in 0 = .ok (.iload_n 0, 1) := by decide +kernel
theorem dX7_in_1 : decode cX7_in 1 = .ok (.iload_n 1, 1) := by decide +kernel
theorem dX7_in_2 : decode cX7_in 2 = .ok (.if_icmp .lt 12, 3) := by decide +kernel
theorem dX7_in_5 : decode cX7_in 5 = .ok (.iload_n 0, 1) := by decide +kernel
theorem dX7_in_6 : decode cX7_in 6 = .ok (.iload_n 2, 1) := by decide +kernel
theorem dX7_in_7 : decode cX7_in 7 = .ok (.if_icmp .gt 7, 3) := by decide +kernel
theorem dX7_in_10 : decode cX7_in 10 = .ok (.iconst 1, 1) := by decide +kernel
theorem dX7_in_11 : decode cX7_in 11 = .ok (.goto 4, 3) := by decide +kernel
theorem dX7_in_14 : decode cX7_in 14 = .ok (.iconst 0, 1) := by decide +kernel
theorem dX7_in_15 : decode cX7_in 15 = .ok (.ireturn, 1) := by decide +kernel
theorem dX7_isType_0 : decode cX7_isType 0 = .ok (.iload_n 1, 1) := by decide +kernel
theorem dX7_isType_1 : decode cX7_isType 1 = .ok (.iconst 0, 1) := by decide +kernel
theorem dX7_isType_2 : decode cX7_isType 2 = .ok (.aload_n 0, 1) := by decide +kernel
theorem dX7_isType_3 : decode cX7_isType 3 = .ok (.getfield 65, 3) := by decide +kernel
theorem dX7_isType_6 : decode cX7_isType 6 = .ok (.iconst 1, 1) := by decide +kernel
theorem dX7_isType_7 : decode cX7_isType 7 = .ok (.isub, 1) := by decide +kernel
theorem dX7_isType_8 : decode cX7_isType 8 = .ok (.invokestatic 69, 3) := by decide +kernel
theorem dX7_isType_11 : decode cX7_isType 11 = .ok (.ireturn, 1) := by decide +kernel
theorem dX7_marked_0 : decode cX7_marked 0 = .ok (.aload_n 0, 1) := by decide +kernel
theorem dX7_marked_1 : decode cX7_marked 1 = .ok (.getfield 13, 3) := by decide +kernel
theorem dX7_marked_4 : decode cX7_marked 4 = .ok (.iload_n 1, 1) := by decide +kernel
theorem dX7_marked_5 : decode cX7_marked 5 = .ok (.iaload, 1) := by decide +kernel
theorem dX7_marked_6 : decode cX7_marked 6 = .ok (.iload_n 2, 1) := by decide +kernel
theorem dX7_marked_7 : decode cX7_marked 7 = .ok (.iand, 1) := by decide +kernel
theorem dX7_marked_8 : decode cX7_marked 8 = .ok (.ifCond .eq 7, 3) := by decide +kernel
theorem dX7_marked_11 : decode cX7_marked 11 = .ok (.iconst 1, 1) := by decide +kernel
theorem dX7_marked_12 : decode cX7_marked 12 = .ok (.goto 4, 3) := by decide +kernel
theorem dX7_marked_15 : decode cX7_marked 15 = .ok (.iconst 0, 1) := by decide +kernel
theorem dX7_marked_16 : decode cX7_marked 16 = .ok (.ireturn, 1) := by decide +kernel
theorem dX7_is_0 : decode cX7_is 0 = .ok (.aload_n 0, 1) := by decide +kernel
theorem dX7_is_1 : decode cX7_is 1 = .ok (.getfield 43, 3) := by decide +kernel
theorem dX7_is_4 : decode cX7_is 4 = .ok (.iload_n 1, 1) := by decide +kernel
theorem dX7_is_5 : decode cX7_is 5 = .ok (.iaload, 1) := by decide +kernel
theorem dX7_is_6 : decode cX7_is 6 = .ok (.iload_n 3, 1) := by decide +kernel
theorem dX7_is_7 : decode cX7_is 7 = .ok (.iand, 1) := by decide +kernel
theorem dX7_is_8 : decode cX7_is 8 = .ok (.ifCond .eq 7, 3) := by decide +kernel
theorem dX7_is_11 : decode cX7_is 11 = .ok (.iconst 1, 1) := by decide +kernel
theorem dX7_is_12 : decode cX7_is 12 = .ok (.goto 4, 3) := by decide +kernel
theorem dX7_is_15 : decode cX7_is 15 = .ok (.iconst 0, 1) := by decide +kernel
theorem dX7_is_16 : decode cX7_is 16 = .ok (.iload_n 2, 1) := by decide +kernel
theorem dX7_is_17 : decode cX7_is 17 = .ok (.if_icmp .ne 7, 3) := by decide +kernel
theorem dX7_is_20 : decode cX7_is 20 = .ok (.iconst 1, 1) := by decide +kernel
theorem dX7_is_21 : decode cX7_is 21 = .ok (.goto 4, 3) := by decide +kernel
theorem dX7_is_24 : decode cX7_is 24 = .ok (.iconst 0, 1) := by decide +kernel
theorem dX7_is_25 : decode cX7_is 25 = .ok (.ireturn, 1) := by decide +kernel
theorem dX7_type_0 : decode cX7_type 0 = .ok (.iload_n 1, 1) := by decide +kernel
theorem dX7_type_1 : decode cX7_type 1 = .ok (.iconst 0, 1) := by decide +kernel
theorem dX7_type_2 : decode cX7_type 2 = .ok (.iconst 3, 1) := by decide +kernel
theorem dX7_type_3 : decode cX7_type 3 = .ok (.invokestatic 69, 3) := by decide +kernel
theorem dX7_type_6 : decode cX7_type 6 = .ok (.ifCond .eq 33, 3) := by decide +kernel
theorem dX7_type_9 : decode cX7_type 9 = .ok (.iload_n 2, 1) := by decide +kernel
theorem dX7_type_10 : decode cX7_type 10 = .ok (.iconst 0, 1) := by decide +kernel
theorem dX7_type_11 : decode cX7_type 11 = .ok (.bipush 15, 2) := by decide +kernel
theorem dX7_type_13 : decode cX7_type 13 = .ok (.invokestatic 69, 3) := by decide +kernel
theorem dX7_type_16 : decode cX7_type 16 = .ok (.ifCond .eq 23, 3) := by decide +kernel
theorem dX7_type_19 : decode cX7_type 19 = .ok (.iload_n 3, 1) := by decide +kernel
theorem dX7_type_20 : decode cX7_type 20 = .ok (.iconst 0, 1) := by decide +kernel
theorem dX7_type_21 : decode cX7_type 21 = .ok (.iconst 3, 1) := by decide +kernel
theorem dX7_type_22 : decode cX7_type 22 = .ok (.invokestatic 69, 3) := by decide +kernel
theorem dX7_type_25 : decode cX7_type 25 = .ok (.ifCond .eq 14, 3) := by decide +kernel
theorem dX7_type_28 : decode cX7_type 28 = .ok (.iload 4, 2) := by decide +kernel
theorem dX7_type_30 : decode cX7_type 30 = .ok (.iconst (-1), 1) := by decide +kernel
theorem dX7_type_31 : decode cX7_type 31 = .ok (.bipush 19, 2) := by decide +kernel
theorem dX7_type_33 : decode cX7_type 33 = .ok (.invokestatic 69, 3) := by decide +kernel
theorem dX7_type_36 : decode cX7_type 36 = .ok (.ifCond .ne 5, 3) := by decide +kernel
theorem dX7_type_39 : decode cX7_type 39 = .ok (.iconst (-1), 1) := by decide +kernel
theorem dX7_type_40 : decode cX7_type 40 = .ok (.ireturn, 1) := by decide +kernel
theorem dX7_type_41 : decode cX7_type 41 = .ok (.aload_n 0, 1) := by decide +kernel
theorem dX7_type_42 : decode cX7_type 42 = .ok (.getfield 65, 3) := by decide +kernel
theorem dX7_type_45 : decode cX7_type 45 = .ok (.bipush 20, 2) := by decide +kernel
theorem dX7_type_47 : decode cX7_type 47 = .ok (.if_icmp .ne 6, 3) := by decide +kernel
theorem dX7_type_50 : decode cX7_type 50 = .ok (.bipush (-2), 2) := by decide +kernel
theorem dX7_type_52 : decode cX7_type 52 = .ok (.ireturn, 1) := by decide +kernel
theorem dX7_type_53 : decode cX7_type 53 = .ok (.aload_n 0, 1) := by decide +kernel
theorem dX7_type_54 : decode cX7_type 54 = .ok (.getfield 7, 3) := by decide +kernel
theorem dX7_type_57 : decode cX7_type 57 = .ok (.aload_n 0, 1) := by decide +kernel
theorem dX7_type_58 : decode cX7_type 58 = .ok (.getfield 65, 3) := by decide +kernel
theorem dX7_type_61 : decode cX7_type 61 = .ok (.iload_n 1, 1) := by decide +kernel
theorem dX7_type_62 : decode cX7_type 62 = .ok (.iastore, 1) := by decide +kernel
theorem dX7_type_63 : decode cX7_type 63 = .ok (.aload_n 0, 1) := by decide +kernel
theorem dX7_type_64 : decode cX7_type 64 = .ok (.getfield 13, 3) := by decide +kernel
theorem dX7_type_67 : decode cX7_type 67 = .ok (.aload_n 0, 1) := by decide +kernel
theorem dX7_type_68 : decode cX7_type 68 = .ok (.getfield 65, 3) := by decide +kernel
theorem dX7_type_71 : decode cX7_type 71 = .ok (.iload_n 2, 1) := by decide +kernel
theorem dX7_type_72 : decode cX7_type 72 = .ok (.iastore, 1) := by decide +kernel
theorem dX7_type_73 : decode cX7_type 73 = .ok (.aload_n 0, 1) := by decide +kernel
theorem dX7_type_74 : decode cX7_type 74 = .ok (.getfield 16, 3) := by decide +kernel
theorem dX7_type_77 : decode cX7_type 77 = .ok (.aload_n 0, 1) := by decide +kernel
theorem dX7_type_78 : decode cX7_type 78 = .ok (.getfield 65, 3) := by decide +kernel
theorem dX7_type_81 : decode cX7_type 81 = .ok (.iload_n 3, 1) := by decide +kernel
theorem dX7_type_82 : decode cX7_type 82 = .ok (.iastore, 1) := by decide +kernel
theorem dX7_type_83 : decode cX7_type 83 = .ok (.aload_n 0, 1) := by decide +kernel
theorem dX7_type_84 : decode cX7_type 84 = .ok (.getfield 19, 3) := by decide +kernel
theorem dX7_type_87 : decode cX7_type 87 = .ok (.aload_n 0, 1) := by decide +kernel
theorem dX7_type_88 : decode cX7_type 88 = .ok (.getfield 65, 3) := by decide +kernel
theorem dX7_type_91 : decode cX7_type 91 = .ok (.iload 4, 2) := by decide +kernel
theorem dX7_type_93 : decode cX7_type 93 = .ok (.iastore, 1) := by decide +kernel
theorem dX7_type_94 : decode cX7_type 94 = .ok (.aload_n 0, 1) := by decide +kernel
theorem dX7_type_95 : decode cX7_type 95 = .ok (.dup, 1) := by decide +kernel
theorem dX7_type_96 : decode cX7_type 96 = .ok (.getfield 65, 3) := by decide +kernel
theorem dX7_type_99 : decode cX7_type 99 = .ok (.iconst 1, 1) := by decide +kernel
theorem dX7_type_100 : decode cX7_type 100 = .ok (.iadd, 1) := by decide +kernel
theorem dX7_type_101 : decode cX7_type 101 = .ok (.putfield 65, 3) := by decide +kernel
theorem dX7_type_104 : decode cX7_type 104 = .ok (.aload_n 0, 1) := by decide +kernel
theorem dX7_type_105 : decode cX7_type 105 = .ok (.iconst 0, 1) := by decide +kernel
theorem dX7_type_106 : decode cX7_type 106 = .ok (.putfield 73, 3) := by decide +kernel
theorem dX7_type_109 : decode cX7_type 109 = .ok (.aload_n 0, 1) := by decide +kernel
theorem dX7_type_110 : decode cX7_type 110 = .ok (.getfield 65, 3) := by decide +kernel
theorem dX7_type_113 : decode cX7_type 113 = .ok (.iconst 1, 1) := by decide +kernel
theorem dX7_type_114 : decode cX7_type 114 = .ok (.isub, 1) := by decide +kernel
theorem dX7_type_115 : decode cX7_type 115 = .ok (.ireturn, 1) := by decide +kernel
theorem dX7_upper_0 : decode cX7_upper 0 = .ok (.aload_n 0, 1) := by decide +kernel
theorem dX7_upper_1 : decode cX7_upper 1 = .ok (.iload_n 1, 1) := by decide +kernel
theorem dX7_upper_2 : decode cX7_upper 2 = .ok (.invokevirtual 77, 3) := by decide +kernel
theorem dX7_upper_5 : decode cX7_upper 5 = .ok (.ifCond .eq 13, 3) := by decide +kernel
theorem dX7_upper_8 : decode cX7_upper 8 = .ok (.iload_n 2, 1) := by decide +kernel
theorem dX7_upper_9 : decode cX7_upper 9 = .ok (.iconst 0, 1) := by decide +kernel
theorem dX7_upper_10 : decode cX7_upper 10 = .ok (.bipush 19, 2) := by decide +kernel
theorem dX7_upper_12 : decode cX7_upper 12 = .ok (.invokestatic 69, 3) := by decide +kernel
theorem dX7_upper_15 : decode cX7_upper 15 = .ok (.ifCond .ne 5, 3) := by decide +kernel
theorem dX7_upper_18 : decode cX7_upper 18 = .ok (.iconst (-1), 1) := by decide +kernel
theorem dX7_upper_19 : decode cX7_upper 19 = .ok (.ireturn, 1) := by decide +kernel
theorem dX7_upper_20 : decode cX7_upper 20 = .ok (.aload_n 0, 1) := by decide +kernel
theorem dX7_upper_21 : decode cX7_upper 21 = .ok (.getfield 25, 3) := by decide +kernel
theorem dX7_upper_24 : decode cX7_upper 24 = .ok (.iload_n 1, 1) := by decide +kernel
theorem dX7_upper_25 : decode cX7_upper 25 = .ok (.iaload, 1) := by decide +kernel
theorem dX7_upper_26 : decode cX7_upper 26 = .ok (.iconst 3, 1) := by decide +kernel
theorem dX7_upper_27 : decode cX7_upper 27 = .ok (.if_icmp .ne 6, 3) := by decide +kernel
theorem dX7_upper_30 : decode cX7_upper 30 = .ok (.bipush (-2), 2) := by decide +kernel
theorem dX7_upper_32 : decode cX7_upper 32 = .ok (.ireturn, 1) := by decide +kernel
theorem dX7_upper_33 : decode cX7_upper 33 = .ok (.aload_n 0, 1) := by decide +kernel
theorem dX7_upper_34 : decode cX7_upper 34 = .ok (.getfield 22, 3) := by decide +kernel
theorem dX7_upper_37 : decode cX7_upper 37 = .ok (.iconst 3, 1) := by decide +kernel
theorem dX7_upper_38 : decode cX7_upper 38 = .ok (.iload_n 1, 1) := by decide +kernel
theorem dX7_upper_39 : decode cX7_upper 39 = .ok (.imul, 1) := by decide +kernel
theorem dX7_upper_40 : decode cX7_upper 40 = .ok (.aload_n 0, 1) := by decide +kernel
theorem dX7_upper_41 : decode cX7_upper 41 = .ok (.getfield 25, 3) := by decide +kernel
theorem dX7_upper_44 : decode cX7_upper 44 = .ok (.iload_n 1, 1) := by decide +kernel
theorem dX7_upper_45 : decode cX7_upper 45 = .ok (.iaload, 1) := by decide +kernel
theorem dX7_upper_46 : decode cX7_upper 46 = .ok (.iadd, 1) := by decide +kernel
theorem dX7_upper_47 : decode cX7_upper 47 = .ok (.iload_n 2, 1) := by decide +kernel
theorem dX7_upper_48 : decode cX7_upper 48 = .ok (.iastore, 1) := by decide +kernel
theorem dX7_upper_49 : decode cX7_upper 49 = .ok (.aload_n 0, 1) := by decide +kernel
theorem dX7_upper_50 : decode cX7_upper 50 = .ok (.getfield 25, 3) := by decide +kernel
theorem dX7_upper_53 : decode cX7_upper 53 = .ok (.iload_n 1, 1) := by decide +kernel
theorem dX7_upper_54 : decode cX7_upper 54 = .ok (.dup2, 1) := by decide +kernel
theorem dX7_upper_55 : decode cX7_upper 55 = .ok (.iaload, 1) := by decide +kernel
theorem dX7_upper_56 : decode cX7_upper 56 = .ok (.iconst 1, 1) := by decide +kernel
theorem dX7_upper_57 : decode cX7_upper 57 = .ok (.iadd, 1) := by decide +kernel
theorem dX7_upper_58 : decode cX7_upper 58 = .ok (.iastore, 1) := by decide +kernel
theorem dX7_upper_59 : decode cX7_upper 59 = .ok (.aload_n 0, 1) := by decide +kernel
theorem dX7_upper_60 : decode cX7_upper 60 = .ok (.iconst 0, 1) := by decide +kernel
theorem dX7_upper_61 : decode cX7_upper 61 = .ok (.putfield 73, 3) := by decide +kernel
theorem dX7_upper_64 : decode cX7_upper 64 = .ok (.aload_n 0, 1) := by decide +kernel
theorem dX7_upper_65 : decode cX7_upper 65 = .ok (.getfield 25, 3) := by decide +kernel
theorem dX7_upper_68 : decode cX7_upper 68 = .ok (.iload_n 1, 1) := by decide +kernel
theorem dX7_upper_69 : decode cX7_upper 69 = .ok (.iaload, 1) := by decide +kernel
theorem dX7_upper_70 : decode cX7_upper 70 = .ok (.ireturn, 1) := by decide +kernel
theorem dX7_permit_0 : decode cX7_permit 0 = .ok (.aload_n 0, 1) := by decide +kernel
theorem dX7_permit_1 : decode cX7_permit 1 = .ok (.iload_n 1, 1) := by decide +kernel
theorem dX7_permit_2 : decode cX7_permit 2 = .ok (.invokevirtual 77, 3) := by decide +kernel
theorem dX7_permit_5 : decode cX7_permit 5 = .ok (.ifCond .eq 13, 3) := by decide +kernel
theorem dX7_permit_8 : decode cX7_permit 8 = .ok (.iload_n 2, 1) := by decide +kernel
theorem dX7_permit_9 : decode cX7_permit 9 = .ok (.iconst 0, 1) := by decide +kernel
theorem dX7_permit_10 : decode cX7_permit 10 = .ok (.bipush 19, 2) := by decide +kernel
theorem dX7_permit_12 : decode cX7_permit 12 = .ok (.invokestatic 69, 3) := by decide +kernel
theorem dX7_permit_15 : decode cX7_permit 15 = .ok (.ifCond .ne 5, 3) := by decide +kernel
theorem dX7_permit_18 : decode cX7_permit 18 = .ok (.iconst (-1), 1) := by decide +kernel
theorem dX7_permit_19 : decode cX7_permit 19 = .ok (.ireturn, 1) := by decide +kernel
theorem dX7_permit_20 : decode cX7_permit 20 = .ok (.aload_n 0, 1) := by decide +kernel
theorem dX7_permit_21 : decode cX7_permit 21 = .ok (.getfield 31, 3) := by decide +kernel
theorem dX7_permit_24 : decode cX7_permit 24 = .ok (.iload_n 1, 1) := by decide +kernel
theorem dX7_permit_25 : decode cX7_permit 25 = .ok (.iaload, 1) := by decide +kernel
theorem dX7_permit_26 : decode cX7_permit 26 = .ok (.iconst 3, 1) := by decide +kernel
theorem dX7_permit_27 : decode cX7_permit 27 = .ok (.if_icmp .ne 6, 3) := by decide +kernel
theorem dX7_permit_30 : decode cX7_permit 30 = .ok (.bipush (-2), 2) := by decide +kernel
theorem dX7_permit_32 : decode cX7_permit 32 = .ok (.ireturn, 1) := by decide +kernel
theorem dX7_permit_33 : decode cX7_permit 33 = .ok (.aload_n 0, 1) := by decide +kernel
theorem dX7_permit_34 : decode cX7_permit 34 = .ok (.getfield 28, 3) := by decide +kernel
theorem dX7_permit_37 : decode cX7_permit 37 = .ok (.iconst 3, 1) := by decide +kernel
theorem dX7_permit_38 : decode cX7_permit 38 = .ok (.iload_n 1, 1) := by decide +kernel
theorem dX7_permit_39 : decode cX7_permit 39 = .ok (.imul, 1) := by decide +kernel
theorem dX7_permit_40 : decode cX7_permit 40 = .ok (.aload_n 0, 1) := by decide +kernel
theorem dX7_permit_41 : decode cX7_permit 41 = .ok (.getfield 31, 3) := by decide +kernel
theorem dX7_permit_44 : decode cX7_permit 44 = .ok (.iload_n 1, 1) := by decide +kernel
theorem dX7_permit_45 : decode cX7_permit 45 = .ok (.iaload, 1) := by decide +kernel
theorem dX7_permit_46 : decode cX7_permit 46 = .ok (.iadd, 1) := by decide +kernel
theorem dX7_permit_47 : decode cX7_permit 47 = .ok (.iload_n 2, 1) := by decide +kernel
theorem dX7_permit_48 : decode cX7_permit 48 = .ok (.iastore, 1) := by decide +kernel
theorem dX7_permit_49 : decode cX7_permit 49 = .ok (.aload_n 0, 1) := by decide +kernel
theorem dX7_permit_50 : decode cX7_permit 50 = .ok (.getfield 31, 3) := by decide +kernel
theorem dX7_permit_53 : decode cX7_permit 53 = .ok (.iload_n 1, 1) := by decide +kernel
theorem dX7_permit_54 : decode cX7_permit 54 = .ok (.dup2, 1) := by decide +kernel
theorem dX7_permit_55 : decode cX7_permit 55 = .ok (.iaload, 1) := by decide +kernel
theorem dX7_permit_56 : decode cX7_permit 56 = .ok (.iconst 1, 1) := by decide +kernel
theorem dX7_permit_57 : decode cX7_permit 57 = .ok (.iadd, 1) := by decide +kernel
theorem dX7_permit_58 : decode cX7_permit 58 = .ok (.iastore, 1) := by decide +kernel
theorem dX7_permit_59 : decode cX7_permit 59 = .ok (.aload_n 0, 1) := by decide +kernel
theorem dX7_permit_60 : decode cX7_permit 60 = .ok (.getfield 31, 3) := by decide +kernel
theorem dX7_permit_63 : decode cX7_permit 63 = .ok (.iload_n 1, 1) := by decide +kernel
theorem dX7_permit_64 : decode cX7_permit 64 = .ok (.iaload, 1) := by decide +kernel
theorem dX7_permit_65 : decode cX7_permit 65 = .ok (.ireturn, 1) := by decide +kernel
theorem dX7_member_0 : decode cX7_member 0 = .ok (.aload_n 0, 1) := by decide +kernel
theorem dX7_member_1 : decode cX7_member 1 = .ok (.iload_n 1, 1) := by decide +kernel
theorem dX7_member_2 : decode cX7_member 2 = .ok (.invokevirtual 77, 3) := by decide +kernel
theorem dX7_member_5 : decode cX7_member 5 = .ok (.ifCond .eq 54, 3) := by decide +kernel
theorem dX7_member_8 : decode cX7_member 8 = .ok (.iload_n 2, 1) := by decide +kernel
theorem dX7_member_9 : decode cX7_member 9 = .ok (.iconst 0, 1) := by decide +kernel
theorem dX7_member_10 : decode cX7_member 10 = .ok (.bipush 9, 2) := by decide +kernel
theorem dX7_member_12 : decode cX7_member 12 = .ok (.invokestatic 69, 3) := by decide +kernel
theorem dX7_member_15 : decode cX7_member 15 = .ok (.ifCond .eq 44, 3) := by decide +kernel
theorem dX7_member_18 : decode cX7_member 18 = .ok (.iload_n 3, 1) := by decide +kernel
theorem dX7_member_19 : decode cX7_member 19 = .ok (.iconst 0, 1) := by decide +kernel
theorem dX7_member_20 : decode cX7_member 20 = .ok (.iconst 4, 1) := by decide +kernel
theorem dX7_member_21 : decode cX7_member 21 = .ok (.invokestatic 69, 3) := by decide +kernel
theorem dX7_member_24 : decode cX7_member 24 = .ok (.ifCond .eq 35, 3) := by decide +kernel
theorem dX7_member_27 : decode cX7_member 27 = .ok (.iload 4, 2) := by decide +kernel
theorem dX7_member_29 : decode cX7_member 29 = .ok (.iconst 0, 1) := by decide +kernel
theorem dX7_member_30 : decode cX7_member 30 = .ok (.bipush 15, 2) := by decide +kernel
theorem dX7_member_32 : decode cX7_member 32 = .ok (.invokestatic 69, 3) := by decide +kernel
theorem dX7_member_35 : decode cX7_member 35 = .ok (.ifCond .eq 24, 3) := by decide +kernel
theorem dX7_member_38 : decode cX7_member 38 = .ok (.iload 5, 2) := by decide +kernel
theorem dX7_member_40 : decode cX7_member 40 = .ok (.iconst 0, 1) := by decide +kernel
theorem dX7_member_41 : decode cX7_member 41 = .ok (.iconst 3, 1) := by decide +kernel
theorem dX7_member_42 : decode cX7_member 42 = .ok (.invokestatic 69, 3) := by decide +kernel
theorem dX7_member_45 : decode cX7_member 45 = .ok (.ifCond .eq 14, 3) := by decide +kernel
theorem dX7_member_48 : decode cX7_member 48 = .ok (.iload 6, 2) := by decide +kernel
theorem dX7_member_50 : decode cX7_member 50 = .ok (.iconst 0, 1) := by decide +kernel
theorem dX7_member_51 : decode cX7_member 51 = .ok (.bipush 29, 2) := by decide +kernel
theorem dX7_member_53 : decode cX7_member 53 = .ok (.invokestatic 69, 3) := by decide +kernel
theorem dX7_member_56 : decode cX7_member 56 = .ok (.ifCond .ne 5, 3) := by decide +kernel
theorem dX7_member_59 : decode cX7_member 59 = .ok (.iconst (-1), 1) := by decide +kernel
theorem dX7_member_60 : decode cX7_member 60 = .ok (.ireturn, 1) := by decide +kernel
theorem dX7_member_61 : decode cX7_member 61 = .ok (.aload_n 0, 1) := by decide +kernel
theorem dX7_member_62 : decode cX7_member 62 = .ok (.getfield 81, 3) := by decide +kernel
theorem dX7_member_65 : decode cX7_member 65 = .ok (.bipush 80, 2) := by decide +kernel
theorem dX7_member_67 : decode cX7_member 67 = .ok (.if_icmp .ne 6, 3) := by decide +kernel
theorem dX7_member_70 : decode cX7_member 70 = .ok (.bipush (-2), 2) := by decide +kernel
theorem dX7_member_72 : decode cX7_member 72 = .ok (.ireturn, 1) := by decide +kernel
theorem dX7_member_73 : decode cX7_member 73 = .ok (.aload_n 0, 1) := by decide +kernel
theorem dX7_member_74 : decode cX7_member 74 = .ok (.getfield 34, 3) := by decide +kernel
theorem dX7_member_77 : decode cX7_member 77 = .ok (.aload_n 0, 1) := by decide +kernel
theorem dX7_member_78 : decode cX7_member 78 = .ok (.getfield 81, 3) := by decide +kernel
theorem dX7_member_81 : decode cX7_member 81 = .ok (.iload_n 1, 1) := by decide +kernel
theorem dX7_member_82 : decode cX7_member 82 = .ok (.iastore, 1) := by decide +kernel
theorem dX7_member_83 : decode cX7_member 83 = .ok (.aload_n 0, 1) := by decide +kernel
theorem dX7_member_84 : decode cX7_member 84 = .ok (.getfield 37, 3) := by decide +kernel
theorem dX7_member_87 : decode cX7_member 87 = .ok (.aload_n 0, 1) := by decide +kernel
theorem dX7_member_88 : decode cX7_member 88 = .ok (.getfield 81, 3) := by decide +kernel
theorem dX7_member_91 : decode cX7_member 91 = .ok (.iload_n 2, 1) := by decide +kernel
theorem dX7_member_92 : decode cX7_member 92 = .ok (.iastore, 1) := by decide +kernel
theorem dX7_member_93 : decode cX7_member 93 = .ok (.aload_n 0, 1) := by decide +kernel
theorem dX7_member_94 : decode cX7_member 94 = .ok (.getfield 40, 3) := by decide +kernel
theorem dX7_member_97 : decode cX7_member 97 = .ok (.aload_n 0, 1) := by decide +kernel
theorem dX7_member_98 : decode cX7_member 98 = .ok (.getfield 81, 3) := by decide +kernel
theorem dX7_member_101 : decode cX7_member 101 = .ok (.iload_n 3, 1) := by decide +kernel
theorem dX7_member_102 : decode cX7_member 102 = .ok (.iastore, 1) := by decide +kernel
theorem dX7_member_103 : decode cX7_member 103 = .ok (.aload_n 0, 1) := by decide +kernel
theorem dX7_member_104 : decode cX7_member 104 = .ok (.getfield 43, 3) := by decide +kernel
theorem dX7_member_107 : decode cX7_member 107 = .ok (.aload_n 0, 1) := by decide +kernel
theorem dX7_member_108 : decode cX7_member 108 = .ok (.getfield 81, 3) := by decide +kernel
theorem dX7_member_111 : decode cX7_member 111 = .ok (.iload 4, 2) := by decide +kernel
theorem dX7_member_113 : decode cX7_member 113 = .ok (.iastore, 1) := by decide +kernel
theorem dX7_member_114 : decode cX7_member 114 = .ok (.aload_n 0, 1) := by decide +kernel
theorem dX7_member_115 : decode cX7_member 115 = .ok (.getfield 46, 3) := by decide +kernel
theorem dX7_member_118 : decode cX7_member 118 = .ok (.aload_n 0, 1) := by decide +kernel
theorem dX7_member_119 : decode cX7_member 119 = .ok (.getfield 81, 3) := by decide +kernel
theorem dX7_member_122 : decode cX7_member 122 = .ok (.iload 5, 2) := by decide +kernel
theorem dX7_member_124 : decode cX7_member 124 = .ok (.iastore, 1) := by decide +kernel
theorem dX7_member_125 : decode cX7_member 125 = .ok (.aload_n 0, 1) := by decide +kernel
theorem dX7_member_126 : decode cX7_member 126 = .ok (.getfield 49, 3) := by decide +kernel
theorem dX7_member_129 : decode cX7_member 129 = .ok (.aload_n 0, 1) := by decide +kernel
theorem dX7_member_130 : decode cX7_member 130 = .ok (.getfield 81, 3) := by decide +kernel
theorem dX7_member_133 : decode cX7_member 133 = .ok (.iload 6, 2) := by decide +kernel
theorem dX7_member_135 : decode cX7_member 135 = .ok (.iastore, 1) := by decide +kernel
theorem dX7_member_136 : decode cX7_member 136 = .ok (.aload_n 0, 1) := by decide +kernel
theorem dX7_member_137 : decode cX7_member 137 = .ok (.dup, 1) := by decide +kernel
theorem dX7_member_138 : decode cX7_member 138 = .ok (.getfield 81, 3) := by decide +kernel
theorem dX7_member_141 : decode cX7_member 141 = .ok (.iconst 1, 1) := by decide +kernel
theorem dX7_member_142 : decode cX7_member 142 = .ok (.iadd, 1) := by decide +kernel
theorem dX7_member_143 : decode cX7_member 143 = .ok (.putfield 81, 3) := by decide +kernel
theorem dX7_member_146 : decode cX7_member 146 = .ok (.aload_n 0, 1) := by decide +kernel
theorem dX7_member_147 : decode cX7_member 147 = .ok (.getfield 81, 3) := by decide +kernel
theorem dX7_member_150 : decode cX7_member 150 = .ok (.iconst 1, 1) := by decide +kernel
theorem dX7_member_151 : decode cX7_member 151 = .ok (.isub, 1) := by decide +kernel
theorem dX7_member_152 : decode cX7_member 152 = .ok (.ireturn, 1) := by decide +kernel
theorem dX7_know_0 : decode cX7_know 0 = .ok (.aload_n 0, 1) := by decide +kernel
theorem dX7_know_1 : decode cX7_know 1 = .ok (.getfield 73, 3) := by decide +kernel
theorem dX7_know_4 : decode cX7_know 4 = .ok (.ifCond .eq 4, 3) := by decide +kernel
theorem dX7_know_7 : decode cX7_know 7 = .ok (.return_, 1) := by decide +kernel
theorem dX7_know_8 : decode cX7_know 8 = .ok (.aload_n 0, 1) := by decide +kernel
theorem dX7_know_9 : decode cX7_know 9 = .ok (.iconst 1, 1) := by decide +kernel
theorem dX7_know_10 : decode cX7_know 10 = .ok (.putfield 73, 3) := by decide +kernel
theorem dX7_know_13 : decode cX7_know 13 = .ok (.iconst 0, 1) := by decide +kernel
theorem dX7_know_14 : decode cX7_know 14 = .ok (.istore_n 1, 1) := by decide +kernel
theorem dX7_know_15 : decode cX7_know 15 = .ok (.iload_n 1, 1) := by decide +kernel
theorem dX7_know_16 : decode cX7_know 16 = .ok (.sipush 400, 3) := by decide +kernel
theorem dX7_know_19 : decode cX7_know 19 = .ok (.if_icmp .ge 16, 3) := by decide +kernel
theorem dX7_know_22 : decode cX7_know 22 = .ok (.aload_n 0, 1) := by decide +kernel
theorem dX7_know_23 : decode cX7_know 23 = .ok (.getfield 52, 3) := by decide +kernel
theorem dX7_know_26 : decode cX7_know 26 = .ok (.iload_n 1, 1) := by decide +kernel
theorem dX7_know_27 : decode cX7_know 27 = .ok (.iconst 0, 1) := by decide +kernel
theorem dX7_know_28 : decode cX7_know 28 = .ok (.bastore, 1) := by decide +kernel
theorem dX7_know_29 : decode cX7_know 29 = .ok (.iinc 1 1, 3) := by decide +kernel
theorem dX7_know_32 : decode cX7_know 32 = .ok (.goto (-17), 3) := by decide +kernel
theorem dX7_know_35 : decode cX7_know 35 = .ok (.iconst 0, 1) := by decide +kernel
theorem dX7_know_36 : decode cX7_know 36 = .ok (.istore_n 1, 1) := by decide +kernel
theorem dX7_know_37 : decode cX7_know 37 = .ok (.iload_n 1, 1) := by decide +kernel
theorem dX7_know_38 : decode cX7_know 38 = .ok (.aload_n 0, 1) := by decide +kernel
theorem dX7_know_39 : decode cX7_know 39 = .ok (.getfield 65, 3) := by decide +kernel
theorem dX7_know_42 : decode cX7_know 42 = .ok (.if_icmp .ge 95, 3) := by decide +kernel
theorem dX7_know_45 : decode cX7_know 45 = .ok (.aload_n 0, 1) := by decide +kernel
theorem dX7_know_46 : decode cX7_know 46 = .ok (.aload_n 0, 1) := by decide +kernel
theorem dX7_know_47 : decode cX7_know 47 = .ok (.getfield 19, 3) := by decide +kernel
theorem dX7_know_50 : decode cX7_know 50 = .ok (.iload_n 1, 1) := by decide +kernel
theorem dX7_know_51 : decode cX7_know 51 = .ok (.iaload, 1) := by decide +kernel
theorem dX7_know_52 : decode cX7_know 52 = .ok (.invokevirtual 77, 3) := by decide +kernel
theorem dX7_know_55 : decode cX7_know 55 = .ok (.ifCond .eq 20, 3) := by decide +kernel
theorem dX7_know_58 : decode cX7_know 58 = .ok (.aload_n 0, 1) := by decide +kernel
theorem dX7_know_59 : decode cX7_know 59 = .ok (.getfield 52, 3) := by decide +kernel
theorem dX7_know_62 : decode cX7_know 62 = .ok (.bipush 20, 2) := by decide +kernel
theorem dX7_know_64 : decode cX7_know 64 = .ok (.iload_n 1, 1) := by decide +kernel
theorem dX7_know_65 : decode cX7_know 65 = .ok (.imul, 1) := by decide +kernel
theorem dX7_know_66 : decode cX7_know 66 = .ok (.aload_n 0, 1) := by decide +kernel
theorem dX7_know_67 : decode cX7_know 67 = .ok (.getfield 19, 3) := by decide +kernel
theorem dX7_know_70 : decode cX7_know 70 = .ok (.iload_n 1, 1) := by decide +kernel
theorem dX7_know_71 : decode cX7_know 71 = .ok (.iaload, 1) := by decide +kernel
theorem dX7_know_72 : decode cX7_know 72 = .ok (.iadd, 1) := by decide +kernel
theorem dX7_know_73 : decode cX7_know 73 = .ok (.iconst 1, 1) := by decide +kernel
theorem dX7_know_74 : decode cX7_know 74 = .ok (.bastore, 1) := by decide +kernel
theorem dX7_know_75 : decode cX7_know 75 = .ok (.iconst 0, 1) := by decide +kernel
theorem dX7_know_76 : decode cX7_know 76 = .ok (.istore_n 2, 1) := by decide +kernel
theorem dX7_know_77 : decode cX7_know 77 = .ok (.iload_n 2, 1) := by decide +kernel
theorem dX7_know_78 : decode cX7_know 78 = .ok (.aload_n 0, 1) := by decide +kernel
theorem dX7_know_79 : decode cX7_know 79 = .ok (.getfield 25, 3) := by decide +kernel
theorem dX7_know_82 : decode cX7_know 82 = .ok (.iload_n 1, 1) := by decide +kernel
theorem dX7_know_83 : decode cX7_know 83 = .ok (.iaload, 1) := by decide +kernel
theorem dX7_know_84 : decode cX7_know 84 = .ok (.if_icmp .ge 47, 3) := by decide +kernel
theorem dX7_know_87 : decode cX7_know 87 = .ok (.aload_n 0, 1) := by decide +kernel
theorem dX7_know_88 : decode cX7_know 88 = .ok (.aload_n 0, 1) := by decide +kernel
theorem dX7_know_89 : decode cX7_know 89 = .ok (.getfield 22, 3) := by decide +kernel
theorem dX7_know_92 : decode cX7_know 92 = .ok (.iconst 3, 1) := by decide +kernel
theorem dX7_know_93 : decode cX7_know 93 = .ok (.iload_n 1, 1) := by decide +kernel
theorem dX7_know_94 : decode cX7_know 94 = .ok (.imul, 1) := by decide +kernel
theorem dX7_know_95 : decode cX7_know 95 = .ok (.iload_n 2, 1) := by decide +kernel
theorem dX7_know_96 : decode cX7_know 96 = .ok (.iadd, 1) := by decide +kernel
theorem dX7_know_97 : decode cX7_know 97 = .ok (.iaload, 1) := by decide +kernel
theorem dX7_know_98 : decode cX7_know 98 = .ok (.invokevirtual 77, 3) := by decide +kernel
theorem dX7_know_101 : decode cX7_know 101 = .ok (.ifCond .eq 24, 3) := by decide +kernel
theorem dX7_know_104 : decode cX7_know 104 = .ok (.aload_n 0, 1) := by decide +kernel
theorem dX7_know_105 : decode cX7_know 105 = .ok (.getfield 52, 3) := by decide +kernel
theorem dX7_know_108 : decode cX7_know 108 = .ok (.bipush 20, 2) := by decide +kernel
theorem dX7_know_110 : decode cX7_know 110 = .ok (.iload_n 1, 1) := by decide +kernel
theorem dX7_know_111 : decode cX7_know 111 = .ok (.imul, 1) := by decide +kernel
theorem dX7_know_112 : decode cX7_know 112 = .ok (.aload_n 0, 1) := by decide +kernel
theorem dX7_know_113 : decode cX7_know 113 = .ok (.getfield 22, 3) := by decide +kernel
theorem dX7_know_116 : decode cX7_know 116 = .ok (.iconst 3, 1) := by decide +kernel
theorem dX7_know_117 : decode cX7_know 117 = .ok (.iload_n 1, 1) := by decide +kernel
theorem dX7_know_118 : decode cX7_know 118 = .ok (.imul, 1) := by decide +kernel
theorem dX7_know_119 : decode cX7_know 119 = .ok (.iload_n 2, 1) := by decide +kernel
theorem dX7_know_120 : decode cX7_know 120 = .ok (.iadd, 1) := by decide +kernel
theorem dX7_know_121 : decode cX7_know 121 = .ok (.iaload, 1) := by decide +kernel
theorem dX7_know_122 : decode cX7_know 122 = .ok (.iadd, 1) := by decide +kernel
theorem dX7_know_123 : decode cX7_know 123 = .ok (.iconst 1, 1) := by decide +kernel
theorem dX7_know_124 : decode cX7_know 124 = .ok (.bastore, 1) := by decide +kernel
theorem dX7_know_125 : decode cX7_know 125 = .ok (.iinc 2 1, 3) := by decide +kernel
theorem dX7_know_128 : decode cX7_know 128 = .ok (.goto (-51), 3) := by decide +kernel
theorem dX7_know_131 : decode cX7_know 131 = .ok (.iinc 1 1, 3) := by decide +kernel
theorem dX7_know_134 : decode cX7_know 134 = .ok (.goto (-97), 3) := by decide +kernel
theorem dX7_know_137 : decode cX7_know 137 = .ok (.iconst 0, 1) := by decide +kernel
theorem dX7_know_138 : decode cX7_know 138 = .ok (.istore_n 1, 1) := by decide +kernel
theorem dX7_know_139 : decode cX7_know 139 = .ok (.iload_n 1, 1) := by decide +kernel
theorem dX7_know_140 : decode cX7_know 140 = .ok (.aload_n 0, 1) := by decide +kernel
theorem dX7_know_141 : decode cX7_know 141 = .ok (.getfield 65, 3) := by decide +kernel
theorem dX7_know_144 : decode cX7_know 144 = .ok (.if_icmp .ge 99, 3) := by decide +kernel
theorem dX7_know_147 : decode cX7_know 147 = .ok (.iconst 0, 1) := by decide +kernel
theorem dX7_know_148 : decode cX7_know 148 = .ok (.istore_n 2, 1) := by decide +kernel
theorem dX7_know_149 : decode cX7_know 149 = .ok (.iload_n 2, 1) := by decide +kernel
theorem dX7_know_150 : decode cX7_know 150 = .ok (.aload_n 0, 1) := by decide +kernel
theorem dX7_know_151 : decode cX7_know 151 = .ok (.getfield 65, 3) := by decide +kernel
theorem dX7_know_154 : decode cX7_know 154 = .ok (.if_icmp .ge 83, 3) := by decide +kernel
theorem dX7_know_157 : decode cX7_know 157 = .ok (.iconst 0, 1) := by decide +kernel
theorem dX7_know_158 : decode cX7_know 158 = .ok (.istore_n 3, 1) := by decide +kernel
theorem dX7_know_159 : decode cX7_know 159 = .ok (.iload_n 3, 1) := by decide +kernel
theorem dX7_know_160 : decode cX7_know 160 = .ok (.aload_n 0, 1) := by decide +kernel
theorem dX7_know_161 : decode cX7_know 161 = .ok (.getfield 65, 3) := by decide +kernel
theorem dX7_know_164 : decode cX7_know 164 = .ok (.if_icmp .ge 67, 3) := by decide +kernel
theorem dX7_know_167 : decode cX7_know 167 = .ok (.aload_n 0, 1) := by decide +kernel
theorem dX7_know_168 : decode cX7_know 168 = .ok (.getfield 52, 3) := by decide +kernel
theorem dX7_know_171 : decode cX7_know 171 = .ok (.bipush 20, 2) := by decide +kernel
theorem dX7_know_173 : decode cX7_know 173 = .ok (.iload_n 2, 1) := by decide +kernel
theorem dX7_know_174 : decode cX7_know 174 = .ok (.imul, 1) := by decide +kernel
theorem dX7_know_175 : decode cX7_know 175 = .ok (.iload_n 1, 1) := by decide +kernel
theorem dX7_know_176 : decode cX7_know 176 = .ok (.iadd, 1) := by decide +kernel
theorem dX7_know_177 : decode cX7_know 177 = .ok (.baload, 1) := by decide +kernel
theorem dX7_know_178 : decode cX7_know 178 = .ok (.ifCond .eq 53, 3) := by decide +kernel
theorem dX7_know_181 : decode cX7_know 181 = .ok (.aload_n 0, 1) := by decide +kernel
theorem dX7_know_182 : decode cX7_know 182 = .ok (.getfield 52, 3) := by decide +kernel
theorem dX7_know_185 : decode cX7_know 185 = .ok (.bipush 20, 2) := by decide +kernel
theorem dX7_know_187 : decode cX7_know 187 = .ok (.iload_n 2, 1) := by decide +kernel
theorem dX7_know_188 : decode cX7_know 188 = .ok (.imul, 1) := by decide +kernel
theorem dX7_know_189 : decode cX7_know 189 = .ok (.iload_n 3, 1) := by decide +kernel
theorem dX7_know_190 : decode cX7_know 190 = .ok (.iadd, 1) := by decide +kernel
theorem dX7_know_191 : decode cX7_know 191 = .ok (.aload_n 0, 1) := by decide +kernel
theorem dX7_know_192 : decode cX7_know 192 = .ok (.getfield 52, 3) := by decide +kernel
theorem dX7_know_195 : decode cX7_know 195 = .ok (.bipush 20, 2) := by decide +kernel
theorem dX7_know_197 : decode cX7_know 197 = .ok (.iload_n 2, 1) := by decide +kernel
theorem dX7_know_198 : decode cX7_know 198 = .ok (.imul, 1) := by decide +kernel
theorem dX7_know_199 : decode cX7_know 199 = .ok (.iload_n 3, 1) := by decide +kernel
theorem dX7_know_200 : decode cX7_know 200 = .ok (.iadd, 1) := by decide +kernel
theorem dX7_know_201 : decode cX7_know 201 = .ok (.baload, 1) := by decide +kernel
theorem dX7_know_202 : decode cX7_know 202 = .ok (.ifCond .ne 17, 3) := by decide +kernel
theorem dX7_know_205 : decode cX7_know 205 = .ok (.aload_n 0, 1) := by decide +kernel
theorem dX7_know_206 : decode cX7_know 206 = .ok (.getfield 52, 3) := by decide +kernel
theorem dX7_know_209 : decode cX7_know 209 = .ok (.bipush 20, 2) := by decide +kernel
theorem dX7_know_211 : decode cX7_know 211 = .ok (.iload_n 1, 1) := by decide +kernel
theorem dX7_know_212 : decode cX7_know 212 = .ok (.imul, 1) := by decide +kernel
theorem dX7_know_213 : decode cX7_know 213 = .ok (.iload_n 3, 1) := by decide +kernel
theorem dX7_know_214 : decode cX7_know 214 = .ok (.iadd, 1) := by decide +kernel
theorem dX7_know_215 : decode cX7_know 215 = .ok (.baload, 1) := by decide +kernel
theorem dX7_know_216 : decode cX7_know 216 = .ok (.ifCond .eq 7, 3) := by decide +kernel
theorem dX7_know_219 : decode cX7_know 219 = .ok (.iconst 1, 1) := by decide +kernel
theorem dX7_know_220 : decode cX7_know 220 = .ok (.goto 4, 3) := by decide +kernel
theorem dX7_know_223 : decode cX7_know 223 = .ok (.iconst 0, 1) := by decide +kernel
theorem dX7_know_224 : decode cX7_know 224 = .ok (.bastore, 1) := by decide +kernel
theorem dX7_know_225 : decode cX7_know 225 = .ok (.iinc 3 1, 3) := by decide +kernel
theorem dX7_know_228 : decode cX7_know 228 = .ok (.goto (-69), 3) := by decide +kernel
theorem dX7_know_231 : decode cX7_know 231 = .ok (.iinc 2 1, 3) := by decide +kernel
theorem dX7_know_234 : decode cX7_know 234 = .ok (.goto (-85), 3) := by decide +kernel
theorem dX7_know_237 : decode cX7_know 237 = .ok (.iinc 1 1, 3) := by decide +kernel
theorem dX7_know_240 : decode cX7_know 240 = .ok (.goto (-101), 3) := by decide +kernel
theorem dX7_know_243 : decode cX7_know 243 = .ok (.return_, 1) := by decide +kernel
theorem dX7_isOf_0 : decode cX7_isOf 0 = .ok (.aload_n 0, 1) := by decide +kernel
theorem dX7_isOf_1 : decode cX7_isOf 1 = .ok (.invokevirtual 84, 3) := by decide +kernel
theorem dX7_isOf_4 : decode cX7_isOf 4 = .ok (.iload_n 1, 1) := by decide +kernel
theorem dX7_isOf_5 : decode cX7_isOf 5 = .ok (.iload_n 2, 1) := by decide +kernel
theorem dX7_isOf_6 : decode cX7_isOf 6 = .ok (.if_icmp .eq 17, 3) := by decide +kernel
theorem dX7_isOf_9 : decode cX7_isOf 9 = .ok (.aload_n 0, 1) := by decide +kernel
theorem dX7_isOf_10 : decode cX7_isOf 10 = .ok (.getfield 52, 3) := by decide +kernel
theorem dX7_isOf_13 : decode cX7_isOf 13 = .ok (.bipush 20, 2) := by decide +kernel
theorem dX7_isOf_15 : decode cX7_isOf 15 = .ok (.iload_n 1, 1) := by decide +kernel
theorem dX7_isOf_16 : decode cX7_isOf 16 = .ok (.imul, 1) := by decide +kernel
theorem dX7_isOf_17 : decode cX7_isOf 17 = .ok (.iload_n 2, 1) := by decide +kernel
theorem dX7_isOf_18 : decode cX7_isOf 18 = .ok (.iadd, 1) := by decide +kernel
theorem dX7_isOf_19 : decode cX7_isOf 19 = .ok (.baload, 1) := by decide +kernel
theorem dX7_isOf_20 : decode cX7_isOf 20 = .ok (.ifCond .eq 7, 3) := by decide +kernel
theorem dX7_isOf_23 : decode cX7_isOf 23 = .ok (.iconst 1, 1) := by decide +kernel
theorem dX7_isOf_24 : decode cX7_isOf 24 = .ok (.goto 4, 3) := by decide +kernel
theorem dX7_isOf_27 : decode cX7_isOf 27 = .ok (.iconst 0, 1) := by decide +kernel
theorem dX7_isOf_28 : decode cX7_isOf 28 = .ok (.ireturn, 1) := by decide +kernel
theorem dX7_areLike_0 : decode cX7_areLike 0 = .ok (.aload_n 0, 1) := by decide +kernel
theorem dX7_areLike_1 : decode cX7_areLike 1 = .ok (.getfield 37, 3) := by decide +kernel
theorem dX7_areLike_4 : decode cX7_areLike 4 = .ok (.iload_n 1, 1) := by decide +kernel
theorem dX7_areLike_5 : decode cX7_areLike 5 = .ok (.iaload, 1) := by decide +kernel
theorem dX7_areLike_6 : decode cX7_areLike 6 = .ok (.aload_n 0, 1) := by decide +kernel
theorem dX7_areLike_7 : decode cX7_areLike 7 = .ok (.getfield 37, 3) := by decide +kernel
theorem dX7_areLike_10 : decode cX7_areLike 10 = .ok (.iload_n 2, 1) := by decide +kernel
theorem dX7_areLike_11 : decode cX7_areLike 11 = .ok (.iaload, 1) := by decide +kernel
theorem dX7_areLike_12 : decode cX7_areLike 12 = .ok (.if_icmp .ne 22, 3) := by decide +kernel
theorem dX7_areLike_15 : decode cX7_areLike 15 = .ok (.aload_n 0, 1) := by decide +kernel
theorem dX7_areLike_16 : decode cX7_areLike 16 = .ok (.getfield 40, 3) := by decide +kernel
theorem dX7_areLike_19 : decode cX7_areLike 19 = .ok (.iload_n 1, 1) := by decide +kernel
theorem dX7_areLike_20 : decode cX7_areLike 20 = .ok (.iaload, 1) := by decide +kernel
theorem dX7_areLike_21 : decode cX7_areLike 21 = .ok (.aload_n 0, 1) := by decide +kernel
theorem dX7_areLike_22 : decode cX7_areLike 22 = .ok (.getfield 40, 3) := by decide +kernel
theorem dX7_areLike_25 : decode cX7_areLike 25 = .ok (.iload_n 2, 1) := by decide +kernel
theorem dX7_areLike_26 : decode cX7_areLike 26 = .ok (.iaload, 1) := by decide +kernel
theorem dX7_areLike_27 : decode cX7_areLike 27 = .ok (.if_icmp .ne 7, 3) := by decide +kernel
theorem dX7_areLike_30 : decode cX7_areLike 30 = .ok (.iconst 1, 1) := by decide +kernel
theorem dX7_areLike_31 : decode cX7_areLike 31 = .ok (.goto 4, 3) := by decide +kernel
theorem dX7_areLike_34 : decode cX7_areLike 34 = .ok (.iconst 0, 1) := by decide +kernel
theorem dX7_areLike_35 : decode cX7_areLike 35 = .ok (.ireturn, 1) := by decide +kernel
theorem dX7_isShared_0 : decode cX7_isShared 0 = .ok (.aload_n 0, 1) := by decide +kernel
theorem dX7_isShared_1 : decode cX7_isShared 1 = .ok (.invokevirtual 84, 3) := by decide +kernel
theorem dX7_isShared_4 : decode cX7_isShared 4 = .ok (.aload_n 0, 1) := by decide +kernel
theorem dX7_isShared_5 : decode cX7_isShared 5 = .ok (.getfield 46, 3) := by decide +kernel
theorem dX7_isShared_8 : decode cX7_isShared 8 = .ok (.iload_n 1, 1) := by decide +kernel
theorem dX7_isShared_9 : decode cX7_isShared 9 = .ok (.iaload, 1) := by decide +kernel
theorem dX7_isShared_10 : decode cX7_isShared 10 = .ok (.iconst 1, 1) := by decide +kernel
theorem dX7_isShared_11 : decode cX7_isShared 11 = .ok (.if_icmp .gt 33, 3) := by decide +kernel
theorem dX7_isShared_14 : decode cX7_isShared 14 = .ok (.aload_n 0, 1) := by decide +kernel
theorem dX7_isShared_15 : decode cX7_isShared 15 = .ok (.getfield 46, 3) := by decide +kernel
theorem dX7_isShared_18 : decode cX7_isShared 18 = .ok (.iload_n 1, 1) := by decide +kernel
theorem dX7_isShared_19 : decode cX7_isShared 19 = .ok (.iaload, 1) := by decide +kernel
theorem dX7_isShared_20 : decode cX7_isShared 20 = .ok (.iconst 1, 1) := by decide +kernel
theorem dX7_isShared_21 : decode cX7_isShared 21 = .ok (.if_icmp .ne 27, 3) := by decide +kernel
theorem dX7_isShared_24 : decode cX7_isShared 24 = .ok (.aload_n 0, 1) := by decide +kernel
theorem dX7_isShared_25 : decode cX7_isShared 25 = .ok (.getfield 16, 3) := by decide +kernel
theorem dX7_isShared_28 : decode cX7_isShared 28 = .ok (.aload_n 0, 1) := by decide +kernel
theorem dX7_isShared_29 : decode cX7_isShared 29 = .ok (.getfield 34, 3) := by decide +kernel
theorem dX7_isShared_32 : decode cX7_isShared 32 = .ok (.iload_n 1, 1) := by decide +kernel
theorem dX7_isShared_33 : decode cX7_isShared 33 = .ok (.iaload, 1) := by decide +kernel
theorem dX7_isShared_34 : decode cX7_isShared 34 = .ok (.iaload, 1) := by decide +kernel
theorem dX7_isShared_35 : decode cX7_isShared 35 = .ok (.aload_n 0, 1) := by decide +kernel
theorem dX7_isShared_36 : decode cX7_isShared 36 = .ok (.getfield 16, 3) := by decide +kernel
theorem dX7_isShared_39 : decode cX7_isShared 39 = .ok (.iload_n 2, 1) := by decide +kernel
theorem dX7_isShared_40 : decode cX7_isShared 40 = .ok (.iaload, 1) := by decide +kernel
theorem dX7_isShared_41 : decode cX7_isShared 41 = .ok (.if_icmp .ne 7, 3) := by decide +kernel
theorem dX7_isShared_44 : decode cX7_isShared 44 = .ok (.iconst 1, 1) := by decide +kernel
theorem dX7_isShared_45 : decode cX7_isShared 45 = .ok (.goto 4, 3) := by decide +kernel
theorem dX7_isShared_48 : decode cX7_isShared 48 = .ok (.iconst 0, 1) := by decide +kernel
theorem dX7_isShared_49 : decode cX7_isShared 49 = .ok (.istore_n 3, 1) := by decide +kernel
theorem dX7_isShared_50 : decode cX7_isShared 50 = .ok (.aload_n 0, 1) := by decide +kernel
theorem dX7_isShared_51 : decode cX7_isShared 51 = .ok (.getfield 52, 3) := by decide +kernel
theorem dX7_isShared_54 : decode cX7_isShared 54 = .ok (.bipush 20, 2) := by decide +kernel
theorem dX7_isShared_56 : decode cX7_isShared 56 = .ok (.iload_n 2, 1) := by decide +kernel
theorem dX7_isShared_57 : decode cX7_isShared 57 = .ok (.imul, 1) := by decide +kernel
theorem dX7_isShared_58 : decode cX7_isShared 58 = .ok (.aload_n 0, 1) := by decide +kernel
theorem dX7_isShared_59 : decode cX7_isShared 59 = .ok (.getfield 34, 3) := by decide +kernel
theorem dX7_isShared_62 : decode cX7_isShared 62 = .ok (.iload_n 1, 1) := by decide +kernel
theorem dX7_isShared_63 : decode cX7_isShared 63 = .ok (.iaload, 1) := by decide +kernel
theorem dX7_isShared_64 : decode cX7_isShared 64 = .ok (.iadd, 1) := by decide +kernel
theorem dX7_isShared_65 : decode cX7_isShared 65 = .ok (.baload, 1) := by decide +kernel
theorem dX7_isShared_66 : decode cX7_isShared 66 = .ok (.ifCond .eq 36, 3) := by decide +kernel
theorem dX7_isShared_69 : decode cX7_isShared 69 = .ok (.iload_n 3, 1) := by decide +kernel
theorem dX7_isShared_70 : decode cX7_isShared 70 = .ok (.ifCond .eq 32, 3) := by decide +kernel
theorem dX7_isShared_73 : decode cX7_isShared 73 = .ok (.aload_n 0, 1) := by decide +kernel
theorem dX7_isShared_74 : decode cX7_isShared 74 = .ok (.iload_n 1, 1) := by decide +kernel
theorem dX7_isShared_75 : decode cX7_isShared 75 = .ok (.iconst 1, 1) := by decide +kernel
theorem dX7_isShared_76 : decode cX7_isShared 76 = .ok (.iconst 4, 1) := by decide +kernel
theorem dX7_isShared_77 : decode cX7_isShared 77 = .ok (.invokevirtual 87, 3) := by decide +kernel
theorem dX7_isShared_80 : decode cX7_isShared 80 = .ok (.ifCond .eq 18, 3) := by decide +kernel
theorem dX7_isShared_83 : decode cX7_isShared 83 = .ok (.aload_n 0, 1) := by decide +kernel
theorem dX7_isShared_84 : decode cX7_isShared 84 = .ok (.getfield 7, 3) := by decide +kernel
theorem dX7_isShared_87 : decode cX7_isShared 87 = .ok (.aload_n 0, 1) := by decide +kernel
theorem dX7_isShared_88 : decode cX7_isShared 88 = .ok (.getfield 34, 3) := by decide +kernel
theorem dX7_isShared_91 : decode cX7_isShared 91 = .ok (.iload_n 1, 1) := by decide +kernel
theorem dX7_isShared_92 : decode cX7_isShared 92 = .ok (.iaload, 1) := by decide +kernel
theorem dX7_isShared_93 : decode cX7_isShared 93 = .ok (.iaload, 1) := by decide +kernel
theorem dX7_isShared_94 : decode cX7_isShared 94 = .ok (.iconst 1, 1) := by decide +kernel
theorem dX7_isShared_95 : decode cX7_isShared 95 = .ok (.if_icmp .eq 7, 3) := by decide +kernel
theorem dX7_isShared_98 : decode cX7_isShared 98 = .ok (.iconst 1, 1) := by decide +kernel
theorem dX7_isShared_99 : decode cX7_isShared 99 = .ok (.goto 4, 3) := by decide +kernel
theorem dX7_isShared_102 : decode cX7_isShared 102 = .ok (.iconst 0, 1) := by decide +kernel
theorem dX7_isShared_103 : decode cX7_isShared 103 = .ok (.ireturn, 1) := by decide +kernel
theorem dX7_mark_0 : decode cX7_mark 0 = .ok (.aload_n 0, 1) := by decide +kernel
theorem dX7_mark_1 : decode cX7_mark 1 = .ok (.getfield 56, 3) := by decide +kernel
theorem dX7_mark_4 : decode cX7_mark 4 = .ok (.bipush 80, 2) := by decide +kernel
theorem dX7_mark_6 : decode cX7_mark 6 = .ok (.iload_n 1, 1) := by decide +kernel
theorem dX7_mark_7 : decode cX7_mark 7 = .ok (.imul, 1) := by decide +kernel
theorem dX7_mark_8 : decode cX7_mark 8 = .ok (.iload_n 2, 1) := by decide +kernel
theorem dX7_mark_9 : decode cX7_mark 9 = .ok (.iadd, 1) := by decide +kernel
theorem dX7_mark_10 : decode cX7_mark 10 = .ok (.aload_n 0, 1) := by decide +kernel
theorem dX7_mark_11 : decode cX7_mark 11 = .ok (.getfield 56, 3) := by decide +kernel
theorem dX7_mark_14 : decode cX7_mark 14 = .ok (.bipush 80, 2) := by decide +kernel
theorem dX7_mark_16 : decode cX7_mark 16 = .ok (.iload_n 1, 1) := by decide +kernel
theorem dX7_mark_17 : decode cX7_mark 17 = .ok (.imul, 1) := by decide +kernel
theorem dX7_mark_18 : decode cX7_mark 18 = .ok (.iload_n 2, 1) := by decide +kernel
theorem dX7_mark_19 : decode cX7_mark 19 = .ok (.iadd, 1) := by decide +kernel
theorem dX7_mark_20 : decode cX7_mark 20 = .ok (.baload, 1) := by decide +kernel
theorem dX7_mark_21 : decode cX7_mark 21 = .ok (.ifCond .ne 7, 3) := by decide +kernel
theorem dX7_mark_24 : decode cX7_mark 24 = .ok (.iload_n 3, 1) := by decide +kernel
theorem dX7_mark_25 : decode cX7_mark 25 = .ok (.ifCond .eq 7, 3) := by decide +kernel
theorem dX7_mark_28 : decode cX7_mark 28 = .ok (.iconst 1, 1) := by decide +kernel
theorem dX7_mark_29 : decode cX7_mark 29 = .ok (.goto 4, 3) := by decide +kernel
theorem dX7_mark_32 : decode cX7_mark 32 = .ok (.iconst 0, 1) := by decide +kernel
theorem dX7_mark_33 : decode cX7_mark 33 = .ok (.bastore, 1) := by decide +kernel
theorem dX7_mark_34 : decode cX7_mark 34 = .ok (.return_, 1) := by decide +kernel
theorem dX7_firstFaults_0 : decode cX7_firstFaults 0 = .ok (.aload_n 0, 1) := by decide +kernel
theorem dX7_firstFaults_1 : decode cX7_firstFaults 1 = .ok (.invokevirtual 84, 3) := by decide +kernel
theorem dX7_firstFaults_4 : decode cX7_firstFaults 4 = .ok (.iconst 0, 1) := by decide +kernel
theorem dX7_firstFaults_5 : decode cX7_firstFaults 5 = .ok (.istore_n 2, 1) := by decide +kernel
theorem dX7_firstFaults_6 : decode cX7_firstFaults 6 = .ok (.iload_n 2, 1) := by decide +kernel
theorem dX7_firstFaults_7 : decode cX7_firstFaults 7 = .ok (.sipush 1600, 3) := by decide +kernel
theorem dX7_firstFaults_10 : decode cX7_firstFaults 10 = .ok (.if_icmp .ge 16, 3) := by decide +kernel
theorem dX7_firstFaults_13 : decode cX7_firstFaults 13 = .ok (.aload_n 0, 1) := by decide +kernel
theorem dX7_firstFaults_14 : decode cX7_firstFaults 14 = .ok (.getfield 56, 3) := by decide +kernel
theorem dX7_firstFaults_17 : decode cX7_firstFaults 17 = .ok (.iload_n 2, 1) := by decide +kernel
theorem dX7_firstFaults_18 : decode cX7_firstFaults 18 = .ok (.iconst 0, 1) := by decide +kernel
theorem dX7_firstFaults_19 : decode cX7_firstFaults 19 = .ok (.bastore, 1) := by decide +kernel
theorem dX7_firstFaults_20 : decode cX7_firstFaults 20 = .ok (.iinc 2 1, 3) := by decide +kernel
theorem dX7_firstFaults_23 : decode cX7_firstFaults 23 = .ok (.goto (-17), 3) := by decide +kernel
theorem dX7_firstFaults_26 : decode cX7_firstFaults 26 = .ok (.aload_n 0, 1) := by decide +kernel
theorem dX7_firstFaults_27 : decode cX7_firstFaults 27 = .ok (.getfield 19, 3) := by decide +kernel
theorem dX7_firstFaults_30 : decode cX7_firstFaults 30 = .ok (.iload_n 1, 1) := by decide +kernel
theorem dX7_firstFaults_31 : decode cX7_firstFaults 31 = .ok (.iaload, 1) := by decide +kernel
theorem dX7_firstFaults_32 : decode cX7_firstFaults 32 = .ok (.istore_n 2, 1) := by decide +kernel
theorem dX7_firstFaults_33 : decode cX7_firstFaults 33 = .ok (.iload_n 2, 1) := by decide +kernel
theorem dX7_firstFaults_34 : decode cX7_firstFaults 34 = .ok (.ifCond .lt 59, 3) := by decide +kernel
theorem dX7_firstFaults_37 : decode cX7_firstFaults 37 = .ok (.aload_n 0, 1) := by decide +kernel
theorem dX7_firstFaults_38 : decode cX7_firstFaults 38 = .ok (.iconst 1, 1) := by decide +kernel
theorem dX7_firstFaults_39 : decode cX7_firstFaults 39 = .ok (.iload_n 2, 1) := by decide +kernel
theorem dX7_firstFaults_40 : decode cX7_firstFaults 40 = .ok (.iload_n 2, 1) := by decide +kernel
theorem dX7_firstFaults_41 : decode cX7_firstFaults 41 = .ok (.aload_n 0, 1) := by decide +kernel
theorem dX7_firstFaults_42 : decode cX7_firstFaults 42 = .ok (.getfield 65, 3) := by decide +kernel
theorem dX7_firstFaults_45 : decode cX7_firstFaults 45 = .ok (.if_icmp .lt 7, 3) := by decide +kernel
theorem dX7_firstFaults_48 : decode cX7_firstFaults 48 = .ok (.iconst 1, 1) := by decide +kernel
theorem dX7_firstFaults_49 : decode cX7_firstFaults 49 = .ok (.goto 4, 3) := by decide +kernel
theorem dX7_firstFaults_52 : decode cX7_firstFaults 52 = .ok (.iconst 0, 1) := by decide +kernel
theorem dX7_firstFaults_53 : decode cX7_firstFaults 53 = .ok (.invokevirtual 91, 3) := by decide +kernel
theorem dX7_firstFaults_56 : decode cX7_firstFaults 56 = .ok (.aload_n 0, 1) := by decide +kernel
theorem dX7_firstFaults_57 : decode cX7_firstFaults 57 = .ok (.iconst 3, 1) := by decide +kernel
theorem dX7_firstFaults_58 : decode cX7_firstFaults 58 = .ok (.iload_n 2, 1) := by decide +kernel
theorem dX7_firstFaults_59 : decode cX7_firstFaults 59 = .ok (.aload_n 0, 1) := by decide +kernel
theorem dX7_firstFaults_60 : decode cX7_firstFaults 60 = .ok (.getfield 7, 3) := by decide +kernel
theorem dX7_firstFaults_63 : decode cX7_firstFaults 63 = .ok (.iload_n 1, 1) := by decide +kernel
theorem dX7_firstFaults_64 : decode cX7_firstFaults 64 = .ok (.iaload, 1) := by decide +kernel
theorem dX7_firstFaults_65 : decode cX7_firstFaults 65 = .ok (.ifCond .ne 20, 3) := by decide +kernel
theorem dX7_firstFaults_68 : decode cX7_firstFaults 68 = .ok (.iload_n 2, 1) := by decide +kernel
theorem dX7_firstFaults_69 : decode cX7_firstFaults 69 = .ok (.aload_n 0, 1) := by decide +kernel
theorem dX7_firstFaults_70 : decode cX7_firstFaults 70 = .ok (.getfield 65, 3) := by decide +kernel
theorem dX7_firstFaults_73 : decode cX7_firstFaults 73 = .ok (.if_icmp .ge 16, 3) := by decide +kernel
theorem dX7_firstFaults_76 : decode cX7_firstFaults 76 = .ok (.aload_n 0, 1) := by decide +kernel
theorem dX7_firstFaults_77 : decode cX7_firstFaults 77 = .ok (.getfield 7, 3) := by decide +kernel
theorem dX7_firstFaults_80 : decode cX7_firstFaults 80 = .ok (.iload_n 2, 1) := by decide +kernel
theorem dX7_firstFaults_81 : decode cX7_firstFaults 81 = .ok (.iaload, 1) := by decide +kernel
theorem dX7_firstFaults_82 : decode cX7_firstFaults 82 = .ok (.ifCond .eq 7, 3) := by decide +kernel
theorem dX7_firstFaults_85 : decode cX7_firstFaults 85 = .ok (.iconst 1, 1) := by decide +kernel
theorem dX7_firstFaults_86 : decode cX7_firstFaults 86 = .ok (.goto 4, 3) := by decide +kernel
theorem dX7_firstFaults_89 : decode cX7_firstFaults 89 = .ok (.iconst 0, 1) := by decide +kernel
theorem dX7_firstFaults_90 : decode cX7_firstFaults 90 = .ok (.invokevirtual 91, 3) := by decide +kernel
theorem dX7_firstFaults_93 : decode cX7_firstFaults 93 = .ok (.iconst 0, 1) := by decide +kernel
theorem dX7_firstFaults_94 : decode cX7_firstFaults 94 = .ok (.istore_n 3, 1) := by decide +kernel
theorem dX7_firstFaults_95 : decode cX7_firstFaults 95 = .ok (.iload_n 3, 1) := by decide +kernel
theorem dX7_firstFaults_96 : decode cX7_firstFaults 96 = .ok (.aload_n 0, 1) := by decide +kernel
theorem dX7_firstFaults_97 : decode cX7_firstFaults 97 = .ok (.getfield 25, 3) := by decide +kernel
theorem dX7_firstFaults_100 : decode cX7_firstFaults 100 = .ok (.iload_n 1, 1) := by decide +kernel
theorem dX7_firstFaults_101 : decode cX7_firstFaults 101 = .ok (.iaload, 1) := by decide +kernel
theorem dX7_firstFaults_102 : decode cX7_firstFaults 102 = .ok (.if_icmp .ge 74, 3) := by decide +kernel
theorem dX7_firstFaults_105 : decode cX7_firstFaults 105 = .ok (.aload_n 0, 1) := by decide +kernel
theorem dX7_firstFaults_106 : decode cX7_firstFaults 106 = .ok (.getfield 22, 3) := by decide +kernel
theorem dX7_firstFaults_109 : decode cX7_firstFaults 109 = .ok (.iconst 3, 1) := by decide +kernel
theorem dX7_firstFaults_110 : decode cX7_firstFaults 110 = .ok (.iload_n 1, 1) := by decide +kernel
theorem dX7_firstFaults_111 : decode cX7_firstFaults 111 = .ok (.imul, 1) := by decide +kernel
theorem dX7_firstFaults_112 : decode cX7_firstFaults 112 = .ok (.iload_n 3, 1) := by decide +kernel
theorem dX7_firstFaults_113 : decode cX7_firstFaults 113 = .ok (.iadd, 1) := by decide +kernel
theorem dX7_firstFaults_114 : decode cX7_firstFaults 114 = .ok (.iaload, 1) := by decide +kernel
theorem dX7_firstFaults_115 : decode cX7_firstFaults 115 = .ok (.istore 4, 2) := by decide +kernel
theorem dX7_firstFaults_117 : decode cX7_firstFaults 117 = .ok (.aload_n 0, 1) := by decide +kernel
theorem dX7_firstFaults_118 : decode cX7_firstFaults 118 = .ok (.iconst 1, 1) := by decide +kernel
theorem dX7_firstFaults_119 : decode cX7_firstFaults 119 = .ok (.iload 4, 2) := by decide +kernel
theorem dX7_firstFaults_121 : decode cX7_firstFaults 121 = .ok (.iload 4, 2) := by decide +kernel
theorem dX7_firstFaults_123 : decode cX7_firstFaults 123 = .ok (.aload_n 0, 1) := by decide +kernel
theorem dX7_firstFaults_124 : decode cX7_firstFaults 124 = .ok (.getfield 65, 3) := by decide +kernel
theorem dX7_firstFaults_127 : decode cX7_firstFaults 127 = .ok (.if_icmp .lt 7, 3) := by decide +kernel
theorem dX7_firstFaults_130 : decode cX7_firstFaults 130 = .ok (.iconst 1, 1) := by decide +kernel
theorem dX7_firstFaults_131 : decode cX7_firstFaults 131 = .ok (.goto 4, 3) := by decide +kernel
theorem dX7_firstFaults_134 : decode cX7_firstFaults 134 = .ok (.iconst 0, 1) := by decide +kernel
theorem dX7_firstFaults_135 : decode cX7_firstFaults 135 = .ok (.invokevirtual 91, 3) := by decide +kernel
theorem dX7_firstFaults_138 : decode cX7_firstFaults 138 = .ok (.aload_n 0, 1) := by decide +kernel
theorem dX7_firstFaults_139 : decode cX7_firstFaults 139 = .ok (.iconst 3, 1) := by decide +kernel
theorem dX7_firstFaults_140 : decode cX7_firstFaults 140 = .ok (.iload 4, 2) := by decide +kernel
theorem dX7_firstFaults_142 : decode cX7_firstFaults 142 = .ok (.iload 4, 2) := by decide +kernel
theorem dX7_firstFaults_144 : decode cX7_firstFaults 144 = .ok (.aload_n 0, 1) := by decide +kernel
theorem dX7_firstFaults_145 : decode cX7_firstFaults 145 = .ok (.getfield 65, 3) := by decide +kernel
theorem dX7_firstFaults_148 : decode cX7_firstFaults 148 = .ok (.if_icmp .ge 18, 3) := by decide +kernel
theorem dX7_firstFaults_151 : decode cX7_firstFaults 151 = .ok (.aload_n 0, 1) := by decide +kernel
theorem dX7_firstFaults_152 : decode cX7_firstFaults 152 = .ok (.getfield 7, 3) := by decide +kernel
theorem dX7_firstFaults_155 : decode cX7_firstFaults 155 = .ok (.iload 4, 2) := by decide +kernel
theorem dX7_firstFaults_157 : decode cX7_firstFaults 157 = .ok (.iaload, 1) := by decide +kernel
theorem dX7_firstFaults_158 : decode cX7_firstFaults 158 = .ok (.iconst 1, 1) := by decide +kernel
theorem dX7_firstFaults_159 : decode cX7_firstFaults 159 = .ok (.if_icmp .eq 7, 3) := by decide +kernel
theorem dX7_firstFaults_162 : decode cX7_firstFaults 162 = .ok (.iconst 1, 1) := by decide +kernel
theorem dX7_firstFaults_163 : decode cX7_firstFaults 163 = .ok (.goto 4, 3) := by decide +kernel
theorem dX7_firstFaults_166 : decode cX7_firstFaults 166 = .ok (.iconst 0, 1) := by decide +kernel
theorem dX7_firstFaults_167 : decode cX7_firstFaults 167 = .ok (.invokevirtual 91, 3) := by decide +kernel
theorem dX7_firstFaults_170 : decode cX7_firstFaults 170 = .ok (.iinc 3 1, 3) := by decide +kernel
theorem dX7_firstFaults_173 : decode cX7_firstFaults 173 = .ok (.goto (-78), 3) := by decide +kernel
theorem dX7_firstFaults_176 : decode cX7_firstFaults 176 = .ok (.iconst 0, 1) := by decide +kernel
theorem dX7_firstFaults_177 : decode cX7_firstFaults 177 = .ok (.istore_n 3, 1) := by decide +kernel
theorem dX7_firstFaults_178 : decode cX7_firstFaults 178 = .ok (.iload_n 3, 1) := by decide +kernel
theorem dX7_firstFaults_179 : decode cX7_firstFaults 179 = .ok (.aload_n 0, 1) := by decide +kernel
theorem dX7_firstFaults_180 : decode cX7_firstFaults 180 = .ok (.getfield 31, 3) := by decide +kernel
theorem dX7_firstFaults_183 : decode cX7_firstFaults 183 = .ok (.iload_n 1, 1) := by decide +kernel
theorem dX7_firstFaults_184 : decode cX7_firstFaults 184 = .ok (.iaload, 1) := by decide +kernel
theorem dX7_firstFaults_185 : decode cX7_firstFaults 185 = .ok (.if_icmp .ge 46, 3) := by decide +kernel
theorem dX7_firstFaults_188 : decode cX7_firstFaults 188 = .ok (.aload_n 0, 1) := by decide +kernel
theorem dX7_firstFaults_189 : decode cX7_firstFaults 189 = .ok (.iconst 1, 1) := by decide +kernel
theorem dX7_firstFaults_190 : decode cX7_firstFaults 190 = .ok (.aload_n 0, 1) := by decide +kernel
theorem dX7_firstFaults_191 : decode cX7_firstFaults 191 = .ok (.getfield 28, 3) := by decide +kernel
theorem dX7_firstFaults_194 : decode cX7_firstFaults 194 = .ok (.iconst 3, 1) := by decide +kernel
theorem dX7_firstFaults_195 : decode cX7_firstFaults 195 = .ok (.iload_n 1, 1) := by decide +kernel
theorem dX7_firstFaults_196 : decode cX7_firstFaults 196 = .ok (.imul, 1) := by decide +kernel
theorem dX7_firstFaults_197 : decode cX7_firstFaults 197 = .ok (.iload_n 3, 1) := by decide +kernel
theorem dX7_firstFaults_198 : decode cX7_firstFaults 198 = .ok (.iadd, 1) := by decide +kernel
theorem dX7_firstFaults_199 : decode cX7_firstFaults 199 = .ok (.iaload, 1) := by decide +kernel
theorem dX7_firstFaults_200 : decode cX7_firstFaults 200 = .ok (.aload_n 0, 1) := by decide +kernel
theorem dX7_firstFaults_201 : decode cX7_firstFaults 201 = .ok (.getfield 28, 3) := by decide +kernel
theorem dX7_firstFaults_204 : decode cX7_firstFaults 204 = .ok (.iconst 3, 1) := by decide +kernel
theorem dX7_firstFaults_205 : decode cX7_firstFaults 205 = .ok (.iload_n 1, 1) := by decide +kernel
theorem dX7_firstFaults_206 : decode cX7_firstFaults 206 = .ok (.imul, 1) := by decide +kernel
theorem dX7_firstFaults_207 : decode cX7_firstFaults 207 = .ok (.iload_n 3, 1) := by decide +kernel
theorem dX7_firstFaults_208 : decode cX7_firstFaults 208 = .ok (.iadd, 1) := by decide +kernel
theorem dX7_firstFaults_209 : decode cX7_firstFaults 209 = .ok (.iaload, 1) := by decide +kernel
theorem dX7_firstFaults_210 : decode cX7_firstFaults 210 = .ok (.aload_n 0, 1) := by decide +kernel
theorem dX7_firstFaults_211 : decode cX7_firstFaults 211 = .ok (.getfield 65, 3) := by decide +kernel
theorem dX7_firstFaults_214 : decode cX7_firstFaults 214 = .ok (.if_icmp .lt 7, 3) := by decide +kernel
theorem dX7_firstFaults_217 : decode cX7_firstFaults 217 = .ok (.iconst 1, 1) := by decide +kernel
theorem dX7_firstFaults_218 : decode cX7_firstFaults 218 = .ok (.goto 4, 3) := by decide +kernel
theorem dX7_firstFaults_221 : decode cX7_firstFaults 221 = .ok (.iconst 0, 1) := by decide +kernel
theorem dX7_firstFaults_222 : decode cX7_firstFaults 222 = .ok (.invokevirtual 91, 3) := by decide +kernel
theorem dX7_firstFaults_225 : decode cX7_firstFaults 225 = .ok (.iinc 3 1, 3) := by decide +kernel
theorem dX7_firstFaults_228 : decode cX7_firstFaults 228 = .ok (.goto (-50), 3) := by decide +kernel
theorem dX7_firstFaults_231 : decode cX7_firstFaults 231 = .ok (.aload_n 0, 1) := by decide +kernel
theorem dX7_firstFaults_232 : decode cX7_firstFaults 232 = .ok (.iconst 2, 1) := by decide +kernel
theorem dX7_firstFaults_233 : decode cX7_firstFaults 233 = .ok (.iload_n 1, 1) := by decide +kernel
theorem dX7_firstFaults_234 : decode cX7_firstFaults 234 = .ok (.aload_n 0, 1) := by decide +kernel
theorem dX7_firstFaults_235 : decode cX7_firstFaults 235 = .ok (.getfield 52, 3) := by decide +kernel
theorem dX7_firstFaults_238 : decode cX7_firstFaults 238 = .ok (.bipush 20, 2) := by decide +kernel
theorem dX7_firstFaults_240 : decode cX7_firstFaults 240 = .ok (.iload_n 1, 1) := by decide +kernel
theorem dX7_firstFaults_241 : decode cX7_firstFaults 241 = .ok (.imul, 1) := by decide +kernel
theorem dX7_firstFaults_242 : decode cX7_firstFaults 242 = .ok (.iload_n 1, 1) := by decide +kernel
theorem dX7_firstFaults_243 : decode cX7_firstFaults 243 = .ok (.iadd, 1) := by decide +kernel
theorem dX7_firstFaults_244 : decode cX7_firstFaults 244 = .ok (.baload, 1) := by decide +kernel
theorem dX7_firstFaults_245 : decode cX7_firstFaults 245 = .ok (.invokevirtual 91, 3) := by decide +kernel
theorem dX7_firstFaults_248 : decode cX7_firstFaults 248 = .ok (.return_, 1) := by decide +kernel
theorem dX7_haveAny_0 : decode cX7_haveAny 0 = .ok (.iconst 0, 1) := by decide +kernel
theorem dX7_haveAny_1 : decode cX7_haveAny 1 = .ok (.istore_n 1, 1) := by decide +kernel
theorem dX7_haveAny_2 : decode cX7_haveAny 2 = .ok (.iconst 0, 1) := by decide +kernel
theorem dX7_haveAny_3 : decode cX7_haveAny 3 = .ok (.istore_n 2, 1) := by decide +kernel
theorem dX7_haveAny_4 : decode cX7_haveAny 4 = .ok (.iload_n 2, 1) := by decide +kernel
theorem dX7_haveAny_5 : decode cX7_haveAny 5 = .ok (.sipush 1600, 3) := by decide +kernel
theorem dX7_haveAny_8 : decode cX7_haveAny 8 = .ok (.if_icmp .ge 28, 3) := by decide +kernel
theorem dX7_haveAny_11 : decode cX7_haveAny 11 = .ok (.iload_n 1, 1) := by decide +kernel
theorem dX7_haveAny_12 : decode cX7_haveAny 12 = .ok (.ifCond .ne 12, 3) := by decide +kernel
theorem dX7_haveAny_15 : decode cX7_haveAny 15 = .ok (.aload_n 0, 1) := by decide +kernel
theorem dX7_haveAny_16 : decode cX7_haveAny 16 = .ok (.getfield 56, 3) := by decide +kernel
theorem dX7_haveAny_19 : decode cX7_haveAny 19 = .ok (.iload_n 2, 1) := by decide +kernel
theorem dX7_haveAny_20 : decode cX7_haveAny 20 = .ok (.baload, 1) := by decide +kernel
theorem dX7_haveAny_21 : decode cX7_haveAny 21 = .ok (.ifCond .eq 7, 3) := by decide +kernel
theorem dX7_haveAny_24 : decode cX7_haveAny 24 = .ok (.iconst 1, 1) := by decide +kernel
theorem dX7_haveAny_25 : decode cX7_haveAny 25 = .ok (.goto 4, 3) := by decide +kernel
theorem dX7_haveAny_28 : decode cX7_haveAny 28 = .ok (.iconst 0, 1) := by decide +kernel
theorem dX7_haveAny_29 : decode cX7_haveAny 29 = .ok (.istore_n 1, 1) := by decide +kernel
theorem dX7_haveAny_30 : decode cX7_haveAny 30 = .ok (.iinc 2 1, 3) := by decide +kernel
theorem dX7_haveAny_33 : decode cX7_haveAny 33 = .ok (.goto (-29), 3) := by decide +kernel
theorem dX7_haveAny_36 : decode cX7_haveAny 36 = .ok (.iload_n 1, 1) := by decide +kernel
theorem dX7_haveAny_37 : decode cX7_haveAny 37 = .ok (.ireturn, 1) := by decide +kernel
theorem dX7_permitsIt_0 : decode cX7_permitsIt 0 = .ok (.iconst 0, 1) := by decide +kernel
theorem dX7_permitsIt_1 : decode cX7_permitsIt 1 = .ok (.istore_n 3, 1) := by decide +kernel
theorem dX7_permitsIt_2 : decode cX7_permitsIt 2 = .ok (.iconst 0, 1) := by decide +kernel
theorem dX7_permitsIt_3 : decode cX7_permitsIt 3 = .ok (.istore 4, 2) := by decide +kernel
theorem dX7_permitsIt_5 : decode cX7_permitsIt 5 = .ok (.iload 4, 2) := by decide +kernel
theorem dX7_permitsIt_7 : decode cX7_permitsIt 7 = .ok (.aload_n 0, 1) := by decide +kernel
theorem dX7_permitsIt_8 : decode cX7_permitsIt 8 = .ok (.getfield 31, 3) := by decide +kernel
theorem dX7_permitsIt_11 : decode cX7_permitsIt 11 = .ok (.iload_n 1, 1) := by decide +kernel
theorem dX7_permitsIt_12 : decode cX7_permitsIt 12 = .ok (.iaload, 1) := by decide +kernel
theorem dX7_permitsIt_13 : decode cX7_permitsIt 13 = .ok (.if_icmp .ge 34, 3) := by decide +kernel
theorem dX7_permitsIt_16 : decode cX7_permitsIt 16 = .ok (.iload_n 3, 1) := by decide +kernel
theorem dX7_permitsIt_17 : decode cX7_permitsIt 17 = .ok (.ifCond .ne 18, 3) := by decide +kernel
theorem dX7_permitsIt_20 : decode cX7_permitsIt 20 = .ok (.aload_n 0, 1) := by decide +kernel
theorem dX7_permitsIt_21 : decode cX7_permitsIt 21 = .ok (.getfield 28, 3) := by decide +kernel
theorem dX7_permitsIt_24 : decode cX7_permitsIt 24 = .ok (.iconst 3, 1) := by decide +kernel
theorem dX7_permitsIt_25 : decode cX7_permitsIt 25 = .ok (.iload_n 1, 1) := by decide +kernel
theorem dX7_permitsIt_26 : decode cX7_permitsIt 26 = .ok (.imul, 1) := by decide +kernel
theorem dX7_permitsIt_27 : decode cX7_permitsIt 27 = .ok (.iload 4, 2) := by decide +kernel
theorem dX7_permitsIt_29 : decode cX7_permitsIt 29 = .ok (.iadd, 1) := by decide +kernel
theorem dX7_permitsIt_30 : decode cX7_permitsIt 30 = .ok (.iaload, 1) := by decide +kernel
theorem dX7_permitsIt_31 : decode cX7_permitsIt 31 = .ok (.iload_n 2, 1) := by decide +kernel
theorem dX7_permitsIt_32 : decode cX7_permitsIt 32 = .ok (.if_icmp .ne 7, 3) := by decide +kernel
theorem dX7_permitsIt_35 : decode cX7_permitsIt 35 = .ok (.iconst 1, 1) := by decide +kernel
theorem dX7_permitsIt_36 : decode cX7_permitsIt 36 = .ok (.goto 4, 3) := by decide +kernel
theorem dX7_permitsIt_39 : decode cX7_permitsIt 39 = .ok (.iconst 0, 1) := by decide +kernel
theorem dX7_permitsIt_40 : decode cX7_permitsIt 40 = .ok (.istore_n 3, 1) := by decide +kernel
theorem dX7_permitsIt_41 : decode cX7_permitsIt 41 = .ok (.iinc 4 1, 3) := by decide +kernel
theorem dX7_permitsIt_44 : decode cX7_permitsIt 44 = .ok (.goto (-39), 3) := by decide +kernel
theorem dX7_permitsIt_47 : decode cX7_permitsIt 47 = .ok (.iload_n 3, 1) := by decide +kernel
theorem dX7_permitsIt_48 : decode cX7_permitsIt 48 = .ok (.ireturn, 1) := by decide +kernel
theorem dX7_isUpper_0 : decode cX7_isUpper 0 = .ok (.aload_n 0, 1) := by decide +kernel
theorem dX7_isUpper_1 : decode cX7_isUpper 1 = .ok (.getfield 19, 3) := by decide +kernel
theorem dX7_isUpper_4 : decode cX7_isUpper 4 = .ok (.iload_n 1, 1) := by decide +kernel
theorem dX7_isUpper_5 : decode cX7_isUpper 5 = .ok (.iaload, 1) := by decide +kernel
theorem dX7_isUpper_6 : decode cX7_isUpper 6 = .ok (.iload_n 2, 1) := by decide +kernel
theorem dX7_isUpper_7 : decode cX7_isUpper 7 = .ok (.if_icmp .ne 7, 3) := by decide +kernel
theorem dX7_isUpper_10 : decode cX7_isUpper 10 = .ok (.iconst 1, 1) := by decide +kernel
theorem dX7_isUpper_11 : decode cX7_isUpper 11 = .ok (.goto 4, 3) := by decide +kernel
theorem dX7_isUpper_14 : decode cX7_isUpper 14 = .ok (.iconst 0, 1) := by decide +kernel
theorem dX7_isUpper_15 : decode cX7_isUpper 15 = .ok (.istore_n 3, 1) := by decide +kernel
theorem dX7_isUpper_16 : decode cX7_isUpper 16 = .ok (.iconst 0, 1) := by decide +kernel
theorem dX7_isUpper_17 : decode cX7_isUpper 17 = .ok (.istore 4, 2) := by decide +kernel
theorem dX7_isUpper_19 : decode cX7_isUpper 19 = .ok (.iload 4, 2) := by decide +kernel
theorem dX7_isUpper_21 : decode cX7_isUpper 21 = .ok (.aload_n 0, 1) := by decide +kernel
theorem dX7_isUpper_22 : decode cX7_isUpper 22 = .ok (.getfield 25, 3) := by decide +kernel
theorem dX7_isUpper_25 : decode cX7_isUpper 25 = .ok (.iload_n 1, 1) := by decide +kernel
theorem dX7_isUpper_26 : decode cX7_isUpper 26 = .ok (.iaload, 1) := by decide +kernel
theorem dX7_isUpper_27 : decode cX7_isUpper 27 = .ok (.if_icmp .ge 34, 3) := by decide +kernel
theorem dX7_isUpper_30 : decode cX7_isUpper 30 = .ok (.iload_n 3, 1) := by decide +kernel
theorem dX7_isUpper_31 : decode cX7_isUpper 31 = .ok (.ifCond .ne 18, 3) := by decide +kernel
theorem dX7_isUpper_34 : decode cX7_isUpper 34 = .ok (.aload_n 0, 1) := by decide +kernel
theorem dX7_isUpper_35 : decode cX7_isUpper 35 = .ok (.getfield 22, 3) := by decide +kernel
theorem dX7_isUpper_38 : decode cX7_isUpper 38 = .ok (.iconst 3, 1) := by decide +kernel
theorem dX7_isUpper_39 : decode cX7_isUpper 39 = .ok (.iload_n 1, 1) := by decide +kernel
theorem dX7_isUpper_40 : decode cX7_isUpper 40 = .ok (.imul, 1) := by decide +kernel
theorem dX7_isUpper_41 : decode cX7_isUpper 41 = .ok (.iload 4, 2) := by decide +kernel
theorem dX7_isUpper_43 : decode cX7_isUpper 43 = .ok (.iadd, 1) := by decide +kernel
theorem dX7_isUpper_44 : decode cX7_isUpper 44 = .ok (.iaload, 1) := by decide +kernel
theorem dX7_isUpper_45 : decode cX7_isUpper 45 = .ok (.iload_n 2, 1) := by decide +kernel
theorem dX7_isUpper_46 : decode cX7_isUpper 46 = .ok (.if_icmp .ne 7, 3) := by decide +kernel
theorem dX7_isUpper_49 : decode cX7_isUpper 49 = .ok (.iconst 1, 1) := by decide +kernel
theorem dX7_isUpper_50 : decode cX7_isUpper 50 = .ok (.goto 4, 3) := by decide +kernel
theorem dX7_isUpper_53 : decode cX7_isUpper 53 = .ok (.iconst 0, 1) := by decide +kernel
theorem dX7_isUpper_54 : decode cX7_isUpper 54 = .ok (.istore_n 3, 1) := by decide +kernel
theorem dX7_isUpper_55 : decode cX7_isUpper 55 = .ok (.iinc 4 1, 3) := by decide +kernel
theorem dX7_isUpper_58 : decode cX7_isUpper 58 = .ok (.goto (-39), 3) := by decide +kernel
theorem dX7_isUpper_61 : decode cX7_isUpper 61 = .ok (.iload_n 3, 1) := by decide +kernel
theorem dX7_isUpper_62 : decode cX7_isUpper 62 = .ok (.ireturn, 1) := by decide +kernel
theorem dX7_sealedBy_0 : decode cX7_sealedBy 0 = .ok (.aload_n 0, 1) := by decide +kernel
theorem dX7_sealedBy_1 : decode cX7_sealedBy 1 = .ok (.iload_n 2, 1) := by decide +kernel
theorem dX7_sealedBy_2 : decode cX7_sealedBy 2 = .ok (.invokevirtual 77, 3) := by decide +kernel
theorem dX7_sealedBy_5 : decode cX7_sealedBy 5 = .ok (.ifCond .eq 81, 3) := by decide +kernel
theorem dX7_sealedBy_8 : decode cX7_sealedBy 8 = .ok (.aload_n 0, 1) := by decide +kernel
theorem dX7_sealedBy_9 : decode cX7_sealedBy 9 = .ok (.iload_n 2, 1) := by decide +kernel
theorem dX7_sealedBy_10 : decode cX7_sealedBy 10 = .ok (.iconst 4, 1) := by decide +kernel
theorem dX7_sealedBy_11 : decode cX7_sealedBy 11 = .ok (.invokevirtual 95, 3) := by decide +kernel
theorem dX7_sealedBy_14 : decode cX7_sealedBy 14 = .ok (.ifCond .eq 72, 3) := by decide +kernel
theorem dX7_sealedBy_17 : decode cX7_sealedBy 17 = .ok (.aload_n 0, 1) := by decide +kernel
theorem dX7_sealedBy_18 : decode cX7_sealedBy 18 = .ok (.getfield 7, 3) := by decide +kernel
theorem dX7_sealedBy_21 : decode cX7_sealedBy 21 = .ok (.iload_n 1, 1) := by decide +kernel
theorem dX7_sealedBy_22 : decode cX7_sealedBy 22 = .ok (.iaload, 1) := by decide +kernel
theorem dX7_sealedBy_23 : decode cX7_sealedBy 23 = .ok (.iconst 2, 1) := by decide +kernel
theorem dX7_sealedBy_24 : decode cX7_sealedBy 24 = .ok (.if_icmp .ge 35, 3) := by decide +kernel
theorem dX7_sealedBy_27 : decode cX7_sealedBy 27 = .ok (.aload_n 0, 1) := by decide +kernel
theorem dX7_sealedBy_28 : decode cX7_sealedBy 28 = .ok (.iload_n 1, 1) := by decide +kernel
theorem dX7_sealedBy_29 : decode cX7_sealedBy 29 = .ok (.iconst 2, 1) := by decide +kernel
theorem dX7_sealedBy_30 : decode cX7_sealedBy 30 = .ok (.invokevirtual 95, 3) := by decide +kernel
theorem dX7_sealedBy_33 : decode cX7_sealedBy 33 = .ok (.ifCond .ne 26, 3) := by decide +kernel
theorem dX7_sealedBy_36 : decode cX7_sealedBy 36 = .ok (.aload_n 0, 1) := by decide +kernel
theorem dX7_sealedBy_37 : decode cX7_sealedBy 37 = .ok (.iload_n 1, 1) := by decide +kernel
theorem dX7_sealedBy_38 : decode cX7_sealedBy 38 = .ok (.iconst 4, 1) := by decide +kernel
theorem dX7_sealedBy_39 : decode cX7_sealedBy 39 = .ok (.invokevirtual 95, 3) := by decide +kernel
theorem dX7_sealedBy_42 : decode cX7_sealedBy 42 = .ok (.ifCond .ne 17, 3) := by decide +kernel
theorem dX7_sealedBy_45 : decode cX7_sealedBy 45 = .ok (.aload_n 0, 1) := by decide +kernel
theorem dX7_sealedBy_46 : decode cX7_sealedBy 46 = .ok (.iload_n 1, 1) := by decide +kernel
theorem dX7_sealedBy_47 : decode cX7_sealedBy 47 = .ok (.bipush 8, 2) := by decide +kernel
theorem dX7_sealedBy_49 : decode cX7_sealedBy 49 = .ok (.invokevirtual 95, 3) := by decide +kernel
theorem dX7_sealedBy_52 : decode cX7_sealedBy 52 = .ok (.ifCond .ne 7, 3) := by decide +kernel
theorem dX7_sealedBy_55 : decode cX7_sealedBy 55 = .ok (.iconst 1, 1) := by decide +kernel
theorem dX7_sealedBy_56 : decode cX7_sealedBy 56 = .ok (.goto 4, 3) := by decide +kernel
theorem dX7_sealedBy_59 : decode cX7_sealedBy 59 = .ok (.iconst 0, 1) := by decide +kernel
theorem dX7_sealedBy_60 : decode cX7_sealedBy 60 = .ok (.istore_n 3, 1) := by decide +kernel
theorem dX7_sealedBy_61 : decode cX7_sealedBy 61 = .ok (.aload_n 0, 1) := by decide +kernel
theorem dX7_sealedBy_62 : decode cX7_sealedBy 62 = .ok (.bipush 6, 2) := by decide +kernel
theorem dX7_sealedBy_64 : decode cX7_sealedBy 64 = .ok (.iload_n 2, 1) := by decide +kernel
theorem dX7_sealedBy_65 : decode cX7_sealedBy 65 = .ok (.aload_n 0, 1) := by decide +kernel
theorem dX7_sealedBy_66 : decode cX7_sealedBy 66 = .ok (.iload_n 2, 1) := by decide +kernel
theorem dX7_sealedBy_67 : decode cX7_sealedBy 67 = .ok (.iload_n 1, 1) := by decide +kernel
theorem dX7_sealedBy_68 : decode cX7_sealedBy 68 = .ok (.invokevirtual 99, 3) := by decide +kernel
theorem dX7_sealedBy_71 : decode cX7_sealedBy 71 = .ok (.ifCond .eq 7, 3) := by decide +kernel
theorem dX7_sealedBy_74 : decode cX7_sealedBy 74 = .ok (.iload_n 3, 1) := by decide +kernel
theorem dX7_sealedBy_75 : decode cX7_sealedBy 75 = .ok (.ifCond .eq 7, 3) := by decide +kernel
theorem dX7_sealedBy_78 : decode cX7_sealedBy 78 = .ok (.iconst 1, 1) := by decide +kernel
theorem dX7_sealedBy_79 : decode cX7_sealedBy 79 = .ok (.goto 4, 3) := by decide +kernel
theorem dX7_sealedBy_82 : decode cX7_sealedBy 82 = .ok (.iconst 0, 1) := by decide +kernel
theorem dX7_sealedBy_83 : decode cX7_sealedBy 83 = .ok (.invokevirtual 91, 3) := by decide +kernel
theorem dX7_sealedBy_86 : decode cX7_sealedBy 86 = .ok (.return_, 1) := by decide +kernel
theorem dX7_isSealed_0 : decode cX7_isSealed 0 = .ok (.aload_n 0, 1) := by decide +kernel
theorem dX7_isSealed_1 : decode cX7_isSealed 1 = .ok (.iload_n 1, 1) := by decide +kernel
theorem dX7_isSealed_2 : decode cX7_isSealed 2 = .ok (.invokevirtual 77, 3) := by decide +kernel
theorem dX7_isSealed_5 : decode cX7_isSealed 5 = .ok (.ifCond .eq 16, 3) := by decide +kernel
theorem dX7_isSealed_8 : decode cX7_isSealed 8 = .ok (.aload_n 0, 1) := by decide +kernel
theorem dX7_isSealed_9 : decode cX7_isSealed 9 = .ok (.iload_n 1, 1) := by decide +kernel
theorem dX7_isSealed_10 : decode cX7_isSealed 10 = .ok (.iconst 4, 1) := by decide +kernel
theorem dX7_isSealed_11 : decode cX7_isSealed 11 = .ok (.invokevirtual 95, 3) := by decide +kernel
theorem dX7_isSealed_14 : decode cX7_isSealed 14 = .ok (.ifCond .eq 7, 3) := by decide +kernel
theorem dX7_isSealed_17 : decode cX7_isSealed 17 = .ok (.iconst 1, 1) := by decide +kernel
theorem dX7_isSealed_18 : decode cX7_isSealed 18 = .ok (.goto 4, 3) := by decide +kernel
theorem dX7_isSealed_21 : decode cX7_isSealed 21 = .ok (.iconst 0, 1) := by decide +kernel
theorem dX7_isSealed_22 : decode cX7_isSealed 22 = .ok (.ireturn, 1) := by decide +kernel
theorem dX7_typeFaults_0 : decode cX7_typeFaults 0 = .ok (.aload_n 0, 1) := by decide +kernel
theorem dX7_typeFaults_1 : decode cX7_typeFaults 1 = .ok (.getfield 19, 3) := by decide +kernel
theorem dX7_typeFaults_4 : decode cX7_typeFaults 4 = .ok (.iload_n 1, 1) := by decide +kernel
theorem dX7_typeFaults_5 : decode cX7_typeFaults 5 = .ok (.iaload, 1) := by decide +kernel
theorem dX7_typeFaults_6 : decode cX7_typeFaults 6 = .ok (.istore_n 2, 1) := by decide +kernel
theorem dX7_typeFaults_7 : decode cX7_typeFaults 7 = .ok (.aload_n 0, 1) := by decide +kernel
theorem dX7_typeFaults_8 : decode cX7_typeFaults 8 = .ok (.iload_n 2, 1) := by decide +kernel
theorem dX7_typeFaults_9 : decode cX7_typeFaults 9 = .ok (.invokevirtual 77, 3) := by decide +kernel
theorem dX7_typeFaults_12 : decode cX7_typeFaults 12 = .ok (.ifCond .eq 15, 3) := by decide +kernel
theorem dX7_typeFaults_15 : decode cX7_typeFaults 15 = .ok (.aload_n 0, 1) := by decide +kernel
theorem dX7_typeFaults_16 : decode cX7_typeFaults 16 = .ok (.iconst 4, 1) := by decide +kernel
theorem dX7_typeFaults_17 : decode cX7_typeFaults 17 = .ok (.iload_n 2, 1) := by decide +kernel
theorem dX7_typeFaults_18 : decode cX7_typeFaults 18 = .ok (.aload_n 0, 1) := by decide +kernel
theorem dX7_typeFaults_19 : decode cX7_typeFaults 19 = .ok (.iload_n 2, 1) := by decide +kernel
theorem dX7_typeFaults_20 : decode cX7_typeFaults 20 = .ok (.iconst 2, 1) := by decide +kernel
theorem dX7_typeFaults_21 : decode cX7_typeFaults 21 = .ok (.invokevirtual 95, 3) := by decide +kernel
theorem dX7_typeFaults_24 : decode cX7_typeFaults 24 = .ok (.invokevirtual 91, 3) := by decide +kernel
theorem dX7_typeFaults_27 : decode cX7_typeFaults 27 = .ok (.aload_n 0, 1) := by decide +kernel
theorem dX7_typeFaults_28 : decode cX7_typeFaults 28 = .ok (.iload_n 1, 1) := by decide +kernel
theorem dX7_typeFaults_29 : decode cX7_typeFaults 29 = .ok (.iconst 2, 1) := by decide +kernel
theorem dX7_typeFaults_30 : decode cX7_typeFaults 30 = .ok (.invokevirtual 95, 3) := by decide +kernel
theorem dX7_typeFaults_33 : decode cX7_typeFaults 33 = .ok (.ifCond .eq 7, 3) := by decide +kernel
theorem dX7_typeFaults_36 : decode cX7_typeFaults 36 = .ok (.iconst 1, 1) := by decide +kernel
theorem dX7_typeFaults_37 : decode cX7_typeFaults 37 = .ok (.goto 4, 3) := by decide +kernel
theorem dX7_typeFaults_40 : decode cX7_typeFaults 40 = .ok (.iconst 0, 1) := by decide +kernel
theorem dX7_typeFaults_41 : decode cX7_typeFaults 41 = .ok (.aload_n 0, 1) := by decide +kernel
theorem dX7_typeFaults_42 : decode cX7_typeFaults 42 = .ok (.iload_n 1, 1) := by decide +kernel
theorem dX7_typeFaults_43 : decode cX7_typeFaults 43 = .ok (.iconst 4, 1) := by decide +kernel
theorem dX7_typeFaults_44 : decode cX7_typeFaults 44 = .ok (.invokevirtual 95, 3) := by decide +kernel
theorem dX7_typeFaults_47 : decode cX7_typeFaults 47 = .ok (.ifCond .eq 7, 3) := by decide +kernel
theorem dX7_typeFaults_50 : decode cX7_typeFaults 50 = .ok (.iconst 1, 1) := by decide +kernel
theorem dX7_typeFaults_51 : decode cX7_typeFaults 51 = .ok (.goto 4, 3) := by decide +kernel
theorem dX7_typeFaults_54 : decode cX7_typeFaults 54 = .ok (.iconst 0, 1) := by decide +kernel
theorem dX7_typeFaults_55 : decode cX7_typeFaults 55 = .ok (.iadd, 1) := by decide +kernel
theorem dX7_typeFaults_56 : decode cX7_typeFaults 56 = .ok (.aload_n 0, 1) := by decide +kernel
theorem dX7_typeFaults_57 : decode cX7_typeFaults 57 = .ok (.iload_n 1, 1) := by decide +kernel
theorem dX7_typeFaults_58 : decode cX7_typeFaults 58 = .ok (.bipush 8, 2) := by decide +kernel
theorem dX7_typeFaults_60 : decode cX7_typeFaults 60 = .ok (.invokevirtual 95, 3) := by decide +kernel
theorem dX7_typeFaults_63 : decode cX7_typeFaults 63 = .ok (.ifCond .eq 7, 3) := by decide +kernel
theorem dX7_typeFaults_66 : decode cX7_typeFaults 66 = .ok (.iconst 1, 1) := by decide +kernel
theorem dX7_typeFaults_67 : decode cX7_typeFaults 67 = .ok (.goto 4, 3) := by decide +kernel
theorem dX7_typeFaults_70 : decode cX7_typeFaults 70 = .ok (.iconst 0, 1) := by decide +kernel
theorem dX7_typeFaults_71 : decode cX7_typeFaults 71 = .ok (.iadd, 1) := by decide +kernel
theorem dX7_typeFaults_72 : decode cX7_typeFaults 72 = .ok (.istore_n 3, 1) := by decide +kernel
theorem dX7_typeFaults_73 : decode cX7_typeFaults 73 = .ok (.aload_n 0, 1) := by decide +kernel
theorem dX7_typeFaults_74 : decode cX7_typeFaults 74 = .ok (.iconst 5, 1) := by decide +kernel
theorem dX7_typeFaults_75 : decode cX7_typeFaults 75 = .ok (.iload_n 1, 1) := by decide +kernel
theorem dX7_typeFaults_76 : decode cX7_typeFaults 76 = .ok (.iload_n 3, 1) := by decide +kernel
theorem dX7_typeFaults_77 : decode cX7_typeFaults 77 = .ok (.iconst 1, 1) := by decide +kernel
theorem dX7_typeFaults_78 : decode cX7_typeFaults 78 = .ok (.if_icmp .gt 59, 3) := by decide +kernel
theorem dX7_typeFaults_81 : decode cX7_typeFaults 81 = .ok (.aload_n 0, 1) := by decide +kernel
theorem dX7_typeFaults_82 : decode cX7_typeFaults 82 = .ok (.iload_n 1, 1) := by decide +kernel
theorem dX7_typeFaults_83 : decode cX7_typeFaults 83 = .ok (.iconst 1, 1) := by decide +kernel
theorem dX7_typeFaults_84 : decode cX7_typeFaults 84 = .ok (.invokevirtual 95, 3) := by decide +kernel
theorem dX7_typeFaults_87 : decode cX7_typeFaults 87 = .ok (.ifCond .eq 12, 3) := by decide +kernel
theorem dX7_typeFaults_90 : decode cX7_typeFaults 90 = .ok (.aload_n 0, 1) := by decide +kernel
theorem dX7_typeFaults_91 : decode cX7_typeFaults 91 = .ok (.iload_n 1, 1) := by decide +kernel
theorem dX7_typeFaults_92 : decode cX7_typeFaults 92 = .ok (.iconst 2, 1) := by decide +kernel
theorem dX7_typeFaults_93 : decode cX7_typeFaults 93 = .ok (.invokevirtual 95, 3) := by decide +kernel
theorem dX7_typeFaults_96 : decode cX7_typeFaults 96 = .ok (.ifCond .ne 41, 3) := by decide +kernel
theorem dX7_typeFaults_99 : decode cX7_typeFaults 99 = .ok (.aload_n 0, 1) := by decide +kernel
theorem dX7_typeFaults_100 : decode cX7_typeFaults 100 = .ok (.iload_n 1, 1) := by decide +kernel
theorem dX7_typeFaults_101 : decode cX7_typeFaults 101 = .ok (.iconst 2, 1) := by decide +kernel
theorem dX7_typeFaults_102 : decode cX7_typeFaults 102 = .ok (.invokevirtual 95, 3) := by decide +kernel
theorem dX7_typeFaults_105 : decode cX7_typeFaults 105 = .ok (.ifCond .eq 13, 3) := by decide +kernel
theorem dX7_typeFaults_108 : decode cX7_typeFaults 108 = .ok (.aload_n 0, 1) := by decide +kernel
theorem dX7_typeFaults_109 : decode cX7_typeFaults 109 = .ok (.getfield 7, 3) := by decide +kernel
theorem dX7_typeFaults_112 : decode cX7_typeFaults 112 = .ok (.iload_n 1, 1) := by decide +kernel
theorem dX7_typeFaults_113 : decode cX7_typeFaults 113 = .ok (.iaload, 1) := by decide +kernel
theorem dX7_typeFaults_114 : decode cX7_typeFaults 114 = .ok (.iconst 1, 1) := by decide +kernel
theorem dX7_typeFaults_115 : decode cX7_typeFaults 115 = .ok (.if_icmp .eq 22, 3) := by decide +kernel
theorem dX7_typeFaults_118 : decode cX7_typeFaults 118 = .ok (.aload_n 0, 1) := by decide +kernel
theorem dX7_typeFaults_119 : decode cX7_typeFaults 119 = .ok (.getfield 13, 3) := by decide +kernel
theorem dX7_typeFaults_122 : decode cX7_typeFaults 122 = .ok (.iload_n 1, 1) := by decide +kernel
theorem dX7_typeFaults_123 : decode cX7_typeFaults 123 = .ok (.iaload, 1) := by decide +kernel
theorem dX7_typeFaults_124 : decode cX7_typeFaults 124 = .ok (.ifCond .eq 17, 3) := by decide +kernel
theorem dX7_typeFaults_127 : decode cX7_typeFaults 127 = .ok (.aload_n 0, 1) := by decide +kernel
theorem dX7_typeFaults_128 : decode cX7_typeFaults 128 = .ok (.getfield 7, 3) := by decide +kernel
theorem dX7_typeFaults_131 : decode cX7_typeFaults 131 = .ok (.iload_n 1, 1) := by decide +kernel
theorem dX7_typeFaults_132 : decode cX7_typeFaults 132 = .ok (.iaload, 1) := by decide +kernel
theorem dX7_typeFaults_133 : decode cX7_typeFaults 133 = .ok (.iconst 2, 1) := by decide +kernel
theorem dX7_typeFaults_134 : decode cX7_typeFaults 134 = .ok (.if_icmp .lt 7, 3) := by decide +kernel
theorem dX7_typeFaults_137 : decode cX7_typeFaults 137 = .ok (.iconst 1, 1) := by decide +kernel
theorem dX7_typeFaults_138 : decode cX7_typeFaults 138 = .ok (.goto 4, 3) := by decide +kernel
theorem dX7_typeFaults_141 : decode cX7_typeFaults 141 = .ok (.iconst 0, 1) := by decide +kernel
theorem dX7_typeFaults_142 : decode cX7_typeFaults 142 = .ok (.invokevirtual 91, 3) := by decide +kernel
theorem dX7_typeFaults_145 : decode cX7_typeFaults 145 = .ok (.aload_n 0, 1) := by decide +kernel
theorem dX7_typeFaults_146 : decode cX7_typeFaults 146 = .ok (.iload_n 1, 1) := by decide +kernel
theorem dX7_typeFaults_147 : decode cX7_typeFaults 147 = .ok (.iload_n 2, 1) := by decide +kernel
theorem dX7_typeFaults_148 : decode cX7_typeFaults 148 = .ok (.invokevirtual 102, 3) := by decide +kernel
theorem dX7_typeFaults_151 : decode cX7_typeFaults 151 = .ok (.aload_n 0, 1) := by decide +kernel
theorem dX7_typeFaults_152 : decode cX7_typeFaults 152 = .ok (.iload_n 2, 1) := by decide +kernel
theorem dX7_typeFaults_153 : decode cX7_typeFaults 153 = .ok (.invokevirtual 106, 3) := by decide +kernel
theorem dX7_typeFaults_156 : decode cX7_typeFaults 156 = .ok (.istore 4, 2) := by decide +kernel
theorem dX7_typeFaults_158 : decode cX7_typeFaults 158 = .ok (.iconst 0, 1) := by decide +kernel
theorem dX7_typeFaults_159 : decode cX7_typeFaults 159 = .ok (.istore 5, 2) := by decide +kernel
theorem dX7_typeFaults_161 : decode cX7_typeFaults 161 = .ok (.iload 5, 2) := by decide +kernel
theorem dX7_typeFaults_163 : decode cX7_typeFaults 163 = .ok (.aload_n 0, 1) := by decide +kernel
theorem dX7_typeFaults_164 : decode cX7_typeFaults 164 = .ok (.getfield 25, 3) := by decide +kernel
theorem dX7_typeFaults_167 : decode cX7_typeFaults 167 = .ok (.iload_n 1, 1) := by decide +kernel
theorem dX7_typeFaults_168 : decode cX7_typeFaults 168 = .ok (.iaload, 1) := by decide +kernel
theorem dX7_typeFaults_169 : decode cX7_typeFaults 169 = .ok (.if_icmp .ge 104, 3) := by decide +kernel
theorem dX7_typeFaults_172 : decode cX7_typeFaults 172 = .ok (.aload_n 0, 1) := by decide +kernel
theorem dX7_typeFaults_173 : decode cX7_typeFaults 173 = .ok (.getfield 22, 3) := by decide +kernel
theorem dX7_typeFaults_176 : decode cX7_typeFaults 176 = .ok (.iconst 3, 1) := by decide +kernel
theorem dX7_typeFaults_177 : decode cX7_typeFaults 177 = .ok (.iload_n 1, 1) := by decide +kernel
theorem dX7_typeFaults_178 : decode cX7_typeFaults 178 = .ok (.imul, 1) := by decide +kernel
theorem dX7_typeFaults_179 : decode cX7_typeFaults 179 = .ok (.iload 5, 2) := by decide +kernel
theorem dX7_typeFaults_181 : decode cX7_typeFaults 181 = .ok (.iadd, 1) := by decide +kernel
theorem dX7_typeFaults_182 : decode cX7_typeFaults 182 = .ok (.iaload, 1) := by decide +kernel
theorem dX7_typeFaults_183 : decode cX7_typeFaults 183 = .ok (.istore 6, 2) := by decide +kernel
theorem dX7_typeFaults_185 : decode cX7_typeFaults 185 = .ok (.aload_n 0, 1) := by decide +kernel
theorem dX7_typeFaults_186 : decode cX7_typeFaults 186 = .ok (.iload_n 1, 1) := by decide +kernel
theorem dX7_typeFaults_187 : decode cX7_typeFaults 187 = .ok (.iload 6, 2) := by decide +kernel
theorem dX7_typeFaults_189 : decode cX7_typeFaults 189 = .ok (.invokevirtual 102, 3) := by decide +kernel
theorem dX7_typeFaults_192 : decode cX7_typeFaults 192 = .ok (.iload 4, 2) := by decide +kernel
theorem dX7_typeFaults_194 : decode cX7_typeFaults 194 = .ok (.ifCond .ne 12, 3) := by decide +kernel
theorem dX7_typeFaults_197 : decode cX7_typeFaults 197 = .ok (.aload_n 0, 1) := by decide +kernel
theorem dX7_typeFaults_198 : decode cX7_typeFaults 198 = .ok (.iload 6, 2) := by decide +kernel
theorem dX7_typeFaults_200 : decode cX7_typeFaults 200 = .ok (.invokevirtual 106, 3) := by decide +kernel
theorem dX7_typeFaults_203 : decode cX7_typeFaults 203 = .ok (.ifCond .eq 7, 3) := by decide +kernel
theorem dX7_typeFaults_206 : decode cX7_typeFaults 206 = .ok (.iconst 1, 1) := by decide +kernel
theorem dX7_typeFaults_207 : decode cX7_typeFaults 207 = .ok (.goto 4, 3) := by decide +kernel
theorem dX7_typeFaults_210 : decode cX7_typeFaults 210 = .ok (.iconst 0, 1) := by decide +kernel
theorem dX7_typeFaults_211 : decode cX7_typeFaults 211 = .ok (.istore 4, 2) := by decide +kernel
theorem dX7_typeFaults_213 : decode cX7_typeFaults 213 = .ok (.iconst 0, 1) := by decide +kernel
theorem dX7_typeFaults_214 : decode cX7_typeFaults 214 = .ok (.istore 7, 2) := by decide +kernel
theorem dX7_typeFaults_216 : decode cX7_typeFaults 216 = .ok (.iload 7, 2) := by decide +kernel
theorem dX7_typeFaults_218 : decode cX7_typeFaults 218 = .ok (.iload 5, 2) := by decide +kernel
theorem dX7_typeFaults_220 : decode cX7_typeFaults 220 = .ok (.if_icmp .ge 47, 3) := by decide +kernel
theorem dX7_typeFaults_223 : decode cX7_typeFaults 223 = .ok (.aload_n 0, 1) := by decide +kernel
theorem dX7_typeFaults_224 : decode cX7_typeFaults 224 = .ok (.bipush 8, 2) := by decide +kernel
theorem dX7_typeFaults_226 : decode cX7_typeFaults 226 = .ok (.iload 6, 2) := by decide +kernel
theorem dX7_typeFaults_228 : decode cX7_typeFaults 228 = .ok (.aload_n 0, 1) := by decide +kernel
theorem dX7_typeFaults_229 : decode cX7_typeFaults 229 = .ok (.iload 6, 2) := by decide +kernel
theorem dX7_typeFaults_231 : decode cX7_typeFaults 231 = .ok (.invokevirtual 77, 3) := by decide +kernel
theorem dX7_typeFaults_234 : decode cX7_typeFaults 234 = .ok (.ifCond .eq 23, 3) := by decide +kernel
theorem dX7_typeFaults_237 : decode cX7_typeFaults 237 = .ok (.aload_n 0, 1) := by decide +kernel
theorem dX7_typeFaults_238 : decode cX7_typeFaults 238 = .ok (.getfield 22, 3) := by decide +kernel
theorem dX7_typeFaults_241 : decode cX7_typeFaults 241 = .ok (.iconst 3, 1) := by decide +kernel
theorem dX7_typeFaults_242 : decode cX7_typeFaults 242 = .ok (.iload_n 1, 1) := by decide +kernel
theorem dX7_typeFaults_243 : decode cX7_typeFaults 243 = .ok (.imul, 1) := by decide +kernel
theorem dX7_typeFaults_244 : decode cX7_typeFaults 244 = .ok (.iload 7, 2) := by decide +kernel
theorem dX7_typeFaults_246 : decode cX7_typeFaults 246 = .ok (.iadd, 1) := by decide +kernel
theorem dX7_typeFaults_247 : decode cX7_typeFaults 247 = .ok (.iaload, 1) := by decide +kernel
theorem dX7_typeFaults_248 : decode cX7_typeFaults 248 = .ok (.iload 6, 2) := by decide +kernel
theorem dX7_typeFaults_250 : decode cX7_typeFaults 250 = .ok (.if_icmp .ne 7, 3) := by decide +kernel
theorem dX7_typeFaults_253 : decode cX7_typeFaults 253 = .ok (.iconst 1, 1) := by decide +kernel
theorem dX7_typeFaults_254 : decode cX7_typeFaults 254 = .ok (.goto 4, 3) := by decide +kernel
theorem dX7_typeFaults_257 : decode cX7_typeFaults 257 = .ok (.iconst 0, 1) := by decide +kernel
theorem dX7_typeFaults_258 : decode cX7_typeFaults 258 = .ok (.invokevirtual 91, 3) := by decide +kernel
theorem dX7_typeFaults_261 : decode cX7_typeFaults 261 = .ok (.iinc 7 1, 3) := by decide +kernel
theorem dX7_typeFaults_264 : decode cX7_typeFaults 264 = .ok (.goto (-48), 3) := by decide +kernel
theorem dX7_typeFaults_267 : decode cX7_typeFaults 267 = .ok (.iinc 5 1, 3) := by decide +kernel
theorem dX7_typeFaults_270 : decode cX7_typeFaults 270 = .ok (.goto (-109), 3) := by decide +kernel
theorem dX7_typeFaults_273 : decode cX7_typeFaults 273 = .ok (.aload_n 0, 1) := by decide +kernel
theorem dX7_typeFaults_274 : decode cX7_typeFaults 274 = .ok (.bipush 6, 2) := by decide +kernel
theorem dX7_typeFaults_276 : decode cX7_typeFaults 276 = .ok (.iload_n 1, 1) := by decide +kernel
theorem dX7_typeFaults_277 : decode cX7_typeFaults 277 = .ok (.aload_n 0, 1) := by decide +kernel
theorem dX7_typeFaults_278 : decode cX7_typeFaults 278 = .ok (.iload_n 1, 1) := by decide +kernel
theorem dX7_typeFaults_279 : decode cX7_typeFaults 279 = .ok (.bipush 8, 2) := by decide +kernel
theorem dX7_typeFaults_281 : decode cX7_typeFaults 281 = .ok (.invokevirtual 95, 3) := by decide +kernel
theorem dX7_typeFaults_284 : decode cX7_typeFaults 284 = .ok (.ifCond .eq 12, 3) := by decide +kernel
theorem dX7_typeFaults_287 : decode cX7_typeFaults 287 = .ok (.iload 4, 2) := by decide +kernel
theorem dX7_typeFaults_289 : decode cX7_typeFaults 289 = .ok (.ifCond .ne 7, 3) := by decide +kernel
theorem dX7_typeFaults_292 : decode cX7_typeFaults 292 = .ok (.iconst 1, 1) := by decide +kernel
theorem dX7_typeFaults_293 : decode cX7_typeFaults 293 = .ok (.goto 4, 3) := by decide +kernel
theorem dX7_typeFaults_296 : decode cX7_typeFaults 296 = .ok (.iconst 0, 1) := by decide +kernel
theorem dX7_typeFaults_297 : decode cX7_typeFaults 297 = .ok (.invokevirtual 91, 3) := by decide +kernel
theorem dX7_typeFaults_300 : decode cX7_typeFaults 300 = .ok (.aload_n 0, 1) := by decide +kernel
theorem dX7_typeFaults_301 : decode cX7_typeFaults 301 = .ok (.bipush 7, 2) := by decide +kernel
theorem dX7_typeFaults_303 : decode cX7_typeFaults 303 = .ok (.iload_n 1, 1) := by decide +kernel
theorem dX7_typeFaults_304 : decode cX7_typeFaults 304 = .ok (.aload_n 0, 1) := by decide +kernel
theorem dX7_typeFaults_305 : decode cX7_typeFaults 305 = .ok (.getfield 31, 3) := by decide +kernel
theorem dX7_typeFaults_308 : decode cX7_typeFaults 308 = .ok (.iload_n 1, 1) := by decide +kernel
theorem dX7_typeFaults_309 : decode cX7_typeFaults 309 = .ok (.iaload, 1) := by decide +kernel
theorem dX7_typeFaults_310 : decode cX7_typeFaults 310 = .ok (.ifCond .le 7, 3) := by decide +kernel
theorem dX7_typeFaults_313 : decode cX7_typeFaults 313 = .ok (.iconst 1, 1) := by decide +kernel
theorem dX7_typeFaults_314 : decode cX7_typeFaults 314 = .ok (.goto 4, 3) := by decide +kernel
theorem dX7_typeFaults_317 : decode cX7_typeFaults 317 = .ok (.iconst 0, 1) := by decide +kernel
theorem dX7_typeFaults_318 : decode cX7_typeFaults 318 = .ok (.aload_n 0, 1) := by decide +kernel
theorem dX7_typeFaults_319 : decode cX7_typeFaults 319 = .ok (.iload_n 1, 1) := by decide +kernel
theorem dX7_typeFaults_320 : decode cX7_typeFaults 320 = .ok (.iconst 4, 1) := by decide +kernel
theorem dX7_typeFaults_321 : decode cX7_typeFaults 321 = .ok (.invokevirtual 95, 3) := by decide +kernel
theorem dX7_typeFaults_324 : decode cX7_typeFaults 324 = .ok (.if_icmp .eq 7, 3) := by decide +kernel
theorem dX7_typeFaults_327 : decode cX7_typeFaults 327 = .ok (.iconst 1, 1) := by decide +kernel
theorem dX7_typeFaults_328 : decode cX7_typeFaults 328 = .ok (.goto 4, 3) := by decide +kernel
theorem dX7_typeFaults_331 : decode cX7_typeFaults 331 = .ok (.iconst 0, 1) := by decide +kernel
theorem dX7_typeFaults_332 : decode cX7_typeFaults 332 = .ok (.invokevirtual 91, 3) := by decide +kernel
theorem dX7_typeFaults_335 : decode cX7_typeFaults 335 = .ok (.iconst 0, 1) := by decide +kernel
theorem dX7_typeFaults_336 : decode cX7_typeFaults 336 = .ok (.istore 5, 2) := by decide +kernel
theorem dX7_typeFaults_338 : decode cX7_typeFaults 338 = .ok (.iload 5, 2) := by decide +kernel
theorem dX7_typeFaults_340 : decode cX7_typeFaults 340 = .ok (.aload_n 0, 1) := by decide +kernel
theorem dX7_typeFaults_341 : decode cX7_typeFaults 341 = .ok (.getfield 31, 3) := by decide +kernel
theorem dX7_typeFaults_344 : decode cX7_typeFaults 344 = .ok (.iload_n 1, 1) := by decide +kernel
theorem dX7_typeFaults_345 : decode cX7_typeFaults 345 = .ok (.iaload, 1) := by decide +kernel
theorem dX7_typeFaults_346 : decode cX7_typeFaults 346 = .ok (.if_icmp .ge 54, 3) := by decide +kernel
theorem dX7_typeFaults_349 : decode cX7_typeFaults 349 = .ok (.aload_n 0, 1) := by decide +kernel
theorem dX7_typeFaults_350 : decode cX7_typeFaults 350 = .ok (.getfield 28, 3) := by decide +kernel
theorem dX7_typeFaults_353 : decode cX7_typeFaults 353 = .ok (.iconst 3, 1) := by decide +kernel
theorem dX7_typeFaults_354 : decode cX7_typeFaults 354 = .ok (.iload_n 1, 1) := by decide +kernel
theorem dX7_typeFaults_355 : decode cX7_typeFaults 355 = .ok (.imul, 1) := by decide +kernel
theorem dX7_typeFaults_356 : decode cX7_typeFaults 356 = .ok (.iload 5, 2) := by decide +kernel
theorem dX7_typeFaults_358 : decode cX7_typeFaults 358 = .ok (.iadd, 1) := by decide +kernel
theorem dX7_typeFaults_359 : decode cX7_typeFaults 359 = .ok (.iaload, 1) := by decide +kernel
theorem dX7_typeFaults_360 : decode cX7_typeFaults 360 = .ok (.istore 6, 2) := by decide +kernel
theorem dX7_typeFaults_362 : decode cX7_typeFaults 362 = .ok (.aload_n 0, 1) := by decide +kernel
theorem dX7_typeFaults_363 : decode cX7_typeFaults 363 = .ok (.bipush 7, 2) := by decide +kernel
theorem dX7_typeFaults_365 : decode cX7_typeFaults 365 = .ok (.iload 6, 2) := by decide +kernel
theorem dX7_typeFaults_367 : decode cX7_typeFaults 367 = .ok (.aload_n 0, 1) := by decide +kernel
theorem dX7_typeFaults_368 : decode cX7_typeFaults 368 = .ok (.iload 6, 2) := by decide +kernel
theorem dX7_typeFaults_370 : decode cX7_typeFaults 370 = .ok (.invokevirtual 77, 3) := by decide +kernel
theorem dX7_typeFaults_373 : decode cX7_typeFaults 373 = .ok (.ifCond .eq 17, 3) := by decide +kernel
theorem dX7_typeFaults_376 : decode cX7_typeFaults 376 = .ok (.aload_n 0, 1) := by decide +kernel
theorem dX7_typeFaults_377 : decode cX7_typeFaults 377 = .ok (.iload 6, 2) := by decide +kernel
theorem dX7_typeFaults_379 : decode cX7_typeFaults 379 = .ok (.iload_n 1, 1) := by decide +kernel
theorem dX7_typeFaults_380 : decode cX7_typeFaults 380 = .ok (.invokevirtual 109, 3) := by decide +kernel
theorem dX7_typeFaults_383 : decode cX7_typeFaults 383 = .ok (.ifCond .ne 7, 3) := by decide +kernel
theorem dX7_typeFaults_386 : decode cX7_typeFaults 386 = .ok (.iconst 1, 1) := by decide +kernel
theorem dX7_typeFaults_387 : decode cX7_typeFaults 387 = .ok (.goto 4, 3) := by decide +kernel
theorem dX7_typeFaults_390 : decode cX7_typeFaults 390 = .ok (.iconst 0, 1) := by decide +kernel
theorem dX7_typeFaults_391 : decode cX7_typeFaults 391 = .ok (.invokevirtual 91, 3) := by decide +kernel
theorem dX7_typeFaults_394 : decode cX7_typeFaults 394 = .ok (.iinc 5 1, 3) := by decide +kernel
theorem dX7_typeFaults_397 : decode cX7_typeFaults 397 = .ok (.goto (-59), 3) := by decide +kernel
theorem dX7_typeFaults_400 : decode cX7_typeFaults 400 = .ok (.return_, 1) := by decide +kernel
theorem dX7_memberFaults_0 : decode cX7_memberFaults 0 = .ok (.iconst 0, 1) := by decide +kernel
theorem dX7_memberFaults_1 : decode cX7_memberFaults 1 = .ok (.istore_n 2, 1) := by decide +kernel
theorem dX7_memberFaults_2 : decode cX7_memberFaults 2 = .ok (.iload_n 2, 1) := by decide +kernel
theorem dX7_memberFaults_3 : decode cX7_memberFaults 3 = .ok (.aload_n 0, 1) := by decide +kernel
theorem dX7_memberFaults_4 : decode cX7_memberFaults 4 = .ok (.getfield 81, 3) := by decide +kernel
theorem dX7_memberFaults_7 : decode cX7_memberFaults 7 = .ok (.if_icmp .ge 76, 3) := by decide +kernel
theorem dX7_memberFaults_10 : decode cX7_memberFaults 10 = .ok (.aload_n 0, 1) := by decide +kernel
theorem dX7_memberFaults_11 : decode cX7_memberFaults 11 = .ok (.getfield 34, 3) := by decide +kernel
theorem dX7_memberFaults_14 : decode cX7_memberFaults 14 = .ok (.iload_n 2, 1) := by decide +kernel
theorem dX7_memberFaults_15 : decode cX7_memberFaults 15 = .ok (.iaload, 1) := by decide +kernel
theorem dX7_memberFaults_16 : decode cX7_memberFaults 16 = .ok (.iload_n 1, 1) := by decide +kernel
theorem dX7_memberFaults_17 : decode cX7_memberFaults 17 = .ok (.if_icmp .ne 60, 3) := by decide +kernel
theorem dX7_memberFaults_20 : decode cX7_memberFaults 20 = .ok (.iconst 0, 1) := by decide +kernel
theorem dX7_memberFaults_21 : decode cX7_memberFaults 21 = .ok (.istore_n 3, 1) := by decide +kernel
theorem dX7_memberFaults_22 : decode cX7_memberFaults 22 = .ok (.iload_n 3, 1) := by decide +kernel
theorem dX7_memberFaults_23 : decode cX7_memberFaults 23 = .ok (.iload_n 2, 1) := by decide +kernel
theorem dX7_memberFaults_24 : decode cX7_memberFaults 24 = .ok (.if_icmp .ge 40, 3) := by decide +kernel
theorem dX7_memberFaults_27 : decode cX7_memberFaults 27 = .ok (.aload_n 0, 1) := by decide +kernel
theorem dX7_memberFaults_28 : decode cX7_memberFaults 28 = .ok (.bipush 10, 2) := by decide +kernel
theorem dX7_memberFaults_30 : decode cX7_memberFaults 30 = .ok (.iload_n 2, 1) := by decide +kernel
theorem dX7_memberFaults_31 : decode cX7_memberFaults 31 = .ok (.aload_n 0, 1) := by decide +kernel
theorem dX7_memberFaults_32 : decode cX7_memberFaults 32 = .ok (.getfield 34, 3) := by decide +kernel
theorem dX7_memberFaults_35 : decode cX7_memberFaults 35 = .ok (.iload_n 3, 1) := by decide +kernel
theorem dX7_memberFaults_36 : decode cX7_memberFaults 36 = .ok (.iaload, 1) := by decide +kernel
theorem dX7_memberFaults_37 : decode cX7_memberFaults 37 = .ok (.iload_n 1, 1) := by decide +kernel
theorem dX7_memberFaults_38 : decode cX7_memberFaults 38 = .ok (.if_icmp .ne 16, 3) := by decide +kernel
theorem dX7_memberFaults_41 : decode cX7_memberFaults 41 = .ok (.aload_n 0, 1) := by decide +kernel
theorem dX7_memberFaults_42 : decode cX7_memberFaults 42 = .ok (.iload_n 2, 1) := by decide +kernel
theorem dX7_memberFaults_43 : decode cX7_memberFaults 43 = .ok (.iload_n 3, 1) := by decide +kernel
theorem dX7_memberFaults_44 : decode cX7_memberFaults 44 = .ok (.invokevirtual 112, 3) := by decide +kernel
theorem dX7_memberFaults_47 : decode cX7_memberFaults 47 = .ok (.ifCond .eq 7, 3) := by decide +kernel
theorem dX7_memberFaults_50 : decode cX7_memberFaults 50 = .ok (.iconst 1, 1) := by decide +kernel
theorem dX7_memberFaults_51 : decode cX7_memberFaults 51 = .ok (.goto 4, 3) := by decide +kernel
theorem dX7_memberFaults_54 : decode cX7_memberFaults 54 = .ok (.iconst 0, 1) := by decide +kernel
theorem dX7_memberFaults_55 : decode cX7_memberFaults 55 = .ok (.invokevirtual 91, 3) := by decide +kernel
theorem dX7_memberFaults_58 : decode cX7_memberFaults 58 = .ok (.iinc 3 1, 3) := by decide +kernel
theorem dX7_memberFaults_61 : decode cX7_memberFaults 61 = .ok (.goto (-39), 3) := by decide +kernel
theorem dX7_memberFaults_64 : decode cX7_memberFaults 64 = .ok (.aload_n 0, 1) := by decide +kernel
theorem dX7_memberFaults_65 : decode cX7_memberFaults 65 = .ok (.bipush 11, 2) := by decide +kernel
theorem dX7_memberFaults_67 : decode cX7_memberFaults 67 = .ok (.iload_n 2, 1) := by decide +kernel
theorem dX7_memberFaults_68 : decode cX7_memberFaults 68 = .ok (.aload_n 0, 1) := by decide +kernel
theorem dX7_memberFaults_69 : decode cX7_memberFaults 69 = .ok (.iload_n 2, 1) := by decide +kernel
theorem dX7_memberFaults_70 : decode cX7_memberFaults 70 = .ok (.iload_n 1, 1) := by decide +kernel
theorem dX7_memberFaults_71 : decode cX7_memberFaults 71 = .ok (.invokevirtual 115, 3) := by decide +kernel
theorem dX7_memberFaults_74 : decode cX7_memberFaults 74 = .ok (.invokevirtual 91, 3) := by decide +kernel
theorem dX7_memberFaults_77 : decode cX7_memberFaults 77 = .ok (.iinc 2 1, 3) := by decide +kernel
theorem dX7_memberFaults_80 : decode cX7_memberFaults 80 = .ok (.goto (-78), 3) := by decide +kernel
theorem dX7_memberFaults_83 : decode cX7_memberFaults 83 = .ok (.return_, 1) := by decide +kernel
theorem dX7_isWrong_0 : decode cX7_isWrong 0 = .ok (.aload_n 0, 1) := by decide +kernel
theorem dX7_isWrong_1 : decode cX7_isWrong 1 = .ok (.iload_n 1, 1) := by decide +kernel
theorem dX7_isWrong_2 : decode cX7_isWrong 2 = .ok (.iconst 1, 1) := by decide +kernel
theorem dX7_isWrong_3 : decode cX7_isWrong 3 = .ok (.iconst 1, 1) := by decide +kernel
theorem dX7_isWrong_4 : decode cX7_isWrong 4 = .ok (.invokevirtual 87, 3) := by decide +kernel
theorem dX7_isWrong_7 : decode cX7_isWrong 7 = .ok (.istore_n 3, 1) := by decide +kernel
theorem dX7_isWrong_8 : decode cX7_isWrong 8 = .ok (.aload_n 0, 1) := by decide +kernel
theorem dX7_isWrong_9 : decode cX7_isWrong 9 = .ok (.getfield 46, 3) := by decide +kernel
theorem dX7_isWrong_12 : decode cX7_isWrong 12 = .ok (.iload_n 1, 1) := by decide +kernel
theorem dX7_isWrong_13 : decode cX7_isWrong 13 = .ok (.iaload, 1) := by decide +kernel
theorem dX7_isWrong_14 : decode cX7_isWrong 14 = .ok (.ifCond .ne 7, 3) := by decide +kernel
theorem dX7_isWrong_17 : decode cX7_isWrong 17 = .ok (.iconst 1, 1) := by decide +kernel
theorem dX7_isWrong_18 : decode cX7_isWrong 18 = .ok (.goto 4, 3) := by decide +kernel
theorem dX7_isWrong_21 : decode cX7_isWrong 21 = .ok (.iconst 0, 1) := by decide +kernel
theorem dX7_isWrong_22 : decode cX7_isWrong 22 = .ok (.istore 4, 2) := by decide +kernel
theorem dX7_isWrong_24 : decode cX7_isWrong 24 = .ok (.aload_n 0, 1) := by decide +kernel
theorem dX7_isWrong_25 : decode cX7_isWrong 25 = .ok (.getfield 7, 3) := by decide +kernel
theorem dX7_isWrong_28 : decode cX7_isWrong 28 = .ok (.iload_n 2, 1) := by decide +kernel
theorem dX7_isWrong_29 : decode cX7_isWrong 29 = .ok (.iaload, 1) := by decide +kernel
theorem dX7_isWrong_30 : decode cX7_isWrong 30 = .ok (.iconst 1, 1) := by decide +kernel
theorem dX7_isWrong_31 : decode cX7_isWrong 31 = .ok (.if_icmp .ne 94, 3) := by decide +kernel
theorem dX7_isWrong_34 : decode cX7_isWrong 34 = .ok (.iload_n 3, 1) := by decide +kernel
theorem dX7_isWrong_35 : decode cX7_isWrong 35 = .ok (.ifCond .eq 7, 3) := by decide +kernel
theorem dX7_isWrong_38 : decode cX7_isWrong 38 = .ok (.iconst 1, 1) := by decide +kernel
theorem dX7_isWrong_39 : decode cX7_isWrong 39 = .ok (.goto 4, 3) := by decide +kernel
theorem dX7_isWrong_42 : decode cX7_isWrong 42 = .ok (.iconst 0, 1) := by decide +kernel
theorem dX7_isWrong_43 : decode cX7_isWrong 43 = .ok (.aload_n 0, 1) := by decide +kernel
theorem dX7_isWrong_44 : decode cX7_isWrong 44 = .ok (.iload_n 1, 1) := by decide +kernel
theorem dX7_isWrong_45 : decode cX7_isWrong 45 = .ok (.iconst 1, 1) := by decide +kernel
theorem dX7_isWrong_46 : decode cX7_isWrong 46 = .ok (.bipush 8, 2) := by decide +kernel
theorem dX7_isWrong_48 : decode cX7_isWrong 48 = .ok (.invokevirtual 87, 3) := by decide +kernel
theorem dX7_isWrong_51 : decode cX7_isWrong 51 = .ok (.ifCond .eq 7, 3) := by decide +kernel
theorem dX7_isWrong_54 : decode cX7_isWrong 54 = .ok (.iconst 1, 1) := by decide +kernel
theorem dX7_isWrong_55 : decode cX7_isWrong 55 = .ok (.goto 4, 3) := by decide +kernel
theorem dX7_isWrong_58 : decode cX7_isWrong 58 = .ok (.iconst 0, 1) := by decide +kernel
theorem dX7_isWrong_59 : decode cX7_isWrong 59 = .ok (.iadd, 1) := by decide +kernel
theorem dX7_isWrong_60 : decode cX7_isWrong 60 = .ok (.aload_n 0, 1) := by decide +kernel
theorem dX7_isWrong_61 : decode cX7_isWrong 61 = .ok (.iload_n 1, 1) := by decide +kernel
theorem dX7_isWrong_62 : decode cX7_isWrong 62 = .ok (.iconst 1, 1) := by decide +kernel
theorem dX7_isWrong_63 : decode cX7_isWrong 63 = .ok (.iconst 4, 1) := by decide +kernel
theorem dX7_isWrong_64 : decode cX7_isWrong 64 = .ok (.invokevirtual 87, 3) := by decide +kernel
theorem dX7_isWrong_67 : decode cX7_isWrong 67 = .ok (.ifCond .eq 7, 3) := by decide +kernel
theorem dX7_isWrong_70 : decode cX7_isWrong 70 = .ok (.iconst 1, 1) := by decide +kernel
theorem dX7_isWrong_71 : decode cX7_isWrong 71 = .ok (.goto 4, 3) := by decide +kernel
theorem dX7_isWrong_74 : decode cX7_isWrong 74 = .ok (.iconst 0, 1) := by decide +kernel
theorem dX7_isWrong_75 : decode cX7_isWrong 75 = .ok (.iadd, 1) := by decide +kernel
theorem dX7_isWrong_76 : decode cX7_isWrong 76 = .ok (.iload 4, 2) := by decide +kernel
theorem dX7_isWrong_78 : decode cX7_isWrong 78 = .ok (.ifCond .eq 7, 3) := by decide +kernel
theorem dX7_isWrong_81 : decode cX7_isWrong 81 = .ok (.iconst 1, 1) := by decide +kernel
theorem dX7_isWrong_82 : decode cX7_isWrong 82 = .ok (.goto 4, 3) := by decide +kernel
theorem dX7_isWrong_85 : decode cX7_isWrong 85 = .ok (.iconst 0, 1) := by decide +kernel
theorem dX7_isWrong_86 : decode cX7_isWrong 86 = .ok (.iadd, 1) := by decide +kernel
theorem dX7_isWrong_87 : decode cX7_isWrong 87 = .ok (.istore 5, 2) := by decide +kernel
theorem dX7_isWrong_89 : decode cX7_isWrong 89 = .ok (.aload_n 0, 1) := by decide +kernel
theorem dX7_isWrong_90 : decode cX7_isWrong 90 = .ok (.iload_n 1, 1) := by decide +kernel
theorem dX7_isWrong_91 : decode cX7_isWrong 91 = .ok (.iconst 1, 1) := by decide +kernel
theorem dX7_isWrong_92 : decode cX7_isWrong 92 = .ok (.iconst 2, 1) := by decide +kernel
theorem dX7_isWrong_93 : decode cX7_isWrong 93 = .ok (.invokevirtual 87, 3) := by decide +kernel
theorem dX7_isWrong_96 : decode cX7_isWrong 96 = .ok (.ifCond .ne 23, 3) := by decide +kernel
theorem dX7_isWrong_99 : decode cX7_isWrong 99 = .ok (.aload_n 0, 1) := by decide +kernel
theorem dX7_isWrong_100 : decode cX7_isWrong 100 = .ok (.getfield 46, 3) := by decide +kernel
theorem dX7_isWrong_103 : decode cX7_isWrong 103 = .ok (.iload_n 1, 1) := by decide +kernel
theorem dX7_isWrong_104 : decode cX7_isWrong 104 = .ok (.iaload, 1) := by decide +kernel
theorem dX7_isWrong_105 : decode cX7_isWrong 105 = .ok (.iconst 1, 1) := by decide +kernel
theorem dX7_isWrong_106 : decode cX7_isWrong 106 = .ok (.iconst 2, 1) := by decide +kernel
theorem dX7_isWrong_107 : decode cX7_isWrong 107 = .ok (.invokestatic 69, 3) := by decide +kernel
theorem dX7_isWrong_110 : decode cX7_isWrong 110 = .ok (.ifCond .ne 9, 3) := by decide +kernel
theorem dX7_isWrong_113 : decode cX7_isWrong 113 = .ok (.iload 5, 2) := by decide +kernel
theorem dX7_isWrong_115 : decode cX7_isWrong 115 = .ok (.iconst 1, 1) := by decide +kernel
theorem dX7_isWrong_116 : decode cX7_isWrong 116 = .ok (.if_icmp .eq 7, 3) := by decide +kernel
theorem dX7_isWrong_119 : decode cX7_isWrong 119 = .ok (.iconst 1, 1) := by decide +kernel
theorem dX7_isWrong_120 : decode cX7_isWrong 120 = .ok (.goto 4, 3) := by decide +kernel
theorem dX7_isWrong_123 : decode cX7_isWrong 123 = .ok (.iconst 0, 1) := by decide +kernel
theorem dX7_isWrong_124 : decode cX7_isWrong 124 = .ok (.ireturn, 1) := by decide +kernel
theorem dX7_isWrong_125 : decode cX7_isWrong 125 = .ok (.aload_n 0, 1) := by decide +kernel
theorem dX7_isWrong_126 : decode cX7_isWrong 126 = .ok (.getfield 7, 3) := by decide +kernel
theorem dX7_isWrong_129 : decode cX7_isWrong 129 = .ok (.iload_n 2, 1) := by decide +kernel
theorem dX7_isWrong_130 : decode cX7_isWrong 130 = .ok (.iaload, 1) := by decide +kernel
theorem dX7_isWrong_131 : decode cX7_isWrong 131 = .ok (.ifCond .ne 16, 3) := by decide +kernel
theorem dX7_isWrong_134 : decode cX7_isWrong 134 = .ok (.aload_n 0, 1) := by decide +kernel
theorem dX7_isWrong_135 : decode cX7_isWrong 135 = .ok (.iload_n 2, 1) := by decide +kernel
theorem dX7_isWrong_136 : decode cX7_isWrong 136 = .ok (.iconst 1, 1) := by decide +kernel
theorem dX7_isWrong_137 : decode cX7_isWrong 137 = .ok (.invokevirtual 95, 3) := by decide +kernel
theorem dX7_isWrong_140 : decode cX7_isWrong 140 = .ok (.ifCond .eq 7, 3) := by decide +kernel
theorem dX7_isWrong_143 : decode cX7_isWrong 143 = .ok (.iconst 1, 1) := by decide +kernel
theorem dX7_isWrong_144 : decode cX7_isWrong 144 = .ok (.goto 4, 3) := by decide +kernel
theorem dX7_isWrong_147 : decode cX7_isWrong 147 = .ok (.iconst 0, 1) := by decide +kernel
theorem dX7_isWrong_148 : decode cX7_isWrong 148 = .ok (.istore 5, 2) := by decide +kernel
theorem dX7_isWrong_150 : decode cX7_isWrong 150 = .ok (.aload_n 0, 1) := by decide +kernel
theorem dX7_isWrong_151 : decode cX7_isWrong 151 = .ok (.iload_n 1, 1) := by decide +kernel
theorem dX7_isWrong_152 : decode cX7_isWrong 152 = .ok (.iconst 1, 1) := by decide +kernel
theorem dX7_isWrong_153 : decode cX7_isWrong 153 = .ok (.bipush 8, 2) := by decide +kernel
theorem dX7_isWrong_155 : decode cX7_isWrong 155 = .ok (.invokevirtual 87, 3) := by decide +kernel
theorem dX7_isWrong_158 : decode cX7_isWrong 158 = .ok (.ifCond .ne 37, 3) := by decide +kernel
theorem dX7_isWrong_161 : decode cX7_isWrong 161 = .ok (.iload_n 3, 1) := by decide +kernel
theorem dX7_isWrong_162 : decode cX7_isWrong 162 = .ok (.ifCond .eq 37, 3) := by decide +kernel
theorem dX7_isWrong_165 : decode cX7_isWrong 165 = .ok (.aload_n 0, 1) := by decide +kernel
theorem dX7_isWrong_166 : decode cX7_isWrong 166 = .ok (.iload_n 1, 1) := by decide +kernel
theorem dX7_isWrong_167 : decode cX7_isWrong 167 = .ok (.iconst 1, 1) := by decide +kernel
theorem dX7_isWrong_168 : decode cX7_isWrong 168 = .ok (.iconst 2, 1) := by decide +kernel
theorem dX7_isWrong_169 : decode cX7_isWrong 169 = .ok (.invokevirtual 87, 3) := by decide +kernel
theorem dX7_isWrong_172 : decode cX7_isWrong 172 = .ok (.ifCond .ne 23, 3) := by decide +kernel
theorem dX7_isWrong_175 : decode cX7_isWrong 175 = .ok (.aload_n 0, 1) := by decide +kernel
theorem dX7_isWrong_176 : decode cX7_isWrong 176 = .ok (.iload_n 1, 1) := by decide +kernel
theorem dX7_isWrong_177 : decode cX7_isWrong 177 = .ok (.iconst 1, 1) := by decide +kernel
theorem dX7_isWrong_178 : decode cX7_isWrong 178 = .ok (.iconst 4, 1) := by decide +kernel
theorem dX7_isWrong_179 : decode cX7_isWrong 179 = .ok (.invokevirtual 87, 3) := by decide +kernel
theorem dX7_isWrong_182 : decode cX7_isWrong 182 = .ok (.ifCond .ne 13, 3) := by decide +kernel
theorem dX7_isWrong_185 : decode cX7_isWrong 185 = .ok (.iload 4, 2) := by decide +kernel
theorem dX7_isWrong_187 : decode cX7_isWrong 187 = .ok (.ifCond .ne 8, 3) := by decide +kernel
theorem dX7_isWrong_190 : decode cX7_isWrong 190 = .ok (.iload 5, 2) := by decide +kernel
theorem dX7_isWrong_192 : decode cX7_isWrong 192 = .ok (.ifCond .ne 7, 3) := by decide +kernel
theorem dX7_isWrong_195 : decode cX7_isWrong 195 = .ok (.iconst 1, 1) := by decide +kernel
theorem dX7_isWrong_196 : decode cX7_isWrong 196 = .ok (.goto 4, 3) := by decide +kernel
theorem dX7_isWrong_199 : decode cX7_isWrong 199 = .ok (.iconst 0, 1) := by decide +kernel
theorem dX7_isWrong_200 : decode cX7_isWrong 200 = .ok (.ireturn, 1) := by decide +kernel
theorem dX7_fitsResult_0 : decode cX7_fitsResult 0 = .ok (.iload_n 1, 1) := by decide +kernel
theorem dX7_fitsResult_1 : decode cX7_fitsResult 1 = .ok (.iload_n 2, 1) := by decide +kernel
theorem dX7_fitsResult_2 : decode cX7_fitsResult 2 = .ok (.if_icmp .eq 52, 3) := by decide +kernel
theorem dX7_fitsResult_5 : decode cX7_fitsResult 5 = .ok (.iload_n 1, 1) := by decide +kernel
theorem dX7_fitsResult_6 : decode cX7_fitsResult 6 = .ok (.bipush 9, 2) := by decide +kernel
theorem dX7_fitsResult_8 : decode cX7_fitsResult 8 = .ok (.if_icmp .le 50, 3) := by decide +kernel
theorem dX7_fitsResult_11 : decode cX7_fitsResult 11 = .ok (.iload_n 2, 1) := by decide +kernel
theorem dX7_fitsResult_12 : decode cX7_fitsResult 12 = .ok (.bipush 9, 2) := by decide +kernel
theorem dX7_fitsResult_14 : decode cX7_fitsResult 14 = .ok (.if_icmp .le 44, 3) := by decide +kernel
theorem dX7_fitsResult_17 : decode cX7_fitsResult 17 = .ok (.aload_n 0, 1) := by decide +kernel
theorem dX7_fitsResult_18 : decode cX7_fitsResult 18 = .ok (.iload_n 1, 1) := by decide +kernel
theorem dX7_fitsResult_19 : decode cX7_fitsResult 19 = .ok (.bipush 10, 2) := by decide +kernel
theorem dX7_fitsResult_21 : decode cX7_fitsResult 21 = .ok (.isub, 1) := by decide +kernel
theorem dX7_fitsResult_22 : decode cX7_fitsResult 22 = .ok (.invokevirtual 77, 3) := by decide +kernel
theorem dX7_fitsResult_25 : decode cX7_fitsResult 25 = .ok (.ifCond .eq 33, 3) := by decide +kernel
theorem dX7_fitsResult_28 : decode cX7_fitsResult 28 = .ok (.aload_n 0, 1) := by decide +kernel
theorem dX7_fitsResult_29 : decode cX7_fitsResult 29 = .ok (.iload_n 2, 1) := by decide +kernel
theorem dX7_fitsResult_30 : decode cX7_fitsResult 30 = .ok (.bipush 10, 2) := by decide +kernel
theorem dX7_fitsResult_32 : decode cX7_fitsResult 32 = .ok (.isub, 1) := by decide +kernel
theorem dX7_fitsResult_33 : decode cX7_fitsResult 33 = .ok (.invokevirtual 77, 3) := by decide +kernel
theorem dX7_fitsResult_36 : decode cX7_fitsResult 36 = .ok (.ifCond .eq 22, 3) := by decide +kernel
theorem dX7_fitsResult_39 : decode cX7_fitsResult 39 = .ok (.aload_n 0, 1) := by decide +kernel
theorem dX7_fitsResult_40 : decode cX7_fitsResult 40 = .ok (.iload_n 1, 1) := by decide +kernel
theorem dX7_fitsResult_41 : decode cX7_fitsResult 41 = .ok (.bipush 10, 2) := by decide +kernel
theorem dX7_fitsResult_43 : decode cX7_fitsResult 43 = .ok (.isub, 1) := by decide +kernel
theorem dX7_fitsResult_44 : decode cX7_fitsResult 44 = .ok (.iload_n 2, 1) := by decide +kernel
theorem dX7_fitsResult_45 : decode cX7_fitsResult 45 = .ok (.bipush 10, 2) := by decide +kernel
theorem dX7_fitsResult_47 : decode cX7_fitsResult 47 = .ok (.isub, 1) := by decide +kernel
theorem dX7_fitsResult_48 : decode cX7_fitsResult 48 = .ok (.invokevirtual 118, 3) := by decide +kernel
theorem dX7_fitsResult_51 : decode cX7_fitsResult 51 = .ok (.ifCond .eq 7, 3) := by decide +kernel
theorem dX7_fitsResult_54 : decode cX7_fitsResult 54 = .ok (.iconst 1, 1) := by decide +kernel
theorem dX7_fitsResult_55 : decode cX7_fitsResult 55 = .ok (.goto 4, 3) := by decide +kernel
theorem dX7_fitsResult_58 : decode cX7_fitsResult 58 = .ok (.iconst 0, 1) := by decide +kernel
theorem dX7_fitsResult_59 : decode cX7_fitsResult 59 = .ok (.ireturn, 1) := by decide +kernel
theorem dX7_overFaults_0 : decode cX7_overFaults 0 = .ok (.iconst 0, 1) := by decide +kernel
theorem dX7_overFaults_1 : decode cX7_overFaults 1 = .ok (.istore_n 2, 1) := by decide +kernel
theorem dX7_overFaults_2 : decode cX7_overFaults 2 = .ok (.iload_n 2, 1) := by decide +kernel
theorem dX7_overFaults_3 : decode cX7_overFaults 3 = .ok (.aload_n 0, 1) := by decide +kernel
theorem dX7_overFaults_4 : decode cX7_overFaults 4 = .ok (.getfield 81, 3) := by decide +kernel
theorem dX7_overFaults_7 : decode cX7_overFaults 7 = .ok (.if_icmp .ge 163, 3) := by decide +kernel
theorem dX7_overFaults_10 : decode cX7_overFaults 10 = .ok (.iconst 0, 1) := by decide +kernel
theorem dX7_overFaults_11 : decode cX7_overFaults 11 = .ok (.istore_n 3, 1) := by decide +kernel
theorem dX7_overFaults_12 : decode cX7_overFaults 12 = .ok (.iload_n 3, 1) := by decide +kernel
theorem dX7_overFaults_13 : decode cX7_overFaults 13 = .ok (.aload_n 0, 1) := by decide +kernel
theorem dX7_overFaults_14 : decode cX7_overFaults 14 = .ok (.getfield 81, 3) := by decide +kernel
theorem dX7_overFaults_17 : decode cX7_overFaults 17 = .ok (.if_icmp .ge 147, 3) := by decide +kernel
theorem dX7_overFaults_20 : decode cX7_overFaults 20 = .ok (.aload_n 0, 1) := by decide +kernel
theorem dX7_overFaults_21 : decode cX7_overFaults 21 = .ok (.getfield 34, 3) := by decide +kernel
theorem dX7_overFaults_24 : decode cX7_overFaults 24 = .ok (.iload_n 2, 1) := by decide +kernel
theorem dX7_overFaults_25 : decode cX7_overFaults 25 = .ok (.iaload, 1) := by decide +kernel
theorem dX7_overFaults_26 : decode cX7_overFaults 26 = .ok (.iload_n 1, 1) := by decide +kernel
theorem dX7_overFaults_27 : decode cX7_overFaults 27 = .ok (.if_icmp .ne 137, 3) := by decide +kernel
theorem dX7_overFaults_30 : decode cX7_overFaults 30 = .ok (.aload_n 0, 1) := by decide +kernel
theorem dX7_overFaults_31 : decode cX7_overFaults 31 = .ok (.getfield 46, 3) := by decide +kernel
theorem dX7_overFaults_34 : decode cX7_overFaults 34 = .ok (.iload_n 2, 1) := by decide +kernel
theorem dX7_overFaults_35 : decode cX7_overFaults 35 = .ok (.iaload, 1) := by decide +kernel
theorem dX7_overFaults_36 : decode cX7_overFaults 36 = .ok (.ifCond .le 128, 3) := by decide +kernel
theorem dX7_overFaults_39 : decode cX7_overFaults 39 = .ok (.aload_n 0, 1) := by decide +kernel
theorem dX7_overFaults_40 : decode cX7_overFaults 40 = .ok (.iload_n 2, 1) := by decide +kernel
theorem dX7_overFaults_41 : decode cX7_overFaults 41 = .ok (.iload_n 3, 1) := by decide +kernel
theorem dX7_overFaults_42 : decode cX7_overFaults 42 = .ok (.invokevirtual 112, 3) := by decide +kernel
theorem dX7_overFaults_45 : decode cX7_overFaults 45 = .ok (.ifCond .eq 113, 3) := by decide +kernel
theorem dX7_overFaults_48 : decode cX7_overFaults 48 = .ok (.aload_n 0, 1) := by decide +kernel
theorem dX7_overFaults_49 : decode cX7_overFaults 49 = .ok (.iload_n 3, 1) := by decide +kernel
theorem dX7_overFaults_50 : decode cX7_overFaults 50 = .ok (.iload_n 1, 1) := by decide +kernel
theorem dX7_overFaults_51 : decode cX7_overFaults 51 = .ok (.invokevirtual 121, 3) := by decide +kernel
theorem dX7_overFaults_54 : decode cX7_overFaults 54 = .ok (.ifCond .eq 104, 3) := by decide +kernel
theorem dX7_overFaults_57 : decode cX7_overFaults 57 = .ok (.aload_n 0, 1) := by decide +kernel
theorem dX7_overFaults_58 : decode cX7_overFaults 58 = .ok (.bipush 12, 2) := by decide +kernel
theorem dX7_overFaults_60 : decode cX7_overFaults 60 = .ok (.iload_n 2, 1) := by decide +kernel
theorem dX7_overFaults_61 : decode cX7_overFaults 61 = .ok (.aload_n 0, 1) := by decide +kernel
theorem dX7_overFaults_62 : decode cX7_overFaults 62 = .ok (.iload_n 3, 1) := by decide +kernel
theorem dX7_overFaults_63 : decode cX7_overFaults 63 = .ok (.iconst 1, 1) := by decide +kernel
theorem dX7_overFaults_64 : decode cX7_overFaults 64 = .ok (.iconst 2, 1) := by decide +kernel
theorem dX7_overFaults_65 : decode cX7_overFaults 65 = .ok (.invokevirtual 87, 3) := by decide +kernel
theorem dX7_overFaults_68 : decode cX7_overFaults 68 = .ok (.invokevirtual 91, 3) := by decide +kernel
theorem dX7_overFaults_71 : decode cX7_overFaults 71 = .ok (.aload_n 0, 1) := by decide +kernel
theorem dX7_overFaults_72 : decode cX7_overFaults 72 = .ok (.bipush 13, 2) := by decide +kernel
theorem dX7_overFaults_74 : decode cX7_overFaults 74 = .ok (.iload_n 2, 1) := by decide +kernel
theorem dX7_overFaults_75 : decode cX7_overFaults 75 = .ok (.aload_n 0, 1) := by decide +kernel
theorem dX7_overFaults_76 : decode cX7_overFaults 76 = .ok (.iload_n 2, 1) := by decide +kernel
theorem dX7_overFaults_77 : decode cX7_overFaults 77 = .ok (.iconst 1, 1) := by decide +kernel
theorem dX7_overFaults_78 : decode cX7_overFaults 78 = .ok (.iconst 4, 1) := by decide +kernel
theorem dX7_overFaults_79 : decode cX7_overFaults 79 = .ok (.invokevirtual 87, 3) := by decide +kernel
theorem dX7_overFaults_82 : decode cX7_overFaults 82 = .ok (.aload_n 0, 1) := by decide +kernel
theorem dX7_overFaults_83 : decode cX7_overFaults 83 = .ok (.iload_n 3, 1) := by decide +kernel
theorem dX7_overFaults_84 : decode cX7_overFaults 84 = .ok (.iconst 1, 1) := by decide +kernel
theorem dX7_overFaults_85 : decode cX7_overFaults 85 = .ok (.iconst 4, 1) := by decide +kernel
theorem dX7_overFaults_86 : decode cX7_overFaults 86 = .ok (.invokevirtual 87, 3) := by decide +kernel
theorem dX7_overFaults_89 : decode cX7_overFaults 89 = .ok (.if_icmp .eq 7, 3) := by decide +kernel
theorem dX7_overFaults_92 : decode cX7_overFaults 92 = .ok (.iconst 1, 1) := by decide +kernel
theorem dX7_overFaults_93 : decode cX7_overFaults 93 = .ok (.goto 4, 3) := by decide +kernel
theorem dX7_overFaults_96 : decode cX7_overFaults 96 = .ok (.iconst 0, 1) := by decide +kernel
theorem dX7_overFaults_97 : decode cX7_overFaults 97 = .ok (.invokevirtual 91, 3) := by decide +kernel
theorem dX7_overFaults_100 : decode cX7_overFaults 100 = .ok (.aload_n 0, 1) := by decide +kernel
theorem dX7_overFaults_101 : decode cX7_overFaults 101 = .ok (.bipush 14, 2) := by decide +kernel
theorem dX7_overFaults_103 : decode cX7_overFaults 103 = .ok (.iload_n 2, 1) := by decide +kernel
theorem dX7_overFaults_104 : decode cX7_overFaults 104 = .ok (.aload_n 0, 1) := by decide +kernel
theorem dX7_overFaults_105 : decode cX7_overFaults 105 = .ok (.getfield 46, 3) := by decide +kernel
theorem dX7_overFaults_108 : decode cX7_overFaults 108 = .ok (.iload_n 3, 1) := by decide +kernel
theorem dX7_overFaults_109 : decode cX7_overFaults 109 = .ok (.iaload, 1) := by decide +kernel
theorem dX7_overFaults_110 : decode cX7_overFaults 110 = .ok (.aload_n 0, 1) := by decide +kernel
theorem dX7_overFaults_111 : decode cX7_overFaults 111 = .ok (.getfield 46, 3) := by decide +kernel
theorem dX7_overFaults_114 : decode cX7_overFaults 114 = .ok (.iload_n 2, 1) := by decide +kernel
theorem dX7_overFaults_115 : decode cX7_overFaults 115 = .ok (.iaload, 1) := by decide +kernel
theorem dX7_overFaults_116 : decode cX7_overFaults 116 = .ok (.if_icmp .le 7, 3) := by decide +kernel
theorem dX7_overFaults_119 : decode cX7_overFaults 119 = .ok (.iconst 1, 1) := by decide +kernel
theorem dX7_overFaults_120 : decode cX7_overFaults 120 = .ok (.goto 4, 3) := by decide +kernel
theorem dX7_overFaults_123 : decode cX7_overFaults 123 = .ok (.iconst 0, 1) := by decide +kernel
theorem dX7_overFaults_124 : decode cX7_overFaults 124 = .ok (.invokevirtual 91, 3) := by decide +kernel
theorem dX7_overFaults_127 : decode cX7_overFaults 127 = .ok (.aload_n 0, 1) := by decide +kernel
theorem dX7_overFaults_128 : decode cX7_overFaults 128 = .ok (.bipush 15, 2) := by decide +kernel
theorem dX7_overFaults_130 : decode cX7_overFaults 130 = .ok (.iload_n 2, 1) := by decide +kernel
theorem dX7_overFaults_131 : decode cX7_overFaults 131 = .ok (.aload_n 0, 1) := by decide +kernel
theorem dX7_overFaults_132 : decode cX7_overFaults 132 = .ok (.aload_n 0, 1) := by decide +kernel
theorem dX7_overFaults_133 : decode cX7_overFaults 133 = .ok (.getfield 49, 3) := by decide +kernel
theorem dX7_overFaults_136 : decode cX7_overFaults 136 = .ok (.iload_n 2, 1) := by decide +kernel
theorem dX7_overFaults_137 : decode cX7_overFaults 137 = .ok (.iaload, 1) := by decide +kernel
theorem dX7_overFaults_138 : decode cX7_overFaults 138 = .ok (.aload_n 0, 1) := by decide +kernel
theorem dX7_overFaults_139 : decode cX7_overFaults 139 = .ok (.getfield 49, 3) := by decide +kernel
theorem dX7_overFaults_142 : decode cX7_overFaults 142 = .ok (.iload_n 3, 1) := by decide +kernel
theorem dX7_overFaults_143 : decode cX7_overFaults 143 = .ok (.iaload, 1) := by decide +kernel
theorem dX7_overFaults_144 : decode cX7_overFaults 144 = .ok (.invokevirtual 124, 3) := by decide +kernel
theorem dX7_overFaults_147 : decode cX7_overFaults 147 = .ok (.ifCond .ne 7, 3) := by decide +kernel
theorem dX7_overFaults_150 : decode cX7_overFaults 150 = .ok (.iconst 1, 1) := by decide +kernel
theorem dX7_overFaults_151 : decode cX7_overFaults 151 = .ok (.goto 4, 3) := by decide +kernel
theorem dX7_overFaults_154 : decode cX7_overFaults 154 = .ok (.iconst 0, 1) := by decide +kernel
theorem dX7_overFaults_155 : decode cX7_overFaults 155 = .ok (.invokevirtual 91, 3) := by decide +kernel
theorem dX7_overFaults_158 : decode cX7_overFaults 158 = .ok (.iinc 3 1, 3) := by decide +kernel
theorem dX7_overFaults_161 : decode cX7_overFaults 161 = .ok (.goto (-149), 3) := by decide +kernel
theorem dX7_overFaults_164 : decode cX7_overFaults 164 = .ok (.iinc 2 1, 3) := by decide +kernel
theorem dX7_overFaults_167 : decode cX7_overFaults 167 = .ok (.goto (-165), 3) := by decide +kernel
theorem dX7_overFaults_170 : decode cX7_overFaults 170 = .ok (.return_, 1) := by decide +kernel
theorem dX7_classOne_0 : decode cX7_classOne 0 = .ok (.aload_n 0, 1) := by decide +kernel
theorem dX7_classOne_1 : decode cX7_classOne 1 = .ok (.getfield 7, 3) := by decide +kernel
theorem dX7_classOne_4 : decode cX7_classOne 4 = .ok (.iload_n 1, 1) := by decide +kernel
theorem dX7_classOne_5 : decode cX7_classOne 5 = .ok (.iaload, 1) := by decide +kernel
theorem dX7_classOne_6 : decode cX7_classOne 6 = .ok (.iconst 1, 1) := by decide +kernel
theorem dX7_classOne_7 : decode cX7_classOne 7 = .ok (.if_icmp .ne 5, 3) := by decide +kernel
theorem dX7_classOne_10 : decode cX7_classOne 10 = .ok (.iconst (-1), 1) := by decide +kernel
theorem dX7_classOne_11 : decode cX7_classOne 11 = .ok (.ireturn, 1) := by decide +kernel
theorem dX7_classOne_12 : decode cX7_classOne 12 = .ok (.iload_n 1, 1) := by decide +kernel
theorem dX7_classOne_13 : decode cX7_classOne 13 = .ok (.istore 4, 2) := by decide +kernel
theorem dX7_classOne_15 : decode cX7_classOne 15 = .ok (.iconst 0, 1) := by decide +kernel
theorem dX7_classOne_16 : decode cX7_classOne 16 = .ok (.istore 5, 2) := by decide +kernel
theorem dX7_classOne_18 : decode cX7_classOne 18 = .ok (.iload 5, 2) := by decide +kernel
theorem dX7_classOne_20 : decode cX7_classOne 20 = .ok (.bipush 20, 2) := by decide +kernel
theorem dX7_classOne_22 : decode cX7_classOne 22 = .ok (.if_icmp .ge 109, 3) := by decide +kernel
theorem dX7_classOne_25 : decode cX7_classOne 25 = .ok (.aload_n 0, 1) := by decide +kernel
theorem dX7_classOne_26 : decode cX7_classOne 26 = .ok (.iload 4, 2) := by decide +kernel
theorem dX7_classOne_28 : decode cX7_classOne 28 = .ok (.invokevirtual 77, 3) := by decide +kernel
theorem dX7_classOne_31 : decode cX7_classOne 31 = .ok (.ifCond .eq 100, 3) := by decide +kernel
theorem dX7_classOne_34 : decode cX7_classOne 34 = .ok (.iconst 0, 1) := by decide +kernel
theorem dX7_classOne_35 : decode cX7_classOne 35 = .ok (.istore 6, 2) := by decide +kernel
theorem dX7_classOne_37 : decode cX7_classOne 37 = .ok (.iload 6, 2) := by decide +kernel
theorem dX7_classOne_39 : decode cX7_classOne 39 = .ok (.aload_n 0, 1) := by decide +kernel
theorem dX7_classOne_40 : decode cX7_classOne 40 = .ok (.getfield 81, 3) := by decide +kernel
theorem dX7_classOne_43 : decode cX7_classOne 43 = .ok (.if_icmp .ge 73, 3) := by decide +kernel
theorem dX7_classOne_46 : decode cX7_classOne 46 = .ok (.aload_n 0, 1) := by decide +kernel
theorem dX7_classOne_47 : decode cX7_classOne 47 = .ok (.getfield 34, 3) := by decide +kernel
theorem dX7_classOne_50 : decode cX7_classOne 50 = .ok (.iload 6, 2) := by decide +kernel
theorem dX7_classOne_52 : decode cX7_classOne 52 = .ok (.iaload, 1) := by decide +kernel
theorem dX7_classOne_53 : decode cX7_classOne 53 = .ok (.iload 4, 2) := by decide +kernel
theorem dX7_classOne_55 : decode cX7_classOne 55 = .ok (.if_icmp .ne 55, 3) := by decide +kernel
theorem dX7_classOne_58 : decode cX7_classOne 58 = .ok (.aload_n 0, 1) := by decide +kernel
theorem dX7_classOne_59 : decode cX7_classOne 59 = .ok (.getfield 37, 3) := by decide +kernel
theorem dX7_classOne_62 : decode cX7_classOne 62 = .ok (.iload 6, 2) := by decide +kernel
theorem dX7_classOne_64 : decode cX7_classOne 64 = .ok (.iaload, 1) := by decide +kernel
theorem dX7_classOne_65 : decode cX7_classOne 65 = .ok (.iload_n 2, 1) := by decide +kernel
theorem dX7_classOne_66 : decode cX7_classOne 66 = .ok (.if_icmp .ne 44, 3) := by decide +kernel
theorem dX7_classOne_69 : decode cX7_classOne 69 = .ok (.aload_n 0, 1) := by decide +kernel
theorem dX7_classOne_70 : decode cX7_classOne 70 = .ok (.getfield 40, 3) := by decide +kernel
theorem dX7_classOne_73 : decode cX7_classOne 73 = .ok (.iload 6, 2) := by decide +kernel
theorem dX7_classOne_75 : decode cX7_classOne 75 = .ok (.iaload, 1) := by decide +kernel
theorem dX7_classOne_76 : decode cX7_classOne 76 = .ok (.iload_n 3, 1) := by decide +kernel
theorem dX7_classOne_77 : decode cX7_classOne 77 = .ok (.if_icmp .ne 33, 3) := by decide +kernel
theorem dX7_classOne_80 : decode cX7_classOne 80 = .ok (.aload_n 0, 1) := by decide +kernel
theorem dX7_classOne_81 : decode cX7_classOne 81 = .ok (.iload 6, 2) := by decide +kernel
theorem dX7_classOne_83 : decode cX7_classOne 83 = .ok (.iconst 0, 1) := by decide +kernel
theorem dX7_classOne_84 : decode cX7_classOne 84 = .ok (.iconst 4, 1) := by decide +kernel
theorem dX7_classOne_85 : decode cX7_classOne 85 = .ok (.invokevirtual 87, 3) := by decide +kernel
theorem dX7_classOne_88 : decode cX7_classOne 88 = .ok (.ifCond .eq 22, 3) := by decide +kernel
theorem dX7_classOne_91 : decode cX7_classOne 91 = .ok (.iload 4, 2) := by decide +kernel
theorem dX7_classOne_93 : decode cX7_classOne 93 = .ok (.iload_n 1, 1) := by decide +kernel
theorem dX7_classOne_94 : decode cX7_classOne 94 = .ok (.if_icmp .eq 13, 3) := by decide +kernel
theorem dX7_classOne_97 : decode cX7_classOne 97 = .ok (.aload_n 0, 1) := by decide +kernel
theorem dX7_classOne_98 : decode cX7_classOne 98 = .ok (.iload 6, 2) := by decide +kernel
theorem dX7_classOne_100 : decode cX7_classOne 100 = .ok (.iload_n 1, 1) := by decide +kernel
theorem dX7_classOne_101 : decode cX7_classOne 101 = .ok (.invokevirtual 121, 3) := by decide +kernel
theorem dX7_classOne_104 : decode cX7_classOne 104 = .ok (.ifCond .eq 6, 3) := by decide +kernel
theorem dX7_classOne_107 : decode cX7_classOne 107 = .ok (.iload 6, 2) := by decide +kernel
theorem dX7_classOne_109 : decode cX7_classOne 109 = .ok (.ireturn, 1) := by decide +kernel
theorem dX7_classOne_110 : decode cX7_classOne 110 = .ok (.iinc 6 1, 3) := by decide +kernel
theorem dX7_classOne_113 : decode cX7_classOne 113 = .ok (.goto (-76), 3) := by decide +kernel
theorem dX7_classOne_116 : decode cX7_classOne 116 = .ok (.aload_n 0, 1) := by decide +kernel
theorem dX7_classOne_117 : decode cX7_classOne 117 = .ok (.getfield 19, 3) := by decide +kernel
theorem dX7_classOne_120 : decode cX7_classOne 120 = .ok (.iload 4, 2) := by decide +kernel
theorem dX7_classOne_122 : decode cX7_classOne 122 = .ok (.iaload, 1) := by decide +kernel
theorem dX7_classOne_123 : decode cX7_classOne 123 = .ok (.istore 4, 2) := by decide +kernel
theorem dX7_classOne_125 : decode cX7_classOne 125 = .ok (.iinc 5 1, 3) := by decide +kernel
theorem dX7_classOne_128 : decode cX7_classOne 128 = .ok (.goto (-110), 3) := by decide +kernel
theorem dX7_classOne_131 : decode cX7_classOne 131 = .ok (.iconst (-1), 1) := by decide +kernel
theorem dX7_classOne_132 : decode cX7_classOne 132 = .ok (.ireturn, 1) := by decide +kernel
theorem dX7_ofFace_0 : decode cX7_ofFace 0 = .ok (.iconst 0, 1) := by decide +kernel
theorem dX7_ofFace_1 : decode cX7_ofFace 1 = .ok (.istore 4, 2) := by decide +kernel
theorem dX7_ofFace_3 : decode cX7_ofFace 3 = .ok (.iload 4, 2) := by decide +kernel
theorem dX7_ofFace_5 : decode cX7_ofFace 5 = .ok (.aload_n 0, 1) := by decide +kernel
theorem dX7_ofFace_6 : decode cX7_ofFace 6 = .ok (.getfield 81, 3) := by decide +kernel
theorem dX7_ofFace_9 : decode cX7_ofFace 9 = .ok (.if_icmp .ge 66, 3) := by decide +kernel
theorem dX7_ofFace_12 : decode cX7_ofFace 12 = .ok (.aload_n 0, 1) := by decide +kernel
theorem dX7_ofFace_13 : decode cX7_ofFace 13 = .ok (.getfield 34, 3) := by decide +kernel
theorem dX7_ofFace_16 : decode cX7_ofFace 16 = .ok (.iload 4, 2) := by decide +kernel
theorem dX7_ofFace_18 : decode cX7_ofFace 18 = .ok (.iaload, 1) := by decide +kernel
theorem dX7_ofFace_19 : decode cX7_ofFace 19 = .ok (.iload_n 1, 1) := by decide +kernel
theorem dX7_ofFace_20 : decode cX7_ofFace 20 = .ok (.if_icmp .ne 49, 3) := by decide +kernel
theorem dX7_ofFace_23 : decode cX7_ofFace 23 = .ok (.aload_n 0, 1) := by decide +kernel
theorem dX7_ofFace_24 : decode cX7_ofFace 24 = .ok (.getfield 37, 3) := by decide +kernel
theorem dX7_ofFace_27 : decode cX7_ofFace 27 = .ok (.iload 4, 2) := by decide +kernel
theorem dX7_ofFace_29 : decode cX7_ofFace 29 = .ok (.iaload, 1) := by decide +kernel
theorem dX7_ofFace_30 : decode cX7_ofFace 30 = .ok (.iload_n 2, 1) := by decide +kernel
theorem dX7_ofFace_31 : decode cX7_ofFace 31 = .ok (.if_icmp .ne 38, 3) := by decide +kernel
theorem dX7_ofFace_34 : decode cX7_ofFace 34 = .ok (.aload_n 0, 1) := by decide +kernel
theorem dX7_ofFace_35 : decode cX7_ofFace 35 = .ok (.getfield 40, 3) := by decide +kernel
theorem dX7_ofFace_38 : decode cX7_ofFace 38 = .ok (.iload 4, 2) := by decide +kernel
theorem dX7_ofFace_40 : decode cX7_ofFace 40 = .ok (.iaload, 1) := by decide +kernel
theorem dX7_ofFace_41 : decode cX7_ofFace 41 = .ok (.iload_n 3, 1) := by decide +kernel
theorem dX7_ofFace_42 : decode cX7_ofFace 42 = .ok (.if_icmp .ne 27, 3) := by decide +kernel
theorem dX7_ofFace_45 : decode cX7_ofFace 45 = .ok (.aload_n 0, 1) := by decide +kernel
theorem dX7_ofFace_46 : decode cX7_ofFace 46 = .ok (.iload 4, 2) := by decide +kernel
theorem dX7_ofFace_48 : decode cX7_ofFace 48 = .ok (.iconst 0, 1) := by decide +kernel
theorem dX7_ofFace_49 : decode cX7_ofFace 49 = .ok (.iconst 4, 1) := by decide +kernel
theorem dX7_ofFace_50 : decode cX7_ofFace 50 = .ok (.invokevirtual 87, 3) := by decide +kernel
theorem dX7_ofFace_53 : decode cX7_ofFace 53 = .ok (.ifCond .eq 16, 3) := by decide +kernel
theorem dX7_ofFace_56 : decode cX7_ofFace 56 = .ok (.aload_n 0, 1) := by decide +kernel
theorem dX7_ofFace_57 : decode cX7_ofFace 57 = .ok (.getfield 46, 3) := by decide +kernel
theorem dX7_ofFace_60 : decode cX7_ofFace 60 = .ok (.iload 4, 2) := by decide +kernel
theorem dX7_ofFace_62 : decode cX7_ofFace 62 = .ok (.iaload, 1) := by decide +kernel
theorem dX7_ofFace_63 : decode cX7_ofFace 63 = .ok (.ifCond .le 6, 3) := by decide +kernel
theorem dX7_ofFace_66 : decode cX7_ofFace 66 = .ok (.iload 4, 2) := by decide +kernel
theorem dX7_ofFace_68 : decode cX7_ofFace 68 = .ok (.ireturn, 1) := by decide +kernel
theorem dX7_ofFace_69 : decode cX7_ofFace 69 = .ok (.iinc 4 1, 3) := by decide +kernel
theorem dX7_ofFace_72 : decode cX7_ofFace 72 = .ok (.goto (-69), 3) := by decide +kernel
theorem dX7_ofFace_75 : decode cX7_ofFace 75 = .ok (.iconst (-1), 1) := by decide +kernel
theorem dX7_ofFace_76 : decode cX7_ofFace 76 = .ok (.ireturn, 1) := by decide +kernel
theorem dX7_findFaceOnes_0 : decode cX7_findFaceOnes 0 = .ok (.aload_n 0, 1) := by decide +kernel
theorem dX7_findFaceOnes_1 : decode cX7_findFaceOnes 1 = .ok (.iconst 0, 1) := by decide +kernel
theorem dX7_findFaceOnes_2 : decode cX7_findFaceOnes 2 = .ok (.putfield 127, 3) := by decide +kernel
theorem dX7_findFaceOnes_5 : decode cX7_findFaceOnes 5 = .ok (.iconst 0, 1) := by decide +kernel
theorem dX7_findFaceOnes_6 : decode cX7_findFaceOnes 6 = .ok (.istore 4, 2) := by decide +kernel
theorem dX7_findFaceOnes_8 : decode cX7_findFaceOnes 8 = .ok (.iload 4, 2) := by decide +kernel
theorem dX7_findFaceOnes_10 : decode cX7_findFaceOnes 10 = .ok (.aload_n 0, 1) := by decide +kernel
theorem dX7_findFaceOnes_11 : decode cX7_findFaceOnes 11 = .ok (.getfield 65, 3) := by decide +kernel
theorem dX7_findFaceOnes_14 : decode cX7_findFaceOnes 14 = .ok (.if_icmp .ge 165, 3) := by decide +kernel
theorem dX7_findFaceOnes_17 : decode cX7_findFaceOnes 17 = .ok (.aload_n 0, 1) := by decide +kernel
theorem dX7_findFaceOnes_18 : decode cX7_findFaceOnes 18 = .ok (.getfield 7, 3) := by decide +kernel
theorem dX7_findFaceOnes_21 : decode cX7_findFaceOnes 21 = .ok (.iload 4, 2) := by decide +kernel
theorem dX7_findFaceOnes_23 : decode cX7_findFaceOnes 23 = .ok (.iaload, 1) := by decide +kernel
theorem dX7_findFaceOnes_24 : decode cX7_findFaceOnes 24 = .ok (.iconst 1, 1) := by decide +kernel
theorem dX7_findFaceOnes_25 : decode cX7_findFaceOnes 25 = .ok (.if_icmp .ne 28, 3) := by decide +kernel
theorem dX7_findFaceOnes_28 : decode cX7_findFaceOnes 28 = .ok (.aload_n 0, 1) := by decide +kernel
theorem dX7_findFaceOnes_29 : decode cX7_findFaceOnes 29 = .ok (.iload_n 1, 1) := by decide +kernel
theorem dX7_findFaceOnes_30 : decode cX7_findFaceOnes 30 = .ok (.iload 4, 2) := by decide +kernel
theorem dX7_findFaceOnes_32 : decode cX7_findFaceOnes 32 = .ok (.invokevirtual 118, 3) := by decide +kernel
theorem dX7_findFaceOnes_35 : decode cX7_findFaceOnes 35 = .ok (.ifCond .eq 18, 3) := by decide +kernel
theorem dX7_findFaceOnes_38 : decode cX7_findFaceOnes 38 = .ok (.aload_n 0, 1) := by decide +kernel
theorem dX7_findFaceOnes_39 : decode cX7_findFaceOnes 39 = .ok (.iload 4, 2) := by decide +kernel
theorem dX7_findFaceOnes_41 : decode cX7_findFaceOnes 41 = .ok (.iload_n 2, 1) := by decide +kernel
theorem dX7_findFaceOnes_42 : decode cX7_findFaceOnes 42 = .ok (.iload_n 3, 1) := by decide +kernel
theorem dX7_findFaceOnes_43 : decode cX7_findFaceOnes 43 = .ok (.invokevirtual 130, 3) := by decide +kernel
theorem dX7_findFaceOnes_46 : decode cX7_findFaceOnes 46 = .ok (.ifCond .lt 7, 3) := by decide +kernel
theorem dX7_findFaceOnes_49 : decode cX7_findFaceOnes 49 = .ok (.iconst 1, 1) := by decide +kernel
theorem dX7_findFaceOnes_50 : decode cX7_findFaceOnes 50 = .ok (.goto 4, 3) := by decide +kernel
theorem dX7_findFaceOnes_53 : decode cX7_findFaceOnes 53 = .ok (.iconst 0, 1) := by decide +kernel
theorem dX7_findFaceOnes_54 : decode cX7_findFaceOnes 54 = .ok (.istore 5, 2) := by decide +kernel
theorem dX7_findFaceOnes_56 : decode cX7_findFaceOnes 56 = .ok (.iconst 0, 1) := by decide +kernel
theorem dX7_findFaceOnes_57 : decode cX7_findFaceOnes 57 = .ok (.istore 6, 2) := by decide +kernel
theorem dX7_findFaceOnes_59 : decode cX7_findFaceOnes 59 = .ok (.iload 6, 2) := by decide +kernel
theorem dX7_findFaceOnes_61 : decode cX7_findFaceOnes 61 = .ok (.aload_n 0, 1) := by decide +kernel
theorem dX7_findFaceOnes_62 : decode cX7_findFaceOnes 62 = .ok (.getfield 65, 3) := by decide +kernel
theorem dX7_findFaceOnes_65 : decode cX7_findFaceOnes 65 = .ok (.if_icmp .ge 76, 3) := by decide +kernel
theorem dX7_findFaceOnes_68 : decode cX7_findFaceOnes 68 = .ok (.iload 5, 2) := by decide +kernel
theorem dX7_findFaceOnes_70 : decode cX7_findFaceOnes 70 = .ok (.ifCond .eq 71, 3) := by decide +kernel
theorem dX7_findFaceOnes_73 : decode cX7_findFaceOnes 73 = .ok (.iload 6, 2) := by decide +kernel
theorem dX7_findFaceOnes_75 : decode cX7_findFaceOnes 75 = .ok (.iload 4, 2) := by decide +kernel
theorem dX7_findFaceOnes_77 : decode cX7_findFaceOnes 77 = .ok (.if_icmp .eq 51, 3) := by decide +kernel
theorem dX7_findFaceOnes_80 : decode cX7_findFaceOnes 80 = .ok (.aload_n 0, 1) := by decide +kernel
theorem dX7_findFaceOnes_81 : decode cX7_findFaceOnes 81 = .ok (.getfield 7, 3) := by decide +kernel
theorem dX7_findFaceOnes_84 : decode cX7_findFaceOnes 84 = .ok (.iload 6, 2) := by decide +kernel
theorem dX7_findFaceOnes_86 : decode cX7_findFaceOnes 86 = .ok (.iaload, 1) := by decide +kernel
theorem dX7_findFaceOnes_87 : decode cX7_findFaceOnes 87 = .ok (.iconst 1, 1) := by decide +kernel
theorem dX7_findFaceOnes_88 : decode cX7_findFaceOnes 88 = .ok (.if_icmp .ne 40, 3) := by decide +kernel
theorem dX7_findFaceOnes_91 : decode cX7_findFaceOnes 91 = .ok (.aload_n 0, 1) := by decide +kernel
theorem dX7_findFaceOnes_92 : decode cX7_findFaceOnes 92 = .ok (.iload_n 1, 1) := by decide +kernel
theorem dX7_findFaceOnes_93 : decode cX7_findFaceOnes 93 = .ok (.iload 6, 2) := by decide +kernel
theorem dX7_findFaceOnes_95 : decode cX7_findFaceOnes 95 = .ok (.invokevirtual 118, 3) := by decide +kernel
theorem dX7_findFaceOnes_98 : decode cX7_findFaceOnes 98 = .ok (.ifCond .eq 30, 3) := by decide +kernel
theorem dX7_findFaceOnes_101 : decode cX7_findFaceOnes 101 = .ok (.aload_n 0, 1) := by decide +kernel
theorem dX7_findFaceOnes_102 : decode cX7_findFaceOnes 102 = .ok (.getfield 52, 3) := by decide +kernel
theorem dX7_findFaceOnes_105 : decode cX7_findFaceOnes 105 = .ok (.bipush 20, 2) := by decide +kernel
theorem dX7_findFaceOnes_107 : decode cX7_findFaceOnes 107 = .ok (.iload 6, 2) := by decide +kernel
theorem dX7_findFaceOnes_109 : decode cX7_findFaceOnes 109 = .ok (.imul, 1) := by decide +kernel
theorem dX7_findFaceOnes_110 : decode cX7_findFaceOnes 110 = .ok (.iload 4, 2) := by decide +kernel
theorem dX7_findFaceOnes_112 : decode cX7_findFaceOnes 112 = .ok (.iadd, 1) := by decide +kernel
theorem dX7_findFaceOnes_113 : decode cX7_findFaceOnes 113 = .ok (.baload, 1) := by decide +kernel
theorem dX7_findFaceOnes_114 : decode cX7_findFaceOnes 114 = .ok (.ifCond .eq 14, 3) := by decide +kernel
theorem dX7_findFaceOnes_117 : decode cX7_findFaceOnes 117 = .ok (.aload_n 0, 1) := by decide +kernel
theorem dX7_findFaceOnes_118 : decode cX7_findFaceOnes 118 = .ok (.iload 6, 2) := by decide +kernel
theorem dX7_findFaceOnes_120 : decode cX7_findFaceOnes 120 = .ok (.iload_n 2, 1) := by decide +kernel
theorem dX7_findFaceOnes_121 : decode cX7_findFaceOnes 121 = .ok (.iload_n 3, 1) := by decide +kernel
theorem dX7_findFaceOnes_122 : decode cX7_findFaceOnes 122 = .ok (.invokevirtual 130, 3) := by decide +kernel
theorem dX7_findFaceOnes_125 : decode cX7_findFaceOnes 125 = .ok (.ifCond .ge 7, 3) := by decide +kernel
theorem dX7_findFaceOnes_128 : decode cX7_findFaceOnes 128 = .ok (.iconst 1, 1) := by decide +kernel
theorem dX7_findFaceOnes_129 : decode cX7_findFaceOnes 129 = .ok (.goto 4, 3) := by decide +kernel
theorem dX7_findFaceOnes_132 : decode cX7_findFaceOnes 132 = .ok (.iconst 0, 1) := by decide +kernel
theorem dX7_findFaceOnes_133 : decode cX7_findFaceOnes 133 = .ok (.istore 5, 2) := by decide +kernel
theorem dX7_findFaceOnes_135 : decode cX7_findFaceOnes 135 = .ok (.iinc 6 1, 3) := by decide +kernel
theorem dX7_findFaceOnes_138 : decode cX7_findFaceOnes 138 = .ok (.goto (-79), 3) := by decide +kernel
theorem dX7_findFaceOnes_141 : decode cX7_findFaceOnes 141 = .ok (.iload 5, 2) := by decide +kernel
theorem dX7_findFaceOnes_143 : decode cX7_findFaceOnes 143 = .ok (.ifCond .eq 30, 3) := by decide +kernel
theorem dX7_findFaceOnes_146 : decode cX7_findFaceOnes 146 = .ok (.aload_n 0, 1) := by decide +kernel
theorem dX7_findFaceOnes_147 : decode cX7_findFaceOnes 147 = .ok (.getfield 59, 3) := by decide +kernel
theorem dX7_findFaceOnes_150 : decode cX7_findFaceOnes 150 = .ok (.aload_n 0, 1) := by decide +kernel
theorem dX7_findFaceOnes_151 : decode cX7_findFaceOnes 151 = .ok (.getfield 127, 3) := by decide +kernel
theorem dX7_findFaceOnes_154 : decode cX7_findFaceOnes 154 = .ok (.aload_n 0, 1) := by decide +kernel
theorem dX7_findFaceOnes_155 : decode cX7_findFaceOnes 155 = .ok (.iload 4, 2) := by decide +kernel
theorem dX7_findFaceOnes_157 : decode cX7_findFaceOnes 157 = .ok (.iload_n 2, 1) := by decide +kernel
theorem dX7_findFaceOnes_158 : decode cX7_findFaceOnes 158 = .ok (.iload_n 3, 1) := by decide +kernel
theorem dX7_findFaceOnes_159 : decode cX7_findFaceOnes 159 = .ok (.invokevirtual 130, 3) := by decide +kernel
theorem dX7_findFaceOnes_162 : decode cX7_findFaceOnes 162 = .ok (.iastore, 1) := by decide +kernel
theorem dX7_findFaceOnes_163 : decode cX7_findFaceOnes 163 = .ok (.aload_n 0, 1) := by decide +kernel
theorem dX7_findFaceOnes_164 : decode cX7_findFaceOnes 164 = .ok (.dup, 1) := by decide +kernel
theorem dX7_findFaceOnes_165 : decode cX7_findFaceOnes 165 = .ok (.getfield 127, 3) := by decide +kernel
theorem dX7_findFaceOnes_168 : decode cX7_findFaceOnes 168 = .ok (.iconst 1, 1) := by decide +kernel
theorem dX7_findFaceOnes_169 : decode cX7_findFaceOnes 169 = .ok (.iadd, 1) := by decide +kernel
theorem dX7_findFaceOnes_170 : decode cX7_findFaceOnes 170 = .ok (.putfield 127, 3) := by decide +kernel
theorem dX7_findFaceOnes_173 : decode cX7_findFaceOnes 173 = .ok (.iinc 4 1, 3) := by decide +kernel
theorem dX7_findFaceOnes_176 : decode cX7_findFaceOnes 176 = .ok (.goto (-168), 3) := by decide +kernel
theorem dX7_findFaceOnes_179 : decode cX7_findFaceOnes 179 = .ok (.return_, 1) := by decide +kernel
theorem dX7_leastFaceOne_0 : decode cX7_leastFaceOne 0 = .ok (.iconst (-1), 1) := by decide +kernel
theorem dX7_leastFaceOne_1 : decode cX7_leastFaceOne 1 = .ok (.istore_n 2, 1) := by decide +kernel
theorem dX7_leastFaceOne_2 : decode cX7_leastFaceOne 2 = .ok (.iconst 0, 1) := by decide +kernel
theorem dX7_leastFaceOne_3 : decode cX7_leastFaceOne 3 = .ok (.istore_n 3, 1) := by decide +kernel
theorem dX7_leastFaceOne_4 : decode cX7_leastFaceOne 4 = .ok (.iload_n 3, 1) := by decide +kernel
theorem dX7_leastFaceOne_5 : decode cX7_leastFaceOne 5 = .ok (.aload_n 0, 1) := by decide +kernel
theorem dX7_leastFaceOne_6 : decode cX7_leastFaceOne 6 = .ok (.getfield 127, 3) := by decide +kernel
theorem dX7_leastFaceOne_9 : decode cX7_leastFaceOne 9 = .ok (.if_icmp .ge 61, 3) := by decide +kernel
theorem dX7_leastFaceOne_12 : decode cX7_leastFaceOne 12 = .ok (.aload_n 0, 1) := by decide +kernel
theorem dX7_leastFaceOne_13 : decode cX7_leastFaceOne 13 = .ok (.getfield 59, 3) := by decide +kernel
theorem dX7_leastFaceOne_16 : decode cX7_leastFaceOne 16 = .ok (.iload_n 3, 1) := by decide +kernel
theorem dX7_leastFaceOne_17 : decode cX7_leastFaceOne 17 = .ok (.iaload, 1) := by decide +kernel
theorem dX7_leastFaceOne_18 : decode cX7_leastFaceOne 18 = .ok (.istore 4, 2) := by decide +kernel
theorem dX7_leastFaceOne_20 : decode cX7_leastFaceOne 20 = .ok (.iload_n 1, 1) := by decide +kernel
theorem dX7_leastFaceOne_21 : decode cX7_leastFaceOne 21 = .ok (.ifCond .eq 14, 3) := by decide +kernel
theorem dX7_leastFaceOne_24 : decode cX7_leastFaceOne 24 = .ok (.aload_n 0, 1) := by decide +kernel
theorem dX7_leastFaceOne_25 : decode cX7_leastFaceOne 25 = .ok (.iload 4, 2) := by decide +kernel
theorem dX7_leastFaceOne_27 : decode cX7_leastFaceOne 27 = .ok (.iconst 1, 1) := by decide +kernel
theorem dX7_leastFaceOne_28 : decode cX7_leastFaceOne 28 = .ok (.iconst 1, 1) := by decide +kernel
theorem dX7_leastFaceOne_29 : decode cX7_leastFaceOne 29 = .ok (.invokevirtual 87, 3) := by decide +kernel
theorem dX7_leastFaceOne_32 : decode cX7_leastFaceOne 32 = .ok (.ifCond .eq 7, 3) := by decide +kernel
theorem dX7_leastFaceOne_35 : decode cX7_leastFaceOne 35 = .ok (.iconst 1, 1) := by decide +kernel
theorem dX7_leastFaceOne_36 : decode cX7_leastFaceOne 36 = .ok (.goto 4, 3) := by decide +kernel
theorem dX7_leastFaceOne_39 : decode cX7_leastFaceOne 39 = .ok (.iconst 0, 1) := by decide +kernel
theorem dX7_leastFaceOne_40 : decode cX7_leastFaceOne 40 = .ok (.istore 5, 2) := by decide +kernel
theorem dX7_leastFaceOne_42 : decode cX7_leastFaceOne 42 = .ok (.iload 5, 2) := by decide +kernel
theorem dX7_leastFaceOne_44 : decode cX7_leastFaceOne 44 = .ok (.ifCond .eq 18, 3) := by decide +kernel
theorem dX7_leastFaceOne_47 : decode cX7_leastFaceOne 47 = .ok (.iload_n 2, 1) := by decide +kernel
theorem dX7_leastFaceOne_48 : decode cX7_leastFaceOne 48 = .ok (.ifCond .lt 9, 3) := by decide +kernel
theorem dX7_leastFaceOne_51 : decode cX7_leastFaceOne 51 = .ok (.iload 4, 2) := by decide +kernel
theorem dX7_leastFaceOne_53 : decode cX7_leastFaceOne 53 = .ok (.iload_n 2, 1) := by decide +kernel
theorem dX7_leastFaceOne_54 : decode cX7_leastFaceOne 54 = .ok (.if_icmp .ge 8, 3) := by decide +kernel
theorem dX7_leastFaceOne_57 : decode cX7_leastFaceOne 57 = .ok (.iload 4, 2) := by decide +kernel
theorem dX7_leastFaceOne_59 : decode cX7_leastFaceOne 59 = .ok (.goto 4, 3) := by decide +kernel
theorem dX7_leastFaceOne_62 : decode cX7_leastFaceOne 62 = .ok (.iload_n 2, 1) := by decide +kernel
theorem dX7_leastFaceOne_63 : decode cX7_leastFaceOne 63 = .ok (.istore_n 2, 1) := by decide +kernel
theorem dX7_leastFaceOne_64 : decode cX7_leastFaceOne 64 = .ok (.iinc 3 1, 3) := by decide +kernel
theorem dX7_leastFaceOne_67 : decode cX7_leastFaceOne 67 = .ok (.goto (-63), 3) := by decide +kernel
theorem dX7_leastFaceOne_70 : decode cX7_leastFaceOne 70 = .ok (.iload_n 2, 1) := by decide +kernel
theorem dX7_leastFaceOne_71 : decode cX7_leastFaceOne 71 = .ok (.ireturn, 1) := by decide +kernel
theorem dX7_hasDefault_0 : decode cX7_hasDefault 0 = .ok (.iconst 0, 1) := by decide +kernel
theorem dX7_hasDefault_1 : decode cX7_hasDefault 1 = .ok (.istore_n 1, 1) := by decide +kernel
theorem dX7_hasDefault_2 : decode cX7_hasDefault 2 = .ok (.iconst 0, 1) := by decide +kernel
theorem dX7_hasDefault_3 : decode cX7_hasDefault 3 = .ok (.istore_n 2, 1) := by decide +kernel
theorem dX7_hasDefault_4 : decode cX7_hasDefault 4 = .ok (.iload_n 2, 1) := by decide +kernel
theorem dX7_hasDefault_5 : decode cX7_hasDefault 5 = .ok (.aload_n 0, 1) := by decide +kernel
theorem dX7_hasDefault_6 : decode cX7_hasDefault 6 = .ok (.getfield 127, 3) := by decide +kernel
theorem dX7_hasDefault_9 : decode cX7_hasDefault 9 = .ok (.if_icmp .ge 35, 3) := by decide +kernel
theorem dX7_hasDefault_12 : decode cX7_hasDefault 12 = .ok (.iload_n 1, 1) := by decide +kernel
theorem dX7_hasDefault_13 : decode cX7_hasDefault 13 = .ok (.ifCond .ne 19, 3) := by decide +kernel
theorem dX7_hasDefault_16 : decode cX7_hasDefault 16 = .ok (.aload_n 0, 1) := by decide +kernel
theorem dX7_hasDefault_17 : decode cX7_hasDefault 17 = .ok (.aload_n 0, 1) := by decide +kernel
theorem dX7_hasDefault_18 : decode cX7_hasDefault 18 = .ok (.getfield 59, 3) := by decide +kernel
theorem dX7_hasDefault_21 : decode cX7_hasDefault 21 = .ok (.iload_n 2, 1) := by decide +kernel
theorem dX7_hasDefault_22 : decode cX7_hasDefault 22 = .ok (.iaload, 1) := by decide +kernel
theorem dX7_hasDefault_23 : decode cX7_hasDefault 23 = .ok (.iconst 1, 1) := by decide +kernel
theorem dX7_hasDefault_24 : decode cX7_hasDefault 24 = .ok (.bipush 8, 2) := by decide +kernel
theorem dX7_hasDefault_26 : decode cX7_hasDefault 26 = .ok (.invokevirtual 87, 3) := by decide +kernel
theorem dX7_hasDefault_29 : decode cX7_hasDefault 29 = .ok (.ifCond .eq 7, 3) := by decide +kernel
theorem dX7_hasDefault_32 : decode cX7_hasDefault 32 = .ok (.iconst 1, 1) := by decide +kernel
theorem dX7_hasDefault_33 : decode cX7_hasDefault 33 = .ok (.goto 4, 3) := by decide +kernel
theorem dX7_hasDefault_36 : decode cX7_hasDefault 36 = .ok (.iconst 0, 1) := by decide +kernel
theorem dX7_hasDefault_37 : decode cX7_hasDefault 37 = .ok (.istore_n 1, 1) := by decide +kernel
theorem dX7_hasDefault_38 : decode cX7_hasDefault 38 = .ok (.iinc 2 1, 3) := by decide +kernel
theorem dX7_hasDefault_41 : decode cX7_hasDefault 41 = .ok (.goto (-37), 3) := by decide +kernel
theorem dX7_hasDefault_44 : decode cX7_hasDefault 44 = .ok (.iload_n 1, 1) := by decide +kernel
theorem dX7_hasDefault_45 : decode cX7_hasDefault 45 = .ok (.ireturn, 1) := by decide +kernel
theorem dX7_givenFaults_0 : decode cX7_givenFaults 0 = .ok (.aload_n 0, 1) := by decide +kernel
theorem dX7_givenFaults_1 : decode cX7_givenFaults 1 = .ok (.getfield 7, 3) := by decide +kernel
theorem dX7_givenFaults_4 : decode cX7_givenFaults 4 = .ok (.iload_n 1, 1) := by decide +kernel
theorem dX7_givenFaults_5 : decode cX7_givenFaults 5 = .ok (.iaload, 1) := by decide +kernel
theorem dX7_givenFaults_6 : decode cX7_givenFaults 6 = .ok (.iconst 1, 1) := by decide +kernel
theorem dX7_givenFaults_7 : decode cX7_givenFaults 7 = .ok (.if_icmp .eq 16, 3) := by decide +kernel
theorem dX7_givenFaults_10 : decode cX7_givenFaults 10 = .ok (.aload_n 0, 1) := by decide +kernel
theorem dX7_givenFaults_11 : decode cX7_givenFaults 11 = .ok (.iload_n 1, 1) := by decide +kernel
theorem dX7_givenFaults_12 : decode cX7_givenFaults 12 = .ok (.iconst 1, 1) := by decide +kernel
theorem dX7_givenFaults_13 : decode cX7_givenFaults 13 = .ok (.invokevirtual 95, 3) := by decide +kernel
theorem dX7_givenFaults_16 : decode cX7_givenFaults 16 = .ok (.ifCond .ne 7, 3) := by decide +kernel
theorem dX7_givenFaults_19 : decode cX7_givenFaults 19 = .ok (.iconst 1, 1) := by decide +kernel
theorem dX7_givenFaults_20 : decode cX7_givenFaults 20 = .ok (.goto 4, 3) := by decide +kernel
theorem dX7_givenFaults_23 : decode cX7_givenFaults 23 = .ok (.iconst 0, 1) := by decide +kernel
theorem dX7_givenFaults_24 : decode cX7_givenFaults 24 = .ok (.istore_n 2, 1) := by decide +kernel
theorem dX7_givenFaults_25 : decode cX7_givenFaults 25 = .ok (.iconst 0, 1) := by decide +kernel
theorem dX7_givenFaults_26 : decode cX7_givenFaults 26 = .ok (.istore_n 3, 1) := by decide +kernel
theorem dX7_givenFaults_27 : decode cX7_givenFaults 27 = .ok (.iload_n 3, 1) := by decide +kernel
theorem dX7_givenFaults_28 : decode cX7_givenFaults 28 = .ok (.bipush 10, 2) := by decide +kernel
theorem dX7_givenFaults_30 : decode cX7_givenFaults 30 = .ok (.if_icmp .ge 135, 3) := by decide +kernel
theorem dX7_givenFaults_33 : decode cX7_givenFaults 33 = .ok (.iconst 0, 1) := by decide +kernel
theorem dX7_givenFaults_34 : decode cX7_givenFaults 34 = .ok (.istore 4, 2) := by decide +kernel
theorem dX7_givenFaults_36 : decode cX7_givenFaults 36 = .ok (.iload 4, 2) := by decide +kernel
theorem dX7_givenFaults_38 : decode cX7_givenFaults 38 = .ok (.iconst 5, 1) := by decide +kernel
theorem dX7_givenFaults_39 : decode cX7_givenFaults 39 = .ok (.if_icmp .ge 120, 3) := by decide +kernel
theorem dX7_givenFaults_42 : decode cX7_givenFaults 42 = .ok (.aload_n 0, 1) := by decide +kernel
theorem dX7_givenFaults_43 : decode cX7_givenFaults 43 = .ok (.iload_n 1, 1) := by decide +kernel
theorem dX7_givenFaults_44 : decode cX7_givenFaults 44 = .ok (.iload_n 3, 1) := by decide +kernel
theorem dX7_givenFaults_45 : decode cX7_givenFaults 45 = .ok (.iload 4, 2) := by decide +kernel
theorem dX7_givenFaults_47 : decode cX7_givenFaults 47 = .ok (.invokevirtual 134, 3) := by decide +kernel
theorem dX7_givenFaults_50 : decode cX7_givenFaults 50 = .ok (.istore 5, 2) := by decide +kernel
theorem dX7_givenFaults_52 : decode cX7_givenFaults 52 = .ok (.aload_n 0, 1) := by decide +kernel
theorem dX7_givenFaults_53 : decode cX7_givenFaults 53 = .ok (.iload_n 1, 1) := by decide +kernel
theorem dX7_givenFaults_54 : decode cX7_givenFaults 54 = .ok (.iload_n 3, 1) := by decide +kernel
theorem dX7_givenFaults_55 : decode cX7_givenFaults 55 = .ok (.iload 4, 2) := by decide +kernel
theorem dX7_givenFaults_57 : decode cX7_givenFaults 57 = .ok (.invokevirtual 137, 3) := by decide +kernel
theorem dX7_givenFaults_60 : decode cX7_givenFaults 60 = .ok (.iload 5, 2) := by decide +kernel
theorem dX7_givenFaults_62 : decode cX7_givenFaults 62 = .ok (.ifCond .lt 23, 3) := by decide +kernel
theorem dX7_givenFaults_65 : decode cX7_givenFaults 65 = .ok (.aload_n 0, 1) := by decide +kernel
theorem dX7_givenFaults_66 : decode cX7_givenFaults 66 = .ok (.iload 5, 2) := by decide +kernel
theorem dX7_givenFaults_68 : decode cX7_givenFaults 68 = .ok (.iconst 1, 1) := by decide +kernel
theorem dX7_givenFaults_69 : decode cX7_givenFaults 69 = .ok (.iconst 1, 1) := by decide +kernel
theorem dX7_givenFaults_70 : decode cX7_givenFaults 70 = .ok (.invokevirtual 87, 3) := by decide +kernel
theorem dX7_givenFaults_73 : decode cX7_givenFaults 73 = .ok (.ifCond .eq 8, 3) := by decide +kernel
theorem dX7_givenFaults_76 : decode cX7_givenFaults 76 = .ok (.iload 5, 2) := by decide +kernel
theorem dX7_givenFaults_78 : decode cX7_givenFaults 78 = .ok (.goto 23, 3) := by decide +kernel
theorem dX7_givenFaults_81 : decode cX7_givenFaults 81 = .ok (.iconst (-1), 1) := by decide +kernel
theorem dX7_givenFaults_82 : decode cX7_givenFaults 82 = .ok (.goto 19, 3) := by decide +kernel
theorem dX7_givenFaults_85 : decode cX7_givenFaults 85 = .ok (.aload_n 0, 1) := by decide +kernel
theorem dX7_givenFaults_86 : decode cX7_givenFaults 86 = .ok (.invokevirtual 141, 3) := by decide +kernel
theorem dX7_givenFaults_89 : decode cX7_givenFaults 89 = .ok (.ifCond .eq 7, 3) := by decide +kernel
theorem dX7_givenFaults_92 : decode cX7_givenFaults 92 = .ok (.iconst (-1), 1) := by decide +kernel
theorem dX7_givenFaults_93 : decode cX7_givenFaults 93 = .ok (.goto 8, 3) := by decide +kernel
theorem dX7_givenFaults_96 : decode cX7_givenFaults 96 = .ok (.aload_n 0, 1) := by decide +kernel
theorem dX7_givenFaults_97 : decode cX7_givenFaults 97 = .ok (.iconst 1, 1) := by decide +kernel
theorem dX7_givenFaults_98 : decode cX7_givenFaults 98 = .ok (.invokevirtual 145, 3) := by decide +kernel
theorem dX7_givenFaults_101 : decode cX7_givenFaults 101 = .ok (.istore 6, 2) := by decide +kernel
theorem dX7_givenFaults_103 : decode cX7_givenFaults 103 = .ok (.iload_n 2, 1) := by decide +kernel
theorem dX7_givenFaults_104 : decode cX7_givenFaults 104 = .ok (.ifCond .eq 17, 3) := by decide +kernel
theorem dX7_givenFaults_107 : decode cX7_givenFaults 107 = .ok (.iload 6, 2) := by decide +kernel
theorem dX7_givenFaults_109 : decode cX7_givenFaults 109 = .ok (.ifCond .lt 12, 3) := by decide +kernel
theorem dX7_givenFaults_112 : decode cX7_givenFaults 112 = .ok (.aload_n 0, 1) := by decide +kernel
theorem dX7_givenFaults_113 : decode cX7_givenFaults 113 = .ok (.bipush 16, 2) := by decide +kernel
theorem dX7_givenFaults_115 : decode cX7_givenFaults 115 = .ok (.iload 6, 2) := by decide +kernel
theorem dX7_givenFaults_117 : decode cX7_givenFaults 117 = .ok (.iconst 1, 1) := by decide +kernel
theorem dX7_givenFaults_118 : decode cX7_givenFaults 118 = .ok (.invokevirtual 91, 3) := by decide +kernel
theorem dX7_givenFaults_121 : decode cX7_givenFaults 121 = .ok (.iload 5, 2) := by decide +kernel
theorem dX7_givenFaults_123 : decode cX7_givenFaults 123 = .ok (.ifCond .ge 30, 3) := by decide +kernel
theorem dX7_givenFaults_126 : decode cX7_givenFaults 126 = .ok (.aload_n 0, 1) := by decide +kernel
theorem dX7_givenFaults_127 : decode cX7_givenFaults 127 = .ok (.getfield 127, 3) := by decide +kernel
theorem dX7_givenFaults_130 : decode cX7_givenFaults 130 = .ok (.iconst 1, 1) := by decide +kernel
theorem dX7_givenFaults_131 : decode cX7_givenFaults 131 = .ok (.if_icmp .le 22, 3) := by decide +kernel
theorem dX7_givenFaults_134 : decode cX7_givenFaults 134 = .ok (.aload_n 0, 1) := by decide +kernel
theorem dX7_givenFaults_135 : decode cX7_givenFaults 135 = .ok (.invokevirtual 141, 3) := by decide +kernel
theorem dX7_givenFaults_138 : decode cX7_givenFaults 138 = .ok (.ifCond .eq 15, 3) := by decide +kernel
theorem dX7_givenFaults_141 : decode cX7_givenFaults 141 = .ok (.aload_n 0, 1) := by decide +kernel
theorem dX7_givenFaults_142 : decode cX7_givenFaults 142 = .ok (.bipush 17, 2) := by decide +kernel
theorem dX7_givenFaults_144 : decode cX7_givenFaults 144 = .ok (.aload_n 0, 1) := by decide +kernel
theorem dX7_givenFaults_145 : decode cX7_givenFaults 145 = .ok (.iconst 0, 1) := by decide +kernel
theorem dX7_givenFaults_146 : decode cX7_givenFaults 146 = .ok (.invokevirtual 145, 3) := by decide +kernel
theorem dX7_givenFaults_149 : decode cX7_givenFaults 149 = .ok (.iconst 1, 1) := by decide +kernel
theorem dX7_givenFaults_150 : decode cX7_givenFaults 150 = .ok (.invokevirtual 91, 3) := by decide +kernel
theorem dX7_givenFaults_153 : decode cX7_givenFaults 153 = .ok (.iinc 4 1, 3) := by decide +kernel
theorem dX7_givenFaults_156 : decode cX7_givenFaults 156 = .ok (.goto (-120), 3) := by decide +kernel
theorem dX7_givenFaults_159 : decode cX7_givenFaults 159 = .ok (.iinc 3 1, 3) := by decide +kernel
theorem dX7_givenFaults_162 : decode cX7_givenFaults 162 = .ok (.goto (-135), 3) := by decide +kernel
theorem dX7_givenFaults_165 : decode cX7_givenFaults 165 = .ok (.return_, 1) := by decide +kernel
theorem dX7_faultsOf_0 : decode cX7_faultsOf 0 = .ok (.aload_n 0, 1) := by decide +kernel
theorem dX7_faultsOf_1 : decode cX7_faultsOf 1 = .ok (.invokevirtual 84, 3) := by decide +kernel
theorem dX7_faultsOf_4 : decode cX7_faultsOf 4 = .ok (.iconst 1, 1) := by decide +kernel
theorem dX7_faultsOf_5 : decode cX7_faultsOf 5 = .ok (.istore_n 2, 1) := by decide +kernel
theorem dX7_faultsOf_6 : decode cX7_faultsOf 6 = .ok (.iconst 0, 1) := by decide +kernel
theorem dX7_faultsOf_7 : decode cX7_faultsOf 7 = .ok (.istore_n 3, 1) := by decide +kernel
theorem dX7_faultsOf_8 : decode cX7_faultsOf 8 = .ok (.iload_n 3, 1) := by decide +kernel
theorem dX7_faultsOf_9 : decode cX7_faultsOf 9 = .ok (.aload_n 0, 1) := by decide +kernel
theorem dX7_faultsOf_10 : decode cX7_faultsOf 10 = .ok (.getfield 65, 3) := by decide +kernel
theorem dX7_faultsOf_13 : decode cX7_faultsOf 13 = .ok (.if_icmp .ge 50, 3) := by decide +kernel
theorem dX7_faultsOf_16 : decode cX7_faultsOf 16 = .ok (.iload_n 2, 1) := by decide +kernel
theorem dX7_faultsOf_17 : decode cX7_faultsOf 17 = .ok (.ifCond .eq 46, 3) := by decide +kernel
theorem dX7_faultsOf_20 : decode cX7_faultsOf 20 = .ok (.iload_n 3, 1) := by decide +kernel
theorem dX7_faultsOf_21 : decode cX7_faultsOf 21 = .ok (.iload_n 1, 1) := by decide +kernel
theorem dX7_faultsOf_22 : decode cX7_faultsOf 22 = .ok (.if_icmp .eq 35, 3) := by decide +kernel
theorem dX7_faultsOf_25 : decode cX7_faultsOf 25 = .ok (.aload_n 0, 1) := by decide +kernel
theorem dX7_faultsOf_26 : decode cX7_faultsOf 26 = .ok (.getfield 52, 3) := by decide +kernel
theorem dX7_faultsOf_29 : decode cX7_faultsOf 29 = .ok (.bipush 20, 2) := by decide +kernel
theorem dX7_faultsOf_31 : decode cX7_faultsOf 31 = .ok (.iload_n 1, 1) := by decide +kernel
theorem dX7_faultsOf_32 : decode cX7_faultsOf 32 = .ok (.imul, 1) := by decide +kernel
theorem dX7_faultsOf_33 : decode cX7_faultsOf 33 = .ok (.iload_n 3, 1) := by decide +kernel
theorem dX7_faultsOf_34 : decode cX7_faultsOf 34 = .ok (.iadd, 1) := by decide +kernel
theorem dX7_faultsOf_35 : decode cX7_faultsOf 35 = .ok (.baload, 1) := by decide +kernel
theorem dX7_faultsOf_36 : decode cX7_faultsOf 36 = .ok (.ifCond .eq 21, 3) := by decide +kernel
theorem dX7_faultsOf_39 : decode cX7_faultsOf 39 = .ok (.aload_n 0, 1) := by decide +kernel
theorem dX7_faultsOf_40 : decode cX7_faultsOf 40 = .ok (.iload_n 3, 1) := by decide +kernel
theorem dX7_faultsOf_41 : decode cX7_faultsOf 41 = .ok (.invokevirtual 149, 3) := by decide +kernel
theorem dX7_faultsOf_44 : decode cX7_faultsOf 44 = .ok (.aload_n 0, 1) := by decide +kernel
theorem dX7_faultsOf_45 : decode cX7_faultsOf 45 = .ok (.invokevirtual 153, 3) := by decide +kernel
theorem dX7_faultsOf_48 : decode cX7_faultsOf 48 = .ok (.ifCond .ne 7, 3) := by decide +kernel
theorem dX7_faultsOf_51 : decode cX7_faultsOf 51 = .ok (.iconst 1, 1) := by decide +kernel
theorem dX7_faultsOf_52 : decode cX7_faultsOf 52 = .ok (.goto 4, 3) := by decide +kernel
theorem dX7_faultsOf_55 : decode cX7_faultsOf 55 = .ok (.iconst 0, 1) := by decide +kernel
theorem dX7_faultsOf_56 : decode cX7_faultsOf 56 = .ok (.istore_n 2, 1) := by decide +kernel
theorem dX7_faultsOf_57 : decode cX7_faultsOf 57 = .ok (.iinc 3 1, 3) := by decide +kernel
theorem dX7_faultsOf_60 : decode cX7_faultsOf 60 = .ok (.goto (-52), 3) := by decide +kernel
theorem dX7_faultsOf_63 : decode cX7_faultsOf 63 = .ok (.aload_n 0, 1) := by decide +kernel
theorem dX7_faultsOf_64 : decode cX7_faultsOf 64 = .ok (.iload_n 1, 1) := by decide +kernel
theorem dX7_faultsOf_65 : decode cX7_faultsOf 65 = .ok (.invokevirtual 149, 3) := by decide +kernel
theorem dX7_faultsOf_68 : decode cX7_faultsOf 68 = .ok (.iload_n 2, 1) := by decide +kernel
theorem dX7_faultsOf_69 : decode cX7_faultsOf 69 = .ok (.ifCond .eq 14, 3) := by decide +kernel
theorem dX7_faultsOf_72 : decode cX7_faultsOf 72 = .ok (.aload_n 0, 1) := by decide +kernel
theorem dX7_faultsOf_73 : decode cX7_faultsOf 73 = .ok (.invokevirtual 153, 3) := by decide +kernel
theorem dX7_faultsOf_76 : decode cX7_faultsOf 76 = .ok (.ifCond .ne 7, 3) := by decide +kernel
theorem dX7_faultsOf_79 : decode cX7_faultsOf 79 = .ok (.iconst 1, 1) := by decide +kernel
theorem dX7_faultsOf_80 : decode cX7_faultsOf 80 = .ok (.goto 4, 3) := by decide +kernel
theorem dX7_faultsOf_83 : decode cX7_faultsOf 83 = .ok (.iconst 0, 1) := by decide +kernel
theorem dX7_faultsOf_84 : decode cX7_faultsOf 84 = .ok (.istore_n 2, 1) := by decide +kernel
theorem dX7_faultsOf_85 : decode cX7_faultsOf 85 = .ok (.aload_n 0, 1) := by decide +kernel
theorem dX7_faultsOf_86 : decode cX7_faultsOf 86 = .ok (.iload_n 1, 1) := by decide +kernel
theorem dX7_faultsOf_87 : decode cX7_faultsOf 87 = .ok (.invokevirtual 156, 3) := by decide +kernel
theorem dX7_faultsOf_90 : decode cX7_faultsOf 90 = .ok (.aload_n 0, 1) := by decide +kernel
theorem dX7_faultsOf_91 : decode cX7_faultsOf 91 = .ok (.iload_n 1, 1) := by decide +kernel
theorem dX7_faultsOf_92 : decode cX7_faultsOf 92 = .ok (.invokevirtual 159, 3) := by decide +kernel
theorem dX7_faultsOf_95 : decode cX7_faultsOf 95 = .ok (.iload_n 2, 1) := by decide +kernel
theorem dX7_faultsOf_96 : decode cX7_faultsOf 96 = .ok (.ifCond .eq 13, 3) := by decide +kernel
theorem dX7_faultsOf_99 : decode cX7_faultsOf 99 = .ok (.aload_n 0, 1) := by decide +kernel
theorem dX7_faultsOf_100 : decode cX7_faultsOf 100 = .ok (.iload_n 1, 1) := by decide +kernel
theorem dX7_faultsOf_101 : decode cX7_faultsOf 101 = .ok (.invokevirtual 162, 3) := by decide +kernel
theorem dX7_faultsOf_104 : decode cX7_faultsOf 104 = .ok (.aload_n 0, 1) := by decide +kernel
theorem dX7_faultsOf_105 : decode cX7_faultsOf 105 = .ok (.iload_n 1, 1) := by decide +kernel
theorem dX7_faultsOf_106 : decode cX7_faultsOf 106 = .ok (.invokevirtual 165, 3) := by decide +kernel
theorem dX7_faultsOf_109 : decode cX7_faultsOf 109 = .ok (.return_, 1) := by decide +kernel
theorem dX7_count_0 : decode cX7_count 0 = .ok (.iconst 0, 1) := by decide +kernel
theorem dX7_count_1 : decode cX7_count 1 = .ok (.istore_n 1, 1) := by decide +kernel
theorem dX7_count_2 : decode cX7_count 2 = .ok (.iconst 0, 1) := by decide +kernel
theorem dX7_count_3 : decode cX7_count 3 = .ok (.istore_n 2, 1) := by decide +kernel
theorem dX7_count_4 : decode cX7_count 4 = .ok (.iload_n 2, 1) := by decide +kernel
theorem dX7_count_5 : decode cX7_count 5 = .ok (.sipush 1600, 3) := by decide +kernel
theorem dX7_count_8 : decode cX7_count 8 = .ok (.if_icmp .ge 26, 3) := by decide +kernel
theorem dX7_count_11 : decode cX7_count 11 = .ok (.iload_n 1, 1) := by decide +kernel
theorem dX7_count_12 : decode cX7_count 12 = .ok (.aload_n 0, 1) := by decide +kernel
theorem dX7_count_13 : decode cX7_count 13 = .ok (.getfield 56, 3) := by decide +kernel
theorem dX7_count_16 : decode cX7_count 16 = .ok (.iload_n 2, 1) := by decide +kernel
theorem dX7_count_17 : decode cX7_count 17 = .ok (.baload, 1) := by decide +kernel
theorem dX7_count_18 : decode cX7_count 18 = .ok (.ifCond .eq 7, 3) := by decide +kernel
theorem dX7_count_21 : decode cX7_count 21 = .ok (.iconst 1, 1) := by decide +kernel
theorem dX7_count_22 : decode cX7_count 22 = .ok (.goto 4, 3) := by decide +kernel
theorem dX7_count_25 : decode cX7_count 25 = .ok (.iconst 0, 1) := by decide +kernel
theorem dX7_count_26 : decode cX7_count 26 = .ok (.iadd, 1) := by decide +kernel
theorem dX7_count_27 : decode cX7_count 27 = .ok (.istore_n 1, 1) := by decide +kernel
theorem dX7_count_28 : decode cX7_count 28 = .ok (.iinc 2 1, 3) := by decide +kernel
theorem dX7_count_31 : decode cX7_count 31 = .ok (.goto (-27), 3) := by decide +kernel
theorem dX7_count_34 : decode cX7_count 34 = .ok (.iload_n 1, 1) := by decide +kernel
theorem dX7_count_35 : decode cX7_count 35 = .ok (.ireturn, 1) := by decide +kernel
theorem dX7_faults_0 : decode cX7_faults 0 = .ok (.aload_n 0, 1) := by decide +kernel
theorem dX7_faults_1 : decode cX7_faults 1 = .ok (.iload_n 1, 1) := by decide +kernel
theorem dX7_faults_2 : decode cX7_faults 2 = .ok (.invokevirtual 77, 3) := by decide +kernel
theorem dX7_faults_5 : decode cX7_faults 5 = .ok (.ifCond .ne 5, 3) := by decide +kernel
theorem dX7_faults_8 : decode cX7_faults 8 = .ok (.iconst (-1), 1) := by decide +kernel
theorem dX7_faults_9 : decode cX7_faults 9 = .ok (.ireturn, 1) := by decide +kernel
theorem dX7_faults_10 : decode cX7_faults 10 = .ok (.aload_n 0, 1) := by decide +kernel
theorem dX7_faults_11 : decode cX7_faults 11 = .ok (.iload_n 1, 1) := by decide +kernel
theorem dX7_faults_12 : decode cX7_faults 12 = .ok (.invokevirtual 168, 3) := by decide +kernel
theorem dX7_faults_15 : decode cX7_faults 15 = .ok (.aload_n 0, 1) := by decide +kernel
theorem dX7_faults_16 : decode cX7_faults 16 = .ok (.invokevirtual 171, 3) := by decide +kernel
theorem dX7_faults_19 : decode cX7_faults 19 = .ok (.ireturn, 1) := by decide +kernel
theorem dX7_fault_0 : decode cX7_fault 0 = .ok (.aload_n 0, 1) := by decide +kernel
theorem dX7_fault_1 : decode cX7_fault 1 = .ok (.iload_n 1, 1) := by decide +kernel
theorem dX7_fault_2 : decode cX7_fault 2 = .ok (.invokevirtual 77, 3) := by decide +kernel
theorem dX7_fault_5 : decode cX7_fault 5 = .ok (.ifCond .eq 16, 3) := by decide +kernel
theorem dX7_fault_8 : decode cX7_fault 8 = .ok (.iload_n 3, 1) := by decide +kernel
theorem dX7_fault_9 : decode cX7_fault 9 = .ok (.iconst 0, 1) := by decide +kernel
theorem dX7_fault_10 : decode cX7_fault 10 = .ok (.iconst 1, 1) := by decide +kernel
theorem dX7_fault_11 : decode cX7_fault 11 = .ok (.invokestatic 69, 3) := by decide +kernel
theorem dX7_fault_14 : decode cX7_fault 14 = .ok (.ifCond .eq 7, 3) := by decide +kernel
theorem dX7_fault_17 : decode cX7_fault 17 = .ok (.iload_n 2, 1) := by decide +kernel
theorem dX7_fault_18 : decode cX7_fault 18 = .ok (.ifCond .ge 5, 3) := by decide +kernel
theorem dX7_fault_21 : decode cX7_fault 21 = .ok (.iconst (-1), 1) := by decide +kernel
theorem dX7_fault_22 : decode cX7_fault 22 = .ok (.ireturn, 1) := by decide +kernel
theorem dX7_fault_23 : decode cX7_fault 23 = .ok (.aload_n 0, 1) := by decide +kernel
theorem dX7_fault_24 : decode cX7_fault 24 = .ok (.iload_n 1, 1) := by decide +kernel
theorem dX7_fault_25 : decode cX7_fault 25 = .ok (.invokevirtual 168, 3) := by decide +kernel
theorem dX7_fault_28 : decode cX7_fault 28 = .ok (.iload_n 2, 1) := by decide +kernel
theorem dX7_fault_29 : decode cX7_fault 29 = .ok (.istore 4, 2) := by decide +kernel
theorem dX7_fault_31 : decode cX7_fault 31 = .ok (.iconst 0, 1) := by decide +kernel
theorem dX7_fault_32 : decode cX7_fault 32 = .ok (.istore 5, 2) := by decide +kernel
theorem dX7_fault_34 : decode cX7_fault 34 = .ok (.iload 5, 2) := by decide +kernel
theorem dX7_fault_36 : decode cX7_fault 36 = .ok (.sipush 1600, 3) := by decide +kernel
theorem dX7_fault_39 : decode cX7_fault 39 = .ok (.if_icmp .ge 62, 3) := by decide +kernel
theorem dX7_fault_42 : decode cX7_fault 42 = .ok (.aload_n 0, 1) := by decide +kernel
theorem dX7_fault_43 : decode cX7_fault 43 = .ok (.getfield 56, 3) := by decide +kernel
theorem dX7_fault_46 : decode cX7_fault 46 = .ok (.iload 5, 2) := by decide +kernel
theorem dX7_fault_48 : decode cX7_fault 48 = .ok (.baload, 1) := by decide +kernel
theorem dX7_fault_49 : decode cX7_fault 49 = .ok (.ifCond .eq 26, 3) := by decide +kernel
theorem dX7_fault_52 : decode cX7_fault 52 = .ok (.iload 4, 2) := by decide +kernel
theorem dX7_fault_54 : decode cX7_fault 54 = .ok (.ifCond .ne 21, 3) := by decide +kernel
theorem dX7_fault_57 : decode cX7_fault 57 = .ok (.iload_n 3, 1) := by decide +kernel
theorem dX7_fault_58 : decode cX7_fault 58 = .ok (.ifCond .ne 11, 3) := by decide +kernel
theorem dX7_fault_61 : decode cX7_fault 61 = .ok (.iload 5, 2) := by decide +kernel
theorem dX7_fault_63 : decode cX7_fault 63 = .ok (.bipush 80, 2) := by decide +kernel
theorem dX7_fault_65 : decode cX7_fault 65 = .ok (.idiv, 1) := by decide +kernel
theorem dX7_fault_66 : decode cX7_fault 66 = .ok (.goto 8, 3) := by decide +kernel
theorem dX7_fault_69 : decode cX7_fault 69 = .ok (.iload 5, 2) := by decide +kernel
theorem dX7_fault_71 : decode cX7_fault 71 = .ok (.bipush 80, 2) := by decide +kernel
theorem dX7_fault_73 : decode cX7_fault 73 = .ok (.irem, 1) := by decide +kernel
theorem dX7_fault_74 : decode cX7_fault 74 = .ok (.ireturn, 1) := by decide +kernel
theorem dX7_fault_75 : decode cX7_fault 75 = .ok (.iload 4, 2) := by decide +kernel
theorem dX7_fault_77 : decode cX7_fault 77 = .ok (.aload_n 0, 1) := by decide +kernel
theorem dX7_fault_78 : decode cX7_fault 78 = .ok (.getfield 56, 3) := by decide +kernel
theorem dX7_fault_81 : decode cX7_fault 81 = .ok (.iload 5, 2) := by decide +kernel
theorem dX7_fault_83 : decode cX7_fault 83 = .ok (.baload, 1) := by decide +kernel
theorem dX7_fault_84 : decode cX7_fault 84 = .ok (.ifCond .eq 7, 3) := by decide +kernel
theorem dX7_fault_87 : decode cX7_fault 87 = .ok (.iconst 1, 1) := by decide +kernel
theorem dX7_fault_88 : decode cX7_fault 88 = .ok (.goto 4, 3) := by decide +kernel
theorem dX7_fault_91 : decode cX7_fault 91 = .ok (.iconst 0, 1) := by decide +kernel
theorem dX7_fault_92 : decode cX7_fault 92 = .ok (.isub, 1) := by decide +kernel
theorem dX7_fault_93 : decode cX7_fault 93 = .ok (.istore 4, 2) := by decide +kernel
theorem dX7_fault_95 : decode cX7_fault 95 = .ok (.iinc 5 1, 3) := by decide +kernel
theorem dX7_fault_98 : decode cX7_fault 98 = .ok (.goto (-64), 3) := by decide +kernel
theorem dX7_fault_101 : decode cX7_fault 101 = .ok (.iconst (-1), 1) := by decide +kernel
theorem dX7_fault_102 : decode cX7_fault 102 = .ok (.ireturn, 1) := by decide +kernel
theorem dX7_all_0 : decode cX7_all 0 = .ok (.iconst 0, 1) := by decide +kernel
theorem dX7_all_1 : decode cX7_all 1 = .ok (.istore_n 1, 1) := by decide +kernel
theorem dX7_all_2 : decode cX7_all 2 = .ok (.iconst 0, 1) := by decide +kernel
theorem dX7_all_3 : decode cX7_all 3 = .ok (.istore_n 2, 1) := by decide +kernel
theorem dX7_all_4 : decode cX7_all 4 = .ok (.iload_n 2, 1) := by decide +kernel
theorem dX7_all_5 : decode cX7_all 5 = .ok (.aload_n 0, 1) := by decide +kernel
theorem dX7_all_6 : decode cX7_all 6 = .ok (.getfield 65, 3) := by decide +kernel
theorem dX7_all_9 : decode cX7_all 9 = .ok (.if_icmp .ge 17, 3) := by decide +kernel
theorem dX7_all_12 : decode cX7_all 12 = .ok (.iload_n 1, 1) := by decide +kernel
theorem dX7_all_13 : decode cX7_all 13 = .ok (.aload_n 0, 1) := by decide +kernel
theorem dX7_all_14 : decode cX7_all 14 = .ok (.iload_n 2, 1) := by decide +kernel
theorem dX7_all_15 : decode cX7_all 15 = .ok (.invokevirtual 175, 3) := by decide +kernel
theorem dX7_all_18 : decode cX7_all 18 = .ok (.iadd, 1) := by decide +kernel
theorem dX7_all_19 : decode cX7_all 19 = .ok (.istore_n 1, 1) := by decide +kernel
theorem dX7_all_20 : decode cX7_all 20 = .ok (.iinc 2 1, 3) := by decide +kernel
theorem dX7_all_23 : decode cX7_all 23 = .ok (.goto (-19), 3) := by decide +kernel
theorem dX7_all_26 : decode cX7_all 26 = .ok (.iload_n 1, 1) := by decide +kernel
theorem dX7_all_27 : decode cX7_all 27 = .ok (.ireturn, 1) := by decide +kernel
theorem dX7_is__0 : decode cX7_is_ 0 = .ok (.aload_n 0, 1) := by decide +kernel
theorem dX7_is__1 : decode cX7_is_ 1 = .ok (.iload_n 1, 1) := by decide +kernel
theorem dX7_is__2 : decode cX7_is_ 2 = .ok (.invokevirtual 77, 3) := by decide +kernel
theorem dX7_is__5 : decode cX7_is_ 5 = .ok (.ifCond .eq 28, 3) := by decide +kernel
theorem dX7_is__8 : decode cX7_is_ 8 = .ok (.aload_n 0, 1) := by decide +kernel
theorem dX7_is__9 : decode cX7_is_ 9 = .ok (.iload_n 2, 1) := by decide +kernel
theorem dX7_is__10 : decode cX7_is_ 10 = .ok (.invokevirtual 77, 3) := by decide +kernel
theorem dX7_is__13 : decode cX7_is_ 13 = .ok (.ifCond .eq 20, 3) := by decide +kernel
theorem dX7_is__16 : decode cX7_is_ 16 = .ok (.aload_n 0, 1) := by decide +kernel
theorem dX7_is__17 : decode cX7_is_ 17 = .ok (.iload_n 1, 1) := by decide +kernel
theorem dX7_is__18 : decode cX7_is_ 18 = .ok (.iload_n 2, 1) := by decide +kernel
theorem dX7_is__19 : decode cX7_is_ 19 = .ok (.invokevirtual 118, 3) := by decide +kernel
theorem dX7_is__22 : decode cX7_is_ 22 = .ok (.ifCond .eq 7, 3) := by decide +kernel
theorem dX7_is__25 : decode cX7_is_ 25 = .ok (.iconst 1, 1) := by decide +kernel
theorem dX7_is__26 : decode cX7_is_ 26 = .ok (.goto 8, 3) := by decide +kernel
theorem dX7_is__29 : decode cX7_is_ 29 = .ok (.iconst 0, 1) := by decide +kernel
theorem dX7_is__30 : decode cX7_is_ 30 = .ok (.goto 4, 3) := by decide +kernel
theorem dX7_is__33 : decode cX7_is_ 33 = .ok (.iconst (-1), 1) := by decide +kernel
theorem dX7_is__34 : decode cX7_is_ 34 = .ok (.ireturn, 1) := by decide +kernel
theorem dX7_isWrongType_0 : decode cX7_isWrongType 0 = .ok (.aload_n 0, 1) := by decide +kernel
theorem dX7_isWrongType_1 : decode cX7_isWrongType 1 = .ok (.getfield 7, 3) := by decide +kernel
theorem dX7_isWrongType_4 : decode cX7_isWrongType 4 = .ok (.iload_n 1, 1) := by decide +kernel
theorem dX7_isWrongType_5 : decode cX7_isWrongType 5 = .ok (.iaload, 1) := by decide +kernel
theorem dX7_isWrongType_6 : decode cX7_isWrongType 6 = .ok (.iconst 1, 1) := by decide +kernel
theorem dX7_isWrongType_7 : decode cX7_isWrongType 7 = .ok (.if_icmp .eq 12, 3) := by decide +kernel
theorem dX7_isWrongType_10 : decode cX7_isWrongType 10 = .ok (.aload_n 0, 1) := by decide +kernel
theorem dX7_isWrongType_11 : decode cX7_isWrongType 11 = .ok (.iload_n 1, 1) := by decide +kernel
theorem dX7_isWrongType_12 : decode cX7_isWrongType 12 = .ok (.iconst 1, 1) := by decide +kernel
theorem dX7_isWrongType_13 : decode cX7_isWrongType 13 = .ok (.invokevirtual 95, 3) := by decide +kernel
theorem dX7_isWrongType_16 : decode cX7_isWrongType 16 = .ok (.ifCond .eq 7, 3) := by decide +kernel
theorem dX7_isWrongType_19 : decode cX7_isWrongType 19 = .ok (.iconst 1, 1) := by decide +kernel
theorem dX7_isWrongType_20 : decode cX7_isWrongType 20 = .ok (.goto 4, 3) := by decide +kernel
theorem dX7_isWrongType_23 : decode cX7_isWrongType 23 = .ok (.iconst 0, 1) := by decide +kernel
theorem dX7_isWrongType_24 : decode cX7_isWrongType 24 = .ok (.istore_n 2, 1) := by decide +kernel
theorem dX7_isWrongType_25 : decode cX7_isWrongType 25 = .ok (.iconst 0, 1) := by decide +kernel
theorem dX7_isWrongType_26 : decode cX7_isWrongType 26 = .ok (.istore_n 3, 1) := by decide +kernel
theorem dX7_isWrongType_27 : decode cX7_isWrongType 27 = .ok (.iload_n 3, 1) := by decide +kernel
theorem dX7_isWrongType_28 : decode cX7_isWrongType 28 = .ok (.aload_n 0, 1) := by decide +kernel
theorem dX7_isWrongType_29 : decode cX7_isWrongType 29 = .ok (.getfield 65, 3) := by decide +kernel
theorem dX7_isWrongType_32 : decode cX7_isWrongType 32 = .ok (.if_icmp .ge 32, 3) := by decide +kernel
theorem dX7_isWrongType_35 : decode cX7_isWrongType 35 = .ok (.iload_n 2, 1) := by decide +kernel
theorem dX7_isWrongType_36 : decode cX7_isWrongType 36 = .ok (.ifCond .ne 28, 3) := by decide +kernel
theorem dX7_isWrongType_39 : decode cX7_isWrongType 39 = .ok (.aload_n 0, 1) := by decide +kernel
theorem dX7_isWrongType_40 : decode cX7_isWrongType 40 = .ok (.iload_n 1, 1) := by decide +kernel
theorem dX7_isWrongType_41 : decode cX7_isWrongType 41 = .ok (.iload_n 3, 1) := by decide +kernel
theorem dX7_isWrongType_42 : decode cX7_isWrongType 42 = .ok (.invokevirtual 118, 3) := by decide +kernel
theorem dX7_isWrongType_45 : decode cX7_isWrongType 45 = .ok (.ifCond .eq 13, 3) := by decide +kernel
theorem dX7_isWrongType_48 : decode cX7_isWrongType 48 = .ok (.aload_n 0, 1) := by decide +kernel
theorem dX7_isWrongType_49 : decode cX7_isWrongType 49 = .ok (.iload_n 3, 1) := by decide +kernel
theorem dX7_isWrongType_50 : decode cX7_isWrongType 50 = .ok (.invokevirtual 168, 3) := by decide +kernel
theorem dX7_isWrongType_53 : decode cX7_isWrongType 53 = .ok (.aload_n 0, 1) := by decide +kernel
theorem dX7_isWrongType_54 : decode cX7_isWrongType 54 = .ok (.invokevirtual 153, 3) := by decide +kernel
theorem dX7_isWrongType_57 : decode cX7_isWrongType 57 = .ok (.istore_n 2, 1) := by decide +kernel
theorem dX7_isWrongType_58 : decode cX7_isWrongType 58 = .ok (.iinc 3 1, 3) := by decide +kernel
theorem dX7_isWrongType_61 : decode cX7_isWrongType 61 = .ok (.goto (-34), 3) := by decide +kernel
theorem dX7_isWrongType_64 : decode cX7_isWrongType 64 = .ok (.iload_n 2, 1) := by decide +kernel
theorem dX7_isWrongType_65 : decode cX7_isWrongType 65 = .ok (.ireturn, 1) := by decide +kernel
theorem dX7_running_0 : decode cX7_running 0 = .ok (.aload_n 0, 1) := by decide +kernel
theorem dX7_running_1 : decode cX7_running 1 = .ok (.iload_n 1, 1) := by decide +kernel
theorem dX7_running_2 : decode cX7_running 2 = .ok (.iload_n 2, 1) := by decide +kernel
theorem dX7_running_3 : decode cX7_running 3 = .ok (.iload_n 3, 1) := by decide +kernel
theorem dX7_running_4 : decode cX7_running 4 = .ok (.invokevirtual 134, 3) := by decide +kernel
theorem dX7_running_7 : decode cX7_running 7 = .ok (.istore 4, 2) := by decide +kernel
theorem dX7_running_9 : decode cX7_running 9 = .ok (.iload 4, 2) := by decide +kernel
theorem dX7_running_11 : decode cX7_running 11 = .ok (.ifCond .lt 22, 3) := by decide +kernel
theorem dX7_running_14 : decode cX7_running 14 = .ok (.aload_n 0, 1) := by decide +kernel
theorem dX7_running_15 : decode cX7_running 15 = .ok (.iload 4, 2) := by decide +kernel
theorem dX7_running_17 : decode cX7_running 17 = .ok (.iconst 1, 1) := by decide +kernel
theorem dX7_running_18 : decode cX7_running 18 = .ok (.iconst 1, 1) := by decide +kernel
theorem dX7_running_19 : decode cX7_running 19 = .ok (.invokevirtual 87, 3) := by decide +kernel
theorem dX7_running_22 : decode cX7_running 22 = .ok (.ifCond .eq 8, 3) := by decide +kernel
theorem dX7_running_25 : decode cX7_running 25 = .ok (.bipush (-3), 2) := by decide +kernel
theorem dX7_running_27 : decode cX7_running 27 = .ok (.goto 5, 3) := by decide +kernel
theorem dX7_running_30 : decode cX7_running 30 = .ok (.iload 4, 2) := by decide +kernel
theorem dX7_running_32 : decode cX7_running 32 = .ok (.ireturn, 1) := by decide +kernel
theorem dX7_running_33 : decode cX7_running 33 = .ok (.aload_n 0, 1) := by decide +kernel
theorem dX7_running_34 : decode cX7_running 34 = .ok (.iload_n 1, 1) := by decide +kernel
theorem dX7_running_35 : decode cX7_running 35 = .ok (.iload_n 2, 1) := by decide +kernel
theorem dX7_running_36 : decode cX7_running 36 = .ok (.iload_n 3, 1) := by decide +kernel
theorem dX7_running_37 : decode cX7_running 37 = .ok (.invokevirtual 137, 3) := by decide +kernel
theorem dX7_running_40 : decode cX7_running 40 = .ok (.aload_n 0, 1) := by decide +kernel
theorem dX7_running_41 : decode cX7_running 41 = .ok (.getfield 127, 3) := by decide +kernel
theorem dX7_running_44 : decode cX7_running 44 = .ok (.iconst 1, 1) := by decide +kernel
theorem dX7_running_45 : decode cX7_running 45 = .ok (.if_icmp .ne 28, 3) := by decide +kernel
theorem dX7_running_48 : decode cX7_running 48 = .ok (.aload_n 0, 1) := by decide +kernel
theorem dX7_running_49 : decode cX7_running 49 = .ok (.aload_n 0, 1) := by decide +kernel
theorem dX7_running_50 : decode cX7_running 50 = .ok (.getfield 59, 3) := by decide +kernel
theorem dX7_running_53 : decode cX7_running 53 = .ok (.iconst 0, 1) := by decide +kernel
theorem dX7_running_54 : decode cX7_running 54 = .ok (.iaload, 1) := by decide +kernel
theorem dX7_running_55 : decode cX7_running 55 = .ok (.iconst 1, 1) := by decide +kernel
theorem dX7_running_56 : decode cX7_running 56 = .ok (.bipush 8, 2) := by decide +kernel
theorem dX7_running_58 : decode cX7_running 58 = .ok (.invokevirtual 87, 3) := by decide +kernel
theorem dX7_running_61 : decode cX7_running 61 = .ok (.ifCond .eq 12, 3) := by decide +kernel
theorem dX7_running_64 : decode cX7_running 64 = .ok (.aload_n 0, 1) := by decide +kernel
theorem dX7_running_65 : decode cX7_running 65 = .ok (.getfield 59, 3) := by decide +kernel
theorem dX7_running_68 : decode cX7_running 68 = .ok (.iconst 0, 1) := by decide +kernel
theorem dX7_running_69 : decode cX7_running 69 = .ok (.iaload, 1) := by decide +kernel
theorem dX7_running_70 : decode cX7_running 70 = .ok (.goto 5, 3) := by decide +kernel
theorem dX7_running_73 : decode cX7_running 73 = .ok (.bipush (-3), 2) := by decide +kernel
theorem dX7_running_75 : decode cX7_running 75 = .ok (.ireturn, 1) := by decide +kernel
theorem dX7_runs_0 : decode cX7_runs 0 = .ok (.aload_n 0, 1) := by decide +kernel
theorem dX7_runs_1 : decode cX7_runs 1 = .ok (.iload_n 1, 1) := by decide +kernel
theorem dX7_runs_2 : decode cX7_runs 2 = .ok (.invokevirtual 77, 3) := by decide +kernel
theorem dX7_runs_5 : decode cX7_runs 5 = .ok (.ifCond .eq 22, 3) := by decide +kernel
theorem dX7_runs_8 : decode cX7_runs 8 = .ok (.iload_n 2, 1) := by decide +kernel
theorem dX7_runs_9 : decode cX7_runs 9 = .ok (.iconst 0, 1) := by decide +kernel
theorem dX7_runs_10 : decode cX7_runs 10 = .ok (.bipush 9, 2) := by decide +kernel
theorem dX7_runs_12 : decode cX7_runs 12 = .ok (.invokestatic 69, 3) := by decide +kernel
theorem dX7_runs_15 : decode cX7_runs 15 = .ok (.ifCond .eq 12, 3) := by decide +kernel
theorem dX7_runs_18 : decode cX7_runs 18 = .ok (.iload_n 3, 1) := by decide +kernel
theorem dX7_runs_19 : decode cX7_runs 19 = .ok (.iconst 0, 1) := by decide +kernel
theorem dX7_runs_20 : decode cX7_runs 20 = .ok (.iconst 4, 1) := by decide +kernel
theorem dX7_runs_21 : decode cX7_runs 21 = .ok (.invokestatic 69, 3) := by decide +kernel
theorem dX7_runs_24 : decode cX7_runs 24 = .ok (.ifCond .ne 5, 3) := by decide +kernel
theorem dX7_runs_27 : decode cX7_runs 27 = .ok (.iconst (-1), 1) := by decide +kernel
theorem dX7_runs_28 : decode cX7_runs 28 = .ok (.ireturn, 1) := by decide +kernel
theorem dX7_runs_29 : decode cX7_runs 29 = .ok (.aload_n 0, 1) := by decide +kernel
theorem dX7_runs_30 : decode cX7_runs 30 = .ok (.iload_n 1, 1) := by decide +kernel
theorem dX7_runs_31 : decode cX7_runs 31 = .ok (.invokevirtual 179, 3) := by decide +kernel
theorem dX7_runs_34 : decode cX7_runs 34 = .ok (.ifCond .eq 8, 3) := by decide +kernel
theorem dX7_runs_37 : decode cX7_runs 37 = .ok (.bipush (-4), 2) := by decide +kernel
theorem dX7_runs_39 : decode cX7_runs 39 = .ok (.goto 10, 3) := by decide +kernel
theorem dX7_runs_42 : decode cX7_runs 42 = .ok (.aload_n 0, 1) := by decide +kernel
theorem dX7_runs_43 : decode cX7_runs 43 = .ok (.iload_n 1, 1) := by decide +kernel
theorem dX7_runs_44 : decode cX7_runs 44 = .ok (.iload_n 2, 1) := by decide +kernel
theorem dX7_runs_45 : decode cX7_runs 45 = .ok (.iload_n 3, 1) := by decide +kernel
theorem dX7_runs_46 : decode cX7_runs 46 = .ok (.invokevirtual 182, 3) := by decide +kernel
theorem dX7_runs_49 : decode cX7_runs 49 = .ok (.ireturn, 1) := by decide +kernel
theorem dX7_mayTake_0 : decode cX7_mayTake 0 = .ok (.aload_n 0, 1) := by decide +kernel
theorem dX7_mayTake_1 : decode cX7_mayTake 1 = .ok (.iload_n 1, 1) := by decide +kernel
theorem dX7_mayTake_2 : decode cX7_mayTake 2 = .ok (.iconst 0, 1) := by decide +kernel
theorem dX7_mayTake_3 : decode cX7_mayTake 3 = .ok (.iconst 4, 1) := by decide +kernel
theorem dX7_mayTake_4 : decode cX7_mayTake 4 = .ok (.invokevirtual 87, 3) := by decide +kernel
theorem dX7_mayTake_7 : decode cX7_mayTake 7 = .ok (.ifCond .eq 31, 3) := by decide +kernel
theorem dX7_mayTake_10 : decode cX7_mayTake 10 = .ok (.aload_n 0, 1) := by decide +kernel
theorem dX7_mayTake_11 : decode cX7_mayTake 11 = .ok (.getfield 46, 3) := by decide +kernel
theorem dX7_mayTake_14 : decode cX7_mayTake 14 = .ok (.iload_n 1, 1) := by decide +kernel
theorem dX7_mayTake_15 : decode cX7_mayTake 15 = .ok (.iaload, 1) := by decide +kernel
theorem dX7_mayTake_16 : decode cX7_mayTake 16 = .ok (.ifCond .le 22, 3) := by decide +kernel
theorem dX7_mayTake_19 : decode cX7_mayTake 19 = .ok (.aload_n 0, 1) := by decide +kernel
theorem dX7_mayTake_20 : decode cX7_mayTake 20 = .ok (.getfield 7, 3) := by decide +kernel
theorem dX7_mayTake_23 : decode cX7_mayTake 23 = .ok (.aload_n 0, 1) := by decide +kernel
theorem dX7_mayTake_24 : decode cX7_mayTake 24 = .ok (.getfield 34, 3) := by decide +kernel
theorem dX7_mayTake_27 : decode cX7_mayTake 27 = .ok (.iload_n 1, 1) := by decide +kernel
theorem dX7_mayTake_28 : decode cX7_mayTake 28 = .ok (.iaload, 1) := by decide +kernel
theorem dX7_mayTake_29 : decode cX7_mayTake 29 = .ok (.iaload, 1) := by decide +kernel
theorem dX7_mayTake_30 : decode cX7_mayTake 30 = .ok (.iconst 1, 1) := by decide +kernel
theorem dX7_mayTake_31 : decode cX7_mayTake 31 = .ok (.if_icmp .eq 7, 3) := by decide +kernel
theorem dX7_mayTake_34 : decode cX7_mayTake 34 = .ok (.iconst 1, 1) := by decide +kernel
theorem dX7_mayTake_35 : decode cX7_mayTake 35 = .ok (.goto 4, 3) := by decide +kernel
theorem dX7_mayTake_38 : decode cX7_mayTake 38 = .ok (.iconst 0, 1) := by decide +kernel
theorem dX7_mayTake_39 : decode cX7_mayTake 39 = .ok (.ireturn, 1) := by decide +kernel
theorem dX7_findTaking_0 : decode cX7_findTaking 0 = .ok (.iconst 0, 1) := by decide +kernel
theorem dX7_findTaking_1 : decode cX7_findTaking 1 = .ok (.istore_n 2, 1) := by decide +kernel
theorem dX7_findTaking_2 : decode cX7_findTaking 2 = .ok (.iload_n 2, 1) := by decide +kernel
theorem dX7_findTaking_3 : decode cX7_findTaking 3 = .ok (.aload_n 0, 1) := by decide +kernel
theorem dX7_findTaking_4 : decode cX7_findTaking 4 = .ok (.getfield 81, 3) := by decide +kernel
theorem dX7_findTaking_7 : decode cX7_findTaking 7 = .ok (.if_icmp .ge 161, 3) := by decide +kernel
theorem dX7_findTaking_10 : decode cX7_findTaking 10 = .ok (.iconst 0, 1) := by decide +kernel
theorem dX7_findTaking_11 : decode cX7_findTaking 11 = .ok (.istore_n 3, 1) := by decide +kernel
theorem dX7_findTaking_12 : decode cX7_findTaking 12 = .ok (.iload_n 3, 1) := by decide +kernel
theorem dX7_findTaking_13 : decode cX7_findTaking 13 = .ok (.aload_n 0, 1) := by decide +kernel
theorem dX7_findTaking_14 : decode cX7_findTaking 14 = .ok (.getfield 81, 3) := by decide +kernel
theorem dX7_findTaking_17 : decode cX7_findTaking 17 = .ok (.if_icmp .ge 145, 3) := by decide +kernel
theorem dX7_findTaking_20 : decode cX7_findTaking 20 = .ok (.aload_n 0, 1) := by decide +kernel
theorem dX7_findTaking_21 : decode cX7_findTaking 21 = .ok (.iload_n 2, 1) := by decide +kernel
theorem dX7_findTaking_22 : decode cX7_findTaking 22 = .ok (.iload_n 1, 1) := by decide +kernel
theorem dX7_findTaking_23 : decode cX7_findTaking 23 = .ok (.invokevirtual 112, 3) := by decide +kernel
theorem dX7_findTaking_26 : decode cX7_findTaking 26 = .ok (.ifCond .eq 71, 3) := by decide +kernel
theorem dX7_findTaking_29 : decode cX7_findTaking 29 = .ok (.aload_n 0, 1) := by decide +kernel
theorem dX7_findTaking_30 : decode cX7_findTaking 30 = .ok (.iload_n 3, 1) := by decide +kernel
theorem dX7_findTaking_31 : decode cX7_findTaking 31 = .ok (.iload_n 1, 1) := by decide +kernel
theorem dX7_findTaking_32 : decode cX7_findTaking 32 = .ok (.invokevirtual 112, 3) := by decide +kernel
theorem dX7_findTaking_35 : decode cX7_findTaking 35 = .ok (.ifCond .eq 62, 3) := by decide +kernel
theorem dX7_findTaking_38 : decode cX7_findTaking 38 = .ok (.aload_n 0, 1) := by decide +kernel
theorem dX7_findTaking_39 : decode cX7_findTaking 39 = .ok (.iload_n 2, 1) := by decide +kernel
theorem dX7_findTaking_40 : decode cX7_findTaking 40 = .ok (.invokevirtual 185, 3) := by decide +kernel
theorem dX7_findTaking_43 : decode cX7_findTaking 43 = .ok (.ifCond .eq 54, 3) := by decide +kernel
theorem dX7_findTaking_46 : decode cX7_findTaking 46 = .ok (.aload_n 0, 1) := by decide +kernel
theorem dX7_findTaking_47 : decode cX7_findTaking 47 = .ok (.iload_n 3, 1) := by decide +kernel
theorem dX7_findTaking_48 : decode cX7_findTaking 48 = .ok (.invokevirtual 185, 3) := by decide +kernel
theorem dX7_findTaking_51 : decode cX7_findTaking 51 = .ok (.ifCond .eq 46, 3) := by decide +kernel
theorem dX7_findTaking_54 : decode cX7_findTaking 54 = .ok (.aload_n 0, 1) := by decide +kernel
theorem dX7_findTaking_55 : decode cX7_findTaking 55 = .ok (.getfield 34, 3) := by decide +kernel
theorem dX7_findTaking_58 : decode cX7_findTaking 58 = .ok (.iload_n 2, 1) := by decide +kernel
theorem dX7_findTaking_59 : decode cX7_findTaking 59 = .ok (.iaload, 1) := by decide +kernel
theorem dX7_findTaking_60 : decode cX7_findTaking 60 = .ok (.aload_n 0, 1) := by decide +kernel
theorem dX7_findTaking_61 : decode cX7_findTaking 61 = .ok (.getfield 34, 3) := by decide +kernel
theorem dX7_findTaking_64 : decode cX7_findTaking 64 = .ok (.iload_n 3, 1) := by decide +kernel
theorem dX7_findTaking_65 : decode cX7_findTaking 65 = .ok (.iaload, 1) := by decide +kernel
theorem dX7_findTaking_66 : decode cX7_findTaking 66 = .ok (.if_icmp .eq 31, 3) := by decide +kernel
theorem dX7_findTaking_69 : decode cX7_findTaking 69 = .ok (.aload_n 0, 1) := by decide +kernel
theorem dX7_findTaking_70 : decode cX7_findTaking 70 = .ok (.getfield 52, 3) := by decide +kernel
theorem dX7_findTaking_73 : decode cX7_findTaking 73 = .ok (.bipush 20, 2) := by decide +kernel
theorem dX7_findTaking_75 : decode cX7_findTaking 75 = .ok (.aload_n 0, 1) := by decide +kernel
theorem dX7_findTaking_76 : decode cX7_findTaking 76 = .ok (.getfield 34, 3) := by decide +kernel
theorem dX7_findTaking_79 : decode cX7_findTaking 79 = .ok (.iload_n 2, 1) := by decide +kernel
theorem dX7_findTaking_80 : decode cX7_findTaking 80 = .ok (.iaload, 1) := by decide +kernel
theorem dX7_findTaking_81 : decode cX7_findTaking 81 = .ok (.imul, 1) := by decide +kernel
theorem dX7_findTaking_82 : decode cX7_findTaking 82 = .ok (.aload_n 0, 1) := by decide +kernel
theorem dX7_findTaking_83 : decode cX7_findTaking 83 = .ok (.getfield 34, 3) := by decide +kernel
theorem dX7_findTaking_86 : decode cX7_findTaking 86 = .ok (.iload_n 3, 1) := by decide +kernel
theorem dX7_findTaking_87 : decode cX7_findTaking 87 = .ok (.iaload, 1) := by decide +kernel
theorem dX7_findTaking_88 : decode cX7_findTaking 88 = .ok (.iadd, 1) := by decide +kernel
theorem dX7_findTaking_89 : decode cX7_findTaking 89 = .ok (.baload, 1) := by decide +kernel
theorem dX7_findTaking_90 : decode cX7_findTaking 90 = .ok (.ifCond .eq 7, 3) := by decide +kernel
theorem dX7_findTaking_93 : decode cX7_findTaking 93 = .ok (.iconst 1, 1) := by decide +kernel
theorem dX7_findTaking_94 : decode cX7_findTaking 94 = .ok (.goto 4, 3) := by decide +kernel
theorem dX7_findTaking_97 : decode cX7_findTaking 97 = .ok (.iconst 0, 1) := by decide +kernel
theorem dX7_findTaking_98 : decode cX7_findTaking 98 = .ok (.istore 4, 2) := by decide +kernel
theorem dX7_findTaking_100 : decode cX7_findTaking 100 = .ok (.aload_n 0, 1) := by decide +kernel
theorem dX7_findTaking_101 : decode cX7_findTaking 101 = .ok (.getfield 62, 3) := by decide +kernel
theorem dX7_findTaking_104 : decode cX7_findTaking 104 = .ok (.bipush 80, 2) := by decide +kernel
theorem dX7_findTaking_106 : decode cX7_findTaking 106 = .ok (.iload_n 2, 1) := by decide +kernel
theorem dX7_findTaking_107 : decode cX7_findTaking 107 = .ok (.imul, 1) := by decide +kernel
theorem dX7_findTaking_108 : decode cX7_findTaking 108 = .ok (.iload_n 3, 1) := by decide +kernel
theorem dX7_findTaking_109 : decode cX7_findTaking 109 = .ok (.iadd, 1) := by decide +kernel
theorem dX7_findTaking_110 : decode cX7_findTaking 110 = .ok (.iload 4, 2) := by decide +kernel
theorem dX7_findTaking_112 : decode cX7_findTaking 112 = .ok (.ifCond .eq 42, 3) := by decide +kernel
theorem dX7_findTaking_115 : decode cX7_findTaking 115 = .ok (.aload_n 0, 1) := by decide +kernel
theorem dX7_findTaking_116 : decode cX7_findTaking 116 = .ok (.getfield 46, 3) := by decide +kernel
theorem dX7_findTaking_119 : decode cX7_findTaking 119 = .ok (.iload_n 3, 1) := by decide +kernel
theorem dX7_findTaking_120 : decode cX7_findTaking 120 = .ok (.iaload, 1) := by decide +kernel
theorem dX7_findTaking_121 : decode cX7_findTaking 121 = .ok (.iconst 1, 1) := by decide +kernel
theorem dX7_findTaking_122 : decode cX7_findTaking 122 = .ok (.if_icmp .gt 28, 3) := by decide +kernel
theorem dX7_findTaking_125 : decode cX7_findTaking 125 = .ok (.aload_n 0, 1) := by decide +kernel
theorem dX7_findTaking_126 : decode cX7_findTaking 126 = .ok (.getfield 16, 3) := by decide +kernel
theorem dX7_findTaking_129 : decode cX7_findTaking 129 = .ok (.aload_n 0, 1) := by decide +kernel
theorem dX7_findTaking_130 : decode cX7_findTaking 130 = .ok (.getfield 34, 3) := by decide +kernel
theorem dX7_findTaking_133 : decode cX7_findTaking 133 = .ok (.iload_n 2, 1) := by decide +kernel
theorem dX7_findTaking_134 : decode cX7_findTaking 134 = .ok (.iaload, 1) := by decide +kernel
theorem dX7_findTaking_135 : decode cX7_findTaking 135 = .ok (.iaload, 1) := by decide +kernel
theorem dX7_findTaking_136 : decode cX7_findTaking 136 = .ok (.aload_n 0, 1) := by decide +kernel
theorem dX7_findTaking_137 : decode cX7_findTaking 137 = .ok (.getfield 16, 3) := by decide +kernel
theorem dX7_findTaking_140 : decode cX7_findTaking 140 = .ok (.aload_n 0, 1) := by decide +kernel
theorem dX7_findTaking_141 : decode cX7_findTaking 141 = .ok (.getfield 34, 3) := by decide +kernel
theorem dX7_findTaking_144 : decode cX7_findTaking 144 = .ok (.iload_n 3, 1) := by decide +kernel
theorem dX7_findTaking_145 : decode cX7_findTaking 145 = .ok (.iaload, 1) := by decide +kernel
theorem dX7_findTaking_146 : decode cX7_findTaking 146 = .ok (.iaload, 1) := by decide +kernel
theorem dX7_findTaking_147 : decode cX7_findTaking 147 = .ok (.if_icmp .ne 7, 3) := by decide +kernel
theorem dX7_findTaking_150 : decode cX7_findTaking 150 = .ok (.iconst 1, 1) := by decide +kernel
theorem dX7_findTaking_151 : decode cX7_findTaking 151 = .ok (.goto 4, 3) := by decide +kernel
theorem dX7_findTaking_154 : decode cX7_findTaking 154 = .ok (.iconst 0, 1) := by decide +kernel
theorem dX7_findTaking_155 : decode cX7_findTaking 155 = .ok (.bastore, 1) := by decide +kernel
theorem dX7_findTaking_156 : decode cX7_findTaking 156 = .ok (.iinc 3 1, 3) := by decide +kernel
theorem dX7_findTaking_159 : decode cX7_findTaking 159 = .ok (.goto (-147), 3) := by decide +kernel
theorem dX7_findTaking_162 : decode cX7_findTaking 162 = .ok (.iinc 2 1, 3) := by decide +kernel
theorem dX7_findTaking_165 : decode cX7_findTaking 165 = .ok (.goto (-163), 3) := by decide +kernel
theorem dX7_findTaking_168 : decode cX7_findTaking 168 = .ok (.iconst 0, 1) := by decide +kernel
theorem dX7_findTaking_169 : decode cX7_findTaking 169 = .ok (.istore_n 2, 1) := by decide +kernel
theorem dX7_findTaking_170 : decode cX7_findTaking 170 = .ok (.iload_n 2, 1) := by decide +kernel
theorem dX7_findTaking_171 : decode cX7_findTaking 171 = .ok (.aload_n 0, 1) := by decide +kernel
theorem dX7_findTaking_172 : decode cX7_findTaking 172 = .ok (.getfield 81, 3) := by decide +kernel
theorem dX7_findTaking_175 : decode cX7_findTaking 175 = .ok (.if_icmp .ge 104, 3) := by decide +kernel
theorem dX7_findTaking_178 : decode cX7_findTaking 178 = .ok (.iconst 0, 1) := by decide +kernel
theorem dX7_findTaking_179 : decode cX7_findTaking 179 = .ok (.istore_n 3, 1) := by decide +kernel
theorem dX7_findTaking_180 : decode cX7_findTaking 180 = .ok (.iload_n 3, 1) := by decide +kernel
theorem dX7_findTaking_181 : decode cX7_findTaking 181 = .ok (.aload_n 0, 1) := by decide +kernel
theorem dX7_findTaking_182 : decode cX7_findTaking 182 = .ok (.getfield 81, 3) := by decide +kernel
theorem dX7_findTaking_185 : decode cX7_findTaking 185 = .ok (.if_icmp .ge 88, 3) := by decide +kernel
theorem dX7_findTaking_188 : decode cX7_findTaking 188 = .ok (.iconst 0, 1) := by decide +kernel
theorem dX7_findTaking_189 : decode cX7_findTaking 189 = .ok (.istore 4, 2) := by decide +kernel
theorem dX7_findTaking_191 : decode cX7_findTaking 191 = .ok (.iload 4, 2) := by decide +kernel
theorem dX7_findTaking_193 : decode cX7_findTaking 193 = .ok (.aload_n 0, 1) := by decide +kernel
theorem dX7_findTaking_194 : decode cX7_findTaking 194 = .ok (.getfield 81, 3) := by decide +kernel
theorem dX7_findTaking_197 : decode cX7_findTaking 197 = .ok (.if_icmp .ge 70, 3) := by decide +kernel
theorem dX7_findTaking_200 : decode cX7_findTaking 200 = .ok (.aload_n 0, 1) := by decide +kernel
theorem dX7_findTaking_201 : decode cX7_findTaking 201 = .ok (.getfield 62, 3) := by decide +kernel
theorem dX7_findTaking_204 : decode cX7_findTaking 204 = .ok (.bipush 80, 2) := by decide +kernel
theorem dX7_findTaking_206 : decode cX7_findTaking 206 = .ok (.iload_n 3, 1) := by decide +kernel
theorem dX7_findTaking_207 : decode cX7_findTaking 207 = .ok (.imul, 1) := by decide +kernel
theorem dX7_findTaking_208 : decode cX7_findTaking 208 = .ok (.iload_n 2, 1) := by decide +kernel
theorem dX7_findTaking_209 : decode cX7_findTaking 209 = .ok (.iadd, 1) := by decide +kernel
theorem dX7_findTaking_210 : decode cX7_findTaking 210 = .ok (.baload, 1) := by decide +kernel
theorem dX7_findTaking_211 : decode cX7_findTaking 211 = .ok (.ifCond .eq 56, 3) := by decide +kernel
theorem dX7_findTaking_214 : decode cX7_findTaking 214 = .ok (.aload_n 0, 1) := by decide +kernel
theorem dX7_findTaking_215 : decode cX7_findTaking 215 = .ok (.getfield 62, 3) := by decide +kernel
theorem dX7_findTaking_218 : decode cX7_findTaking 218 = .ok (.bipush 80, 2) := by decide +kernel
theorem dX7_findTaking_220 : decode cX7_findTaking 220 = .ok (.iload_n 3, 1) := by decide +kernel
theorem dX7_findTaking_221 : decode cX7_findTaking 221 = .ok (.imul, 1) := by decide +kernel
theorem dX7_findTaking_222 : decode cX7_findTaking 222 = .ok (.iload 4, 2) := by decide +kernel
theorem dX7_findTaking_224 : decode cX7_findTaking 224 = .ok (.iadd, 1) := by decide +kernel
theorem dX7_findTaking_225 : decode cX7_findTaking 225 = .ok (.aload_n 0, 1) := by decide +kernel
theorem dX7_findTaking_226 : decode cX7_findTaking 226 = .ok (.getfield 62, 3) := by decide +kernel
theorem dX7_findTaking_229 : decode cX7_findTaking 229 = .ok (.bipush 80, 2) := by decide +kernel
theorem dX7_findTaking_231 : decode cX7_findTaking 231 = .ok (.iload_n 3, 1) := by decide +kernel
theorem dX7_findTaking_232 : decode cX7_findTaking 232 = .ok (.imul, 1) := by decide +kernel
theorem dX7_findTaking_233 : decode cX7_findTaking 233 = .ok (.iload 4, 2) := by decide +kernel
theorem dX7_findTaking_235 : decode cX7_findTaking 235 = .ok (.iadd, 1) := by decide +kernel
theorem dX7_findTaking_236 : decode cX7_findTaking 236 = .ok (.baload, 1) := by decide +kernel
theorem dX7_findTaking_237 : decode cX7_findTaking 237 = .ok (.ifCond .ne 18, 3) := by decide +kernel
theorem dX7_findTaking_240 : decode cX7_findTaking 240 = .ok (.aload_n 0, 1) := by decide +kernel
theorem dX7_findTaking_241 : decode cX7_findTaking 241 = .ok (.getfield 62, 3) := by decide +kernel
theorem dX7_findTaking_244 : decode cX7_findTaking 244 = .ok (.bipush 80, 2) := by decide +kernel
theorem dX7_findTaking_246 : decode cX7_findTaking 246 = .ok (.iload_n 2, 1) := by decide +kernel
theorem dX7_findTaking_247 : decode cX7_findTaking 247 = .ok (.imul, 1) := by decide +kernel
theorem dX7_findTaking_248 : decode cX7_findTaking 248 = .ok (.iload 4, 2) := by decide +kernel
theorem dX7_findTaking_250 : decode cX7_findTaking 250 = .ok (.iadd, 1) := by decide +kernel
theorem dX7_findTaking_251 : decode cX7_findTaking 251 = .ok (.baload, 1) := by decide +kernel
theorem dX7_findTaking_252 : decode cX7_findTaking 252 = .ok (.ifCond .eq 7, 3) := by decide +kernel
theorem dX7_findTaking_255 : decode cX7_findTaking 255 = .ok (.iconst 1, 1) := by decide +kernel
theorem dX7_findTaking_256 : decode cX7_findTaking 256 = .ok (.goto 4, 3) := by decide +kernel
theorem dX7_findTaking_259 : decode cX7_findTaking 259 = .ok (.iconst 0, 1) := by decide +kernel
theorem dX7_findTaking_260 : decode cX7_findTaking 260 = .ok (.bastore, 1) := by decide +kernel
theorem dX7_findTaking_261 : decode cX7_findTaking 261 = .ok (.iinc 4 1, 3) := by decide +kernel
theorem dX7_findTaking_264 : decode cX7_findTaking 264 = .ok (.goto (-73), 3) := by decide +kernel
theorem dX7_findTaking_267 : decode cX7_findTaking 267 = .ok (.iinc 3 1, 3) := by decide +kernel
theorem dX7_findTaking_270 : decode cX7_findTaking 270 = .ok (.goto (-90), 3) := by decide +kernel
theorem dX7_findTaking_273 : decode cX7_findTaking 273 = .ok (.iinc 2 1, 3) := by decide +kernel
theorem dX7_findTaking_276 : decode cX7_findTaking 276 = .ok (.goto (-106), 3) := by decide +kernel
theorem dX7_findTaking_279 : decode cX7_findTaking 279 = .ok (.return_, 1) := by decide +kernel
theorem dX7_call_0 : decode cX7_call 0 = .ok (.aload_n 0, 1) := by decide +kernel
theorem dX7_call_1 : decode cX7_call 1 = .ok (.iload_n 1, 1) := by decide +kernel
theorem dX7_call_2 : decode cX7_call 2 = .ok (.invokevirtual 77, 3) := by decide +kernel
theorem dX7_call_5 : decode cX7_call 5 = .ok (.ifCond .eq 31, 3) := by decide +kernel
theorem dX7_call_8 : decode cX7_call 8 = .ok (.aload_n 0, 1) := by decide +kernel
theorem dX7_call_9 : decode cX7_call 9 = .ok (.iload_n 2, 1) := by decide +kernel
theorem dX7_call_10 : decode cX7_call 10 = .ok (.invokevirtual 77, 3) := by decide +kernel
theorem dX7_call_13 : decode cX7_call 13 = .ok (.ifCond .eq 23, 3) := by decide +kernel
theorem dX7_call_16 : decode cX7_call 16 = .ok (.iload_n 3, 1) := by decide +kernel
theorem dX7_call_17 : decode cX7_call 17 = .ok (.iconst 0, 1) := by decide +kernel
theorem dX7_call_18 : decode cX7_call 18 = .ok (.bipush 9, 2) := by decide +kernel
theorem dX7_call_20 : decode cX7_call 20 = .ok (.invokestatic 69, 3) := by decide +kernel
theorem dX7_call_23 : decode cX7_call 23 = .ok (.ifCond .eq 13, 3) := by decide +kernel
theorem dX7_call_26 : decode cX7_call 26 = .ok (.iload 4, 2) := by decide +kernel
theorem dX7_call_28 : decode cX7_call 28 = .ok (.iconst 0, 1) := by decide +kernel
theorem dX7_call_29 : decode cX7_call 29 = .ok (.iconst 4, 1) := by decide +kernel
theorem dX7_call_30 : decode cX7_call 30 = .ok (.invokestatic 69, 3) := by decide +kernel
theorem dX7_call_33 : decode cX7_call 33 = .ok (.ifCond .ne 5, 3) := by decide +kernel
theorem dX7_call_36 : decode cX7_call 36 = .ok (.iconst (-1), 1) := by decide +kernel
theorem dX7_call_37 : decode cX7_call 37 = .ok (.ireturn, 1) := by decide +kernel
theorem dX7_call_38 : decode cX7_call 38 = .ok (.aload_n 0, 1) := by decide +kernel
theorem dX7_call_39 : decode cX7_call 39 = .ok (.iload_n 2, 1) := by decide +kernel
theorem dX7_call_40 : decode cX7_call 40 = .ok (.invokevirtual 179, 3) := by decide +kernel
theorem dX7_call_43 : decode cX7_call 43 = .ok (.ifCond .ne 12, 3) := by decide +kernel
theorem dX7_call_46 : decode cX7_call 46 = .ok (.aload_n 0, 1) := by decide +kernel
theorem dX7_call_47 : decode cX7_call 47 = .ok (.iload_n 2, 1) := by decide +kernel
theorem dX7_call_48 : decode cX7_call 48 = .ok (.iload_n 1, 1) := by decide +kernel
theorem dX7_call_49 : decode cX7_call 49 = .ok (.invokevirtual 118, 3) := by decide +kernel
theorem dX7_call_52 : decode cX7_call 52 = .ok (.ifCond .ne 6, 3) := by decide +kernel
theorem dX7_call_55 : decode cX7_call 55 = .ok (.bipush (-4), 2) := by decide +kernel
theorem dX7_call_57 : decode cX7_call 57 = .ok (.ireturn, 1) := by decide +kernel
theorem dX7_call_58 : decode cX7_call 58 = .ok (.aload_n 0, 1) := by decide +kernel
theorem dX7_call_59 : decode cX7_call 59 = .ok (.iload_n 1, 1) := by decide +kernel
theorem dX7_call_60 : decode cX7_call 60 = .ok (.iload_n 3, 1) := by decide +kernel
theorem dX7_call_61 : decode cX7_call 61 = .ok (.iload 4, 2) := by decide +kernel
theorem dX7_call_63 : decode cX7_call 63 = .ok (.invokevirtual 134, 3) := by decide +kernel
theorem dX7_call_66 : decode cX7_call 66 = .ok (.istore 5, 2) := by decide +kernel
theorem dX7_call_68 : decode cX7_call 68 = .ok (.iload 5, 2) := by decide +kernel
theorem dX7_call_70 : decode cX7_call 70 = .ok (.ifCond .ge 18, 3) := by decide +kernel
theorem dX7_call_73 : decode cX7_call 73 = .ok (.aload_n 0, 1) := by decide +kernel
theorem dX7_call_74 : decode cX7_call 74 = .ok (.iload_n 1, 1) := by decide +kernel
theorem dX7_call_75 : decode cX7_call 75 = .ok (.iload_n 3, 1) := by decide +kernel
theorem dX7_call_76 : decode cX7_call 76 = .ok (.iload 4, 2) := by decide +kernel
theorem dX7_call_78 : decode cX7_call 78 = .ok (.invokevirtual 137, 3) := by decide +kernel
theorem dX7_call_81 : decode cX7_call 81 = .ok (.aload_n 0, 1) := by decide +kernel
theorem dX7_call_82 : decode cX7_call 82 = .ok (.iconst 0, 1) := by decide +kernel
theorem dX7_call_83 : decode cX7_call 83 = .ok (.invokevirtual 145, 3) := by decide +kernel
theorem dX7_call_86 : decode cX7_call 86 = .ok (.istore 5, 2) := by decide +kernel
theorem dX7_call_88 : decode cX7_call 88 = .ok (.iload 5, 2) := by decide +kernel
theorem dX7_call_90 : decode cX7_call 90 = .ok (.ifCond .ge 6, 3) := by decide +kernel
theorem dX7_call_93 : decode cX7_call 93 = .ok (.bipush (-3), 2) := by decide +kernel
theorem dX7_call_95 : decode cX7_call 95 = .ok (.ireturn, 1) := by decide +kernel
theorem dX7_call_96 : decode cX7_call 96 = .ok (.aload_n 0, 1) := by decide +kernel
theorem dX7_call_97 : decode cX7_call 97 = .ok (.getfield 46, 3) := by decide +kernel
theorem dX7_call_100 : decode cX7_call 100 = .ok (.iload 5, 2) := by decide +kernel
theorem dX7_call_102 : decode cX7_call 102 = .ok (.iaload, 1) := by decide +kernel
theorem dX7_call_103 : decode cX7_call 103 = .ok (.ifCond .ne 6, 3) := by decide +kernel
theorem dX7_call_106 : decode cX7_call 106 = .ok (.iload 5, 2) := by decide +kernel
theorem dX7_call_108 : decode cX7_call 108 = .ok (.ireturn, 1) := by decide +kernel
theorem dX7_call_109 : decode cX7_call 109 = .ok (.aload_n 0, 1) := by decide +kernel
theorem dX7_call_110 : decode cX7_call 110 = .ok (.getfield 7, 3) := by decide +kernel
theorem dX7_call_113 : decode cX7_call 113 = .ok (.aload_n 0, 1) := by decide +kernel
theorem dX7_call_114 : decode cX7_call 114 = .ok (.getfield 34, 3) := by decide +kernel
theorem dX7_call_117 : decode cX7_call 117 = .ok (.iload 5, 2) := by decide +kernel
theorem dX7_call_119 : decode cX7_call 119 = .ok (.iaload, 1) := by decide +kernel
theorem dX7_call_120 : decode cX7_call 120 = .ok (.iaload, 1) := by decide +kernel
theorem dX7_call_121 : decode cX7_call 121 = .ok (.iconst 1, 1) := by decide +kernel
theorem dX7_call_122 : decode cX7_call 122 = .ok (.if_icmp .ne 12, 3) := by decide +kernel
theorem dX7_call_125 : decode cX7_call 125 = .ok (.aload_n 0, 1) := by decide +kernel
theorem dX7_call_126 : decode cX7_call 126 = .ok (.iload_n 2, 1) := by decide +kernel
theorem dX7_call_127 : decode cX7_call 127 = .ok (.iload_n 3, 1) := by decide +kernel
theorem dX7_call_128 : decode cX7_call 128 = .ok (.iload 4, 2) := by decide +kernel
theorem dX7_call_130 : decode cX7_call 130 = .ok (.invokevirtual 182, 3) := by decide +kernel
theorem dX7_call_133 : decode cX7_call 133 = .ok (.ireturn, 1) := by decide +kernel
theorem dX7_call_134 : decode cX7_call 134 = .ok (.aload_n 0, 1) := by decide +kernel
theorem dX7_call_135 : decode cX7_call 135 = .ok (.iload 5, 2) := by decide +kernel
theorem dX7_call_137 : decode cX7_call 137 = .ok (.invokevirtual 188, 3) := by decide +kernel
theorem dX7_call_140 : decode cX7_call 140 = .ok (.iload_n 2, 1) := by decide +kernel
theorem dX7_call_141 : decode cX7_call 141 = .ok (.istore 6, 2) := by decide +kernel
theorem dX7_call_143 : decode cX7_call 143 = .ok (.iconst 0, 1) := by decide +kernel
theorem dX7_call_144 : decode cX7_call 144 = .ok (.istore 7, 2) := by decide +kernel
theorem dX7_call_146 : decode cX7_call 146 = .ok (.iload 7, 2) := by decide +kernel
theorem dX7_call_148 : decode cX7_call 148 = .ok (.bipush 20, 2) := by decide +kernel
theorem dX7_call_150 : decode cX7_call 150 = .ok (.if_icmp .ge 99, 3) := by decide +kernel
theorem dX7_call_153 : decode cX7_call 153 = .ok (.aload_n 0, 1) := by decide +kernel
theorem dX7_call_154 : decode cX7_call 154 = .ok (.iload 6, 2) := by decide +kernel
theorem dX7_call_156 : decode cX7_call 156 = .ok (.invokevirtual 77, 3) := by decide +kernel
theorem dX7_call_159 : decode cX7_call 159 = .ok (.ifCond .eq 90, 3) := by decide +kernel
theorem dX7_call_162 : decode cX7_call 162 = .ok (.iconst 0, 1) := by decide +kernel
theorem dX7_call_163 : decode cX7_call 163 = .ok (.istore 8, 2) := by decide +kernel
theorem dX7_call_165 : decode cX7_call 165 = .ok (.iload 8, 2) := by decide +kernel
theorem dX7_call_167 : decode cX7_call 167 = .ok (.aload_n 0, 1) := by decide +kernel
theorem dX7_call_168 : decode cX7_call 168 = .ok (.getfield 81, 3) := by decide +kernel
theorem dX7_call_171 : decode cX7_call 171 = .ok (.if_icmp .ge 63, 3) := by decide +kernel
theorem dX7_call_174 : decode cX7_call 174 = .ok (.aload_n 0, 1) := by decide +kernel
theorem dX7_call_175 : decode cX7_call 175 = .ok (.getfield 34, 3) := by decide +kernel
theorem dX7_call_178 : decode cX7_call 178 = .ok (.iload 8, 2) := by decide +kernel
theorem dX7_call_180 : decode cX7_call 180 = .ok (.iaload, 1) := by decide +kernel
theorem dX7_call_181 : decode cX7_call 181 = .ok (.iload 6, 2) := by decide +kernel
theorem dX7_call_183 : decode cX7_call 183 = .ok (.if_icmp .ne 45, 3) := by decide +kernel
theorem dX7_call_186 : decode cX7_call 186 = .ok (.iload 8, 2) := by decide +kernel
theorem dX7_call_188 : decode cX7_call 188 = .ok (.iload 5, 2) := by decide +kernel
theorem dX7_call_190 : decode cX7_call 190 = .ok (.if_icmp .eq 19, 3) := by decide +kernel
theorem dX7_call_193 : decode cX7_call 193 = .ok (.aload_n 0, 1) := by decide +kernel
theorem dX7_call_194 : decode cX7_call 194 = .ok (.getfield 62, 3) := by decide +kernel
theorem dX7_call_197 : decode cX7_call 197 = .ok (.bipush 80, 2) := by decide +kernel
theorem dX7_call_199 : decode cX7_call 199 = .ok (.iload 8, 2) := by decide +kernel
theorem dX7_call_201 : decode cX7_call 201 = .ok (.imul, 1) := by decide +kernel
theorem dX7_call_202 : decode cX7_call 202 = .ok (.iload 5, 2) := by decide +kernel
theorem dX7_call_204 : decode cX7_call 204 = .ok (.iadd, 1) := by decide +kernel
theorem dX7_call_205 : decode cX7_call 205 = .ok (.baload, 1) := by decide +kernel
theorem dX7_call_206 : decode cX7_call 206 = .ok (.ifCond .eq 22, 3) := by decide +kernel
theorem dX7_call_209 : decode cX7_call 209 = .ok (.aload_n 0, 1) := by decide +kernel
theorem dX7_call_210 : decode cX7_call 210 = .ok (.iload 8, 2) := by decide +kernel
theorem dX7_call_212 : decode cX7_call 212 = .ok (.iconst 1, 1) := by decide +kernel
theorem dX7_call_213 : decode cX7_call 213 = .ok (.iconst 1, 1) := by decide +kernel
theorem dX7_call_214 : decode cX7_call 214 = .ok (.invokevirtual 87, 3) := by decide +kernel
theorem dX7_call_217 : decode cX7_call 217 = .ok (.ifCond .eq 8, 3) := by decide +kernel
theorem dX7_call_220 : decode cX7_call 220 = .ok (.bipush (-3), 2) := by decide +kernel
theorem dX7_call_222 : decode cX7_call 222 = .ok (.goto 5, 3) := by decide +kernel
theorem dX7_call_225 : decode cX7_call 225 = .ok (.iload 8, 2) := by decide +kernel
theorem dX7_call_227 : decode cX7_call 227 = .ok (.ireturn, 1) := by decide +kernel
theorem dX7_call_228 : decode cX7_call 228 = .ok (.iinc 8 1, 3) := by decide +kernel
theorem dX7_call_231 : decode cX7_call 231 = .ok (.goto (-66), 3) := by decide +kernel
theorem dX7_call_234 : decode cX7_call 234 = .ok (.aload_n 0, 1) := by decide +kernel
theorem dX7_call_235 : decode cX7_call 235 = .ok (.getfield 19, 3) := by decide +kernel
theorem dX7_call_238 : decode cX7_call 238 = .ok (.iload 6, 2) := by decide +kernel
theorem dX7_call_240 : decode cX7_call 240 = .ok (.iaload, 1) := by decide +kernel
theorem dX7_call_241 : decode cX7_call 241 = .ok (.istore 6, 2) := by decide +kernel
theorem dX7_call_243 : decode cX7_call 243 = .ok (.iinc 7 1, 3) := by decide +kernel
theorem dX7_call_246 : decode cX7_call 246 = .ok (.goto (-100), 3) := by decide +kernel
theorem dX7_call_249 : decode cX7_call 249 = .ok (.bipush (-3), 2) := by decide +kernel
theorem dX7_call_251 : decode cX7_call 251 = .ok (.ireturn, 1) := by decide +kernel
theorem dX7_told_0 : decode cX7_told 0 = .ok (.iload_n 1, 1) := by decide +kernel
theorem dX7_told_1 : decode cX7_told 1 = .ok (.ifCond .ne 10, 3) := by decide +kernel
theorem dX7_told_4 : decode cX7_told 4 = .ok (.aload_n 0, 1) := by decide +kernel
theorem dX7_told_5 : decode cX7_told 5 = .ok (.getfield 65, 3) := by decide +kernel
theorem dX7_told_8 : decode cX7_told 8 = .ok (.goto 16, 3) := by decide +kernel
theorem dX7_told_11 : decode cX7_told 11 = .ok (.iload_n 1, 1) := by decide +kernel
theorem dX7_told_12 : decode cX7_told 12 = .ok (.iconst 1, 1) := by decide +kernel
theorem dX7_told_13 : decode cX7_told 13 = .ok (.if_icmp .ne 10, 3) := by decide +kernel
theorem dX7_told_16 : decode cX7_told 16 = .ok (.aload_n 0, 1) := by decide +kernel
theorem dX7_told_17 : decode cX7_told 17 = .ok (.getfield 81, 3) := by decide +kernel
theorem dX7_told_20 : decode cX7_told 20 = .ok (.goto 4, 3) := by decide +kernel
theorem dX7_told_23 : decode cX7_told 23 = .ok (.iconst (-1), 1) := by decide +kernel
theorem dX7_told_24 : decode cX7_told 24 = .ok (.ireturn, 1) := by decide +kernel
theorem dJ6_bitCount_0f7a4_0 : decode cJ6_bitCount_0f7a4 0 = .ok (.iload_n 0, 1) := by decide +kernel
theorem dJ6_bitCount_0f7a4_1 : decode cJ6_bitCount_0f7a4 1 = .ok (.iload_n 0, 1) := by decide +kernel
theorem dJ6_bitCount_0f7a4_2 : decode cJ6_bitCount_0f7a4 2 = .ok (.iconst 1, 1) := by decide +kernel
theorem dJ6_bitCount_0f7a4_3 : decode cJ6_bitCount_0f7a4 3 = .ok (.iushr, 1) := by decide +kernel
theorem dJ6_bitCount_0f7a4_4 : decode cJ6_bitCount_0f7a4 4 = .ok (.ldc_w 265, 3) := by decide +kernel
theorem dJ6_bitCount_0f7a4_7 : decode cJ6_bitCount_0f7a4 7 = .ok (.iand, 1) := by decide +kernel
theorem dJ6_bitCount_0f7a4_8 : decode cJ6_bitCount_0f7a4 8 = .ok (.isub, 1) := by decide +kernel
theorem dJ6_bitCount_0f7a4_9 : decode cJ6_bitCount_0f7a4 9 = .ok (.istore_n 0, 1) := by decide +kernel
theorem dJ6_bitCount_0f7a4_10 : decode cJ6_bitCount_0f7a4 10 = .ok (.iload_n 0, 1) := by decide +kernel
theorem dJ6_bitCount_0f7a4_11 : decode cJ6_bitCount_0f7a4 11 = .ok (.ldc_w 266, 3) := by decide +kernel
theorem dJ6_bitCount_0f7a4_14 : decode cJ6_bitCount_0f7a4 14 = .ok (.iand, 1) := by decide +kernel
theorem dJ6_bitCount_0f7a4_15 : decode cJ6_bitCount_0f7a4 15 = .ok (.iload_n 0, 1) := by decide +kernel
theorem dJ6_bitCount_0f7a4_16 : decode cJ6_bitCount_0f7a4 16 = .ok (.iconst 2, 1) := by decide +kernel
theorem dJ6_bitCount_0f7a4_17 : decode cJ6_bitCount_0f7a4 17 = .ok (.iushr, 1) := by decide +kernel
theorem dJ6_bitCount_0f7a4_18 : decode cJ6_bitCount_0f7a4 18 = .ok (.ldc_w 266, 3) := by decide +kernel
theorem dJ6_bitCount_0f7a4_21 : decode cJ6_bitCount_0f7a4 21 = .ok (.iand, 1) := by decide +kernel
theorem dJ6_bitCount_0f7a4_22 : decode cJ6_bitCount_0f7a4 22 = .ok (.iadd, 1) := by decide +kernel
theorem dJ6_bitCount_0f7a4_23 : decode cJ6_bitCount_0f7a4 23 = .ok (.istore_n 0, 1) := by decide +kernel
theorem dJ6_bitCount_0f7a4_24 : decode cJ6_bitCount_0f7a4 24 = .ok (.iload_n 0, 1) := by decide +kernel
theorem dJ6_bitCount_0f7a4_25 : decode cJ6_bitCount_0f7a4 25 = .ok (.iload_n 0, 1) := by decide +kernel
theorem dJ6_bitCount_0f7a4_26 : decode cJ6_bitCount_0f7a4 26 = .ok (.iconst 4, 1) := by decide +kernel
theorem dJ6_bitCount_0f7a4_27 : decode cJ6_bitCount_0f7a4 27 = .ok (.iushr, 1) := by decide +kernel
theorem dJ6_bitCount_0f7a4_28 : decode cJ6_bitCount_0f7a4 28 = .ok (.iadd, 1) := by decide +kernel
theorem dJ6_bitCount_0f7a4_29 : decode cJ6_bitCount_0f7a4 29 = .ok (.ldc_w 267, 3) := by decide +kernel
theorem dJ6_bitCount_0f7a4_32 : decode cJ6_bitCount_0f7a4 32 = .ok (.iand, 1) := by decide +kernel
theorem dJ6_bitCount_0f7a4_33 : decode cJ6_bitCount_0f7a4 33 = .ok (.istore_n 0, 1) := by decide +kernel
theorem dJ6_bitCount_0f7a4_34 : decode cJ6_bitCount_0f7a4 34 = .ok (.iload_n 0, 1) := by decide +kernel
theorem dJ6_bitCount_0f7a4_35 : decode cJ6_bitCount_0f7a4 35 = .ok (.iload_n 0, 1) := by decide +kernel
theorem dJ6_bitCount_0f7a4_36 : decode cJ6_bitCount_0f7a4 36 = .ok (.bipush 8, 2) := by decide +kernel
theorem dJ6_bitCount_0f7a4_38 : decode cJ6_bitCount_0f7a4 38 = .ok (.iushr, 1) := by decide +kernel
theorem dJ6_bitCount_0f7a4_39 : decode cJ6_bitCount_0f7a4 39 = .ok (.iadd, 1) := by decide +kernel
theorem dJ6_bitCount_0f7a4_40 : decode cJ6_bitCount_0f7a4 40 = .ok (.istore_n 0, 1) := by decide +kernel
theorem dJ6_bitCount_0f7a4_41 : decode cJ6_bitCount_0f7a4 41 = .ok (.iload_n 0, 1) := by decide +kernel
theorem dJ6_bitCount_0f7a4_42 : decode cJ6_bitCount_0f7a4 42 = .ok (.iload_n 0, 1) := by decide +kernel
theorem dJ6_bitCount_0f7a4_43 : decode cJ6_bitCount_0f7a4 43 = .ok (.bipush 16, 2) := by decide +kernel
theorem dJ6_bitCount_0f7a4_45 : decode cJ6_bitCount_0f7a4 45 = .ok (.iushr, 1) := by decide +kernel
theorem dJ6_bitCount_0f7a4_46 : decode cJ6_bitCount_0f7a4 46 = .ok (.iadd, 1) := by decide +kernel
theorem dJ6_bitCount_0f7a4_47 : decode cJ6_bitCount_0f7a4 47 = .ok (.istore_n 0, 1) := by decide +kernel
theorem dJ6_bitCount_0f7a4_48 : decode cJ6_bitCount_0f7a4 48 = .ok (.iload_n 0, 1) := by decide +kernel
theorem dJ6_bitCount_0f7a4_49 : decode cJ6_bitCount_0f7a4 49 = .ok (.bipush 63, 2) := by decide +kernel
theorem dJ6_bitCount_0f7a4_51 : decode cJ6_bitCount_0f7a4 51 = .ok (.iand, 1) := by decide +kernel
theorem dJ6_bitCount_0f7a4_52 : decode cJ6_bitCount_0f7a4 52 = .ok (.ireturn, 1) := by decide +kernel
theorem dJ13_bitCount_95d88_0 : decode cJ13_bitCount_95d88 0 = .ok (.lload_n 0, 1) := by decide +kernel
theorem dJ13_bitCount_95d88_1 : decode cJ13_bitCount_95d88 1 = .ok (.lload_n 0, 1) := by decide +kernel
theorem dJ13_bitCount_95d88_2 : decode cJ13_bitCount_95d88 2 = .ok (.iconst 1, 1) := by decide +kernel
theorem dJ13_bitCount_95d88_3 : decode cJ13_bitCount_95d88 3 = .ok (.lushr, 1) := by decide +kernel
theorem dJ13_bitCount_95d88_4 : decode cJ13_bitCount_95d88 4 = .ok (.ldc2_w 314, 3) := by decide +kernel
theorem dJ13_bitCount_95d88_7 : decode cJ13_bitCount_95d88 7 = .ok (.land, 1) := by decide +kernel
theorem dJ13_bitCount_95d88_8 : decode cJ13_bitCount_95d88 8 = .ok (.lsub, 1) := by decide +kernel
theorem dJ13_bitCount_95d88_9 : decode cJ13_bitCount_95d88 9 = .ok (.lstore_n 0, 1) := by decide +kernel
theorem dJ13_bitCount_95d88_10 : decode cJ13_bitCount_95d88 10 = .ok (.lload_n 0, 1) := by decide +kernel
theorem dJ13_bitCount_95d88_11 : decode cJ13_bitCount_95d88 11 = .ok (.ldc2_w 316, 3) := by decide +kernel
theorem dJ13_bitCount_95d88_14 : decode cJ13_bitCount_95d88 14 = .ok (.land, 1) := by decide +kernel
theorem dJ13_bitCount_95d88_15 : decode cJ13_bitCount_95d88 15 = .ok (.lload_n 0, 1) := by decide +kernel
theorem dJ13_bitCount_95d88_16 : decode cJ13_bitCount_95d88 16 = .ok (.iconst 2, 1) := by decide +kernel
theorem dJ13_bitCount_95d88_17 : decode cJ13_bitCount_95d88 17 = .ok (.lushr, 1) := by decide +kernel
theorem dJ13_bitCount_95d88_18 : decode cJ13_bitCount_95d88 18 = .ok (.ldc2_w 316, 3) := by decide +kernel
theorem dJ13_bitCount_95d88_21 : decode cJ13_bitCount_95d88 21 = .ok (.land, 1) := by decide +kernel
theorem dJ13_bitCount_95d88_22 : decode cJ13_bitCount_95d88 22 = .ok (.ladd, 1) := by decide +kernel
theorem dJ13_bitCount_95d88_23 : decode cJ13_bitCount_95d88 23 = .ok (.lstore_n 0, 1) := by decide +kernel
theorem dJ13_bitCount_95d88_24 : decode cJ13_bitCount_95d88 24 = .ok (.lload_n 0, 1) := by decide +kernel
theorem dJ13_bitCount_95d88_25 : decode cJ13_bitCount_95d88 25 = .ok (.lload_n 0, 1) := by decide +kernel
theorem dJ13_bitCount_95d88_26 : decode cJ13_bitCount_95d88 26 = .ok (.iconst 4, 1) := by decide +kernel
theorem dJ13_bitCount_95d88_27 : decode cJ13_bitCount_95d88 27 = .ok (.lushr, 1) := by decide +kernel
theorem dJ13_bitCount_95d88_28 : decode cJ13_bitCount_95d88 28 = .ok (.ladd, 1) := by decide +kernel
theorem dJ13_bitCount_95d88_29 : decode cJ13_bitCount_95d88 29 = .ok (.ldc2_w 318, 3) := by decide +kernel
theorem dJ13_bitCount_95d88_32 : decode cJ13_bitCount_95d88 32 = .ok (.land, 1) := by decide +kernel
theorem dJ13_bitCount_95d88_33 : decode cJ13_bitCount_95d88 33 = .ok (.lstore_n 0, 1) := by decide +kernel
theorem dJ13_bitCount_95d88_34 : decode cJ13_bitCount_95d88 34 = .ok (.lload_n 0, 1) := by decide +kernel
theorem dJ13_bitCount_95d88_35 : decode cJ13_bitCount_95d88 35 = .ok (.lload_n 0, 1) := by decide +kernel
theorem dJ13_bitCount_95d88_36 : decode cJ13_bitCount_95d88 36 = .ok (.bipush 8, 2) := by decide +kernel
theorem dJ13_bitCount_95d88_38 : decode cJ13_bitCount_95d88 38 = .ok (.lushr, 1) := by decide +kernel
theorem dJ13_bitCount_95d88_39 : decode cJ13_bitCount_95d88 39 = .ok (.ladd, 1) := by decide +kernel
theorem dJ13_bitCount_95d88_40 : decode cJ13_bitCount_95d88 40 = .ok (.lstore_n 0, 1) := by decide +kernel
theorem dJ13_bitCount_95d88_41 : decode cJ13_bitCount_95d88 41 = .ok (.lload_n 0, 1) := by decide +kernel
theorem dJ13_bitCount_95d88_42 : decode cJ13_bitCount_95d88 42 = .ok (.lload_n 0, 1) := by decide +kernel
theorem dJ13_bitCount_95d88_43 : decode cJ13_bitCount_95d88 43 = .ok (.bipush 16, 2) := by decide +kernel
theorem dJ13_bitCount_95d88_45 : decode cJ13_bitCount_95d88 45 = .ok (.lushr, 1) := by decide +kernel
theorem dJ13_bitCount_95d88_46 : decode cJ13_bitCount_95d88 46 = .ok (.ladd, 1) := by decide +kernel
theorem dJ13_bitCount_95d88_47 : decode cJ13_bitCount_95d88 47 = .ok (.lstore_n 0, 1) := by decide +kernel
theorem dJ13_bitCount_95d88_48 : decode cJ13_bitCount_95d88 48 = .ok (.lload_n 0, 1) := by decide +kernel
theorem dJ13_bitCount_95d88_49 : decode cJ13_bitCount_95d88 49 = .ok (.lload_n 0, 1) := by decide +kernel
theorem dJ13_bitCount_95d88_50 : decode cJ13_bitCount_95d88 50 = .ok (.bipush 32, 2) := by decide +kernel
theorem dJ13_bitCount_95d88_52 : decode cJ13_bitCount_95d88 52 = .ok (.lushr, 1) := by decide +kernel
theorem dJ13_bitCount_95d88_53 : decode cJ13_bitCount_95d88 53 = .ok (.ladd, 1) := by decide +kernel
theorem dJ13_bitCount_95d88_54 : decode cJ13_bitCount_95d88 54 = .ok (.lstore_n 0, 1) := by decide +kernel
theorem dJ13_bitCount_95d88_55 : decode cJ13_bitCount_95d88 55 = .ok (.lload_n 0, 1) := by decide +kernel
theorem dJ13_bitCount_95d88_56 : decode cJ13_bitCount_95d88 56 = .ok (.l2i, 1) := by decide +kernel
theorem dJ13_bitCount_95d88_57 : decode cJ13_bitCount_95d88 57 = .ok (.bipush 127, 2) := by decide +kernel
theorem dJ13_bitCount_95d88_59 : decode cJ13_bitCount_95d88 59 = .ok (.iand, 1) := by decide +kernel
theorem dJ13_bitCount_95d88_60 : decode cJ13_bitCount_95d88 60 = .ok (.ireturn, 1) := by decide +kernel
theorem dJ7_fill_d0a16_0 : decode cJ7_fill_d0a16 0 = .ok (.iconst 0, 1) := by decide +kernel
theorem dJ7_fill_d0a16_1 : decode cJ7_fill_d0a16 1 = .ok (.istore_n 3, 1) := by decide +kernel
theorem dJ7_fill_d0a16_2 : decode cJ7_fill_d0a16 2 = .ok (.aload_n 0, 1) := by decide +kernel
theorem dJ7_fill_d0a16_3 : decode cJ7_fill_d0a16 3 = .ok (.arraylength, 1) := by decide +kernel
theorem dJ7_fill_d0a16_4 : decode cJ7_fill_d0a16 4 = .ok (.istore 4, 2) := by decide +kernel
theorem dJ7_fill_d0a16_6 : decode cJ7_fill_d0a16 6 = .ok (.iload_n 3, 1) := by decide +kernel
theorem dJ7_fill_d0a16_7 : decode cJ7_fill_d0a16 7 = .ok (.iload 4, 2) := by decide +kernel
theorem dJ7_fill_d0a16_9 : decode cJ7_fill_d0a16 9 = .ok (.if_icmp .ge 13, 3) := by decide +kernel
theorem dJ7_fill_d0a16_12 : decode cJ7_fill_d0a16 12 = .ok (.aload_n 0, 1) := by decide +kernel
theorem dJ7_fill_d0a16_13 : decode cJ7_fill_d0a16 13 = .ok (.iload_n 3, 1) := by decide +kernel
theorem dJ7_fill_d0a16_14 : decode cJ7_fill_d0a16 14 = .ok (.lload_n 1, 1) := by decide +kernel
theorem dJ7_fill_d0a16_15 : decode cJ7_fill_d0a16 15 = .ok (.lastore, 1) := by decide +kernel
theorem dJ7_fill_d0a16_16 : decode cJ7_fill_d0a16 16 = .ok (.iinc 3 1, 3) := by decide +kernel
theorem dJ7_fill_d0a16_19 : decode cJ7_fill_d0a16 19 = .ok (.goto (-13), 3) := by decide +kernel
theorem dJ7_fill_d0a16_22 : decode cJ7_fill_d0a16 22 = .ok (.return_, 1) := by decide +kernel
theorem dL_law_0 : decode cL_law 0 = .ok (.new 7, 3) := by decide +kernel
theorem dL_law_3 : decode cL_law 3 = .ok (.dup, 1) := by decide +kernel
theorem dL_law_4 : decode cL_law 4 = .ok (.invokespecial 9, 3) := by decide +kernel
theorem dL_law_7 : decode cL_law 7 = .ok (.astore_n 1, 1) := by decide +kernel
theorem dL_law_8 : decode cL_law 8 = .ok (.new 10, 3) := by decide +kernel
theorem dL_law_11 : decode cL_law 11 = .ok (.dup, 1) := by decide +kernel
theorem dL_law_12 : decode cL_law 12 = .ok (.invokespecial 12, 3) := by decide +kernel
theorem dL_law_15 : decode cL_law 15 = .ok (.astore_n 2, 1) := by decide +kernel
theorem dL_law_16 : decode cL_law 16 = .ok (.iconst 0, 1) := by decide +kernel
theorem dL_law_17 : decode cL_law 17 = .ok (.istore_n 3, 1) := by decide +kernel
theorem dL_law_18 : decode cL_law 18 = .ok (.iload_n 3, 1) := by decide +kernel
theorem dL_law_19 : decode cL_law 19 = .ok (.aload_n 0, 1) := by decide +kernel
theorem dL_law_20 : decode cL_law 20 = .ok (.arraylength, 1) := by decide +kernel
theorem dL_law_21 : decode cL_law 21 = .ok (.bipush 7, 2) := by decide +kernel
theorem dL_law_23 : decode cL_law 23 = .ok (.isub, 1) := by decide +kernel
theorem dL_law_24 : decode cL_law 24 = .ok (.if_icmp .gt 499, 3) := by decide +kernel
theorem dL_law_27 : decode cL_law 27 = .ok (.aload_n 0, 1) := by decide +kernel
theorem dL_law_28 : decode cL_law 28 = .ok (.iload_n 3, 1) := by decide +kernel
theorem dL_law_29 : decode cL_law 29 = .ok (.iaload, 1) := by decide +kernel
theorem dL_law_30 : decode cL_law 30 = .ok (.bipush 15, 2) := by decide +kernel
theorem dL_law_32 : decode cL_law 32 = .ok (.iand, 1) := by decide +kernel
theorem dL_law_33 : decode cL_law 33 = .ok (.tableswitch 484 0 10 #[59, 112, 145, 178, 253, 276, 319, 332, 365, 408, 461], 59) := by decide +kernel
theorem dL_law_92 : decode cL_law 92 = .ok (.aload_n 1, 1) := by decide +kernel
theorem dL_law_93 : decode cL_law 93 = .ok (.aload_n 0, 1) := by decide +kernel
theorem dL_law_94 : decode cL_law 94 = .ok (.iload_n 3, 1) := by decide +kernel
theorem dL_law_95 : decode cL_law 95 = .ok (.iconst 1, 1) := by decide +kernel
theorem dL_law_96 : decode cL_law 96 = .ok (.iadd, 1) := by decide +kernel
theorem dL_law_97 : decode cL_law 97 = .ok (.iaload, 1) := by decide +kernel
theorem dL_law_98 : decode cL_law 98 = .ok (.aload_n 0, 1) := by decide +kernel
theorem dL_law_99 : decode cL_law 99 = .ok (.iload_n 3, 1) := by decide +kernel
theorem dL_law_100 : decode cL_law 100 = .ok (.iconst 2, 1) := by decide +kernel
theorem dL_law_101 : decode cL_law 101 = .ok (.iadd, 1) := by decide +kernel
theorem dL_law_102 : decode cL_law 102 = .ok (.iaload, 1) := by decide +kernel
theorem dL_law_103 : decode cL_law 103 = .ok (.aload_n 0, 1) := by decide +kernel
theorem dL_law_104 : decode cL_law 104 = .ok (.iload_n 3, 1) := by decide +kernel
theorem dL_law_105 : decode cL_law 105 = .ok (.iconst 3, 1) := by decide +kernel
theorem dL_law_106 : decode cL_law 106 = .ok (.iadd, 1) := by decide +kernel
theorem dL_law_107 : decode cL_law 107 = .ok (.iaload, 1) := by decide +kernel
theorem dL_law_108 : decode cL_law 108 = .ok (.aload_n 0, 1) := by decide +kernel
theorem dL_law_109 : decode cL_law 109 = .ok (.iload_n 3, 1) := by decide +kernel
theorem dL_law_110 : decode cL_law 110 = .ok (.iconst 4, 1) := by decide +kernel
theorem dL_law_111 : decode cL_law 111 = .ok (.iadd, 1) := by decide +kernel
theorem dL_law_112 : decode cL_law 112 = .ok (.iaload, 1) := by decide +kernel
theorem dL_law_113 : decode cL_law 113 = .ok (.invokevirtual 13, 3) := by decide +kernel
theorem dL_law_116 : decode cL_law 116 = .ok (.pop, 1) := by decide +kernel
theorem dL_law_117 : decode cL_law 117 = .ok (.aload_n 2, 1) := by decide +kernel
theorem dL_law_118 : decode cL_law 118 = .ok (.aload_n 0, 1) := by decide +kernel
theorem dL_law_119 : decode cL_law 119 = .ok (.iload_n 3, 1) := by decide +kernel
theorem dL_law_120 : decode cL_law 120 = .ok (.iconst 1, 1) := by decide +kernel
theorem dL_law_121 : decode cL_law 121 = .ok (.iadd, 1) := by decide +kernel
theorem dL_law_122 : decode cL_law 122 = .ok (.iaload, 1) := by decide +kernel
theorem dL_law_123 : decode cL_law 123 = .ok (.aload_n 0, 1) := by decide +kernel
theorem dL_law_124 : decode cL_law 124 = .ok (.iload_n 3, 1) := by decide +kernel
theorem dL_law_125 : decode cL_law 125 = .ok (.iconst 2, 1) := by decide +kernel
theorem dL_law_126 : decode cL_law 126 = .ok (.iadd, 1) := by decide +kernel
theorem dL_law_127 : decode cL_law 127 = .ok (.iaload, 1) := by decide +kernel
theorem dL_law_128 : decode cL_law 128 = .ok (.aload_n 0, 1) := by decide +kernel
theorem dL_law_129 : decode cL_law 129 = .ok (.iload_n 3, 1) := by decide +kernel
theorem dL_law_130 : decode cL_law 130 = .ok (.iconst 3, 1) := by decide +kernel
theorem dL_law_131 : decode cL_law 131 = .ok (.iadd, 1) := by decide +kernel
theorem dL_law_132 : decode cL_law 132 = .ok (.iaload, 1) := by decide +kernel
theorem dL_law_133 : decode cL_law 133 = .ok (.aload_n 0, 1) := by decide +kernel
theorem dL_law_134 : decode cL_law 134 = .ok (.iload_n 3, 1) := by decide +kernel
theorem dL_law_135 : decode cL_law 135 = .ok (.iconst 4, 1) := by decide +kernel
theorem dL_law_136 : decode cL_law 136 = .ok (.iadd, 1) := by decide +kernel
theorem dL_law_137 : decode cL_law 137 = .ok (.iaload, 1) := by decide +kernel
theorem dL_law_138 : decode cL_law 138 = .ok (.invokevirtual 17, 3) := by decide +kernel
theorem dL_law_141 : decode cL_law 141 = .ok (.pop, 1) := by decide +kernel
theorem dL_law_142 : decode cL_law 142 = .ok (.goto 375, 3) := by decide +kernel
theorem dL_law_145 : decode cL_law 145 = .ok (.aload_n 1, 1) := by decide +kernel
theorem dL_law_146 : decode cL_law 146 = .ok (.aload_n 0, 1) := by decide +kernel
theorem dL_law_147 : decode cL_law 147 = .ok (.iload_n 3, 1) := by decide +kernel
theorem dL_law_148 : decode cL_law 148 = .ok (.iconst 1, 1) := by decide +kernel
theorem dL_law_149 : decode cL_law 149 = .ok (.iadd, 1) := by decide +kernel
theorem dL_law_150 : decode cL_law 150 = .ok (.iaload, 1) := by decide +kernel
theorem dL_law_151 : decode cL_law 151 = .ok (.aload_n 0, 1) := by decide +kernel
theorem dL_law_152 : decode cL_law 152 = .ok (.iload_n 3, 1) := by decide +kernel
theorem dL_law_153 : decode cL_law 153 = .ok (.iconst 2, 1) := by decide +kernel
theorem dL_law_154 : decode cL_law 154 = .ok (.iadd, 1) := by decide +kernel
theorem dL_law_155 : decode cL_law 155 = .ok (.iaload, 1) := by decide +kernel
theorem dL_law_156 : decode cL_law 156 = .ok (.invokevirtual 18, 3) := by decide +kernel
theorem dL_law_159 : decode cL_law 159 = .ok (.pop, 1) := by decide +kernel
theorem dL_law_160 : decode cL_law 160 = .ok (.aload_n 2, 1) := by decide +kernel
theorem dL_law_161 : decode cL_law 161 = .ok (.aload_n 0, 1) := by decide +kernel
theorem dL_law_162 : decode cL_law 162 = .ok (.iload_n 3, 1) := by decide +kernel
theorem dL_law_163 : decode cL_law 163 = .ok (.iconst 1, 1) := by decide +kernel
theorem dL_law_164 : decode cL_law 164 = .ok (.iadd, 1) := by decide +kernel
theorem dL_law_165 : decode cL_law 165 = .ok (.iaload, 1) := by decide +kernel
theorem dL_law_166 : decode cL_law 166 = .ok (.aload_n 0, 1) := by decide +kernel
theorem dL_law_167 : decode cL_law 167 = .ok (.iload_n 3, 1) := by decide +kernel
theorem dL_law_168 : decode cL_law 168 = .ok (.iconst 2, 1) := by decide +kernel
theorem dL_law_169 : decode cL_law 169 = .ok (.iadd, 1) := by decide +kernel
theorem dL_law_170 : decode cL_law 170 = .ok (.iaload, 1) := by decide +kernel
theorem dL_law_171 : decode cL_law 171 = .ok (.invokevirtual 22, 3) := by decide +kernel
theorem dL_law_174 : decode cL_law 174 = .ok (.pop, 1) := by decide +kernel
theorem dL_law_175 : decode cL_law 175 = .ok (.goto 342, 3) := by decide +kernel
theorem dL_law_178 : decode cL_law 178 = .ok (.aload_n 1, 1) := by decide +kernel
theorem dL_law_179 : decode cL_law 179 = .ok (.aload_n 0, 1) := by decide +kernel
theorem dL_law_180 : decode cL_law 180 = .ok (.iload_n 3, 1) := by decide +kernel
theorem dL_law_181 : decode cL_law 181 = .ok (.iconst 1, 1) := by decide +kernel
theorem dL_law_182 : decode cL_law 182 = .ok (.iadd, 1) := by decide +kernel
theorem dL_law_183 : decode cL_law 183 = .ok (.iaload, 1) := by decide +kernel
theorem dL_law_184 : decode cL_law 184 = .ok (.aload_n 0, 1) := by decide +kernel
theorem dL_law_185 : decode cL_law 185 = .ok (.iload_n 3, 1) := by decide +kernel
theorem dL_law_186 : decode cL_law 186 = .ok (.iconst 2, 1) := by decide +kernel
theorem dL_law_187 : decode cL_law 187 = .ok (.iadd, 1) := by decide +kernel
theorem dL_law_188 : decode cL_law 188 = .ok (.iaload, 1) := by decide +kernel
theorem dL_law_189 : decode cL_law 189 = .ok (.invokevirtual 23, 3) := by decide +kernel
theorem dL_law_192 : decode cL_law 192 = .ok (.pop, 1) := by decide +kernel
theorem dL_law_193 : decode cL_law 193 = .ok (.aload_n 2, 1) := by decide +kernel
theorem dL_law_194 : decode cL_law 194 = .ok (.aload_n 0, 1) := by decide +kernel
theorem dL_law_195 : decode cL_law 195 = .ok (.iload_n 3, 1) := by decide +kernel
theorem dL_law_196 : decode cL_law 196 = .ok (.iconst 1, 1) := by decide +kernel
theorem dL_law_197 : decode cL_law 197 = .ok (.iadd, 1) := by decide +kernel
theorem dL_law_198 : decode cL_law 198 = .ok (.iaload, 1) := by decide +kernel
theorem dL_law_199 : decode cL_law 199 = .ok (.aload_n 0, 1) := by decide +kernel
theorem dL_law_200 : decode cL_law 200 = .ok (.iload_n 3, 1) := by decide +kernel
theorem dL_law_201 : decode cL_law 201 = .ok (.iconst 2, 1) := by decide +kernel
theorem dL_law_202 : decode cL_law 202 = .ok (.iadd, 1) := by decide +kernel
theorem dL_law_203 : decode cL_law 203 = .ok (.iaload, 1) := by decide +kernel
theorem dL_law_204 : decode cL_law 204 = .ok (.invokevirtual 26, 3) := by decide +kernel
theorem dL_law_207 : decode cL_law 207 = .ok (.pop, 1) := by decide +kernel
theorem dL_law_208 : decode cL_law 208 = .ok (.goto 309, 3) := by decide +kernel
theorem dL_law_211 : decode cL_law 211 = .ok (.aload_n 1, 1) := by decide +kernel
theorem dL_law_212 : decode cL_law 212 = .ok (.aload_n 0, 1) := by decide +kernel
theorem dL_law_213 : decode cL_law 213 = .ok (.iload_n 3, 1) := by decide +kernel
theorem dL_law_214 : decode cL_law 214 = .ok (.iconst 1, 1) := by decide +kernel
theorem dL_law_215 : decode cL_law 215 = .ok (.iadd, 1) := by decide +kernel
theorem dL_law_216 : decode cL_law 216 = .ok (.iaload, 1) := by decide +kernel
theorem dL_law_217 : decode cL_law 217 = .ok (.aload_n 0, 1) := by decide +kernel
theorem dL_law_218 : decode cL_law 218 = .ok (.iload_n 3, 1) := by decide +kernel
theorem dL_law_219 : decode cL_law 219 = .ok (.iconst 2, 1) := by decide +kernel
theorem dL_law_220 : decode cL_law 220 = .ok (.iadd, 1) := by decide +kernel
theorem dL_law_221 : decode cL_law 221 = .ok (.iaload, 1) := by decide +kernel
theorem dL_law_222 : decode cL_law 222 = .ok (.aload_n 0, 1) := by decide +kernel
theorem dL_law_223 : decode cL_law 223 = .ok (.iload_n 3, 1) := by decide +kernel
theorem dL_law_224 : decode cL_law 224 = .ok (.iconst 3, 1) := by decide +kernel
theorem dL_law_225 : decode cL_law 225 = .ok (.iadd, 1) := by decide +kernel
theorem dL_law_226 : decode cL_law 226 = .ok (.iaload, 1) := by decide +kernel
theorem dL_law_227 : decode cL_law 227 = .ok (.aload_n 0, 1) := by decide +kernel
theorem dL_law_228 : decode cL_law 228 = .ok (.iload_n 3, 1) := by decide +kernel
theorem dL_law_229 : decode cL_law 229 = .ok (.iconst 4, 1) := by decide +kernel
theorem dL_law_230 : decode cL_law 230 = .ok (.iadd, 1) := by decide +kernel
theorem dL_law_231 : decode cL_law 231 = .ok (.iaload, 1) := by decide +kernel
theorem dL_law_232 : decode cL_law 232 = .ok (.aload_n 0, 1) := by decide +kernel
theorem dL_law_233 : decode cL_law 233 = .ok (.iload_n 3, 1) := by decide +kernel
theorem dL_law_234 : decode cL_law 234 = .ok (.iconst 5, 1) := by decide +kernel
theorem dL_law_235 : decode cL_law 235 = .ok (.iadd, 1) := by decide +kernel
theorem dL_law_236 : decode cL_law 236 = .ok (.iaload, 1) := by decide +kernel
theorem dL_law_237 : decode cL_law 237 = .ok (.aload_n 0, 1) := by decide +kernel
theorem dL_law_238 : decode cL_law 238 = .ok (.iload_n 3, 1) := by decide +kernel
theorem dL_law_239 : decode cL_law 239 = .ok (.bipush 6, 2) := by decide +kernel
theorem dL_law_241 : decode cL_law 241 = .ok (.iadd, 1) := by decide +kernel
theorem dL_law_242 : decode cL_law 242 = .ok (.iaload, 1) := by decide +kernel
theorem dL_law_243 : decode cL_law 243 = .ok (.invokevirtual 27, 3) := by decide +kernel
theorem dL_law_246 : decode cL_law 246 = .ok (.pop, 1) := by decide +kernel
theorem dL_law_247 : decode cL_law 247 = .ok (.aload_n 2, 1) := by decide +kernel
theorem dL_law_248 : decode cL_law 248 = .ok (.aload_n 0, 1) := by decide +kernel
theorem dL_law_249 : decode cL_law 249 = .ok (.iload_n 3, 1) := by decide +kernel
theorem dL_law_250 : decode cL_law 250 = .ok (.iconst 1, 1) := by decide +kernel
theorem dL_law_251 : decode cL_law 251 = .ok (.iadd, 1) := by decide +kernel
theorem dL_law_252 : decode cL_law 252 = .ok (.iaload, 1) := by decide +kernel
theorem dL_law_253 : decode cL_law 253 = .ok (.aload_n 0, 1) := by decide +kernel
theorem dL_law_254 : decode cL_law 254 = .ok (.iload_n 3, 1) := by decide +kernel
theorem dL_law_255 : decode cL_law 255 = .ok (.iconst 2, 1) := by decide +kernel
theorem dL_law_256 : decode cL_law 256 = .ok (.iadd, 1) := by decide +kernel
theorem dL_law_257 : decode cL_law 257 = .ok (.iaload, 1) := by decide +kernel
theorem dL_law_258 : decode cL_law 258 = .ok (.aload_n 0, 1) := by decide +kernel
theorem dL_law_259 : decode cL_law 259 = .ok (.iload_n 3, 1) := by decide +kernel
theorem dL_law_260 : decode cL_law 260 = .ok (.iconst 3, 1) := by decide +kernel
theorem dL_law_261 : decode cL_law 261 = .ok (.iadd, 1) := by decide +kernel
theorem dL_law_262 : decode cL_law 262 = .ok (.iaload, 1) := by decide +kernel
theorem dL_law_263 : decode cL_law 263 = .ok (.aload_n 0, 1) := by decide +kernel
theorem dL_law_264 : decode cL_law 264 = .ok (.iload_n 3, 1) := by decide +kernel
theorem dL_law_265 : decode cL_law 265 = .ok (.iconst 4, 1) := by decide +kernel
theorem dL_law_266 : decode cL_law 266 = .ok (.iadd, 1) := by decide +kernel
theorem dL_law_267 : decode cL_law 267 = .ok (.iaload, 1) := by decide +kernel
theorem dL_law_268 : decode cL_law 268 = .ok (.aload_n 0, 1) := by decide +kernel
theorem dL_law_269 : decode cL_law 269 = .ok (.iload_n 3, 1) := by decide +kernel
theorem dL_law_270 : decode cL_law 270 = .ok (.iconst 5, 1) := by decide +kernel
theorem dL_law_271 : decode cL_law 271 = .ok (.iadd, 1) := by decide +kernel
theorem dL_law_272 : decode cL_law 272 = .ok (.iaload, 1) := by decide +kernel
theorem dL_law_273 : decode cL_law 273 = .ok (.aload_n 0, 1) := by decide +kernel
theorem dL_law_274 : decode cL_law 274 = .ok (.iload_n 3, 1) := by decide +kernel
theorem dL_law_275 : decode cL_law 275 = .ok (.bipush 6, 2) := by decide +kernel
theorem dL_law_277 : decode cL_law 277 = .ok (.iadd, 1) := by decide +kernel
theorem dL_law_278 : decode cL_law 278 = .ok (.iaload, 1) := by decide +kernel
theorem dL_law_279 : decode cL_law 279 = .ok (.invokevirtual 31, 3) := by decide +kernel
theorem dL_law_282 : decode cL_law 282 = .ok (.pop, 1) := by decide +kernel
theorem dL_law_283 : decode cL_law 283 = .ok (.goto 234, 3) := by decide +kernel
theorem dL_law_286 : decode cL_law 286 = .ok (.aload_n 1, 1) := by decide +kernel
theorem dL_law_287 : decode cL_law 287 = .ok (.aload_n 0, 1) := by decide +kernel
theorem dL_law_288 : decode cL_law 288 = .ok (.iload_n 3, 1) := by decide +kernel
theorem dL_law_289 : decode cL_law 289 = .ok (.iconst 1, 1) := by decide +kernel
theorem dL_law_290 : decode cL_law 290 = .ok (.iadd, 1) := by decide +kernel
theorem dL_law_291 : decode cL_law 291 = .ok (.iaload, 1) := by decide +kernel
theorem dL_law_292 : decode cL_law 292 = .ok (.invokevirtual 32, 3) := by decide +kernel
theorem dL_law_295 : decode cL_law 295 = .ok (.pop, 1) := by decide +kernel
theorem dL_law_296 : decode cL_law 296 = .ok (.aload_n 2, 1) := by decide +kernel
theorem dL_law_297 : decode cL_law 297 = .ok (.aload_n 0, 1) := by decide +kernel
theorem dL_law_298 : decode cL_law 298 = .ok (.iload_n 3, 1) := by decide +kernel
theorem dL_law_299 : decode cL_law 299 = .ok (.iconst 1, 1) := by decide +kernel
theorem dL_law_300 : decode cL_law 300 = .ok (.iadd, 1) := by decide +kernel
theorem dL_law_301 : decode cL_law 301 = .ok (.iaload, 1) := by decide +kernel
theorem dL_law_302 : decode cL_law 302 = .ok (.invokevirtual 36, 3) := by decide +kernel
theorem dL_law_305 : decode cL_law 305 = .ok (.pop, 1) := by decide +kernel
theorem dL_law_306 : decode cL_law 306 = .ok (.goto 211, 3) := by decide +kernel
theorem dL_law_309 : decode cL_law 309 = .ok (.aload_n 1, 1) := by decide +kernel
theorem dL_law_310 : decode cL_law 310 = .ok (.aload_n 0, 1) := by decide +kernel
theorem dL_law_311 : decode cL_law 311 = .ok (.iload_n 3, 1) := by decide +kernel
theorem dL_law_312 : decode cL_law 312 = .ok (.iconst 1, 1) := by decide +kernel
theorem dL_law_313 : decode cL_law 313 = .ok (.iadd, 1) := by decide +kernel
theorem dL_law_314 : decode cL_law 314 = .ok (.iaload, 1) := by decide +kernel
theorem dL_law_315 : decode cL_law 315 = .ok (.aload_n 0, 1) := by decide +kernel
theorem dL_law_316 : decode cL_law 316 = .ok (.iload_n 3, 1) := by decide +kernel
theorem dL_law_317 : decode cL_law 317 = .ok (.iconst 2, 1) := by decide +kernel
theorem dL_law_318 : decode cL_law 318 = .ok (.iadd, 1) := by decide +kernel
theorem dL_law_319 : decode cL_law 319 = .ok (.iaload, 1) := by decide +kernel
theorem dL_law_320 : decode cL_law 320 = .ok (.aload_n 0, 1) := by decide +kernel
theorem dL_law_321 : decode cL_law 321 = .ok (.iload_n 3, 1) := by decide +kernel
theorem dL_law_322 : decode cL_law 322 = .ok (.iconst 3, 1) := by decide +kernel
theorem dL_law_323 : decode cL_law 323 = .ok (.iadd, 1) := by decide +kernel
theorem dL_law_324 : decode cL_law 324 = .ok (.iaload, 1) := by decide +kernel
theorem dL_law_325 : decode cL_law 325 = .ok (.invokevirtual 37, 3) := by decide +kernel
theorem dL_law_328 : decode cL_law 328 = .ok (.pop, 1) := by decide +kernel
theorem dL_law_329 : decode cL_law 329 = .ok (.aload_n 2, 1) := by decide +kernel
theorem dL_law_330 : decode cL_law 330 = .ok (.aload_n 0, 1) := by decide +kernel
theorem dL_law_331 : decode cL_law 331 = .ok (.iload_n 3, 1) := by decide +kernel
theorem dL_law_332 : decode cL_law 332 = .ok (.iconst 1, 1) := by decide +kernel
theorem dL_law_333 : decode cL_law 333 = .ok (.iadd, 1) := by decide +kernel
theorem dL_law_334 : decode cL_law 334 = .ok (.iaload, 1) := by decide +kernel
theorem dL_law_335 : decode cL_law 335 = .ok (.aload_n 0, 1) := by decide +kernel
theorem dL_law_336 : decode cL_law 336 = .ok (.iload_n 3, 1) := by decide +kernel
theorem dL_law_337 : decode cL_law 337 = .ok (.iconst 2, 1) := by decide +kernel
theorem dL_law_338 : decode cL_law 338 = .ok (.iadd, 1) := by decide +kernel
theorem dL_law_339 : decode cL_law 339 = .ok (.iaload, 1) := by decide +kernel
theorem dL_law_340 : decode cL_law 340 = .ok (.aload_n 0, 1) := by decide +kernel
theorem dL_law_341 : decode cL_law 341 = .ok (.iload_n 3, 1) := by decide +kernel
theorem dL_law_342 : decode cL_law 342 = .ok (.iconst 3, 1) := by decide +kernel
theorem dL_law_343 : decode cL_law 343 = .ok (.iadd, 1) := by decide +kernel
theorem dL_law_344 : decode cL_law 344 = .ok (.iaload, 1) := by decide +kernel
theorem dL_law_345 : decode cL_law 345 = .ok (.invokevirtual 41, 3) := by decide +kernel
theorem dL_law_348 : decode cL_law 348 = .ok (.pop, 1) := by decide +kernel
theorem dL_law_349 : decode cL_law 349 = .ok (.goto 168, 3) := by decide +kernel
theorem dL_law_352 : decode cL_law 352 = .ok (.aload_n 1, 1) := by decide +kernel
theorem dL_law_353 : decode cL_law 353 = .ok (.invokevirtual 42, 3) := by decide +kernel
theorem dL_law_356 : decode cL_law 356 = .ok (.pop, 1) := by decide +kernel
theorem dL_law_357 : decode cL_law 357 = .ok (.aload_n 2, 1) := by decide +kernel
theorem dL_law_358 : decode cL_law 358 = .ok (.invokevirtual 46, 3) := by decide +kernel
theorem dL_law_361 : decode cL_law 361 = .ok (.pop, 1) := by decide +kernel
theorem dL_law_362 : decode cL_law 362 = .ok (.goto 155, 3) := by decide +kernel
theorem dL_law_365 : decode cL_law 365 = .ok (.aload_n 1, 1) := by decide +kernel
theorem dL_law_366 : decode cL_law 366 = .ok (.aload_n 0, 1) := by decide +kernel
theorem dL_law_367 : decode cL_law 367 = .ok (.iload_n 3, 1) := by decide +kernel
theorem dL_law_368 : decode cL_law 368 = .ok (.iconst 1, 1) := by decide +kernel
theorem dL_law_369 : decode cL_law 369 = .ok (.iadd, 1) := by decide +kernel
theorem dL_law_370 : decode cL_law 370 = .ok (.iaload, 1) := by decide +kernel
theorem dL_law_371 : decode cL_law 371 = .ok (.aload_n 0, 1) := by decide +kernel
theorem dL_law_372 : decode cL_law 372 = .ok (.iload_n 3, 1) := by decide +kernel
theorem dL_law_373 : decode cL_law 373 = .ok (.iconst 2, 1) := by decide +kernel
theorem dL_law_374 : decode cL_law 374 = .ok (.iadd, 1) := by decide +kernel
theorem dL_law_375 : decode cL_law 375 = .ok (.iaload, 1) := by decide +kernel
theorem dL_law_376 : decode cL_law 376 = .ok (.invokevirtual 47, 3) := by decide +kernel
theorem dL_law_379 : decode cL_law 379 = .ok (.pop, 1) := by decide +kernel
theorem dL_law_380 : decode cL_law 380 = .ok (.aload_n 2, 1) := by decide +kernel
theorem dL_law_381 : decode cL_law 381 = .ok (.aload_n 0, 1) := by decide +kernel
theorem dL_law_382 : decode cL_law 382 = .ok (.iload_n 3, 1) := by decide +kernel
theorem dL_law_383 : decode cL_law 383 = .ok (.iconst 1, 1) := by decide +kernel
theorem dL_law_384 : decode cL_law 384 = .ok (.iadd, 1) := by decide +kernel
theorem dL_law_385 : decode cL_law 385 = .ok (.iaload, 1) := by decide +kernel
theorem dL_law_386 : decode cL_law 386 = .ok (.aload_n 0, 1) := by decide +kernel
theorem dL_law_387 : decode cL_law 387 = .ok (.iload_n 3, 1) := by decide +kernel
theorem dL_law_388 : decode cL_law 388 = .ok (.iconst 2, 1) := by decide +kernel
theorem dL_law_389 : decode cL_law 389 = .ok (.iadd, 1) := by decide +kernel
theorem dL_law_390 : decode cL_law 390 = .ok (.iaload, 1) := by decide +kernel
theorem dL_law_391 : decode cL_law 391 = .ok (.invokevirtual 50, 3) := by decide +kernel
theorem dL_law_394 : decode cL_law 394 = .ok (.pop, 1) := by decide +kernel
theorem dL_law_395 : decode cL_law 395 = .ok (.goto 122, 3) := by decide +kernel
theorem dL_law_398 : decode cL_law 398 = .ok (.aload_n 1, 1) := by decide +kernel
theorem dL_law_399 : decode cL_law 399 = .ok (.aload_n 0, 1) := by decide +kernel
theorem dL_law_400 : decode cL_law 400 = .ok (.iload_n 3, 1) := by decide +kernel
theorem dL_law_401 : decode cL_law 401 = .ok (.iconst 1, 1) := by decide +kernel
theorem dL_law_402 : decode cL_law 402 = .ok (.iadd, 1) := by decide +kernel
theorem dL_law_403 : decode cL_law 403 = .ok (.iaload, 1) := by decide +kernel
theorem dL_law_404 : decode cL_law 404 = .ok (.aload_n 0, 1) := by decide +kernel
theorem dL_law_405 : decode cL_law 405 = .ok (.iload_n 3, 1) := by decide +kernel
theorem dL_law_406 : decode cL_law 406 = .ok (.iconst 2, 1) := by decide +kernel
theorem dL_law_407 : decode cL_law 407 = .ok (.iadd, 1) := by decide +kernel
theorem dL_law_408 : decode cL_law 408 = .ok (.iaload, 1) := by decide +kernel
theorem dL_law_409 : decode cL_law 409 = .ok (.aload_n 0, 1) := by decide +kernel
theorem dL_law_410 : decode cL_law 410 = .ok (.iload_n 3, 1) := by decide +kernel
theorem dL_law_411 : decode cL_law 411 = .ok (.iconst 3, 1) := by decide +kernel
theorem dL_law_412 : decode cL_law 412 = .ok (.iadd, 1) := by decide +kernel
theorem dL_law_413 : decode cL_law 413 = .ok (.iaload, 1) := by decide +kernel
theorem dL_law_414 : decode cL_law 414 = .ok (.invokevirtual 51, 3) := by decide +kernel
theorem dL_law_417 : decode cL_law 417 = .ok (.pop, 1) := by decide +kernel
theorem dL_law_418 : decode cL_law 418 = .ok (.aload_n 2, 1) := by decide +kernel
theorem dL_law_419 : decode cL_law 419 = .ok (.aload_n 0, 1) := by decide +kernel
theorem dL_law_420 : decode cL_law 420 = .ok (.iload_n 3, 1) := by decide +kernel
theorem dL_law_421 : decode cL_law 421 = .ok (.iconst 1, 1) := by decide +kernel
theorem dL_law_422 : decode cL_law 422 = .ok (.iadd, 1) := by decide +kernel
theorem dL_law_423 : decode cL_law 423 = .ok (.iaload, 1) := by decide +kernel
theorem dL_law_424 : decode cL_law 424 = .ok (.aload_n 0, 1) := by decide +kernel
theorem dL_law_425 : decode cL_law 425 = .ok (.iload_n 3, 1) := by decide +kernel
theorem dL_law_426 : decode cL_law 426 = .ok (.iconst 2, 1) := by decide +kernel
theorem dL_law_427 : decode cL_law 427 = .ok (.iadd, 1) := by decide +kernel
theorem dL_law_428 : decode cL_law 428 = .ok (.iaload, 1) := by decide +kernel
theorem dL_law_429 : decode cL_law 429 = .ok (.aload_n 0, 1) := by decide +kernel
theorem dL_law_430 : decode cL_law 430 = .ok (.iload_n 3, 1) := by decide +kernel
theorem dL_law_431 : decode cL_law 431 = .ok (.iconst 3, 1) := by decide +kernel
theorem dL_law_432 : decode cL_law 432 = .ok (.iadd, 1) := by decide +kernel
theorem dL_law_433 : decode cL_law 433 = .ok (.iaload, 1) := by decide +kernel
theorem dL_law_434 : decode cL_law 434 = .ok (.invokevirtual 54, 3) := by decide +kernel
theorem dL_law_437 : decode cL_law 437 = .ok (.pop, 1) := by decide +kernel
theorem dL_law_438 : decode cL_law 438 = .ok (.goto 79, 3) := by decide +kernel
theorem dL_law_441 : decode cL_law 441 = .ok (.aload_n 1, 1) := by decide +kernel
theorem dL_law_442 : decode cL_law 442 = .ok (.aload_n 0, 1) := by decide +kernel
theorem dL_law_443 : decode cL_law 443 = .ok (.iload_n 3, 1) := by decide +kernel
theorem dL_law_444 : decode cL_law 444 = .ok (.iconst 1, 1) := by decide +kernel
theorem dL_law_445 : decode cL_law 445 = .ok (.iadd, 1) := by decide +kernel
theorem dL_law_446 : decode cL_law 446 = .ok (.iaload, 1) := by decide +kernel
theorem dL_law_447 : decode cL_law 447 = .ok (.aload_n 0, 1) := by decide +kernel
theorem dL_law_448 : decode cL_law 448 = .ok (.iload_n 3, 1) := by decide +kernel
theorem dL_law_449 : decode cL_law 449 = .ok (.iconst 2, 1) := by decide +kernel
theorem dL_law_450 : decode cL_law 450 = .ok (.iadd, 1) := by decide +kernel
theorem dL_law_451 : decode cL_law 451 = .ok (.iaload, 1) := by decide +kernel
theorem dL_law_452 : decode cL_law 452 = .ok (.aload_n 0, 1) := by decide +kernel
theorem dL_law_453 : decode cL_law 453 = .ok (.iload_n 3, 1) := by decide +kernel
theorem dL_law_454 : decode cL_law 454 = .ok (.iconst 3, 1) := by decide +kernel
theorem dL_law_455 : decode cL_law 455 = .ok (.iadd, 1) := by decide +kernel
theorem dL_law_456 : decode cL_law 456 = .ok (.iaload, 1) := by decide +kernel
theorem dL_law_457 : decode cL_law 457 = .ok (.aload_n 0, 1) := by decide +kernel
theorem dL_law_458 : decode cL_law 458 = .ok (.iload_n 3, 1) := by decide +kernel
theorem dL_law_459 : decode cL_law 459 = .ok (.iconst 4, 1) := by decide +kernel
theorem dL_law_460 : decode cL_law 460 = .ok (.iadd, 1) := by decide +kernel
theorem dL_law_461 : decode cL_law 461 = .ok (.iaload, 1) := by decide +kernel
theorem dL_law_462 : decode cL_law 462 = .ok (.invokevirtual 55, 3) := by decide +kernel
theorem dL_law_465 : decode cL_law 465 = .ok (.aload_n 2, 1) := by decide +kernel
theorem dL_law_466 : decode cL_law 466 = .ok (.aload_n 0, 1) := by decide +kernel
theorem dL_law_467 : decode cL_law 467 = .ok (.iload_n 3, 1) := by decide +kernel
theorem dL_law_468 : decode cL_law 468 = .ok (.iconst 1, 1) := by decide +kernel
theorem dL_law_469 : decode cL_law 469 = .ok (.iadd, 1) := by decide +kernel
theorem dL_law_470 : decode cL_law 470 = .ok (.iaload, 1) := by decide +kernel
theorem dL_law_471 : decode cL_law 471 = .ok (.aload_n 0, 1) := by decide +kernel
theorem dL_law_472 : decode cL_law 472 = .ok (.iload_n 3, 1) := by decide +kernel
theorem dL_law_473 : decode cL_law 473 = .ok (.iconst 2, 1) := by decide +kernel
theorem dL_law_474 : decode cL_law 474 = .ok (.iadd, 1) := by decide +kernel
theorem dL_law_475 : decode cL_law 475 = .ok (.iaload, 1) := by decide +kernel
theorem dL_law_476 : decode cL_law 476 = .ok (.aload_n 0, 1) := by decide +kernel
theorem dL_law_477 : decode cL_law 477 = .ok (.iload_n 3, 1) := by decide +kernel
theorem dL_law_478 : decode cL_law 478 = .ok (.iconst 3, 1) := by decide +kernel
theorem dL_law_479 : decode cL_law 479 = .ok (.iadd, 1) := by decide +kernel
theorem dL_law_480 : decode cL_law 480 = .ok (.iaload, 1) := by decide +kernel
theorem dL_law_481 : decode cL_law 481 = .ok (.aload_n 0, 1) := by decide +kernel
theorem dL_law_482 : decode cL_law 482 = .ok (.iload_n 3, 1) := by decide +kernel
theorem dL_law_483 : decode cL_law 483 = .ok (.iconst 4, 1) := by decide +kernel
theorem dL_law_484 : decode cL_law 484 = .ok (.iadd, 1) := by decide +kernel
theorem dL_law_485 : decode cL_law 485 = .ok (.iaload, 1) := by decide +kernel
theorem dL_law_486 : decode cL_law 486 = .ok (.invokevirtual 58, 3) := by decide +kernel
theorem dL_law_489 : decode cL_law 489 = .ok (.if_icmp .eq 28, 3) := by decide +kernel
theorem dL_law_494 : decode cL_law 494 = .ok (.aload_n 1, 1) := by decide +kernel
theorem dL_law_495 : decode cL_law 495 = .ok (.aload_n 0, 1) := by decide +kernel
theorem dL_law_496 : decode cL_law 496 = .ok (.iload_n 3, 1) := by decide +kernel
theorem dL_law_497 : decode cL_law 497 = .ok (.iconst 1, 1) := by decide +kernel
theorem dL_law_498 : decode cL_law 498 = .ok (.iadd, 1) := by decide +kernel
theorem dL_law_499 : decode cL_law 499 = .ok (.iaload, 1) := by decide +kernel
theorem dL_law_500 : decode cL_law 500 = .ok (.invokevirtual 59, 3) := by decide +kernel
theorem dL_law_503 : decode cL_law 503 = .ok (.pop, 1) := by decide +kernel
theorem dL_law_504 : decode cL_law 504 = .ok (.aload_n 2, 1) := by decide +kernel
theorem dL_law_505 : decode cL_law 505 = .ok (.aload_n 0, 1) := by decide +kernel
theorem dL_law_506 : decode cL_law 506 = .ok (.iload_n 3, 1) := by decide +kernel
theorem dL_law_507 : decode cL_law 507 = .ok (.iconst 1, 1) := by decide +kernel
theorem dL_law_508 : decode cL_law 508 = .ok (.iadd, 1) := by decide +kernel
theorem dL_law_509 : decode cL_law 509 = .ok (.iaload, 1) := by decide +kernel
theorem dL_law_510 : decode cL_law 510 = .ok (.invokevirtual 62, 3) := by decide +kernel
theorem dL_law_513 : decode cL_law 513 = .ok (.pop, 1) := by decide +kernel
theorem dL_law_514 : decode cL_law 514 = .ok (.goto 3, 3) := by decide +kernel
theorem dL_law_517 : decode cL_law 517 = .ok (.iinc 3 7, 3) := by decide +kernel
theorem dL_law_520 : decode cL_law 520 = .ok (.goto (-502), 3) := by decide +kernel
theorem dL_law_523 : decode cL_law 523 = .ok (.iconst 1, 1) := by decide +kernel
theorem dL_law_524 : decode cL_law 524 = .ok (.ireturn, 1) := by decide +kernel
abbrev vwCl : List vw_C := [(RX0, TX0, 7), (RX1, TX1, 9), (RX2, TX2, 2), (RX3, TX3, 8), (RX4, TX4, 1), (RX5, TX5, 12), (RX6, TX6, 4), (RX7, TX7, 22)]

