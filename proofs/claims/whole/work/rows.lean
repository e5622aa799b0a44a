section
-- ===== PART A: goes FIRST, ahead of the names: the tables' words, and 'selects' of the private methods out of them =====
/-- a private method of a class that the tables say can be made, by its rows of tables_1 -/
def lw_okq (q : MethodName × Nat) : Prop := (q.1.cls ≠ "java/lang/invoke/MethodHandle" ∧ q.1.cls ≠ "java/lang/invoke/VarHandle") ∧ Cond.instantiable q.1.cls q.2 ∈ tables_1 ∧ Cond.privateMethod q.1 ∈ tables_1 ∧ Cond.instanceMethod q.1 ∈ tables_1
theorem lw_p0 : lw_okq (⟨"LabelPeople$Sheet", "countWrong", "(I)V"⟩, 5) := ⟨⟨by decide +kernel, by decide +kernel⟩, List.mem_of_getElem? (i := 26) (by decide +kernel), List.mem_of_getElem? (i := 167) (by decide +kernel), List.mem_of_getElem? (i := 168) (by decide +kernel)⟩
theorem lw_p1 : lw_okq (⟨"LabelPeople", "isBarred", "(I)Z"⟩, 9) := ⟨⟨by decide +kernel, by decide +kernel⟩, List.mem_of_getElem? (i := 18) (by decide +kernel), List.mem_of_getElem? (i := 203) (by decide +kernel), List.mem_of_getElem? (i := 204) (by decide +kernel)⟩
theorem lw_p2 : lw_okq (⟨"LabelPeople", "countVotes", "(I)V"⟩, 9) := ⟨⟨by decide +kernel, by decide +kernel⟩, List.mem_of_getElem? (i := 18) (by decide +kernel), List.mem_of_getElem? (i := 273) (by decide +kernel), List.mem_of_getElem? (i := 274) (by decide +kernel)⟩
theorem lw_p3 : lw_okq (⟨"LabelPeople", "decide", "(I)I"⟩, 9) := ⟨⟨by decide +kernel, by decide +kernel⟩, List.mem_of_getElem? (i := 18) (by decide +kernel), List.mem_of_getElem? (i := 285) (by decide +kernel), List.mem_of_getElem? (i := 286) (by decide +kernel)⟩
theorem lw_p4 : lw_okq (⟨"LabelPeople", "winnerInTally", "()I"⟩, 9) := ⟨⟨by decide +kernel, by decide +kernel⟩, List.mem_of_getElem? (i := 18) (by decide +kernel), List.mem_of_getElem? (i := 289) (by decide +kernel), List.mem_of_getElem? (i := 290) (by decide +kernel)⟩
theorem lw_p5 : lw_okq (⟨"LabelPeople", "expertOn", "(I)I"⟩, 9) := ⟨⟨by decide +kernel, by decide +kernel⟩, List.mem_of_getElem? (i := 18) (by decide +kernel), List.mem_of_getElem? (i := 293) (by decide +kernel), List.mem_of_getElem? (i := 294) (by decide +kernel)⟩
theorem lw_p6 : lw_okq (⟨"LabelPeople", "learnRound", "()Z"⟩, 9) := ⟨⟨by decide +kernel, by decide +kernel⟩, List.mem_of_getElem? (i := 18) (by decide +kernel), List.mem_of_getElem? (i := 301) (by decide +kernel), List.mem_of_getElem? (i := 302) (by decide +kernel)⟩
theorem lw_p7 : lw_okq (⟨"LabelPeople", "earnedTrust", "(I)I"⟩, 9) := ⟨⟨by decide +kernel, by decide +kernel⟩, List.mem_of_getElem? (i := 18) (by decide +kernel), List.mem_of_getElem? (i := 305) (by decide +kernel), List.mem_of_getElem? (i := 306) (by decide +kernel)⟩
theorem lw_p8 : lw_okq (⟨"LabelPeople", "leadInTally", "()I"⟩, 9) := ⟨⟨by decide +kernel, by decide +kernel⟩, List.mem_of_getElem? (i := 18) (by decide +kernel), List.mem_of_getElem? (i := 316) (by decide +kernel), List.mem_of_getElem? (i := 317) (by decide +kernel)⟩
theorem lw_p9 : lw_okq (⟨"LabelPeople", "countLabellings", "()I"⟩, 9) := ⟨⟨by decide +kernel, by decide +kernel⟩, List.mem_of_getElem? (i := 18) (by decide +kernel), List.mem_of_getElem? (i := 328) (by decide +kernel), List.mem_of_getElem? (i := 329) (by decide +kernel)⟩
theorem lw_p10 : lw_okq (⟨"LabelPeople", "countDecided", "()I"⟩, 9) := ⟨⟨by decide +kernel, by decide +kernel⟩, List.mem_of_getElem? (i := 18) (by decide +kernel), List.mem_of_getElem? (i := 332) (by decide +kernel), List.mem_of_getElem? (i := 333) (by decide +kernel)⟩
theorem lw_p11 : lw_okq (⟨"LabelPeople", "countBarred", "()I"⟩, 9) := ⟨⟨by decide +kernel, by decide +kernel⟩, List.mem_of_getElem? (i := 18) (by decide +kernel), List.mem_of_getElem? (i := 340) (by decide +kernel), List.mem_of_getElem? (i := 341) (by decide +kernel)⟩
theorem lw_p12 : lw_okq (⟨"LabelPeople", "countDisputed", "()I"⟩, 9) := ⟨⟨by decide +kernel, by decide +kernel⟩, List.mem_of_getElem? (i := 18) (by decide +kernel), List.mem_of_getElem? (i := 344) (by decide +kernel), List.mem_of_getElem? (i := 345) (by decide +kernel)⟩
theorem lw_p13 : lw_okq (⟨"LabelPeople", "isDisputed", "(I)Z"⟩, 9) := ⟨⟨by decide +kernel, by decide +kernel⟩, List.mem_of_getElem? (i := 18) (by decide +kernel), List.mem_of_getElem? (i := 348) (by decide +kernel), List.mem_of_getElem? (i := 349) (by decide +kernel)⟩
theorem lw_p14 : lw_okq (⟨"java/lang/Throwable", "fillInStackTrace", "(I)Ljava/lang/Throwable;"⟩, 6) := ⟨⟨by decide +kernel, by decide +kernel⟩, List.mem_of_getElem? (i := 383) (by decide +kernel), List.mem_of_getElem? (i := 381) (by decide +kernel), List.mem_of_getElem? (i := 382) (by decide +kernel)⟩
theorem lw_p15 : lw_okq (⟨"LabelPeople$Agreement", "startCounts", "()V"⟩, 6) := ⟨⟨by decide +kernel, by decide +kernel⟩, List.mem_of_getElem? (i := 83) (by decide +kernel), List.mem_of_getElem? (i := 485) (by decide +kernel), List.mem_of_getElem? (i := 486) (by decide +kernel)⟩
def lw_privs_1 : List (MethodName × Nat) := [(⟨"LabelPeople$Sheet", "countWrong", "(I)V"⟩, 5), (⟨"LabelPeople", "isBarred", "(I)Z"⟩, 9), (⟨"LabelPeople", "countVotes", "(I)V"⟩, 9), (⟨"LabelPeople", "decide", "(I)I"⟩, 9), (⟨"LabelPeople", "winnerInTally", "()I"⟩, 9), (⟨"LabelPeople", "expertOn", "(I)I"⟩, 9), (⟨"LabelPeople", "learnRound", "()Z"⟩, 9), (⟨"LabelPeople", "earnedTrust", "(I)I"⟩, 9), (⟨"LabelPeople", "leadInTally", "()I"⟩, 9), (⟨"LabelPeople", "countLabellings", "()I"⟩, 9), (⟨"LabelPeople", "countDecided", "()I"⟩, 9), (⟨"LabelPeople", "countBarred", "()I"⟩, 9), (⟨"LabelPeople", "countDisputed", "()I"⟩, 9), (⟨"LabelPeople", "isDisputed", "(I)Z"⟩, 9), (⟨"java/lang/Throwable", "fillInStackTrace", "(I)Ljava/lang/Throwable;"⟩, 6), (⟨"LabelPeople$Agreement", "startCounts", "()V"⟩, 6)]
theorem lw_r1 : ∀ q ∈ lw_privs_1, lw_okq q := List.forall_mem_cons.mpr ⟨lw_p0, List.forall_mem_cons.mpr ⟨lw_p1, List.forall_mem_cons.mpr ⟨lw_p2, List.forall_mem_cons.mpr ⟨lw_p3, List.forall_mem_cons.mpr ⟨lw_p4, List.forall_mem_cons.mpr ⟨lw_p5, List.forall_mem_cons.mpr ⟨lw_p6, List.forall_mem_cons.mpr ⟨lw_p7, List.forall_mem_cons.mpr ⟨lw_p8, List.forall_mem_cons.mpr ⟨lw_p9, List.forall_mem_cons.mpr ⟨lw_p10, List.forall_mem_cons.mpr ⟨lw_p11, List.forall_mem_cons.mpr ⟨lw_p12, List.forall_mem_cons.mpr ⟨lw_p13, List.forall_mem_cons.mpr ⟨lw_p14, List.forall_mem_cons.mpr ⟨lw_p15, fun _ h => absurd h List.not_mem_nil⟩⟩⟩⟩⟩⟩⟩⟩⟩⟩⟩⟩⟩⟩⟩⟩
theorem lw_p16 : lw_okq (⟨"LabelPeople$Agreement", "setFraction", "(JJ)V"⟩, 6) := ⟨⟨by decide +kernel, by decide +kernel⟩, List.mem_of_getElem? (i := 83) (by decide +kernel), List.mem_of_getElem? (i := 496) (by decide +kernel), List.mem_of_getElem? (i := 497) (by decide +kernel)⟩
theorem lw_p17 : lw_okq (⟨"LabelPeople", "partOfAgreement", "(I)J"⟩, 9) := ⟨⟨by decide +kernel, by decide +kernel⟩, List.mem_of_getElem? (i := 18) (by decide +kernel), List.mem_of_getElem? (i := 503) (by decide +kernel), List.mem_of_getElem? (i := 504) (by decide +kernel)⟩
theorem lw_p18 : lw_okq (⟨"LabelPeople$Agreement", "countLabels", "(LLabelPeople$Sheet;I)V"⟩, 6) := ⟨⟨by decide +kernel, by decide +kernel⟩, List.mem_of_getElem? (i := 83) (by decide +kernel), List.mem_of_getElem? (i := 540) (by decide +kernel), List.mem_of_getElem? (i := 541) (by decide +kernel)⟩
theorem lw_p19 : lw_okq (⟨"LabelPeopleModel", "isRow", "(I)Z"⟩, 20) := ⟨⟨by decide +kernel, by decide +kernel⟩, List.mem_of_getElem? (i := 548) (by decide +kernel), List.mem_of_getElem? (i := 629) (by decide +kernel), List.mem_of_getElem? (i := 630) (by decide +kernel)⟩
theorem lw_p20 : lw_okq (⟨"LabelPeopleModel", "wrong", "(I)I"⟩, 20) := ⟨⟨by decide +kernel, by decide +kernel⟩, List.mem_of_getElem? (i := 548) (by decide +kernel), List.mem_of_getElem? (i := 653) (by decide +kernel), List.mem_of_getElem? (i := 654) (by decide +kernel)⟩
theorem lw_p21 : lw_okq (⟨"LabelPeopleModel", "isBarred", "(I)Z"⟩, 20) := ⟨⟨by decide +kernel, by decide +kernel⟩, List.mem_of_getElem? (i := 548) (by decide +kernel), List.mem_of_getElem? (i := 657) (by decide +kernel), List.mem_of_getElem? (i := 658) (by decide +kernel)⟩
theorem lw_p22 : lw_okq (⟨"LabelPeopleModel", "labelled", "(I)I"⟩, 20) := ⟨⟨by decide +kernel, by decide +kernel⟩, List.mem_of_getElem? (i := 548) (by decide +kernel), List.mem_of_getElem? (i := 661) (by decide +kernel), List.mem_of_getElem? (i := 662) (by decide +kernel)⟩
theorem lw_p23 : lw_okq (⟨"LabelPeopleModel", "saysOf", "(II)I"⟩, 20) := ⟨⟨by decide +kernel, by decide +kernel⟩, List.mem_of_getElem? (i := 548) (by decide +kernel), List.mem_of_getElem? (i := 681) (by decide +kernel), List.mem_of_getElem? (i := 682) (by decide +kernel)⟩
theorem lw_p24 : lw_okq (⟨"LabelPeopleModel", "votesOf", "(II)I"⟩, 20) := ⟨⟨by decide +kernel, by decide +kernel⟩, List.mem_of_getElem? (i := 548) (by decide +kernel), List.mem_of_getElem? (i := 693) (by decide +kernel), List.mem_of_getElem? (i := 694) (by decide +kernel)⟩
theorem lw_p25 : lw_okq (⟨"LabelPeopleModel", "decidedOf", "(I)I"⟩, 20) := ⟨⟨by decide +kernel, by decide +kernel⟩, List.mem_of_getElem? (i := 548) (by decide +kernel), List.mem_of_getElem? (i := 701) (by decide +kernel), List.mem_of_getElem? (i := 702) (by decide +kernel)⟩
theorem lw_p26 : lw_okq (⟨"LabelPeopleModel", "weigh", "(I)V"⟩, 20) := ⟨⟨by decide +kernel, by decide +kernel⟩, List.mem_of_getElem? (i := 548) (by decide +kernel), List.mem_of_getElem? (i := 705) (by decide +kernel), List.mem_of_getElem? (i := 706) (by decide +kernel)⟩
theorem lw_p27 : lw_okq (⟨"LabelPeopleModel", "cut", "(JJI)J"⟩, 20) := ⟨⟨by decide +kernel, by decide +kernel⟩, List.mem_of_getElem? (i := 548) (by decide +kernel), List.mem_of_getElem? (i := 717) (by decide +kernel), List.mem_of_getElem? (i := 718) (by decide +kernel)⟩
theorem lw_p28 : lw_okq (⟨"LabelPeopleModel", "labellings", "(I)I"⟩, 20) := ⟨⟨by decide +kernel, by decide +kernel⟩, List.mem_of_getElem? (i := 548) (by decide +kernel), List.mem_of_getElem? (i := 725) (by decide +kernel), List.mem_of_getElem? (i := 726) (by decide +kernel)⟩
theorem lw_p29 : lw_okq (⟨"LabelPeopleModel", "countOf", "(II)I"⟩, 20) := ⟨⟨by decide +kernel, by decide +kernel⟩, List.mem_of_getElem? (i := 548) (by decide +kernel), List.mem_of_getElem? (i := 729) (by decide +kernel), List.mem_of_getElem? (i := 730) (by decide +kernel)⟩
theorem lw_p30 : lw_okq (⟨"LabelPeopleModel", "isUnlike", "(I)Z"⟩, 20) := ⟨⟨by decide +kernel, by decide +kernel⟩, List.mem_of_getElem? (i := 548) (by decide +kernel), List.mem_of_getElem? (i := 742) (by decide +kernel), List.mem_of_getElem? (i := 743) (by decide +kernel)⟩
def lw_privs_2 : List (MethodName × Nat) := [(⟨"LabelPeople$Agreement", "setFraction", "(JJ)V"⟩, 6), (⟨"LabelPeople", "partOfAgreement", "(I)J"⟩, 9), (⟨"LabelPeople$Agreement", "countLabels", "(LLabelPeople$Sheet;I)V"⟩, 6), (⟨"LabelPeopleModel", "isRow", "(I)Z"⟩, 20), (⟨"LabelPeopleModel", "wrong", "(I)I"⟩, 20), (⟨"LabelPeopleModel", "isBarred", "(I)Z"⟩, 20), (⟨"LabelPeopleModel", "labelled", "(I)I"⟩, 20), (⟨"LabelPeopleModel", "saysOf", "(II)I"⟩, 20), (⟨"LabelPeopleModel", "votesOf", "(II)I"⟩, 20), (⟨"LabelPeopleModel", "decidedOf", "(I)I"⟩, 20), (⟨"LabelPeopleModel", "weigh", "(I)V"⟩, 20), (⟨"LabelPeopleModel", "cut", "(JJI)J"⟩, 20), (⟨"LabelPeopleModel", "labellings", "(I)I"⟩, 20), (⟨"LabelPeopleModel", "countOf", "(II)I"⟩, 20), (⟨"LabelPeopleModel", "isUnlike", "(I)Z"⟩, 20)]
theorem lw_r2 : ∀ q ∈ lw_privs_2, lw_okq q := List.forall_mem_cons.mpr ⟨lw_p16, List.forall_mem_cons.mpr ⟨lw_p17, List.forall_mem_cons.mpr ⟨lw_p18, List.forall_mem_cons.mpr ⟨lw_p19, List.forall_mem_cons.mpr ⟨lw_p20, List.forall_mem_cons.mpr ⟨lw_p21, List.forall_mem_cons.mpr ⟨lw_p22, List.forall_mem_cons.mpr ⟨lw_p23, List.forall_mem_cons.mpr ⟨lw_p24, List.forall_mem_cons.mpr ⟨lw_p25, List.forall_mem_cons.mpr ⟨lw_p26, List.forall_mem_cons.mpr ⟨lw_p27, List.forall_mem_cons.mpr ⟨lw_p28, List.forall_mem_cons.mpr ⟨lw_p29, List.forall_mem_cons.mpr ⟨lw_p30, fun _ h => absurd h List.not_mem_nil⟩⟩⟩⟩⟩⟩⟩⟩⟩⟩⟩⟩⟩⟩⟩
def lw_privs : List (MethodName × Nat) := lw_privs_1 ++ (lw_privs_2)
def lw_tbl : List Cond := k2_sels lw_privs ++ tables_1
theorem lw_privs_ok : ∀ q ∈ lw_privs, lw_okq q := by
  show ∀ q ∈ lw_privs_1 ++ (lw_privs_2), lw_okq q
  exact List.forall_mem_append.mpr ⟨lw_r1, lw_r2⟩
end
section
def RX0 : String := "LabelPeople$Agreement"
def TX0 : u_T := fun k => match k with
  | 0 => ("LabelPeople$Agreement", "oneGave", "[I", true)
  | 1 => ("LabelPeople$Agreement", "otherGave", "[I", true)
  | 2 => ("LabelPeople$Agreement", "top", "J", false)
  | 3 => ("LabelPeople$Agreement", "bottom", "J", false)
  | 4 => ("LabelPeople$Agreement", "rowCount", "I", false)
  | _ => ("LabelPeople$Agreement", "secondCount", "I", false)
def tyX0 : Nat → FieldType := fun k => match k with
  | 0 => .array .int
  | 1 => .array .int
  | 2 => .long
  | 3 => .long
  | 4 => .int
  | _ => .int
theorem nmX0 : ∀ a, a < 6 → ∀ b, b < 6 → a ≠ b → (TX0 a).2.1 ≠ (TX0 b).2.1 := by decide +kernel
theorem tyX0_ok : ∀ k, k < 6 → parseFieldDescriptor (TX0 k).2.2.1 = some (tyX0 k) := by decide +kernel
abbrev cX0_init : ByteArray := prog_2_method_1_code
def yX0_init : MethodName := ⟨RX0, "<init>", "()V"⟩
abbrev cX0_numerator : ByteArray := prog_2_method_2_code
def yX0_numerator : MethodName := ⟨RX0, "numerator", "()J"⟩
abbrev cX0_denominator : ByteArray := prog_2_method_3_code
def yX0_denominator : MethodName := ⟨RX0, "denominator", "()J"⟩
abbrev cX0_rowCount : ByteArray := prog_2_method_4_code
def yX0_rowCount : MethodName := ⟨RX0, "rowCount", "()I"⟩
abbrev cX0_secondCount : ByteArray := prog_2_method_5_code
def yX0_secondCount : MethodName := ⟨RX0, "secondCount", "()I"⟩
abbrev cX0_measureTwo : ByteArray := prog_2_method_6_code
def yX0_measureTwo : MethodName := ⟨RX0, "measureTwo", "(LLabelPeople$Sheet;II)V"⟩
abbrev cX0_measureAll : ByteArray := prog_2_method_7_code
def yX0_measureAll : MethodName := ⟨RX0, "measureAll", "(LLabelPeople$Sheet;)V"⟩
abbrev cX0_startCounts : ByteArray := prog_2_method_8_code
def yX0_startCounts : MethodName := ⟨RX0, "startCounts", "()V"⟩
abbrev cX0_countLabels : ByteArray := prog_2_method_9_code
def yX0_countLabels : MethodName := ⟨RX0, "countLabels", "(LLabelPeople$Sheet;I)V"⟩
abbrev cX0_likePairs : ByteArray := prog_2_method_10_code
def yX0_likePairs : MethodName := ⟨RX0, "likePairs", "(LLabelPeople$Sheet;I)I"⟩
abbrev cX0_sumOfProducts : ByteArray := prog_2_method_11_code
def yX0_sumOfProducts : MethodName := ⟨RX0, "sumOfProducts", "([I[I)J"⟩
abbrev cX0_setFraction : ByteArray := prog_2_method_12_code
def yX0_setFraction : MethodName := ⟨RX0, "setFraction", "(JJ)V"⟩
abbrev cX0_commonDivisor : ByteArray := prog_2_method_13_code
def yX0_commonDivisor : MethodName := ⟨RX0, "commonDivisor", "(JJ)J"⟩
def RX1 : String := "LabelPeople$RuleBook"
def TX1 : u_T := fun k => match k with
  | 0 => ("LabelPeople$RuleBook", "kinds", "[I", true)
  | 1 => ("LabelPeople$RuleBook", "firsts", "[I", true)
  | 2 => ("LabelPeople$RuleBook", "seconds", "[I", true)
  | 3 => ("LabelPeople$RuleBook", "constants", "[I", true)
  | 4 => ("LabelPeople$RuleBook", "on", "[Z", true)
  | 5 => ("LabelPeople$RuleBook", "places", "[I", true)
  | _ => ("LabelPeople$RuleBook", "size", "I", false)
def tyX1 : Nat → FieldType := fun k => match k with
  | 0 => .array .int
  | 1 => .array .int
  | 2 => .array .int
  | 3 => .array .int
  | 4 => .array .boolean
  | 5 => .array .int
  | _ => .int
theorem nmX1 : ∀ a, a < 7 → ∀ b, b < 7 → a ≠ b → (TX1 a).2.1 ≠ (TX1 b).2.1 := by decide +kernel
theorem tyX1_ok : ∀ k, k < 7 → parseFieldDescriptor (TX1 k).2.2.1 = some (tyX1 k) := by decide +kernel
abbrev cX1_init : ByteArray := prog_3_method_1_code
def yX1_init : MethodName := ⟨RX1, "<init>", "()V"⟩
abbrev cX1_size : ByteArray := prog_3_method_2_code
def yX1_size : MethodName := ⟨RX1, "size", "()I"⟩
abbrev cX1_hasRule : ByteArray := prog_3_method_3_code
def yX1_hasRule : MethodName := ⟨RX1, "hasRule", "(I)Z"⟩
abbrev cX1_addRule : ByteArray := prog_3_method_4_code
def yX1_addRule : MethodName := ⟨RX1, "addRule", "(IIII)I"⟩
abbrev cX1_isOn : ByteArray := prog_3_method_5_code
def yX1_isOn : MethodName := ⟨RX1, "isOn", "(I)Z"⟩
abbrev cX1_setOn : ByteArray := prog_3_method_6_code
def yX1_setOn : MethodName := ⟨RX1, "setOn", "(IZ)V"⟩
abbrev cX1_replace : ByteArray := prog_3_method_7_code
def yX1_replace : MethodName := ⟨RX1, "replace", "(II)I"⟩
abbrev cX1_wordOn : ByteArray := prog_3_method_8_code
def yX1_wordOn : MethodName := ⟨RX1, "wordOn", "(ILLabelPeople$Sheet;I)I"⟩
def RX2 : String := "LabelPeople$Sheet"
def TX2 : u_T := fun k => match k with
  | 0 => ("LabelPeople$Sheet", "features", "[[I", true)
  | 1 => ("LabelPeople$Sheet", "given", "[[I", true)
  | 2 => ("LabelPeople$Sheet", "known", "[I", true)
  | 3 => ("LabelPeople$Sheet", "wrong", "[I", true)
  | _ => ("LabelPeople$Sheet", "size", "I", false)
def tyX2 : Nat → FieldType := fun k => match k with
  | 0 => .array (.array .int)
  | 1 => .array (.array .int)
  | 2 => .array .int
  | 3 => .array .int
  | _ => .int
theorem nmX2 : ∀ a, a < 5 → ∀ b, b < 5 → a ≠ b → (TX2 a).2.1 ≠ (TX2 b).2.1 := by decide +kernel
theorem tyX2_ok : ∀ k, k < 5 → parseFieldDescriptor (TX2 k).2.2.1 = some (tyX2 k) := by decide +kernel
abbrev cX2_init : ByteArray := prog_4_method_1_code
def yX2_init : MethodName := ⟨RX2, "<init>", "()V"⟩
abbrev cX2_size : ByteArray := prog_4_method_2_code
def yX2_size : MethodName := ⟨RX2, "size", "()I"⟩
abbrev cX2_hasRow : ByteArray := prog_4_method_3_code
def yX2_hasRow : MethodName := ⟨RX2, "hasRow", "(I)Z"⟩
abbrev cX2_addRow : ByteArray := prog_4_method_4_code
def yX2_addRow : MethodName := ⟨RX2, "addRow", "(IIII)I"⟩
abbrev cX2_feature : ByteArray := prog_4_method_5_code
def yX2_feature : MethodName := ⟨RX2, "feature", "(II)I"⟩
abbrev cX2_given : ByteArray := prog_4_method_6_code
def yX2_given : MethodName := ⟨RX2, "given", "(II)I"⟩
abbrev cX2_give : ByteArray := prog_4_method_7_code
def yX2_give : MethodName := ⟨RX2, "give", "(III)V"⟩
abbrev cX2_known : ByteArray := prog_4_method_8_code
def yX2_known : MethodName := ⟨RX2, "known", "(I)I"⟩
abbrev cX2_setKnown : ByteArray := prog_4_method_9_code
def yX2_setKnown : MethodName := ⟨RX2, "setKnown", "(II)V"⟩
abbrev cX2_wrongOf : ByteArray := prog_4_method_10_code
def yX2_wrongOf : MethodName := ⟨RX2, "wrongOf", "(I)I"⟩
abbrev cX2_givenBy : ByteArray := prog_4_method_11_code
def yX2_givenBy : MethodName := ⟨RX2, "givenBy", "(I)I"⟩
abbrev cX2_givenOn : ByteArray := prog_4_method_12_code
def yX2_givenOn : MethodName := ⟨RX2, "givenOn", "(I)I"⟩
abbrev cX2_countKnown : ByteArray := prog_4_method_13_code
def yX2_countKnown : MethodName := ⟨RX2, "countKnown", "()I"⟩
abbrev cX2_countWrong : ByteArray := prog_4_method_14_code
def yX2_countWrong : MethodName := ⟨RX2, "countWrong", "(I)V"⟩
def RX3 : String := "LabelPeople"
def TX3 : u_T := fun k => match k with
  | 0 => ("LabelPeople", "sheet", "LLabelPeople$Sheet;", true)
  | 1 => ("LabelPeople", "book", "LLabelPeople$RuleBook;", true)
  | 2 => ("LabelPeople", "agreement", "LLabelPeople$Agreement;", true)
  | 3 => ("LabelPeople", "experts", "[Z", true)
  | 4 => ("LabelPeople", "trust", "[I", true)
  | 5 => ("LabelPeople", "barredFrom", "I", false)
  | 6 => ("LabelPeople", "tally", "[I", true)
  | 7 => ("LabelPeople", "decisions", "[I", true)
  | _ => ("LabelPeople", "freshTrust", "[I", true)
def tyX3 : Nat → FieldType := fun k => match k with
  | 0 => .object "LabelPeople$Sheet"
  | 1 => .object "LabelPeople$RuleBook"
  | 2 => .object "LabelPeople$Agreement"
  | 3 => .array .boolean
  | 4 => .array .int
  | 5 => .int
  | 6 => .array .int
  | 7 => .array .int
  | _ => .array .int
theorem nmX3 : ∀ a, a < 9 → ∀ b, b < 9 → a ≠ b → (TX3 a).2.1 ≠ (TX3 b).2.1 := by decide +kernel
theorem tyX3_ok : ∀ k, k < 9 → parseFieldDescriptor (TX3 k).2.2.1 = some (tyX3 k) := by decide +kernel
abbrev cX3_init : ByteArray := prog_1_method_1_code
def yX3_init : MethodName := ⟨RX3, "<init>", "()V"⟩
abbrev cX3_row : ByteArray := prog_1_method_2_code
def yX3_row : MethodName := ⟨RX3, "row", "(IIII)I"⟩
abbrev cX3_label : ByteArray := prog_1_method_3_code
def yX3_label : MethodName := ⟨RX3, "label", "(III)I"⟩
abbrev cX3_said : ByteArray := prog_1_method_4_code
def yX3_said : MethodName := ⟨RX3, "said", "(II)I"⟩
abbrev cX3_gold : ByteArray := prog_1_method_5_code
def yX3_gold : MethodName := ⟨RX3, "gold", "(II)I"⟩
abbrev cX3_bound : ByteArray := prog_1_method_6_code
def yX3_bound : MethodName := ⟨RX3, "bound", "(I)I"⟩
abbrev cX3_expert : ByteArray := prog_1_method_7_code
def yX3_expert : MethodName := ⟨RX3, "expert", "(IZ)I"⟩
abbrev cX3_person : ByteArray := prog_1_method_8_code
def yX3_person : MethodName := ⟨RX3, "person", "(II)I"⟩
abbrev cX3_rule : ByteArray := prog_1_method_9_code
def yX3_rule : MethodName := ⟨RX3, "rule", "(IIII)I"⟩
abbrev cX3_turn : ByteArray := prog_1_method_10_code
def yX3_turn : MethodName := ⟨RX3, "turn", "(IZ)I"⟩
abbrev cX3_table : ByteArray := prog_1_method_11_code
def yX3_table : MethodName := ⟨RX3, "table", "(II)I"⟩
abbrev cX3_says : ByteArray := prog_1_method_12_code
def yX3_says : MethodName := ⟨RX3, "says", "(II)I"⟩
abbrev cX3_abstains : ByteArray := prog_1_method_13_code
def yX3_abstains : MethodName := ⟨RX3, "abstains", "(I)I"⟩
abbrev cX3_votes : ByteArray := prog_1_method_14_code
def yX3_votes : MethodName := ⟨RX3, "votes", "(II)I"⟩
abbrev cX3_decided : ByteArray := prog_1_method_15_code
def yX3_decided : MethodName := ⟨RX3, "decided", "(I)I"⟩
abbrev cX3_learn : ByteArray := prog_1_method_16_code
def yX3_learn : MethodName := ⟨RX3, "learn", "(I)I"⟩
abbrev cX3_agree : ByteArray := prog_1_method_17_code
def yX3_agree : MethodName := ⟨RX3, "agree", "(III)J"⟩
abbrev cX3_all : ByteArray := prog_1_method_18_code
def yX3_all : MethodName := ⟨RX3, "all", "(I)J"⟩
abbrev cX3_next : ByteArray := prog_1_method_19_code
def yX3_next : MethodName := ⟨RX3, "next", "(I)I"⟩
abbrev cX3_about : ByteArray := prog_1_method_20_code
def yX3_about : MethodName := ⟨RX3, "about", "(I)I"⟩
abbrev cX3_isPerson : ByteArray := prog_1_method_21_code
def yX3_isPerson : MethodName := ⟨RX3, "isPerson", "(I)Z"⟩
abbrev cX3_isLabel : ByteArray := prog_1_method_22_code
def yX3_isLabel : MethodName := ⟨RX3, "isLabel", "(I)Z"⟩
abbrev cX3_isFeature : ByteArray := prog_1_method_23_code
def yX3_isFeature : MethodName := ⟨RX3, "isFeature", "(I)Z"⟩
abbrev cX3_isPlace : ByteArray := prog_1_method_24_code
def yX3_isPlace : MethodName := ⟨RX3, "isPlace", "(I)Z"⟩
abbrev cX3_isBarred : ByteArray := prog_1_method_25_code
def yX3_isBarred : MethodName := ⟨RX3, "isBarred", "(I)Z"⟩
abbrev cX3_countVotes : ByteArray := prog_1_method_26_code
def yX3_countVotes : MethodName := ⟨RX3, "countVotes", "(I)V"⟩
abbrev cX3_decide : ByteArray := prog_1_method_27_code
def yX3_decide : MethodName := ⟨RX3, "decide", "(I)I"⟩
abbrev cX3_winnerInTally : ByteArray := prog_1_method_28_code
def yX3_winnerInTally : MethodName := ⟨RX3, "winnerInTally", "()I"⟩
abbrev cX3_expertOn : ByteArray := prog_1_method_29_code
def yX3_expertOn : MethodName := ⟨RX3, "expertOn", "(I)I"⟩
abbrev cX3_leadInTally : ByteArray := prog_1_method_30_code
def yX3_leadInTally : MethodName := ⟨RX3, "leadInTally", "()I"⟩
abbrev cX3_learnRound : ByteArray := prog_1_method_31_code
def yX3_learnRound : MethodName := ⟨RX3, "learnRound", "()Z"⟩
abbrev cX3_earnedTrust : ByteArray := prog_1_method_32_code
def yX3_earnedTrust : MethodName := ⟨RX3, "earnedTrust", "(I)I"⟩
abbrev cX3_partOfAgreement : ByteArray := prog_1_method_33_code
def yX3_partOfAgreement : MethodName := ⟨RX3, "partOfAgreement", "(I)J"⟩
abbrev cX3_countLabellings : ByteArray := prog_1_method_34_code
def yX3_countLabellings : MethodName := ⟨RX3, "countLabellings", "()I"⟩
abbrev cX3_countDecided : ByteArray := prog_1_method_35_code
def yX3_countDecided : MethodName := ⟨RX3, "countDecided", "()I"⟩
abbrev cX3_countBarred : ByteArray := prog_1_method_36_code
def yX3_countBarred : MethodName := ⟨RX3, "countBarred", "()I"⟩
abbrev cX3_countDisputed : ByteArray := prog_1_method_37_code
def yX3_countDisputed : MethodName := ⟨RX3, "countDisputed", "()I"⟩
abbrev cX3_isDisputed : ByteArray := prog_1_method_38_code
def yX3_isDisputed : MethodName := ⟨RX3, "isDisputed", "(I)Z"⟩
def RX4 : String := "LabelPeopleModel"
def TX4 : u_T := fun k => match k with
  | 0 => ("LabelPeopleModel", "thrown", "I", false)
  | 1 => ("LabelPeopleModel", "rows", "I", false)
  | 2 => ("LabelPeopleModel", "features", "[I", true)
  | 3 => ("LabelPeopleModel", "saidAt", "[I", true)
  | 4 => ("LabelPeopleModel", "goldAt", "[I", true)
  | 5 => ("LabelPeopleModel", "bound", "I", false)
  | 6 => ("LabelPeopleModel", "isExpert", "[Z", true)
  | 7 => ("LabelPeopleModel", "trust", "[I", true)
  | 8 => ("LabelPeopleModel", "nextTrust", "[I", true)
  | 9 => ("LabelPeopleModel", "rules", "I", false)
  | 10 => ("LabelPeopleModel", "kindOf", "[I", true)
  | 11 => ("LabelPeopleModel", "is", "[I", true)
  | 12 => ("LabelPeopleModel", "js", "[I", true)
  | 13 => ("LabelPeopleModel", "cs", "[I", true)
  | 14 => ("LabelPeopleModel", "isOn", "[Z", true)
  | 15 => ("LabelPeopleModel", "places", "[I", true)
  | 16 => ("LabelPeopleModel", "most", "I", false)
  | 17 => ("LabelPeopleModel", "second", "I", false)
  | 18 => ("LabelPeopleModel", "best", "I", false)
  | _ => ("LabelPeopleModel", "decision", "[I", true)
def tyX4 : Nat → FieldType := fun k => match k with
  | 0 => .int
  | 1 => .int
  | 2 => .array .int
  | 3 => .array .int
  | 4 => .array .int
  | 5 => .int
  | 6 => .array .boolean
  | 7 => .array .int
  | 8 => .array .int
  | 9 => .int
  | 10 => .array .int
  | 11 => .array .int
  | 12 => .array .int
  | 13 => .array .int
  | 14 => .array .boolean
  | 15 => .array .int
  | 16 => .int
  | 17 => .int
  | 18 => .int
  | _ => .array .int
theorem nmX4 : ∀ a, a < 20 → ∀ b, b < 20 → a ≠ b → (TX4 a).2.1 ≠ (TX4 b).2.1 := by decide +kernel
theorem tyX4_ok : ∀ k, k < 20 → parseFieldDescriptor (TX4 k).2.2.1 = some (tyX4 k) := by decide +kernel
abbrev cX4_thrown : ByteArray := prog_6_method_1_code
def yX4_thrown : MethodName := ⟨RX4, "thrown", "()I"⟩
abbrev cX4_init : ByteArray := prog_6_method_2_code
def yX4_init : MethodName := ⟨RX4, "<init>", "()V"⟩
abbrev cX4_in : ByteArray := prog_6_method_3_code
def yX4_in : MethodName := ⟨RX4, "in", "(III)Z"⟩
abbrev cX4_isRow : ByteArray := prog_6_method_4_code
def yX4_isRow : MethodName := ⟨RX4, "isRow", "(I)Z"⟩
abbrev cX4_isPerson : ByteArray := prog_6_method_5_code
def yX4_isPerson : MethodName := ⟨RX4, "isPerson", "(I)Z"⟩
abbrev cX4_row : ByteArray := prog_6_method_6_code
def yX4_row : MethodName := ⟨RX4, "row", "(IIII)I"⟩
abbrev cX4_label : ByteArray := prog_6_method_7_code
def yX4_label : MethodName := ⟨RX4, "label", "(III)I"⟩
abbrev cX4_said : ByteArray := prog_6_method_8_code
def yX4_said : MethodName := ⟨RX4, "said", "(II)I"⟩
abbrev cX4_gold : ByteArray := prog_6_method_9_code
def yX4_gold : MethodName := ⟨RX4, "gold", "(II)I"⟩
abbrev cX4_bound : ByteArray := prog_6_method_10_code
def yX4_bound : MethodName := ⟨RX4, "bound", "(I)I"⟩
abbrev cX4_expert : ByteArray := prog_6_method_11_code
def yX4_expert : MethodName := ⟨RX4, "expert", "(IZ)I"⟩
abbrev cX4_wrong : ByteArray := prog_6_method_12_code
def yX4_wrong : MethodName := ⟨RX4, "wrong", "(I)I"⟩
abbrev cX4_isBarred : ByteArray := prog_6_method_13_code
def yX4_isBarred : MethodName := ⟨RX4, "isBarred", "(I)Z"⟩
abbrev cX4_labelled : ByteArray := prog_6_method_14_code
def yX4_labelled : MethodName := ⟨RX4, "labelled", "(I)I"⟩
abbrev cX4_person : ByteArray := prog_6_method_15_code
def yX4_person : MethodName := ⟨RX4, "person", "(II)I"⟩
abbrev cX4_rule : ByteArray := prog_6_method_16_code
def yX4_rule : MethodName := ⟨RX4, "rule", "(IIII)I"⟩
abbrev cX4_turn : ByteArray := prog_6_method_17_code
def yX4_turn : MethodName := ⟨RX4, "turn", "(IZ)I"⟩
abbrev cX4_table : ByteArray := prog_6_method_18_code
def yX4_table : MethodName := ⟨RX4, "table", "(II)I"⟩
abbrev cX4_saysOf : ByteArray := prog_6_method_19_code
def yX4_saysOf : MethodName := ⟨RX4, "saysOf", "(II)I"⟩
abbrev cX4_says : ByteArray := prog_6_method_20_code
def yX4_says : MethodName := ⟨RX4, "says", "(II)I"⟩
abbrev cX4_abstains : ByteArray := prog_6_method_21_code
def yX4_abstains : MethodName := ⟨RX4, "abstains", "(I)I"⟩
abbrev cX4_votesOf : ByteArray := prog_6_method_22_code
def yX4_votesOf : MethodName := ⟨RX4, "votesOf", "(II)I"⟩
abbrev cX4_votes : ByteArray := prog_6_method_23_code
def yX4_votes : MethodName := ⟨RX4, "votes", "(II)I"⟩
abbrev cX4_weigh : ByteArray := prog_6_method_24_code
def yX4_weigh : MethodName := ⟨RX4, "weigh", "(I)V"⟩
abbrev cX4_decidedOf : ByteArray := prog_6_method_25_code
def yX4_decidedOf : MethodName := ⟨RX4, "decidedOf", "(I)I"⟩
abbrev cX4_decided : ByteArray := prog_6_method_26_code
def yX4_decided : MethodName := ⟨RX4, "decided", "(I)I"⟩
abbrev cX4_learn : ByteArray := prog_6_method_27_code
def yX4_learn : MethodName := ⟨RX4, "learn", "(I)I"⟩
abbrev cX4_cut : ByteArray := prog_6_method_28_code
def yX4_cut : MethodName := ⟨RX4, "cut", "(JJI)J"⟩
abbrev cX4_agree : ByteArray := prog_6_method_29_code
def yX4_agree : MethodName := ⟨RX4, "agree", "(III)J"⟩
abbrev cX4_labellings : ByteArray := prog_6_method_30_code
def yX4_labellings : MethodName := ⟨RX4, "labellings", "(I)I"⟩
abbrev cX4_countOf : ByteArray := prog_6_method_31_code
def yX4_countOf : MethodName := ⟨RX4, "countOf", "(II)I"⟩
abbrev cX4_all : ByteArray := prog_6_method_32_code
def yX4_all : MethodName := ⟨RX4, "all", "(I)J"⟩
abbrev cX4_next : ByteArray := prog_6_method_33_code
def yX4_next : MethodName := ⟨RX4, "next", "(I)I"⟩
abbrev cX4_isUnlike : ByteArray := prog_6_method_34_code
def yX4_isUnlike : MethodName := ⟨RX4, "isUnlike", "(I)Z"⟩
abbrev cX4_about : ByteArray := prog_6_method_35_code
def yX4_about : MethodName := ⟨RX4, "about", "(I)I"⟩
def RJx00060 : String := "java/lang/ArrayIndexOutOfBoundsException"
def TJx00060 : u_T := fun k => match k with
  | 0 => ("java/lang/Throwable", "backtrace", "Ljava/lang/Object;", false)
  | 1 => ("java/lang/Throwable", "detailMessage", "Ljava/lang/String;", false)
  | 2 => ("java/lang/Throwable", "cause", "Ljava/lang/Throwable;", false)
  | 3 => ("java/lang/Throwable", "stackTrace", "[Ljava/lang/StackTraceElement;", false)
  | 4 => ("java/lang/Throwable", "depth", "I", false)
  | _ => ("java/lang/Throwable", "suppressedExceptions", "Ljava/util/List;", false)
def tyJx00060 : Nat → FieldType := fun k => match k with
  | 0 => .object "java/lang/Object"
  | 1 => .object "java/lang/String"
  | 2 => .object "java/lang/Throwable"
  | 3 => .array (.object "java/lang/StackTraceElement")
  | 4 => .int
  | _ => .object "java/util/List"
theorem nmJx00060 : ∀ a, a < 6 → ∀ b, b < 6 → a ≠ b → (TJx00060 a).2.1 ≠ (TJx00060 b).2.1 := by decide +kernel
theorem tyJx00060_ok : ∀ k, k < 6 → parseFieldDescriptor (TJx00060 k).2.2.1 = some (tyJx00060 k) := by decide +kernel
abbrev cJx00060_init_a7421 : ByteArray := prog_8_method_2_code
def yJx00060_init_a7421 : MethodName := ⟨RJx00060, "<init>", "(Ljava/lang/String;)V"⟩
def RJ9 : String := "java/lang/Math"
def TJ9 : u_T := fun k => match k with
  | _ => ("", "", "", false)
def tyJ9 : Nat → FieldType := fun k => match k with
  | _ => .int
theorem nmJ9 : ∀ a, a < 0 → ∀ b, b < 0 → a ≠ b → (TJ9 a).2.1 ≠ (TJ9 b).2.1 := by decide +kernel
theorem tyJ9_ok : ∀ k, k < 0 → parseFieldDescriptor (TJ9 k).2.2.1 = some (tyJ9 k) := by decide +kernel
abbrev cJ9_floorMod_7cf53 : ByteArray := prog_12_method_50_code
def yJ9_floorMod_7cf53 : MethodName := ⟨RJ9, "floorMod", "(II)I"⟩
def RJ0 : String := "java/lang/String"
def TJ0 : u_T := fun k => match k with
  | 0 => ("java/lang/String", "value", "[B", true)
  | _ => ("java/lang/String", "coder", "B", true)
def tyJ0 : Nat → FieldType := fun k => match k with
  | 0 => .array .byte
  | _ => .byte
theorem nmJ0 : ∀ a, a < 2 → ∀ b, b < 2 → a ≠ b → (TJ0 a).2.1 ≠ (TJ0 b).2.1 := by decide +kernel
theorem tyJ0_ok : ∀ k, k < 2 → parseFieldDescriptor (TJ0 k).2.2.1 = some (tyJ0 k) := by decide +kernel
def RJ10 : String := "java/lang/System"
def TJ10 : u_T := fun k => match k with
  | _ => ("", "", "", false)
def tyJ10 : Nat → FieldType := fun k => match k with
  | _ => .int
theorem nmJ10 : ∀ a, a < 0 → ∀ b, b < 0 → a ≠ b → (TJ10 a).2.1 ≠ (TJ10 b).2.1 := by decide +kernel
theorem tyJ10_ok : ∀ k, k < 0 → parseFieldDescriptor (TJ10 k).2.2.1 = some (tyJ10 k) := by decide +kernel
def RJ7 : String := "java/util/Arrays"
def TJ7 : u_T := fun k => match k with
  | _ => ("", "", "", false)
def tyJ7 : Nat → FieldType := fun k => match k with
  | _ => .int
theorem nmJ7 : ∀ a, a < 0 → ∀ b, b < 0 → a ≠ b → (TJ7 a).2.1 ≠ (TJ7 b).2.1 := by decide +kernel
theorem tyJ7_ok : ∀ k, k < 0 → parseFieldDescriptor (TJ7 k).2.2.1 = some (tyJ7 k) := by decide +kernel
abbrev cJ7_fill_53178 : ByteArray := prog_17_method_103_code
def yJ7_fill_53178 : MethodName := ⟨RJ7, "fill", "([II)V"⟩
def RL : String := "LabelPeopleLaw"
abbrev cL_says : ByteArray := method_3_code
def yL_says : MethodName := ⟨RL, "says", "(LLabelPeople;II[J)I"⟩
abbrev cL_agree : ByteArray := method_4_code
def yL_agree : MethodName := ⟨RL, "agree", "(LLabelPeople;III[J)I"⟩
abbrev cL_all : ByteArray := method_5_code
def yL_all : MethodName := ⟨RL, "all", "(LLabelPeople;I[J)I"⟩
abbrev cL_law : ByteArray := code
def yL_law : MethodName := ⟨RL, "law", "([I)Z"⟩
end
section
theorem dX0_init_0 : decode cX0_init 0 = .ok (.aload_n 0, 1) := by decide +kernel
theorem dX0_init_1 : decode cX0_init 1 = .ok (.invokespecial 3, 3) := by decide +kernel
theorem dX0_init_4 : decode cX0_init 4 = .ok (.aload_n 0, 1) := by decide +kernel
theorem dX0_init_5 : decode cX0_init 5 = .ok (.iconst 5, 1) := by decide +kernel
theorem dX0_init_6 : decode cX0_init 6 = .ok (.newarray .int, 2) := by decide +kernel
theorem dX0_init_8 : decode cX0_init 8 = .ok (.putfield 9, 3) := by decide +kernel
theorem dX0_init_11 : decode cX0_init 11 = .ok (.aload_n 0, 1) := by decide +kernel
theorem dX0_init_12 : decode cX0_init 12 = .ok (.iconst 5, 1) := by decide +kernel
theorem dX0_init_13 : decode cX0_init 13 = .ok (.newarray .int, 2) := by decide +kernel
theorem dX0_init_15 : decode cX0_init 15 = .ok (.putfield 15, 3) := by decide +kernel
theorem dX0_init_18 : decode cX0_init 18 = .ok (.return_, 1) := by decide +kernel
theorem dX0_numerator_0 : decode cX0_numerator 0 = .ok (.aload_n 0, 1) := by decide +kernel
theorem dX0_numerator_1 : decode cX0_numerator 1 = .ok (.getfield 18, 3) := by decide +kernel
theorem dX0_numerator_4 : decode cX0_numerator 4 = .ok (.lreturn, 1) := by decide +kernel
theorem dX0_denominator_0 : decode cX0_denominator 0 = .ok (.aload_n 0, 1) := by decide +kernel
theorem dX0_denominator_1 : decode cX0_denominator 1 = .ok (.getfield 22, 3) := by decide +kernel
theorem dX0_denominator_4 : decode cX0_denominator 4 = .ok (.lreturn, 1) := by decide +kernel
theorem dX0_rowCount_0 : decode cX0_rowCount 0 = .ok (.aload_n 0, 1) := by decide +kernel
theorem dX0_rowCount_1 : decode cX0_rowCount 1 = .ok (.getfield 25, 3) := by decide +kernel
theorem dX0_rowCount_4 : decode cX0_rowCount 4 = .ok (.ireturn, 1) := by decide +kernel
theorem dX0_secondCount_0 : decode cX0_secondCount 0 = .ok (.aload_n 0, 1) := by decide +kernel
theorem dX0_secondCount_1 : decode cX0_secondCount 1 = .ok (.getfield 29, 3) := by decide +kernel
theorem dX0_secondCount_4 : decode cX0_secondCount 4 = .ok (.ireturn, 1) := by decide +kernel
theorem dX0_measureTwo_0 : decode cX0_measureTwo 0 = .ok (.aload_n 0, 1) := by decide +kernel
theorem dX0_measureTwo_1 : decode cX0_measureTwo 1 = .ok (.invokevirtual 32, 3) := by decide +kernel
theorem dX0_measureTwo_4 : decode cX0_measureTwo 4 = .ok (.aload_n 0, 1) := by decide +kernel
theorem dX0_measureTwo_5 : decode cX0_measureTwo 5 = .ok (.getfield 15, 3) := by decide +kernel
theorem dX0_measureTwo_8 : decode cX0_measureTwo 8 = .ok (.iconst 0, 1) := by decide +kernel
theorem dX0_measureTwo_9 : decode cX0_measureTwo 9 = .ok (.invokestatic 35, 3) := by decide +kernel
theorem dX0_measureTwo_12 : decode cX0_measureTwo 12 = .ok (.iconst 0, 1) := by decide +kernel
theorem dX0_measureTwo_13 : decode cX0_measureTwo 13 = .ok (.istore 4, 2) := by decide +kernel
theorem dX0_measureTwo_15 : decode cX0_measureTwo 15 = .ok (.iload 4, 2) := by decide +kernel
theorem dX0_measureTwo_17 : decode cX0_measureTwo 17 = .ok (.aload_n 1, 1) := by decide +kernel
theorem dX0_measureTwo_18 : decode cX0_measureTwo 18 = .ok (.invokevirtual 41, 3) := by decide +kernel
theorem dX0_measureTwo_21 : decode cX0_measureTwo 21 = .ok (.if_icmp .ge 99, 3) := by decide +kernel
theorem dX0_measureTwo_24 : decode cX0_measureTwo 24 = .ok (.aload_n 1, 1) := by decide +kernel
theorem dX0_measureTwo_25 : decode cX0_measureTwo 25 = .ok (.iload_n 2, 1) := by decide +kernel
theorem dX0_measureTwo_26 : decode cX0_measureTwo 26 = .ok (.iload 4, 2) := by decide +kernel
theorem dX0_measureTwo_28 : decode cX0_measureTwo 28 = .ok (.invokevirtual 47, 3) := by decide +kernel
theorem dX0_measureTwo_31 : decode cX0_measureTwo 31 = .ok (.istore 5, 2) := by decide +kernel
theorem dX0_measureTwo_33 : decode cX0_measureTwo 33 = .ok (.aload_n 1, 1) := by decide +kernel
theorem dX0_measureTwo_34 : decode cX0_measureTwo 34 = .ok (.iload_n 3, 1) := by decide +kernel
theorem dX0_measureTwo_35 : decode cX0_measureTwo 35 = .ok (.iload 4, 2) := by decide +kernel
theorem dX0_measureTwo_37 : decode cX0_measureTwo 37 = .ok (.invokevirtual 47, 3) := by decide +kernel
theorem dX0_measureTwo_40 : decode cX0_measureTwo 40 = .ok (.istore 6, 2) := by decide +kernel
theorem dX0_measureTwo_42 : decode cX0_measureTwo 42 = .ok (.iload 5, 2) := by decide +kernel
theorem dX0_measureTwo_44 : decode cX0_measureTwo 44 = .ok (.invokestatic 51, 3) := by decide +kernel
theorem dX0_measureTwo_47 : decode cX0_measureTwo 47 = .ok (.ifCond .eq 67, 3) := by decide +kernel
theorem dX0_measureTwo_50 : decode cX0_measureTwo 50 = .ok (.iload 6, 2) := by decide +kernel
theorem dX0_measureTwo_52 : decode cX0_measureTwo 52 = .ok (.invokestatic 51, 3) := by decide +kernel
theorem dX0_measureTwo_55 : decode cX0_measureTwo 55 = .ok (.ifCond .ne 6, 3) := by decide +kernel
theorem dX0_measureTwo_58 : decode cX0_measureTwo 58 = .ok (.goto 56, 3) := by decide +kernel
theorem dX0_measureTwo_61 : decode cX0_measureTwo 61 = .ok (.aload_n 0, 1) := by decide +kernel
theorem dX0_measureTwo_62 : decode cX0_measureTwo 62 = .ok (.getfield 9, 3) := by decide +kernel
theorem dX0_measureTwo_65 : decode cX0_measureTwo 65 = .ok (.iload 5, 2) := by decide +kernel
theorem dX0_measureTwo_67 : decode cX0_measureTwo 67 = .ok (.dup2, 1) := by decide +kernel
theorem dX0_measureTwo_68 : decode cX0_measureTwo 68 = .ok (.iaload, 1) := by decide +kernel
theorem dX0_measureTwo_69 : decode cX0_measureTwo 69 = .ok (.iconst 1, 1) := by decide +kernel
theorem dX0_measureTwo_70 : decode cX0_measureTwo 70 = .ok (.iadd, 1) := by decide +kernel
theorem dX0_measureTwo_71 : decode cX0_measureTwo 71 = .ok (.iastore, 1) := by decide +kernel
theorem dX0_measureTwo_72 : decode cX0_measureTwo 72 = .ok (.aload_n 0, 1) := by decide +kernel
theorem dX0_measureTwo_73 : decode cX0_measureTwo 73 = .ok (.getfield 15, 3) := by decide +kernel
theorem dX0_measureTwo_76 : decode cX0_measureTwo 76 = .ok (.iload 6, 2) := by decide +kernel
theorem dX0_measureTwo_78 : decode cX0_measureTwo 78 = .ok (.dup2, 1) := by decide +kernel
theorem dX0_measureTwo_79 : decode cX0_measureTwo 79 = .ok (.iaload, 1) := by decide +kernel
theorem dX0_measureTwo_80 : decode cX0_measureTwo 80 = .ok (.iconst 1, 1) := by decide +kernel
theorem dX0_measureTwo_81 : decode cX0_measureTwo 81 = .ok (.iadd, 1) := by decide +kernel
theorem dX0_measureTwo_82 : decode cX0_measureTwo 82 = .ok (.iastore, 1) := by decide +kernel
theorem dX0_measureTwo_83 : decode cX0_measureTwo 83 = .ok (.aload_n 0, 1) := by decide +kernel
theorem dX0_measureTwo_84 : decode cX0_measureTwo 84 = .ok (.dup, 1) := by decide +kernel
theorem dX0_measureTwo_85 : decode cX0_measureTwo 85 = .ok (.getfield 25, 3) := by decide +kernel
theorem dX0_measureTwo_88 : decode cX0_measureTwo 88 = .ok (.iconst 1, 1) := by decide +kernel
theorem dX0_measureTwo_89 : decode cX0_measureTwo 89 = .ok (.iadd, 1) := by decide +kernel
theorem dX0_measureTwo_90 : decode cX0_measureTwo 90 = .ok (.putfield 25, 3) := by decide +kernel
theorem dX0_measureTwo_93 : decode cX0_measureTwo 93 = .ok (.aload_n 0, 1) := by decide +kernel
theorem dX0_measureTwo_94 : decode cX0_measureTwo 94 = .ok (.dup, 1) := by decide +kernel
theorem dX0_measureTwo_95 : decode cX0_measureTwo 95 = .ok (.getfield 29, 3) := by decide +kernel
theorem dX0_measureTwo_98 : decode cX0_measureTwo 98 = .ok (.iload 5, 2) := by decide +kernel
theorem dX0_measureTwo_100 : decode cX0_measureTwo 100 = .ok (.iload 6, 2) := by decide +kernel
theorem dX0_measureTwo_102 : decode cX0_measureTwo 102 = .ok (.if_icmp .ne 7, 3) := by decide +kernel
theorem dX0_measureTwo_105 : decode cX0_measureTwo 105 = .ok (.iconst 1, 1) := by decide +kernel
theorem dX0_measureTwo_106 : decode cX0_measureTwo 106 = .ok (.goto 4, 3) := by decide +kernel
theorem dX0_measureTwo_109 : decode cX0_measureTwo 109 = .ok (.iconst 0, 1) := by decide +kernel
theorem dX0_measureTwo_110 : decode cX0_measureTwo 110 = .ok (.iadd, 1) := by decide +kernel
theorem dX0_measureTwo_111 : decode cX0_measureTwo 111 = .ok (.putfield 29, 3) := by decide +kernel
theorem dX0_measureTwo_114 : decode cX0_measureTwo 114 = .ok (.iinc 4 1, 3) := by decide +kernel
theorem dX0_measureTwo_117 : decode cX0_measureTwo 117 = .ok (.goto (-102), 3) := by decide +kernel
theorem dX0_measureTwo_120 : decode cX0_measureTwo 120 = .ok (.aload_n 0, 1) := by decide +kernel
theorem dX0_measureTwo_121 : decode cX0_measureTwo 121 = .ok (.getfield 25, 3) := by decide +kernel
theorem dX0_measureTwo_124 : decode cX0_measureTwo 124 = .ok (.i2l, 1) := by decide +kernel
theorem dX0_measureTwo_125 : decode cX0_measureTwo 125 = .ok (.lstore 4, 2) := by decide +kernel
theorem dX0_measureTwo_127 : decode cX0_measureTwo 127 = .ok (.aload_n 0, 1) := by decide +kernel
theorem dX0_measureTwo_128 : decode cX0_measureTwo 128 = .ok (.getfield 9, 3) := by decide +kernel
theorem dX0_measureTwo_131 : decode cX0_measureTwo 131 = .ok (.aload_n 0, 1) := by decide +kernel
theorem dX0_measureTwo_132 : decode cX0_measureTwo 132 = .ok (.getfield 15, 3) := by decide +kernel
theorem dX0_measureTwo_135 : decode cX0_measureTwo 135 = .ok (.invokestatic 55, 3) := by decide +kernel
theorem dX0_measureTwo_138 : decode cX0_measureTwo 138 = .ok (.lstore 6, 2) := by decide +kernel
theorem dX0_measureTwo_140 : decode cX0_measureTwo 140 = .ok (.aload_n 0, 1) := by decide +kernel
theorem dX0_measureTwo_141 : decode cX0_measureTwo 141 = .ok (.lload 4, 2) := by decide +kernel
theorem dX0_measureTwo_143 : decode cX0_measureTwo 143 = .ok (.aload_n 0, 1) := by decide +kernel
theorem dX0_measureTwo_144 : decode cX0_measureTwo 144 = .ok (.getfield 29, 3) := by decide +kernel
theorem dX0_measureTwo_147 : decode cX0_measureTwo 147 = .ok (.i2l, 1) := by decide +kernel
theorem dX0_measureTwo_148 : decode cX0_measureTwo 148 = .ok (.lmul, 1) := by decide +kernel
theorem dX0_measureTwo_149 : decode cX0_measureTwo 149 = .ok (.lload 6, 2) := by decide +kernel
theorem dX0_measureTwo_151 : decode cX0_measureTwo 151 = .ok (.lsub, 1) := by decide +kernel
theorem dX0_measureTwo_152 : decode cX0_measureTwo 152 = .ok (.lload 4, 2) := by decide +kernel
theorem dX0_measureTwo_154 : decode cX0_measureTwo 154 = .ok (.lload 4, 2) := by decide +kernel
theorem dX0_measureTwo_156 : decode cX0_measureTwo 156 = .ok (.lmul, 1) := by decide +kernel
theorem dX0_measureTwo_157 : decode cX0_measureTwo 157 = .ok (.lload 6, 2) := by decide +kernel
theorem dX0_measureTwo_159 : decode cX0_measureTwo 159 = .ok (.lsub, 1) := by decide +kernel
theorem dX0_measureTwo_160 : decode cX0_measureTwo 160 = .ok (.invokevirtual 59, 3) := by decide +kernel
theorem dX0_measureTwo_163 : decode cX0_measureTwo 163 = .ok (.return_, 1) := by decide +kernel
theorem dX0_measureAll_0 : decode cX0_measureAll 0 = .ok (.aload_n 0, 1) := by decide +kernel
theorem dX0_measureAll_1 : decode cX0_measureAll 1 = .ok (.invokevirtual 32, 3) := by decide +kernel
theorem dX0_measureAll_4 : decode cX0_measureAll 4 = .ok (.lconst 0, 1) := by decide +kernel
theorem dX0_measureAll_5 : decode cX0_measureAll 5 = .ok (.lstore_n 2, 1) := by decide +kernel
theorem dX0_measureAll_6 : decode cX0_measureAll 6 = .ok (.iconst 0, 1) := by decide +kernel
theorem dX0_measureAll_7 : decode cX0_measureAll 7 = .ok (.istore 4, 2) := by decide +kernel
theorem dX0_measureAll_9 : decode cX0_measureAll 9 = .ok (.iload 4, 2) := by decide +kernel
theorem dX0_measureAll_11 : decode cX0_measureAll 11 = .ok (.aload_n 1, 1) := by decide +kernel
theorem dX0_measureAll_12 : decode cX0_measureAll 12 = .ok (.invokevirtual 41, 3) := by decide +kernel
theorem dX0_measureAll_15 : decode cX0_measureAll 15 = .ok (.if_icmp .ge 83, 3) := by decide +kernel
theorem dX0_measureAll_18 : decode cX0_measureAll 18 = .ok (.aload_n 1, 1) := by decide +kernel
theorem dX0_measureAll_19 : decode cX0_measureAll 19 = .ok (.iload 4, 2) := by decide +kernel
theorem dX0_measureAll_21 : decode cX0_measureAll 21 = .ok (.invokevirtual 63, 3) := by decide +kernel
theorem dX0_measureAll_24 : decode cX0_measureAll 24 = .ok (.istore 5, 2) := by decide +kernel
theorem dX0_measureAll_26 : decode cX0_measureAll 26 = .ok (.iload 5, 2) := by decide +kernel
theorem dX0_measureAll_28 : decode cX0_measureAll 28 = .ok (.iconst 2, 1) := by decide +kernel
theorem dX0_measureAll_29 : decode cX0_measureAll 29 = .ok (.if_icmp .ge 6, 3) := by decide +kernel
theorem dX0_measureAll_32 : decode cX0_measureAll 32 = .ok (.goto 60, 3) := by decide +kernel
theorem dX0_measureAll_35 : decode cX0_measureAll 35 = .ok (.aload_n 0, 1) := by decide +kernel
theorem dX0_measureAll_36 : decode cX0_measureAll 36 = .ok (.dup, 1) := by decide +kernel
theorem dX0_measureAll_37 : decode cX0_measureAll 37 = .ok (.getfield 25, 3) := by decide +kernel
theorem dX0_measureAll_40 : decode cX0_measureAll 40 = .ok (.iconst 1, 1) := by decide +kernel
theorem dX0_measureAll_41 : decode cX0_measureAll 41 = .ok (.iadd, 1) := by decide +kernel
theorem dX0_measureAll_42 : decode cX0_measureAll 42 = .ok (.putfield 25, 3) := by decide +kernel
theorem dX0_measureAll_45 : decode cX0_measureAll 45 = .ok (.aload_n 0, 1) := by decide +kernel
theorem dX0_measureAll_46 : decode cX0_measureAll 46 = .ok (.dup, 1) := by decide +kernel
theorem dX0_measureAll_47 : decode cX0_measureAll 47 = .ok (.getfield 29, 3) := by decide +kernel
theorem dX0_measureAll_50 : decode cX0_measureAll 50 = .ok (.iload 5, 2) := by decide +kernel
theorem dX0_measureAll_52 : decode cX0_measureAll 52 = .ok (.iadd, 1) := by decide +kernel
theorem dX0_measureAll_53 : decode cX0_measureAll 53 = .ok (.putfield 29, 3) := by decide +kernel
theorem dX0_measureAll_56 : decode cX0_measureAll 56 = .ok (.iload 5, 2) := by decide +kernel
theorem dX0_measureAll_58 : decode cX0_measureAll 58 = .ok (.iload 5, 2) := by decide +kernel
theorem dX0_measureAll_60 : decode cX0_measureAll 60 = .ok (.iconst 1, 1) := by decide +kernel
theorem dX0_measureAll_61 : decode cX0_measureAll 61 = .ok (.isub, 1) := by decide +kernel
theorem dX0_measureAll_62 : decode cX0_measureAll 62 = .ok (.imul, 1) := by decide +kernel
theorem dX0_measureAll_63 : decode cX0_measureAll 63 = .ok (.iconst 2, 1) := by decide +kernel
theorem dX0_measureAll_64 : decode cX0_measureAll 64 = .ok (.idiv, 1) := by decide +kernel
theorem dX0_measureAll_65 : decode cX0_measureAll 65 = .ok (.i2l, 1) := by decide +kernel
theorem dX0_measureAll_66 : decode cX0_measureAll 66 = .ok (.lstore 6, 2) := by decide +kernel
theorem dX0_measureAll_68 : decode cX0_measureAll 68 = .ok (.lload_n 2, 1) := by decide +kernel
theorem dX0_measureAll_69 : decode cX0_measureAll 69 = .ok (.ldc2_w 67, 3) := by decide +kernel
theorem dX0_measureAll_72 : decode cX0_measureAll 72 = .ok (.aload_n 1, 1) := by decide +kernel
theorem dX0_measureAll_73 : decode cX0_measureAll 73 = .ok (.iload 4, 2) := by decide +kernel
theorem dX0_measureAll_75 : decode cX0_measureAll 75 = .ok (.invokestatic 69, 3) := by decide +kernel
theorem dX0_measureAll_78 : decode cX0_measureAll 78 = .ok (.i2l, 1) := by decide +kernel
theorem dX0_measureAll_79 : decode cX0_measureAll 79 = .ok (.lmul, 1) := by decide +kernel
theorem dX0_measureAll_80 : decode cX0_measureAll 80 = .ok (.lload 6, 2) := by decide +kernel
theorem dX0_measureAll_82 : decode cX0_measureAll 82 = .ok (.ldiv, 1) := by decide +kernel
theorem dX0_measureAll_83 : decode cX0_measureAll 83 = .ok (.ladd, 1) := by decide +kernel
theorem dX0_measureAll_84 : decode cX0_measureAll 84 = .ok (.lstore_n 2, 1) := by decide +kernel
theorem dX0_measureAll_85 : decode cX0_measureAll 85 = .ok (.aload_n 0, 1) := by decide +kernel
theorem dX0_measureAll_86 : decode cX0_measureAll 86 = .ok (.aload_n 1, 1) := by decide +kernel
theorem dX0_measureAll_87 : decode cX0_measureAll 87 = .ok (.iload 4, 2) := by decide +kernel
theorem dX0_measureAll_89 : decode cX0_measureAll 89 = .ok (.invokevirtual 73, 3) := by decide +kernel
theorem dX0_measureAll_92 : decode cX0_measureAll 92 = .ok (.iinc 4 1, 3) := by decide +kernel
theorem dX0_measureAll_95 : decode cX0_measureAll 95 = .ok (.goto (-86), 3) := by decide +kernel
theorem dX0_measureAll_98 : decode cX0_measureAll 98 = .ok (.ldc2_w 67, 3) := by decide +kernel
theorem dX0_measureAll_101 : decode cX0_measureAll 101 = .ok (.aload_n 0, 1) := by decide +kernel
theorem dX0_measureAll_102 : decode cX0_measureAll 102 = .ok (.getfield 25, 3) := by decide +kernel
theorem dX0_measureAll_105 : decode cX0_measureAll 105 = .ok (.i2l, 1) := by decide +kernel
theorem dX0_measureAll_106 : decode cX0_measureAll 106 = .ok (.lmul, 1) := by decide +kernel
theorem dX0_measureAll_107 : decode cX0_measureAll 107 = .ok (.lstore 4, 2) := by decide +kernel
theorem dX0_measureAll_109 : decode cX0_measureAll 109 = .ok (.aload_n 0, 1) := by decide +kernel
theorem dX0_measureAll_110 : decode cX0_measureAll 110 = .ok (.getfield 29, 3) := by decide +kernel
theorem dX0_measureAll_113 : decode cX0_measureAll 113 = .ok (.i2l, 1) := by decide +kernel
theorem dX0_measureAll_114 : decode cX0_measureAll 114 = .ok (.aload_n 0, 1) := by decide +kernel
theorem dX0_measureAll_115 : decode cX0_measureAll 115 = .ok (.getfield 29, 3) := by decide +kernel
theorem dX0_measureAll_118 : decode cX0_measureAll 118 = .ok (.i2l, 1) := by decide +kernel
theorem dX0_measureAll_119 : decode cX0_measureAll 119 = .ok (.lmul, 1) := by decide +kernel
theorem dX0_measureAll_120 : decode cX0_measureAll 120 = .ok (.lstore 6, 2) := by decide +kernel
theorem dX0_measureAll_122 : decode cX0_measureAll 122 = .ok (.aload_n 0, 1) := by decide +kernel
theorem dX0_measureAll_123 : decode cX0_measureAll 123 = .ok (.getfield 9, 3) := by decide +kernel
theorem dX0_measureAll_126 : decode cX0_measureAll 126 = .ok (.aload_n 0, 1) := by decide +kernel
theorem dX0_measureAll_127 : decode cX0_measureAll 127 = .ok (.getfield 9, 3) := by decide +kernel
theorem dX0_measureAll_130 : decode cX0_measureAll 130 = .ok (.invokestatic 55, 3) := by decide +kernel
theorem dX0_measureAll_133 : decode cX0_measureAll 133 = .ok (.lstore 8, 2) := by decide +kernel
theorem dX0_measureAll_135 : decode cX0_measureAll 135 = .ok (.aload_n 0, 1) := by decide +kernel
theorem dX0_measureAll_136 : decode cX0_measureAll 136 = .ok (.lload_n 2, 1) := by decide +kernel
theorem dX0_measureAll_137 : decode cX0_measureAll 137 = .ok (.lload 6, 2) := by decide +kernel
theorem dX0_measureAll_139 : decode cX0_measureAll 139 = .ok (.lmul, 1) := by decide +kernel
theorem dX0_measureAll_140 : decode cX0_measureAll 140 = .ok (.lload 8, 2) := by decide +kernel
theorem dX0_measureAll_142 : decode cX0_measureAll 142 = .ok (.lload 4, 2) := by decide +kernel
theorem dX0_measureAll_144 : decode cX0_measureAll 144 = .ok (.lmul, 1) := by decide +kernel
theorem dX0_measureAll_145 : decode cX0_measureAll 145 = .ok (.lsub, 1) := by decide +kernel
theorem dX0_measureAll_146 : decode cX0_measureAll 146 = .ok (.lload 4, 2) := by decide +kernel
theorem dX0_measureAll_148 : decode cX0_measureAll 148 = .ok (.lload 6, 2) := by decide +kernel
theorem dX0_measureAll_150 : decode cX0_measureAll 150 = .ok (.lload 8, 2) := by decide +kernel
theorem dX0_measureAll_152 : decode cX0_measureAll 152 = .ok (.lsub, 1) := by decide +kernel
theorem dX0_measureAll_153 : decode cX0_measureAll 153 = .ok (.lmul, 1) := by decide +kernel
theorem dX0_measureAll_154 : decode cX0_measureAll 154 = .ok (.invokevirtual 59, 3) := by decide +kernel
theorem dX0_measureAll_157 : decode cX0_measureAll 157 = .ok (.return_, 1) := by decide +kernel
theorem dX0_startCounts_0 : decode cX0_startCounts 0 = .ok (.aload_n 0, 1) := by decide +kernel
theorem dX0_startCounts_1 : decode cX0_startCounts 1 = .ok (.getfield 9, 3) := by decide +kernel
theorem dX0_startCounts_4 : decode cX0_startCounts 4 = .ok (.iconst 0, 1) := by decide +kernel
theorem dX0_startCounts_5 : decode cX0_startCounts 5 = .ok (.invokestatic 35, 3) := by decide +kernel
theorem dX0_startCounts_8 : decode cX0_startCounts 8 = .ok (.aload_n 0, 1) := by decide +kernel
theorem dX0_startCounts_9 : decode cX0_startCounts 9 = .ok (.iconst 0, 1) := by decide +kernel
theorem dX0_startCounts_10 : decode cX0_startCounts 10 = .ok (.putfield 25, 3) := by decide +kernel
theorem dX0_startCounts_13 : decode cX0_startCounts 13 = .ok (.aload_n 0, 1) := by decide +kernel
theorem dX0_startCounts_14 : decode cX0_startCounts 14 = .ok (.iconst 0, 1) := by decide +kernel
theorem dX0_startCounts_15 : decode cX0_startCounts 15 = .ok (.putfield 29, 3) := by decide +kernel
theorem dX0_startCounts_18 : decode cX0_startCounts 18 = .ok (.return_, 1) := by decide +kernel
theorem dX0_countLabels_0 : decode cX0_countLabels 0 = .ok (.iconst 0, 1) := by decide +kernel
theorem dX0_countLabels_1 : decode cX0_countLabels 1 = .ok (.istore_n 3, 1) := by decide +kernel
theorem dX0_countLabels_2 : decode cX0_countLabels 2 = .ok (.iload_n 3, 1) := by decide +kernel
theorem dX0_countLabels_3 : decode cX0_countLabels 3 = .ok (.bipush 8, 2) := by decide +kernel
theorem dX0_countLabels_5 : decode cX0_countLabels 5 = .ok (.if_icmp .ge 36, 3) := by decide +kernel
theorem dX0_countLabels_8 : decode cX0_countLabels 8 = .ok (.aload_n 1, 1) := by decide +kernel
theorem dX0_countLabels_9 : decode cX0_countLabels 9 = .ok (.iload_n 3, 1) := by decide +kernel
theorem dX0_countLabels_10 : decode cX0_countLabels 10 = .ok (.iload_n 2, 1) := by decide +kernel
theorem dX0_countLabels_11 : decode cX0_countLabels 11 = .ok (.invokevirtual 47, 3) := by decide +kernel
theorem dX0_countLabels_14 : decode cX0_countLabels 14 = .ok (.istore 4, 2) := by decide +kernel
theorem dX0_countLabels_16 : decode cX0_countLabels 16 = .ok (.iload 4, 2) := by decide +kernel
theorem dX0_countLabels_18 : decode cX0_countLabels 18 = .ok (.invokestatic 51, 3) := by decide +kernel
theorem dX0_countLabels_21 : decode cX0_countLabels 21 = .ok (.ifCond .eq 14, 3) := by decide +kernel
theorem dX0_countLabels_24 : decode cX0_countLabels 24 = .ok (.aload_n 0, 1) := by decide +kernel
theorem dX0_countLabels_25 : decode cX0_countLabels 25 = .ok (.getfield 9, 3) := by decide +kernel
theorem dX0_countLabels_28 : decode cX0_countLabels 28 = .ok (.iload 4, 2) := by decide +kernel
theorem dX0_countLabels_30 : decode cX0_countLabels 30 = .ok (.dup2, 1) := by decide +kernel
theorem dX0_countLabels_31 : decode cX0_countLabels 31 = .ok (.iaload, 1) := by decide +kernel
theorem dX0_countLabels_32 : decode cX0_countLabels 32 = .ok (.iconst 1, 1) := by decide +kernel
theorem dX0_countLabels_33 : decode cX0_countLabels 33 = .ok (.iadd, 1) := by decide +kernel
theorem dX0_countLabels_34 : decode cX0_countLabels 34 = .ok (.iastore, 1) := by decide +kernel
theorem dX0_countLabels_35 : decode cX0_countLabels 35 = .ok (.iinc 3 1, 3) := by decide +kernel
theorem dX0_countLabels_38 : decode cX0_countLabels 38 = .ok (.goto (-36), 3) := by decide +kernel
theorem dX0_countLabels_41 : decode cX0_countLabels 41 = .ok (.return_, 1) := by decide +kernel
theorem dX0_likePairs_0 : decode cX0_likePairs 0 = .ok (.iconst 0, 1) := by decide +kernel
theorem dX0_likePairs_1 : decode cX0_likePairs 1 = .ok (.istore_n 2, 1) := by decide +kernel
theorem dX0_likePairs_2 : decode cX0_likePairs 2 = .ok (.iconst 0, 1) := by decide +kernel
theorem dX0_likePairs_3 : decode cX0_likePairs 3 = .ok (.istore_n 3, 1) := by decide +kernel
theorem dX0_likePairs_4 : decode cX0_likePairs 4 = .ok (.iload_n 3, 1) := by decide +kernel
theorem dX0_likePairs_5 : decode cX0_likePairs 5 = .ok (.bipush 8, 2) := by decide +kernel
theorem dX0_likePairs_7 : decode cX0_likePairs 7 = .ok (.if_icmp .ge 53, 3) := by decide +kernel
theorem dX0_likePairs_10 : decode cX0_likePairs 10 = .ok (.aload_n 0, 1) := by decide +kernel
theorem dX0_likePairs_11 : decode cX0_likePairs 11 = .ok (.iload_n 3, 1) := by decide +kernel
theorem dX0_likePairs_12 : decode cX0_likePairs 12 = .ok (.iload_n 1, 1) := by decide +kernel
theorem dX0_likePairs_13 : decode cX0_likePairs 13 = .ok (.invokevirtual 47, 3) := by decide +kernel
theorem dX0_likePairs_16 : decode cX0_likePairs 16 = .ok (.istore 4, 2) := by decide +kernel
theorem dX0_likePairs_18 : decode cX0_likePairs 18 = .ok (.iconst 0, 1) := by decide +kernel
theorem dX0_likePairs_19 : decode cX0_likePairs 19 = .ok (.istore 5, 2) := by decide +kernel
theorem dX0_likePairs_21 : decode cX0_likePairs 21 = .ok (.iload 5, 2) := by decide +kernel
theorem dX0_likePairs_23 : decode cX0_likePairs 23 = .ok (.iload_n 3, 1) := by decide +kernel
theorem dX0_likePairs_24 : decode cX0_likePairs 24 = .ok (.if_icmp .ge 30, 3) := by decide +kernel
theorem dX0_likePairs_27 : decode cX0_likePairs 27 = .ok (.iload 4, 2) := by decide +kernel
theorem dX0_likePairs_29 : decode cX0_likePairs 29 = .ok (.iconst (-1), 1) := by decide +kernel
theorem dX0_likePairs_30 : decode cX0_likePairs 30 = .ok (.if_icmp .eq 18, 3) := by decide +kernel
theorem dX0_likePairs_33 : decode cX0_likePairs 33 = .ok (.iload 4, 2) := by decide +kernel
theorem dX0_likePairs_35 : decode cX0_likePairs 35 = .ok (.aload_n 0, 1) := by decide +kernel
theorem dX0_likePairs_36 : decode cX0_likePairs 36 = .ok (.iload 5, 2) := by decide +kernel
theorem dX0_likePairs_38 : decode cX0_likePairs 38 = .ok (.iload_n 1, 1) := by decide +kernel
theorem dX0_likePairs_39 : decode cX0_likePairs 39 = .ok (.invokevirtual 47, 3) := by decide +kernel
theorem dX0_likePairs_42 : decode cX0_likePairs 42 = .ok (.if_icmp .ne 6, 3) := by decide +kernel
theorem dX0_likePairs_45 : decode cX0_likePairs 45 = .ok (.iinc 2 1, 3) := by decide +kernel
theorem dX0_likePairs_48 : decode cX0_likePairs 48 = .ok (.iinc 5 1, 3) := by decide +kernel
theorem dX0_likePairs_51 : decode cX0_likePairs 51 = .ok (.goto (-30), 3) := by decide +kernel
theorem dX0_likePairs_54 : decode cX0_likePairs 54 = .ok (.iinc 3 1, 3) := by decide +kernel
theorem dX0_likePairs_57 : decode cX0_likePairs 57 = .ok (.goto (-53), 3) := by decide +kernel
theorem dX0_likePairs_60 : decode cX0_likePairs 60 = .ok (.iload_n 2, 1) := by decide +kernel
theorem dX0_likePairs_61 : decode cX0_likePairs 61 = .ok (.ireturn, 1) := by decide +kernel
theorem dX0_sumOfProducts_0 : decode cX0_sumOfProducts 0 = .ok (.lconst 0, 1) := by decide +kernel
theorem dX0_sumOfProducts_1 : decode cX0_sumOfProducts 1 = .ok (.lstore_n 2, 1) := by decide +kernel
theorem dX0_sumOfProducts_2 : decode cX0_sumOfProducts 2 = .ok (.iconst 0, 1) := by decide +kernel
theorem dX0_sumOfProducts_3 : decode cX0_sumOfProducts 3 = .ok (.istore 4, 2) := by decide +kernel
theorem dX0_sumOfProducts_5 : decode cX0_sumOfProducts 5 = .ok (.iload 4, 2) := by decide +kernel
theorem dX0_sumOfProducts_7 : decode cX0_sumOfProducts 7 = .ok (.iconst 5, 1) := by decide +kernel
theorem dX0_sumOfProducts_8 : decode cX0_sumOfProducts 8 = .ok (.if_icmp .ge 23, 3) := by decide +kernel
theorem dX0_sumOfProducts_11 : decode cX0_sumOfProducts 11 = .ok (.lload_n 2, 1) := by decide +kernel
theorem dX0_sumOfProducts_12 : decode cX0_sumOfProducts 12 = .ok (.aload_n 0, 1) := by decide +kernel
theorem dX0_sumOfProducts_13 : decode cX0_sumOfProducts 13 = .ok (.iload 4, 2) := by decide +kernel
theorem dX0_sumOfProducts_15 : decode cX0_sumOfProducts 15 = .ok (.iaload, 1) := by decide +kernel
theorem dX0_sumOfProducts_16 : decode cX0_sumOfProducts 16 = .ok (.i2l, 1) := by decide +kernel
theorem dX0_sumOfProducts_17 : decode cX0_sumOfProducts 17 = .ok (.aload_n 1, 1) := by decide +kernel
theorem dX0_sumOfProducts_18 : decode cX0_sumOfProducts 18 = .ok (.iload 4, 2) := by decide +kernel
theorem dX0_sumOfProducts_20 : decode cX0_sumOfProducts 20 = .ok (.iaload, 1) := by decide +kernel
theorem dX0_sumOfProducts_21 : decode cX0_sumOfProducts 21 = .ok (.i2l, 1) := by decide +kernel
theorem dX0_sumOfProducts_22 : decode cX0_sumOfProducts 22 = .ok (.lmul, 1) := by decide +kernel
theorem dX0_sumOfProducts_23 : decode cX0_sumOfProducts 23 = .ok (.ladd, 1) := by decide +kernel
theorem dX0_sumOfProducts_24 : decode cX0_sumOfProducts 24 = .ok (.lstore_n 2, 1) := by decide +kernel
theorem dX0_sumOfProducts_25 : decode cX0_sumOfProducts 25 = .ok (.iinc 4 1, 3) := by decide +kernel
theorem dX0_sumOfProducts_28 : decode cX0_sumOfProducts 28 = .ok (.goto (-23), 3) := by decide +kernel
theorem dX0_sumOfProducts_31 : decode cX0_sumOfProducts 31 = .ok (.lload_n 2, 1) := by decide +kernel
theorem dX0_sumOfProducts_32 : decode cX0_sumOfProducts 32 = .ok (.lreturn, 1) := by decide +kernel
theorem dX0_setFraction_0 : decode cX0_setFraction 0 = .ok (.lload_n 1, 1) := by decide +kernel
theorem dX0_setFraction_1 : decode cX0_setFraction 1 = .ok (.lconst 0, 1) := by decide +kernel
theorem dX0_setFraction_2 : decode cX0_setFraction 2 = .ok (.lcmp, 1) := by decide +kernel
theorem dX0_setFraction_3 : decode cX0_setFraction 3 = .ok (.ifCond .ge 8, 3) := by decide +kernel
theorem dX0_setFraction_6 : decode cX0_setFraction 6 = .ok (.lload_n 1, 1) := by decide +kernel
theorem dX0_setFraction_7 : decode cX0_setFraction 7 = .ok (.lneg, 1) := by decide +kernel
theorem dX0_setFraction_8 : decode cX0_setFraction 8 = .ok (.goto 4, 3) := by decide +kernel
theorem dX0_setFraction_11 : decode cX0_setFraction 11 = .ok (.lload_n 1, 1) := by decide +kernel
theorem dX0_setFraction_12 : decode cX0_setFraction 12 = .ok (.lload_n 3, 1) := by decide +kernel
theorem dX0_setFraction_13 : decode cX0_setFraction 13 = .ok (.invokestatic 77, 3) := by decide +kernel
theorem dX0_setFraction_16 : decode cX0_setFraction 16 = .ok (.lstore 5, 2) := by decide +kernel
theorem dX0_setFraction_18 : decode cX0_setFraction 18 = .ok (.lload 5, 2) := by decide +kernel
theorem dX0_setFraction_20 : decode cX0_setFraction 20 = .ok (.lconst 0, 1) := by decide +kernel
theorem dX0_setFraction_21 : decode cX0_setFraction 21 = .ok (.lcmp, 1) := by decide +kernel
theorem dX0_setFraction_22 : decode cX0_setFraction 22 = .ok (.ifCond .ne 6, 3) := by decide +kernel
theorem dX0_setFraction_25 : decode cX0_setFraction 25 = .ok (.lconst 1, 1) := by decide +kernel
theorem dX0_setFraction_26 : decode cX0_setFraction 26 = .ok (.lstore 5, 2) := by decide +kernel
theorem dX0_setFraction_28 : decode cX0_setFraction 28 = .ok (.aload_n 0, 1) := by decide +kernel
theorem dX0_setFraction_29 : decode cX0_setFraction 29 = .ok (.lload_n 1, 1) := by decide +kernel
theorem dX0_setFraction_30 : decode cX0_setFraction 30 = .ok (.lload 5, 2) := by decide +kernel
theorem dX0_setFraction_32 : decode cX0_setFraction 32 = .ok (.ldiv, 1) := by decide +kernel
theorem dX0_setFraction_33 : decode cX0_setFraction 33 = .ok (.putfield 18, 3) := by decide +kernel
theorem dX0_setFraction_36 : decode cX0_setFraction 36 = .ok (.aload_n 0, 1) := by decide +kernel
theorem dX0_setFraction_37 : decode cX0_setFraction 37 = .ok (.lload_n 3, 1) := by decide +kernel
theorem dX0_setFraction_38 : decode cX0_setFraction 38 = .ok (.lload 5, 2) := by decide +kernel
theorem dX0_setFraction_40 : decode cX0_setFraction 40 = .ok (.ldiv, 1) := by decide +kernel
theorem dX0_setFraction_41 : decode cX0_setFraction 41 = .ok (.putfield 22, 3) := by decide +kernel
theorem dX0_setFraction_44 : decode cX0_setFraction 44 = .ok (.return_, 1) := by decide +kernel
theorem dX0_commonDivisor_0 : decode cX0_commonDivisor 0 = .ok (.lload_n 0, 1) := by decide +kernel
theorem dX0_commonDivisor_1 : decode cX0_commonDivisor 1 = .ok (.lstore 4, 2) := by decide +kernel
theorem dX0_commonDivisor_3 : decode cX0_commonDivisor 3 = .ok (.lload_n 2, 1) := by decide +kernel
theorem dX0_commonDivisor_4 : decode cX0_commonDivisor 4 = .ok (.lstore 6, 2) := by decide +kernel
theorem dX0_commonDivisor_6 : decode cX0_commonDivisor 6 = .ok (.iconst 0, 1) := by decide +kernel
theorem dX0_commonDivisor_7 : decode cX0_commonDivisor 7 = .ok (.istore 8, 2) := by decide +kernel
theorem dX0_commonDivisor_9 : decode cX0_commonDivisor 9 = .ok (.iload 8, 2) := by decide +kernel
theorem dX0_commonDivisor_11 : decode cX0_commonDivisor 11 = .ok (.sipush 200, 3) := by decide +kernel
theorem dX0_commonDivisor_14 : decode cX0_commonDivisor 14 = .ok (.if_icmp .ge 31, 3) := by decide +kernel
theorem dX0_commonDivisor_17 : decode cX0_commonDivisor 17 = .ok (.lload 6, 2) := by decide +kernel
theorem dX0_commonDivisor_19 : decode cX0_commonDivisor 19 = .ok (.lconst 0, 1) := by decide +kernel
theorem dX0_commonDivisor_20 : decode cX0_commonDivisor 20 = .ok (.lcmp, 1) := by decide +kernel
theorem dX0_commonDivisor_21 : decode cX0_commonDivisor 21 = .ok (.ifCond .eq 24, 3) := by decide +kernel
theorem dX0_commonDivisor_24 : decode cX0_commonDivisor 24 = .ok (.lload 4, 2) := by decide +kernel
theorem dX0_commonDivisor_26 : decode cX0_commonDivisor 26 = .ok (.lload 6, 2) := by decide +kernel
theorem dX0_commonDivisor_28 : decode cX0_commonDivisor 28 = .ok (.lrem, 1) := by decide +kernel
theorem dX0_commonDivisor_29 : decode cX0_commonDivisor 29 = .ok (.lstore 9, 2) := by decide +kernel
theorem dX0_commonDivisor_31 : decode cX0_commonDivisor 31 = .ok (.lload 6, 2) := by decide +kernel
theorem dX0_commonDivisor_33 : decode cX0_commonDivisor 33 = .ok (.lstore 4, 2) := by decide +kernel
theorem dX0_commonDivisor_35 : decode cX0_commonDivisor 35 = .ok (.lload 9, 2) := by decide +kernel
theorem dX0_commonDivisor_37 : decode cX0_commonDivisor 37 = .ok (.lstore 6, 2) := by decide +kernel
theorem dX0_commonDivisor_39 : decode cX0_commonDivisor 39 = .ok (.iinc 8 1, 3) := by decide +kernel
theorem dX0_commonDivisor_42 : decode cX0_commonDivisor 42 = .ok (.goto (-33), 3) := by decide +kernel
theorem dX0_commonDivisor_45 : decode cX0_commonDivisor 45 = .ok (.lload 4, 2) := by decide +kernel
theorem dX0_commonDivisor_47 : decode cX0_commonDivisor 47 = .ok (.lreturn, 1) := by decide +kernel
theorem dX1_init_0 : decode cX1_init 0 = .ok (.aload_n 0, 1) := by decide +kernel
theorem dX1_init_1 : decode cX1_init 1 = .ok (.invokespecial 3, 3) := by decide +kernel
theorem dX1_init_4 : decode cX1_init 4 = .ok (.aload_n 0, 1) := by decide +kernel
theorem dX1_init_5 : decode cX1_init 5 = .ok (.bipush 6, 2) := by decide +kernel
theorem dX1_init_7 : decode cX1_init 7 = .ok (.newarray .int, 2) := by decide +kernel
theorem dX1_init_9 : decode cX1_init 9 = .ok (.putfield 9, 3) := by decide +kernel
theorem dX1_init_12 : decode cX1_init 12 = .ok (.aload_n 0, 1) := by decide +kernel
theorem dX1_init_13 : decode cX1_init 13 = .ok (.bipush 6, 2) := by decide +kernel
theorem dX1_init_15 : decode cX1_init 15 = .ok (.newarray .int, 2) := by decide +kernel
theorem dX1_init_17 : decode cX1_init 17 = .ok (.putfield 15, 3) := by decide +kernel
theorem dX1_init_20 : decode cX1_init 20 = .ok (.aload_n 0, 1) := by decide +kernel
theorem dX1_init_21 : decode cX1_init 21 = .ok (.bipush 6, 2) := by decide +kernel
theorem dX1_init_23 : decode cX1_init 23 = .ok (.newarray .int, 2) := by decide +kernel
theorem dX1_init_25 : decode cX1_init 25 = .ok (.putfield 18, 3) := by decide +kernel
theorem dX1_init_28 : decode cX1_init 28 = .ok (.aload_n 0, 1) := by decide +kernel
theorem dX1_init_29 : decode cX1_init 29 = .ok (.bipush 6, 2) := by decide +kernel
theorem dX1_init_31 : decode cX1_init 31 = .ok (.newarray .int, 2) := by decide +kernel
theorem dX1_init_33 : decode cX1_init 33 = .ok (.putfield 21, 3) := by decide +kernel
theorem dX1_init_36 : decode cX1_init 36 = .ok (.aload_n 0, 1) := by decide +kernel
theorem dX1_init_37 : decode cX1_init 37 = .ok (.bipush 6, 2) := by decide +kernel
theorem dX1_init_39 : decode cX1_init 39 = .ok (.newarray .boolean, 2) := by decide +kernel
theorem dX1_init_41 : decode cX1_init 41 = .ok (.putfield 24, 3) := by decide +kernel
theorem dX1_init_44 : decode cX1_init 44 = .ok (.aload_n 0, 1) := by decide +kernel
theorem dX1_init_45 : decode cX1_init 45 = .ok (.bipush 8, 2) := by decide +kernel
theorem dX1_init_47 : decode cX1_init 47 = .ok (.newarray .int, 2) := by decide +kernel
theorem dX1_init_49 : decode cX1_init 49 = .ok (.putfield 28, 3) := by decide +kernel
theorem dX1_init_52 : decode cX1_init 52 = .ok (.return_, 1) := by decide +kernel
theorem dX1_size_0 : decode cX1_size 0 = .ok (.aload_n 0, 1) := by decide +kernel
theorem dX1_size_1 : decode cX1_size 1 = .ok (.getfield 31, 3) := by decide +kernel
theorem dX1_size_4 : decode cX1_size 4 = .ok (.ireturn, 1) := by decide +kernel
theorem dX1_hasRule_0 : decode cX1_hasRule 0 = .ok (.iload_n 1, 1) := by decide +kernel
theorem dX1_hasRule_1 : decode cX1_hasRule 1 = .ok (.ifCond .lt 15, 3) := by decide +kernel
theorem dX1_hasRule_4 : decode cX1_hasRule 4 = .ok (.iload_n 1, 1) := by decide +kernel
theorem dX1_hasRule_5 : decode cX1_hasRule 5 = .ok (.aload_n 0, 1) := by decide +kernel
theorem dX1_hasRule_6 : decode cX1_hasRule 6 = .ok (.getfield 31, 3) := by decide +kernel
theorem dX1_hasRule_9 : decode cX1_hasRule 9 = .ok (.if_icmp .ge 7, 3) := by decide +kernel
theorem dX1_hasRule_12 : decode cX1_hasRule 12 = .ok (.iconst 1, 1) := by decide +kernel
theorem dX1_hasRule_13 : decode cX1_hasRule 13 = .ok (.goto 4, 3) := by decide +kernel
theorem dX1_hasRule_16 : decode cX1_hasRule 16 = .ok (.iconst 0, 1) := by decide +kernel
theorem dX1_hasRule_17 : decode cX1_hasRule 17 = .ok (.ireturn, 1) := by decide +kernel
theorem dX1_addRule_0 : decode cX1_addRule 0 = .ok (.aload_n 0, 1) := by decide +kernel
theorem dX1_addRule_1 : decode cX1_addRule 1 = .ok (.getfield 31, 3) := by decide +kernel
theorem dX1_addRule_4 : decode cX1_addRule 4 = .ok (.bipush 6, 2) := by decide +kernel
theorem dX1_addRule_6 : decode cX1_addRule 6 = .ok (.if_icmp .lt 6, 3) := by decide +kernel
theorem dX1_addRule_9 : decode cX1_addRule 9 = .ok (.bipush (-104), 2) := by decide +kernel
theorem dX1_addRule_11 : decode cX1_addRule 11 = .ok (.ireturn, 1) := by decide +kernel
theorem dX1_addRule_12 : decode cX1_addRule 12 = .ok (.aload_n 0, 1) := by decide +kernel
theorem dX1_addRule_13 : decode cX1_addRule 13 = .ok (.getfield 9, 3) := by decide +kernel
theorem dX1_addRule_16 : decode cX1_addRule 16 = .ok (.aload_n 0, 1) := by decide +kernel
theorem dX1_addRule_17 : decode cX1_addRule 17 = .ok (.getfield 31, 3) := by decide +kernel
theorem dX1_addRule_20 : decode cX1_addRule 20 = .ok (.iload_n 1, 1) := by decide +kernel
theorem dX1_addRule_21 : decode cX1_addRule 21 = .ok (.iastore, 1) := by decide +kernel
theorem dX1_addRule_22 : decode cX1_addRule 22 = .ok (.aload_n 0, 1) := by decide +kernel
theorem dX1_addRule_23 : decode cX1_addRule 23 = .ok (.getfield 15, 3) := by decide +kernel
theorem dX1_addRule_26 : decode cX1_addRule 26 = .ok (.aload_n 0, 1) := by decide +kernel
theorem dX1_addRule_27 : decode cX1_addRule 27 = .ok (.getfield 31, 3) := by decide +kernel
theorem dX1_addRule_30 : decode cX1_addRule 30 = .ok (.iload_n 2, 1) := by decide +kernel
theorem dX1_addRule_31 : decode cX1_addRule 31 = .ok (.iastore, 1) := by decide +kernel
theorem dX1_addRule_32 : decode cX1_addRule 32 = .ok (.aload_n 0, 1) := by decide +kernel
theorem dX1_addRule_33 : decode cX1_addRule 33 = .ok (.getfield 18, 3) := by decide +kernel
theorem dX1_addRule_36 : decode cX1_addRule 36 = .ok (.aload_n 0, 1) := by decide +kernel
theorem dX1_addRule_37 : decode cX1_addRule 37 = .ok (.getfield 31, 3) := by decide +kernel
theorem dX1_addRule_40 : decode cX1_addRule 40 = .ok (.iload_n 3, 1) := by decide +kernel
theorem dX1_addRule_41 : decode cX1_addRule 41 = .ok (.iastore, 1) := by decide +kernel
theorem dX1_addRule_42 : decode cX1_addRule 42 = .ok (.aload_n 0, 1) := by decide +kernel
theorem dX1_addRule_43 : decode cX1_addRule 43 = .ok (.getfield 21, 3) := by decide +kernel
theorem dX1_addRule_46 : decode cX1_addRule 46 = .ok (.aload_n 0, 1) := by decide +kernel
theorem dX1_addRule_47 : decode cX1_addRule 47 = .ok (.getfield 31, 3) := by decide +kernel
theorem dX1_addRule_50 : decode cX1_addRule 50 = .ok (.iload 4, 2) := by decide +kernel
theorem dX1_addRule_52 : decode cX1_addRule 52 = .ok (.iastore, 1) := by decide +kernel
theorem dX1_addRule_53 : decode cX1_addRule 53 = .ok (.aload_n 0, 1) := by decide +kernel
theorem dX1_addRule_54 : decode cX1_addRule 54 = .ok (.getfield 24, 3) := by decide +kernel
theorem dX1_addRule_57 : decode cX1_addRule 57 = .ok (.aload_n 0, 1) := by decide +kernel
theorem dX1_addRule_58 : decode cX1_addRule 58 = .ok (.getfield 31, 3) := by decide +kernel
theorem dX1_addRule_61 : decode cX1_addRule 61 = .ok (.iconst 1, 1) := by decide +kernel
theorem dX1_addRule_62 : decode cX1_addRule 62 = .ok (.bastore, 1) := by decide +kernel
theorem dX1_addRule_63 : decode cX1_addRule 63 = .ok (.aload_n 0, 1) := by decide +kernel
theorem dX1_addRule_64 : decode cX1_addRule 64 = .ok (.dup, 1) := by decide +kernel
theorem dX1_addRule_65 : decode cX1_addRule 65 = .ok (.getfield 31, 3) := by decide +kernel
theorem dX1_addRule_68 : decode cX1_addRule 68 = .ok (.dup_x1, 1) := by decide +kernel
theorem dX1_addRule_69 : decode cX1_addRule 69 = .ok (.iconst 1, 1) := by decide +kernel
theorem dX1_addRule_70 : decode cX1_addRule 70 = .ok (.iadd, 1) := by decide +kernel
theorem dX1_addRule_71 : decode cX1_addRule 71 = .ok (.putfield 31, 3) := by decide +kernel
theorem dX1_addRule_74 : decode cX1_addRule 74 = .ok (.ireturn, 1) := by decide +kernel
theorem dX1_isOn_0 : decode cX1_isOn 0 = .ok (.aload_n 0, 1) := by decide +kernel
theorem dX1_isOn_1 : decode cX1_isOn 1 = .ok (.getfield 24, 3) := by decide +kernel
theorem dX1_isOn_4 : decode cX1_isOn 4 = .ok (.iload_n 1, 1) := by decide +kernel
theorem dX1_isOn_5 : decode cX1_isOn 5 = .ok (.baload, 1) := by decide +kernel
theorem dX1_isOn_6 : decode cX1_isOn 6 = .ok (.ireturn, 1) := by decide +kernel
theorem dX1_setOn_0 : decode cX1_setOn 0 = .ok (.aload_n 0, 1) := by decide +kernel
theorem dX1_setOn_1 : decode cX1_setOn 1 = .ok (.getfield 24, 3) := by decide +kernel
theorem dX1_setOn_4 : decode cX1_setOn 4 = .ok (.iload_n 1, 1) := by decide +kernel
theorem dX1_setOn_5 : decode cX1_setOn 5 = .ok (.iload_n 2, 1) := by decide +kernel
theorem dX1_setOn_6 : decode cX1_setOn 6 = .ok (.bastore, 1) := by decide +kernel
theorem dX1_setOn_7 : decode cX1_setOn 7 = .ok (.return_, 1) := by decide +kernel
theorem dX1_replace_0 : decode cX1_replace 0 = .ok (.aload_n 0, 1) := by decide +kernel
theorem dX1_replace_1 : decode cX1_replace 1 = .ok (.getfield 28, 3) := by decide +kernel
theorem dX1_replace_4 : decode cX1_replace 4 = .ok (.iload_n 1, 1) := by decide +kernel
theorem dX1_replace_5 : decode cX1_replace 5 = .ok (.iaload, 1) := by decide +kernel
theorem dX1_replace_6 : decode cX1_replace 6 = .ok (.istore_n 3, 1) := by decide +kernel
theorem dX1_replace_7 : decode cX1_replace 7 = .ok (.aload_n 0, 1) := by decide +kernel
theorem dX1_replace_8 : decode cX1_replace 8 = .ok (.getfield 28, 3) := by decide +kernel
theorem dX1_replace_11 : decode cX1_replace 11 = .ok (.iload_n 1, 1) := by decide +kernel
theorem dX1_replace_12 : decode cX1_replace 12 = .ok (.iload_n 2, 1) := by decide +kernel
theorem dX1_replace_13 : decode cX1_replace 13 = .ok (.iastore, 1) := by decide +kernel
theorem dX1_replace_14 : decode cX1_replace 14 = .ok (.iload_n 3, 1) := by decide +kernel
theorem dX1_replace_15 : decode cX1_replace 15 = .ok (.ireturn, 1) := by decide +kernel
theorem dX1_wordOn_0 : decode cX1_wordOn 0 = .ok (.aload_n 2, 1) := by decide +kernel
theorem dX1_wordOn_1 : decode cX1_wordOn 1 = .ok (.aload_n 0, 1) := by decide +kernel
theorem dX1_wordOn_2 : decode cX1_wordOn 2 = .ok (.getfield 15, 3) := by decide +kernel
theorem dX1_wordOn_5 : decode cX1_wordOn 5 = .ok (.iload_n 1, 1) := by decide +kernel
theorem dX1_wordOn_6 : decode cX1_wordOn 6 = .ok (.iaload, 1) := by decide +kernel
theorem dX1_wordOn_7 : decode cX1_wordOn 7 = .ok (.iload_n 3, 1) := by decide +kernel
theorem dX1_wordOn_8 : decode cX1_wordOn 8 = .ok (.invokevirtual 35, 3) := by decide +kernel
theorem dX1_wordOn_11 : decode cX1_wordOn 11 = .ok (.istore 4, 2) := by decide +kernel
theorem dX1_wordOn_13 : decode cX1_wordOn 13 = .ok (.aload_n 2, 1) := by decide +kernel
theorem dX1_wordOn_14 : decode cX1_wordOn 14 = .ok (.aload_n 0, 1) := by decide +kernel
theorem dX1_wordOn_15 : decode cX1_wordOn 15 = .ok (.getfield 18, 3) := by decide +kernel
theorem dX1_wordOn_18 : decode cX1_wordOn 18 = .ok (.iload_n 1, 1) := by decide +kernel
theorem dX1_wordOn_19 : decode cX1_wordOn 19 = .ok (.iaload, 1) := by decide +kernel
theorem dX1_wordOn_20 : decode cX1_wordOn 20 = .ok (.iload_n 3, 1) := by decide +kernel
theorem dX1_wordOn_21 : decode cX1_wordOn 21 = .ok (.invokevirtual 35, 3) := by decide +kernel
theorem dX1_wordOn_24 : decode cX1_wordOn 24 = .ok (.istore 5, 2) := by decide +kernel
theorem dX1_wordOn_26 : decode cX1_wordOn 26 = .ok (.aload_n 0, 1) := by decide +kernel
theorem dX1_wordOn_27 : decode cX1_wordOn 27 = .ok (.getfield 9, 3) := by decide +kernel
theorem dX1_wordOn_30 : decode cX1_wordOn 30 = .ok (.iload_n 1, 1) := by decide +kernel
theorem dX1_wordOn_31 : decode cX1_wordOn 31 = .ok (.iaload, 1) := by decide +kernel
theorem dX1_wordOn_32 : decode cX1_wordOn 32 = .ok (.tableswitch 104 0 2 #[28, 48, 68], 28) := by decide +kernel
theorem dX1_wordOn_60 : decode cX1_wordOn 60 = .ok (.iload 5, 2) := by decide +kernel
theorem dX1_wordOn_62 : decode cX1_wordOn 62 = .ok (.ifCond .ne 8, 3) := by decide +kernel
theorem dX1_wordOn_65 : decode cX1_wordOn 65 = .ok (.bipush (-2), 2) := by decide +kernel
theorem dX1_wordOn_67 : decode cX1_wordOn 67 = .ok (.goto 12, 3) := by decide +kernel
theorem dX1_wordOn_70 : decode cX1_wordOn 70 = .ok (.iload 4, 2) := by decide +kernel
theorem dX1_wordOn_72 : decode cX1_wordOn 72 = .ok (.iload 5, 2) := by decide +kernel
theorem dX1_wordOn_74 : decode cX1_wordOn 74 = .ok (.idiv, 1) := by decide +kernel
theorem dX1_wordOn_75 : decode cX1_wordOn 75 = .ok (.iconst 5, 1) := by decide +kernel
theorem dX1_wordOn_76 : decode cX1_wordOn 76 = .ok (.invokestatic 41, 3) := by decide +kernel
theorem dX1_wordOn_79 : decode cX1_wordOn 79 = .ok (.ireturn, 1) := by decide +kernel
theorem dX1_wordOn_80 : decode cX1_wordOn 80 = .ok (.iload 5, 2) := by decide +kernel
theorem dX1_wordOn_82 : decode cX1_wordOn 82 = .ok (.ifCond .ne 8, 3) := by decide +kernel
theorem dX1_wordOn_85 : decode cX1_wordOn 85 = .ok (.bipush (-2), 2) := by decide +kernel
theorem dX1_wordOn_87 : decode cX1_wordOn 87 = .ok (.goto 12, 3) := by decide +kernel
theorem dX1_wordOn_90 : decode cX1_wordOn 90 = .ok (.iload 4, 2) := by decide +kernel
theorem dX1_wordOn_92 : decode cX1_wordOn 92 = .ok (.iload 5, 2) := by decide +kernel
theorem dX1_wordOn_94 : decode cX1_wordOn 94 = .ok (.irem, 1) := by decide +kernel
theorem dX1_wordOn_95 : decode cX1_wordOn 95 = .ok (.iconst 5, 1) := by decide +kernel
theorem dX1_wordOn_96 : decode cX1_wordOn 96 = .ok (.invokestatic 41, 3) := by decide +kernel
theorem dX1_wordOn_99 : decode cX1_wordOn 99 = .ok (.ireturn, 1) := by decide +kernel
theorem dX1_wordOn_100 : decode cX1_wordOn 100 = .ok (.iload 4, 2) := by decide +kernel
theorem dX1_wordOn_102 : decode cX1_wordOn 102 = .ok (.aload_n 0, 1) := by decide +kernel
theorem dX1_wordOn_103 : decode cX1_wordOn 103 = .ok (.getfield 21, 3) := by decide +kernel
theorem dX1_wordOn_106 : decode cX1_wordOn 106 = .ok (.iload_n 1, 1) := by decide +kernel
theorem dX1_wordOn_107 : decode cX1_wordOn 107 = .ok (.iaload, 1) := by decide +kernel
theorem dX1_wordOn_108 : decode cX1_wordOn 108 = .ok (.iadd, 1) := by decide +kernel
theorem dX1_wordOn_109 : decode cX1_wordOn 109 = .ok (.istore 6, 2) := by decide +kernel
theorem dX1_wordOn_111 : decode cX1_wordOn 111 = .ok (.iload 6, 2) := by decide +kernel
theorem dX1_wordOn_113 : decode cX1_wordOn 113 = .ok (.invokestatic 46, 3) := by decide +kernel
theorem dX1_wordOn_116 : decode cX1_wordOn 116 = .ok (.ifCond .eq 17, 3) := by decide +kernel
theorem dX1_wordOn_119 : decode cX1_wordOn 119 = .ok (.aload_n 0, 1) := by decide +kernel
theorem dX1_wordOn_120 : decode cX1_wordOn 120 = .ok (.getfield 28, 3) := by decide +kernel
theorem dX1_wordOn_123 : decode cX1_wordOn 123 = .ok (.iload 6, 2) := by decide +kernel
theorem dX1_wordOn_125 : decode cX1_wordOn 125 = .ok (.iaload, 1) := by decide +kernel
theorem dX1_wordOn_126 : decode cX1_wordOn 126 = .ok (.iconst 5, 1) := by decide +kernel
theorem dX1_wordOn_127 : decode cX1_wordOn 127 = .ok (.invokestatic 41, 3) := by decide +kernel
theorem dX1_wordOn_130 : decode cX1_wordOn 130 = .ok (.goto 5, 3) := by decide +kernel
theorem dX1_wordOn_133 : decode cX1_wordOn 133 = .ok (.bipush (-3), 2) := by decide +kernel
theorem dX1_wordOn_135 : decode cX1_wordOn 135 = .ok (.ireturn, 1) := by decide +kernel
theorem dX1_wordOn_136 : decode cX1_wordOn 136 = .ok (.iload 4, 2) := by decide +kernel
theorem dX1_wordOn_138 : decode cX1_wordOn 138 = .ok (.aload_n 0, 1) := by decide +kernel
theorem dX1_wordOn_139 : decode cX1_wordOn 139 = .ok (.getfield 21, 3) := by decide +kernel
theorem dX1_wordOn_142 : decode cX1_wordOn 142 = .ok (.iload_n 1, 1) := by decide +kernel
theorem dX1_wordOn_143 : decode cX1_wordOn 143 = .ok (.iaload, 1) := by decide +kernel
theorem dX1_wordOn_144 : decode cX1_wordOn 144 = .ok (.if_icmp .ge 7, 3) := by decide +kernel
theorem dX1_wordOn_147 : decode cX1_wordOn 147 = .ok (.iconst 0, 1) := by decide +kernel
theorem dX1_wordOn_148 : decode cX1_wordOn 148 = .ok (.goto 4, 3) := by decide +kernel
theorem dX1_wordOn_151 : decode cX1_wordOn 151 = .ok (.iconst 1, 1) := by decide +kernel
theorem dX1_wordOn_152 : decode cX1_wordOn 152 = .ok (.ireturn, 1) := by decide +kernel
theorem dX2_init_0 : decode cX2_init 0 = .ok (.aload_n 0, 1) := by decide +kernel
theorem dX2_init_1 : decode cX2_init 1 = .ok (.invokespecial 3, 3) := by decide +kernel
theorem dX2_init_4 : decode cX2_init 4 = .ok (.aload_n 0, 1) := by decide +kernel
theorem dX2_init_5 : decode cX2_init 5 = .ok (.iconst 4, 1) := by decide +kernel
theorem dX2_init_6 : decode cX2_init 6 = .ok (.bipush 40, 2) := by decide +kernel
theorem dX2_init_8 : decode cX2_init 8 = .ok (.multianewarray 9 2, 4) := by decide +kernel
theorem dX2_init_12 : decode cX2_init 12 = .ok (.putfield 11, 3) := by decide +kernel
theorem dX2_init_15 : decode cX2_init 15 = .ok (.aload_n 0, 1) := by decide +kernel
theorem dX2_init_16 : decode cX2_init 16 = .ok (.bipush 8, 2) := by decide +kernel
theorem dX2_init_18 : decode cX2_init 18 = .ok (.bipush 40, 2) := by decide +kernel
theorem dX2_init_20 : decode cX2_init 20 = .ok (.multianewarray 9 2, 4) := by decide +kernel
theorem dX2_init_24 : decode cX2_init 24 = .ok (.putfield 16, 3) := by decide +kernel
theorem dX2_init_27 : decode cX2_init 27 = .ok (.iconst 0, 1) := by decide +kernel
theorem dX2_init_28 : decode cX2_init 28 = .ok (.istore_n 1, 1) := by decide +kernel
theorem dX2_init_29 : decode cX2_init 29 = .ok (.iload_n 1, 1) := by decide +kernel
theorem dX2_init_30 : decode cX2_init 30 = .ok (.bipush 8, 2) := by decide +kernel
theorem dX2_init_32 : decode cX2_init 32 = .ok (.if_icmp .ge 19, 3) := by decide +kernel
theorem dX2_init_35 : decode cX2_init 35 = .ok (.aload_n 0, 1) := by decide +kernel
theorem dX2_init_36 : decode cX2_init 36 = .ok (.getfield 16, 3) := by decide +kernel
theorem dX2_init_39 : decode cX2_init 39 = .ok (.iload_n 1, 1) := by decide +kernel
theorem dX2_init_40 : decode cX2_init 40 = .ok (.aaload, 1) := by decide +kernel
theorem dX2_init_41 : decode cX2_init 41 = .ok (.iconst (-1), 1) := by decide +kernel
theorem dX2_init_42 : decode cX2_init 42 = .ok (.invokestatic 19, 3) := by decide +kernel
theorem dX2_init_45 : decode cX2_init 45 = .ok (.iinc 1 1, 3) := by decide +kernel
theorem dX2_init_48 : decode cX2_init 48 = .ok (.goto (-19), 3) := by decide +kernel
theorem dX2_init_51 : decode cX2_init 51 = .ok (.aload_n 0, 1) := by decide +kernel
theorem dX2_init_52 : decode cX2_init 52 = .ok (.bipush 40, 2) := by decide +kernel
theorem dX2_init_54 : decode cX2_init 54 = .ok (.newarray .int, 2) := by decide +kernel
theorem dX2_init_56 : decode cX2_init 56 = .ok (.putfield 25, 3) := by decide +kernel
theorem dX2_init_59 : decode cX2_init 59 = .ok (.aload_n 0, 1) := by decide +kernel
theorem dX2_init_60 : decode cX2_init 60 = .ok (.getfield 25, 3) := by decide +kernel
theorem dX2_init_63 : decode cX2_init 63 = .ok (.iconst (-1), 1) := by decide +kernel
theorem dX2_init_64 : decode cX2_init 64 = .ok (.invokestatic 19, 3) := by decide +kernel
theorem dX2_init_67 : decode cX2_init 67 = .ok (.aload_n 0, 1) := by decide +kernel
theorem dX2_init_68 : decode cX2_init 68 = .ok (.bipush 8, 2) := by decide +kernel
theorem dX2_init_70 : decode cX2_init 70 = .ok (.newarray .int, 2) := by decide +kernel
theorem dX2_init_72 : decode cX2_init 72 = .ok (.putfield 29, 3) := by decide +kernel
theorem dX2_init_75 : decode cX2_init 75 = .ok (.return_, 1) := by decide +kernel
theorem dX2_size_0 : decode cX2_size 0 = .ok (.aload_n 0, 1) := by decide +kernel
theorem dX2_size_1 : decode cX2_size 1 = .ok (.getfield 32, 3) := by decide +kernel
theorem dX2_size_4 : decode cX2_size 4 = .ok (.ireturn, 1) := by decide +kernel
theorem dX2_hasRow_0 : decode cX2_hasRow 0 = .ok (.iload_n 1, 1) := by decide +kernel
theorem dX2_hasRow_1 : decode cX2_hasRow 1 = .ok (.ifCond .lt 15, 3) := by decide +kernel
theorem dX2_hasRow_4 : decode cX2_hasRow 4 = .ok (.iload_n 1, 1) := by decide +kernel
theorem dX2_hasRow_5 : decode cX2_hasRow 5 = .ok (.aload_n 0, 1) := by decide +kernel
theorem dX2_hasRow_6 : decode cX2_hasRow 6 = .ok (.getfield 32, 3) := by decide +kernel
theorem dX2_hasRow_9 : decode cX2_hasRow 9 = .ok (.if_icmp .ge 7, 3) := by decide +kernel
theorem dX2_hasRow_12 : decode cX2_hasRow 12 = .ok (.iconst 1, 1) := by decide +kernel
theorem dX2_hasRow_13 : decode cX2_hasRow 13 = .ok (.goto 4, 3) := by decide +kernel
theorem dX2_hasRow_16 : decode cX2_hasRow 16 = .ok (.iconst 0, 1) := by decide +kernel
theorem dX2_hasRow_17 : decode cX2_hasRow 17 = .ok (.ireturn, 1) := by decide +kernel
theorem dX2_addRow_0 : decode cX2_addRow 0 = .ok (.aload_n 0, 1) := by decide +kernel
theorem dX2_addRow_1 : decode cX2_addRow 1 = .ok (.getfield 32, 3) := by decide +kernel
theorem dX2_addRow_4 : decode cX2_addRow 4 = .ok (.bipush 40, 2) := by decide +kernel
theorem dX2_addRow_6 : decode cX2_addRow 6 = .ok (.if_icmp .lt 6, 3) := by decide +kernel
theorem dX2_addRow_9 : decode cX2_addRow 9 = .ok (.bipush (-104), 2) := by decide +kernel
theorem dX2_addRow_11 : decode cX2_addRow 11 = .ok (.ireturn, 1) := by decide +kernel
theorem dX2_addRow_12 : decode cX2_addRow 12 = .ok (.aload_n 0, 1) := by decide +kernel
theorem dX2_addRow_13 : decode cX2_addRow 13 = .ok (.getfield 11, 3) := by decide +kernel
theorem dX2_addRow_16 : decode cX2_addRow 16 = .ok (.iconst 0, 1) := by decide +kernel
theorem dX2_addRow_17 : decode cX2_addRow 17 = .ok (.aaload, 1) := by decide +kernel
theorem dX2_addRow_18 : decode cX2_addRow 18 = .ok (.aload_n 0, 1) := by decide +kernel
theorem dX2_addRow_19 : decode cX2_addRow 19 = .ok (.getfield 32, 3) := by decide +kernel
theorem dX2_addRow_22 : decode cX2_addRow 22 = .ok (.iload_n 1, 1) := by decide +kernel
theorem dX2_addRow_23 : decode cX2_addRow 23 = .ok (.iastore, 1) := by decide +kernel
theorem dX2_addRow_24 : decode cX2_addRow 24 = .ok (.aload_n 0, 1) := by decide +kernel
theorem dX2_addRow_25 : decode cX2_addRow 25 = .ok (.getfield 11, 3) := by decide +kernel
theorem dX2_addRow_28 : decode cX2_addRow 28 = .ok (.iconst 1, 1) := by decide +kernel
theorem dX2_addRow_29 : decode cX2_addRow 29 = .ok (.aaload, 1) := by decide +kernel
theorem dX2_addRow_30 : decode cX2_addRow 30 = .ok (.aload_n 0, 1) := by decide +kernel
theorem dX2_addRow_31 : decode cX2_addRow 31 = .ok (.getfield 32, 3) := by decide +kernel
theorem dX2_addRow_34 : decode cX2_addRow 34 = .ok (.iload_n 2, 1) := by decide +kernel
theorem dX2_addRow_35 : decode cX2_addRow 35 = .ok (.iastore, 1) := by decide +kernel
theorem dX2_addRow_36 : decode cX2_addRow 36 = .ok (.aload_n 0, 1) := by decide +kernel
theorem dX2_addRow_37 : decode cX2_addRow 37 = .ok (.getfield 11, 3) := by decide +kernel
theorem dX2_addRow_40 : decode cX2_addRow 40 = .ok (.iconst 2, 1) := by decide +kernel
theorem dX2_addRow_41 : decode cX2_addRow 41 = .ok (.aaload, 1) := by decide +kernel
theorem dX2_addRow_42 : decode cX2_addRow 42 = .ok (.aload_n 0, 1) := by decide +kernel
theorem dX2_addRow_43 : decode cX2_addRow 43 = .ok (.getfield 32, 3) := by decide +kernel
theorem dX2_addRow_46 : decode cX2_addRow 46 = .ok (.iload_n 3, 1) := by decide +kernel
theorem dX2_addRow_47 : decode cX2_addRow 47 = .ok (.iastore, 1) := by decide +kernel
theorem dX2_addRow_48 : decode cX2_addRow 48 = .ok (.aload_n 0, 1) := by decide +kernel
theorem dX2_addRow_49 : decode cX2_addRow 49 = .ok (.getfield 11, 3) := by decide +kernel
theorem dX2_addRow_52 : decode cX2_addRow 52 = .ok (.iconst 3, 1) := by decide +kernel
theorem dX2_addRow_53 : decode cX2_addRow 53 = .ok (.aaload, 1) := by decide +kernel
theorem dX2_addRow_54 : decode cX2_addRow 54 = .ok (.aload_n 0, 1) := by decide +kernel
theorem dX2_addRow_55 : decode cX2_addRow 55 = .ok (.getfield 32, 3) := by decide +kernel
theorem dX2_addRow_58 : decode cX2_addRow 58 = .ok (.iload 4, 2) := by decide +kernel
theorem dX2_addRow_60 : decode cX2_addRow 60 = .ok (.iastore, 1) := by decide +kernel
theorem dX2_addRow_61 : decode cX2_addRow 61 = .ok (.aload_n 0, 1) := by decide +kernel
theorem dX2_addRow_62 : decode cX2_addRow 62 = .ok (.dup, 1) := by decide +kernel
theorem dX2_addRow_63 : decode cX2_addRow 63 = .ok (.getfield 32, 3) := by decide +kernel
theorem dX2_addRow_66 : decode cX2_addRow 66 = .ok (.dup_x1, 1) := by decide +kernel
theorem dX2_addRow_67 : decode cX2_addRow 67 = .ok (.iconst 1, 1) := by decide +kernel
theorem dX2_addRow_68 : decode cX2_addRow 68 = .ok (.iadd, 1) := by decide +kernel
theorem dX2_addRow_69 : decode cX2_addRow 69 = .ok (.putfield 32, 3) := by decide +kernel
theorem dX2_addRow_72 : decode cX2_addRow 72 = .ok (.ireturn, 1) := by decide +kernel
theorem dX2_feature_0 : decode cX2_feature 0 = .ok (.aload_n 0, 1) := by decide +kernel
theorem dX2_feature_1 : decode cX2_feature 1 = .ok (.getfield 11, 3) := by decide +kernel
theorem dX2_feature_4 : decode cX2_feature 4 = .ok (.iload_n 1, 1) := by decide +kernel
theorem dX2_feature_5 : decode cX2_feature 5 = .ok (.aaload, 1) := by decide +kernel
theorem dX2_feature_6 : decode cX2_feature 6 = .ok (.iload_n 2, 1) := by decide +kernel
theorem dX2_feature_7 : decode cX2_feature 7 = .ok (.iaload, 1) := by decide +kernel
theorem dX2_feature_8 : decode cX2_feature 8 = .ok (.ireturn, 1) := by decide +kernel
theorem dX2_given_0 : decode cX2_given 0 = .ok (.aload_n 0, 1) := by decide +kernel
theorem dX2_given_1 : decode cX2_given 1 = .ok (.getfield 16, 3) := by decide +kernel
theorem dX2_given_4 : decode cX2_given 4 = .ok (.iload_n 1, 1) := by decide +kernel
theorem dX2_given_5 : decode cX2_given 5 = .ok (.aaload, 1) := by decide +kernel
theorem dX2_given_6 : decode cX2_given 6 = .ok (.iload_n 2, 1) := by decide +kernel
theorem dX2_given_7 : decode cX2_given 7 = .ok (.iaload, 1) := by decide +kernel
theorem dX2_given_8 : decode cX2_given 8 = .ok (.ireturn, 1) := by decide +kernel
theorem dX2_give_0 : decode cX2_give 0 = .ok (.aload_n 0, 1) := by decide +kernel
theorem dX2_give_1 : decode cX2_give 1 = .ok (.getfield 16, 3) := by decide +kernel
theorem dX2_give_4 : decode cX2_give 4 = .ok (.iload_n 1, 1) := by decide +kernel
theorem dX2_give_5 : decode cX2_give 5 = .ok (.aaload, 1) := by decide +kernel
theorem dX2_give_6 : decode cX2_give 6 = .ok (.iload_n 2, 1) := by decide +kernel
theorem dX2_give_7 : decode cX2_give 7 = .ok (.iload_n 3, 1) := by decide +kernel
theorem dX2_give_8 : decode cX2_give 8 = .ok (.iastore, 1) := by decide +kernel
theorem dX2_give_9 : decode cX2_give 9 = .ok (.aload_n 0, 1) := by decide +kernel
theorem dX2_give_10 : decode cX2_give 10 = .ok (.iload_n 1, 1) := by decide +kernel
theorem dX2_give_11 : decode cX2_give 11 = .ok (.invokevirtual 36, 3) := by decide +kernel
theorem dX2_give_14 : decode cX2_give 14 = .ok (.return_, 1) := by decide +kernel
theorem dX2_known_0 : decode cX2_known 0 = .ok (.aload_n 0, 1) := by decide +kernel
theorem dX2_known_1 : decode cX2_known 1 = .ok (.getfield 25, 3) := by decide +kernel
theorem dX2_known_4 : decode cX2_known 4 = .ok (.iload_n 1, 1) := by decide +kernel
theorem dX2_known_5 : decode cX2_known 5 = .ok (.iaload, 1) := by decide +kernel
theorem dX2_known_6 : decode cX2_known 6 = .ok (.ireturn, 1) := by decide +kernel
theorem dX2_setKnown_0 : decode cX2_setKnown 0 = .ok (.aload_n 0, 1) := by decide +kernel
theorem dX2_setKnown_1 : decode cX2_setKnown 1 = .ok (.getfield 25, 3) := by decide +kernel
theorem dX2_setKnown_4 : decode cX2_setKnown 4 = .ok (.iload_n 1, 1) := by decide +kernel
theorem dX2_setKnown_5 : decode cX2_setKnown 5 = .ok (.iload_n 2, 1) := by decide +kernel
theorem dX2_setKnown_6 : decode cX2_setKnown 6 = .ok (.iastore, 1) := by decide +kernel
theorem dX2_setKnown_7 : decode cX2_setKnown 7 = .ok (.iconst 0, 1) := by decide +kernel
theorem dX2_setKnown_8 : decode cX2_setKnown 8 = .ok (.istore_n 3, 1) := by decide +kernel
theorem dX2_setKnown_9 : decode cX2_setKnown 9 = .ok (.iload_n 3, 1) := by decide +kernel
theorem dX2_setKnown_10 : decode cX2_setKnown 10 = .ok (.bipush 8, 2) := by decide +kernel
theorem dX2_setKnown_12 : decode cX2_setKnown 12 = .ok (.if_icmp .ge 14, 3) := by decide +kernel
theorem dX2_setKnown_15 : decode cX2_setKnown 15 = .ok (.aload_n 0, 1) := by decide +kernel
theorem dX2_setKnown_16 : decode cX2_setKnown 16 = .ok (.iload_n 3, 1) := by decide +kernel
theorem dX2_setKnown_17 : decode cX2_setKnown 17 = .ok (.invokevirtual 36, 3) := by decide +kernel
theorem dX2_setKnown_20 : decode cX2_setKnown 20 = .ok (.iinc 3 1, 3) := by decide +kernel
theorem dX2_setKnown_23 : decode cX2_setKnown 23 = .ok (.goto (-14), 3) := by decide +kernel
theorem dX2_setKnown_26 : decode cX2_setKnown 26 = .ok (.return_, 1) := by decide +kernel
theorem dX2_wrongOf_0 : decode cX2_wrongOf 0 = .ok (.aload_n 0, 1) := by decide +kernel
theorem dX2_wrongOf_1 : decode cX2_wrongOf 1 = .ok (.getfield 29, 3) := by decide +kernel
theorem dX2_wrongOf_4 : decode cX2_wrongOf 4 = .ok (.iload_n 1, 1) := by decide +kernel
theorem dX2_wrongOf_5 : decode cX2_wrongOf 5 = .ok (.iaload, 1) := by decide +kernel
theorem dX2_wrongOf_6 : decode cX2_wrongOf 6 = .ok (.ireturn, 1) := by decide +kernel
theorem dX2_givenBy_0 : decode cX2_givenBy 0 = .ok (.iconst 0, 1) := by decide +kernel
theorem dX2_givenBy_1 : decode cX2_givenBy 1 = .ok (.istore_n 2, 1) := by decide +kernel
theorem dX2_givenBy_2 : decode cX2_givenBy 2 = .ok (.iconst 0, 1) := by decide +kernel
theorem dX2_givenBy_3 : decode cX2_givenBy 3 = .ok (.istore_n 3, 1) := by decide +kernel
theorem dX2_givenBy_4 : decode cX2_givenBy 4 = .ok (.iload_n 3, 1) := by decide +kernel
theorem dX2_givenBy_5 : decode cX2_givenBy 5 = .ok (.aload_n 0, 1) := by decide +kernel
theorem dX2_givenBy_6 : decode cX2_givenBy 6 = .ok (.getfield 32, 3) := by decide +kernel
theorem dX2_givenBy_9 : decode cX2_givenBy 9 = .ok (.if_icmp .ge 24, 3) := by decide +kernel
theorem dX2_givenBy_12 : decode cX2_givenBy 12 = .ok (.aload_n 0, 1) := by decide +kernel
theorem dX2_givenBy_13 : decode cX2_givenBy 13 = .ok (.getfield 16, 3) := by decide +kernel
theorem dX2_givenBy_16 : decode cX2_givenBy 16 = .ok (.iload_n 1, 1) := by decide +kernel
theorem dX2_givenBy_17 : decode cX2_givenBy 17 = .ok (.aaload, 1) := by decide +kernel
theorem dX2_givenBy_18 : decode cX2_givenBy 18 = .ok (.iload_n 3, 1) := by decide +kernel
theorem dX2_givenBy_19 : decode cX2_givenBy 19 = .ok (.iaload, 1) := by decide +kernel
theorem dX2_givenBy_20 : decode cX2_givenBy 20 = .ok (.iconst (-1), 1) := by decide +kernel
theorem dX2_givenBy_21 : decode cX2_givenBy 21 = .ok (.if_icmp .eq 6, 3) := by decide +kernel
theorem dX2_givenBy_24 : decode cX2_givenBy 24 = .ok (.iinc 2 1, 3) := by decide +kernel
theorem dX2_givenBy_27 : decode cX2_givenBy 27 = .ok (.iinc 3 1, 3) := by decide +kernel
theorem dX2_givenBy_30 : decode cX2_givenBy 30 = .ok (.goto (-26), 3) := by decide +kernel
theorem dX2_givenBy_33 : decode cX2_givenBy 33 = .ok (.iload_n 2, 1) := by decide +kernel
theorem dX2_givenBy_34 : decode cX2_givenBy 34 = .ok (.ireturn, 1) := by decide +kernel
theorem dX2_givenOn_0 : decode cX2_givenOn 0 = .ok (.iconst 0, 1) := by decide +kernel
theorem dX2_givenOn_1 : decode cX2_givenOn 1 = .ok (.istore_n 2, 1) := by decide +kernel
theorem dX2_givenOn_2 : decode cX2_givenOn 2 = .ok (.iconst 0, 1) := by decide +kernel
theorem dX2_givenOn_3 : decode cX2_givenOn 3 = .ok (.istore_n 3, 1) := by decide +kernel
theorem dX2_givenOn_4 : decode cX2_givenOn 4 = .ok (.iload_n 3, 1) := by decide +kernel
theorem dX2_givenOn_5 : decode cX2_givenOn 5 = .ok (.bipush 8, 2) := by decide +kernel
theorem dX2_givenOn_7 : decode cX2_givenOn 7 = .ok (.if_icmp .ge 24, 3) := by decide +kernel
theorem dX2_givenOn_10 : decode cX2_givenOn 10 = .ok (.aload_n 0, 1) := by decide +kernel
theorem dX2_givenOn_11 : decode cX2_givenOn 11 = .ok (.getfield 16, 3) := by decide +kernel
theorem dX2_givenOn_14 : decode cX2_givenOn 14 = .ok (.iload_n 3, 1) := by decide +kernel
theorem dX2_givenOn_15 : decode cX2_givenOn 15 = .ok (.aaload, 1) := by decide +kernel
theorem dX2_givenOn_16 : decode cX2_givenOn 16 = .ok (.iload_n 1, 1) := by decide +kernel
theorem dX2_givenOn_17 : decode cX2_givenOn 17 = .ok (.iaload, 1) := by decide +kernel
theorem dX2_givenOn_18 : decode cX2_givenOn 18 = .ok (.iconst (-1), 1) := by decide +kernel
theorem dX2_givenOn_19 : decode cX2_givenOn 19 = .ok (.if_icmp .eq 6, 3) := by decide +kernel
theorem dX2_givenOn_22 : decode cX2_givenOn 22 = .ok (.iinc 2 1, 3) := by decide +kernel
theorem dX2_givenOn_25 : decode cX2_givenOn 25 = .ok (.iinc 3 1, 3) := by decide +kernel
theorem dX2_givenOn_28 : decode cX2_givenOn 28 = .ok (.goto (-24), 3) := by decide +kernel
theorem dX2_givenOn_31 : decode cX2_givenOn 31 = .ok (.iload_n 2, 1) := by decide +kernel
theorem dX2_givenOn_32 : decode cX2_givenOn 32 = .ok (.ireturn, 1) := by decide +kernel
theorem dX2_countKnown_0 : decode cX2_countKnown 0 = .ok (.iconst 0, 1) := by decide +kernel
theorem dX2_countKnown_1 : decode cX2_countKnown 1 = .ok (.istore_n 1, 1) := by decide +kernel
theorem dX2_countKnown_2 : decode cX2_countKnown 2 = .ok (.iconst 0, 1) := by decide +kernel
theorem dX2_countKnown_3 : decode cX2_countKnown 3 = .ok (.istore_n 2, 1) := by decide +kernel
theorem dX2_countKnown_4 : decode cX2_countKnown 4 = .ok (.iload_n 2, 1) := by decide +kernel
theorem dX2_countKnown_5 : decode cX2_countKnown 5 = .ok (.aload_n 0, 1) := by decide +kernel
theorem dX2_countKnown_6 : decode cX2_countKnown 6 = .ok (.getfield 32, 3) := by decide +kernel
theorem dX2_countKnown_9 : decode cX2_countKnown 9 = .ok (.if_icmp .ge 22, 3) := by decide +kernel
theorem dX2_countKnown_12 : decode cX2_countKnown 12 = .ok (.aload_n 0, 1) := by decide +kernel
theorem dX2_countKnown_13 : decode cX2_countKnown 13 = .ok (.getfield 25, 3) := by decide +kernel
theorem dX2_countKnown_16 : decode cX2_countKnown 16 = .ok (.iload_n 2, 1) := by decide +kernel
theorem dX2_countKnown_17 : decode cX2_countKnown 17 = .ok (.iaload, 1) := by decide +kernel
theorem dX2_countKnown_18 : decode cX2_countKnown 18 = .ok (.iconst (-1), 1) := by decide +kernel
theorem dX2_countKnown_19 : decode cX2_countKnown 19 = .ok (.if_icmp .eq 6, 3) := by decide +kernel
theorem dX2_countKnown_22 : decode cX2_countKnown 22 = .ok (.iinc 1 1, 3) := by decide +kernel
theorem dX2_countKnown_25 : decode cX2_countKnown 25 = .ok (.iinc 2 1, 3) := by decide +kernel
theorem dX2_countKnown_28 : decode cX2_countKnown 28 = .ok (.goto (-24), 3) := by decide +kernel
theorem dX2_countKnown_31 : decode cX2_countKnown 31 = .ok (.iload_n 1, 1) := by decide +kernel
theorem dX2_countKnown_32 : decode cX2_countKnown 32 = .ok (.ireturn, 1) := by decide +kernel
theorem dX2_countWrong_0 : decode cX2_countWrong 0 = .ok (.iconst 0, 1) := by decide +kernel
theorem dX2_countWrong_1 : decode cX2_countWrong 1 = .ok (.istore_n 2, 1) := by decide +kernel
theorem dX2_countWrong_2 : decode cX2_countWrong 2 = .ok (.iconst 0, 1) := by decide +kernel
theorem dX2_countWrong_3 : decode cX2_countWrong 3 = .ok (.istore_n 3, 1) := by decide +kernel
theorem dX2_countWrong_4 : decode cX2_countWrong 4 = .ok (.iload_n 3, 1) := by decide +kernel
theorem dX2_countWrong_5 : decode cX2_countWrong 5 = .ok (.aload_n 0, 1) := by decide +kernel
theorem dX2_countWrong_6 : decode cX2_countWrong 6 = .ok (.getfield 32, 3) := by decide +kernel
theorem dX2_countWrong_9 : decode cX2_countWrong 9 = .ok (.if_icmp .ge 49, 3) := by decide +kernel
theorem dX2_countWrong_12 : decode cX2_countWrong 12 = .ok (.aload_n 0, 1) := by decide +kernel
theorem dX2_countWrong_13 : decode cX2_countWrong 13 = .ok (.getfield 16, 3) := by decide +kernel
theorem dX2_countWrong_16 : decode cX2_countWrong 16 = .ok (.iload_n 1, 1) := by decide +kernel
theorem dX2_countWrong_17 : decode cX2_countWrong 17 = .ok (.aaload, 1) := by decide +kernel
theorem dX2_countWrong_18 : decode cX2_countWrong 18 = .ok (.iload_n 3, 1) := by decide +kernel
theorem dX2_countWrong_19 : decode cX2_countWrong 19 = .ok (.iaload, 1) := by decide +kernel
theorem dX2_countWrong_20 : decode cX2_countWrong 20 = .ok (.istore 4, 2) := by decide +kernel
theorem dX2_countWrong_22 : decode cX2_countWrong 22 = .ok (.iload 4, 2) := by decide +kernel
theorem dX2_countWrong_24 : decode cX2_countWrong 24 = .ok (.iconst (-1), 1) := by decide +kernel
theorem dX2_countWrong_25 : decode cX2_countWrong 25 = .ok (.if_icmp .eq 27, 3) := by decide +kernel
theorem dX2_countWrong_28 : decode cX2_countWrong 28 = .ok (.aload_n 0, 1) := by decide +kernel
theorem dX2_countWrong_29 : decode cX2_countWrong 29 = .ok (.getfield 25, 3) := by decide +kernel
theorem dX2_countWrong_32 : decode cX2_countWrong 32 = .ok (.iload_n 3, 1) := by decide +kernel
theorem dX2_countWrong_33 : decode cX2_countWrong 33 = .ok (.iaload, 1) := by decide +kernel
theorem dX2_countWrong_34 : decode cX2_countWrong 34 = .ok (.iconst (-1), 1) := by decide +kernel
theorem dX2_countWrong_35 : decode cX2_countWrong 35 = .ok (.if_icmp .eq 17, 3) := by decide +kernel
theorem dX2_countWrong_38 : decode cX2_countWrong 38 = .ok (.iload 4, 2) := by decide +kernel
theorem dX2_countWrong_40 : decode cX2_countWrong 40 = .ok (.aload_n 0, 1) := by decide +kernel
theorem dX2_countWrong_41 : decode cX2_countWrong 41 = .ok (.getfield 25, 3) := by decide +kernel
theorem dX2_countWrong_44 : decode cX2_countWrong 44 = .ok (.iload_n 3, 1) := by decide +kernel
theorem dX2_countWrong_45 : decode cX2_countWrong 45 = .ok (.iaload, 1) := by decide +kernel
theorem dX2_countWrong_46 : decode cX2_countWrong 46 = .ok (.if_icmp .eq 6, 3) := by decide +kernel
theorem dX2_countWrong_49 : decode cX2_countWrong 49 = .ok (.iinc 2 1, 3) := by decide +kernel
theorem dX2_countWrong_52 : decode cX2_countWrong 52 = .ok (.iinc 3 1, 3) := by decide +kernel
theorem dX2_countWrong_55 : decode cX2_countWrong 55 = .ok (.goto (-51), 3) := by decide +kernel
theorem dX2_countWrong_58 : decode cX2_countWrong 58 = .ok (.aload_n 0, 1) := by decide +kernel
theorem dX2_countWrong_59 : decode cX2_countWrong 59 = .ok (.getfield 29, 3) := by decide +kernel
theorem dX2_countWrong_62 : decode cX2_countWrong 62 = .ok (.iload_n 1, 1) := by decide +kernel
theorem dX2_countWrong_63 : decode cX2_countWrong 63 = .ok (.iload_n 2, 1) := by decide +kernel
theorem dX2_countWrong_64 : decode cX2_countWrong 64 = .ok (.iastore, 1) := by decide +kernel
theorem dX2_countWrong_65 : decode cX2_countWrong 65 = .ok (.return_, 1) := by decide +kernel
theorem dX3_init_0 : decode cX3_init 0 = .ok (.aload_n 0, 1) := by decide +kernel
theorem dX3_init_1 : decode cX3_init 1 = .ok (.invokespecial 1, 3) := by decide +kernel
theorem dX3_init_4 : decode cX3_init 4 = .ok (.aload_n 0, 1) := by decide +kernel
theorem dX3_init_5 : decode cX3_init 5 = .ok (.new 7, 3) := by decide +kernel
theorem dX3_init_8 : decode cX3_init 8 = .ok (.dup, 1) := by decide +kernel
theorem dX3_init_9 : decode cX3_init 9 = .ok (.invokespecial 9, 3) := by decide +kernel
theorem dX3_init_12 : decode cX3_init 12 = .ok (.putfield 10, 3) := by decide +kernel
theorem dX3_init_15 : decode cX3_init 15 = .ok (.aload_n 0, 1) := by decide +kernel
theorem dX3_init_16 : decode cX3_init 16 = .ok (.new 16, 3) := by decide +kernel
theorem dX3_init_19 : decode cX3_init 19 = .ok (.dup, 1) := by decide +kernel
theorem dX3_init_20 : decode cX3_init 20 = .ok (.invokespecial 18, 3) := by decide +kernel
theorem dX3_init_23 : decode cX3_init 23 = .ok (.putfield 19, 3) := by decide +kernel
theorem dX3_init_26 : decode cX3_init 26 = .ok (.aload_n 0, 1) := by decide +kernel
theorem dX3_init_27 : decode cX3_init 27 = .ok (.new 23, 3) := by decide +kernel
theorem dX3_init_30 : decode cX3_init 30 = .ok (.dup, 1) := by decide +kernel
theorem dX3_init_31 : decode cX3_init 31 = .ok (.invokespecial 25, 3) := by decide +kernel
theorem dX3_init_34 : decode cX3_init 34 = .ok (.putfield 26, 3) := by decide +kernel
theorem dX3_init_37 : decode cX3_init 37 = .ok (.aload_n 0, 1) := by decide +kernel
theorem dX3_init_38 : decode cX3_init 38 = .ok (.bipush 8, 2) := by decide +kernel
theorem dX3_init_40 : decode cX3_init 40 = .ok (.newarray .boolean, 2) := by decide +kernel
theorem dX3_init_42 : decode cX3_init 42 = .ok (.putfield 30, 3) := by decide +kernel
theorem dX3_init_45 : decode cX3_init 45 = .ok (.aload_n 0, 1) := by decide +kernel
theorem dX3_init_46 : decode cX3_init 46 = .ok (.bipush 8, 2) := by decide +kernel
theorem dX3_init_48 : decode cX3_init 48 = .ok (.newarray .int, 2) := by decide +kernel
theorem dX3_init_50 : decode cX3_init 50 = .ok (.putfield 34, 3) := by decide +kernel
theorem dX3_init_53 : decode cX3_init 53 = .ok (.aload_n 0, 1) := by decide +kernel
theorem dX3_init_54 : decode cX3_init 54 = .ok (.getfield 34, 3) := by decide +kernel
theorem dX3_init_57 : decode cX3_init 57 = .ok (.bipush 10, 2) := by decide +kernel
theorem dX3_init_59 : decode cX3_init 59 = .ok (.invokestatic 38, 3) := by decide +kernel
theorem dX3_init_62 : decode cX3_init 62 = .ok (.aload_n 0, 1) := by decide +kernel
theorem dX3_init_63 : decode cX3_init 63 = .ok (.iconst 3, 1) := by decide +kernel
theorem dX3_init_64 : decode cX3_init 64 = .ok (.putfield 44, 3) := by decide +kernel
theorem dX3_init_67 : decode cX3_init 67 = .ok (.aload_n 0, 1) := by decide +kernel
theorem dX3_init_68 : decode cX3_init 68 = .ok (.iconst 5, 1) := by decide +kernel
theorem dX3_init_69 : decode cX3_init 69 = .ok (.newarray .int, 2) := by decide +kernel
theorem dX3_init_71 : decode cX3_init 71 = .ok (.putfield 48, 3) := by decide +kernel
theorem dX3_init_74 : decode cX3_init 74 = .ok (.aload_n 0, 1) := by decide +kernel
theorem dX3_init_75 : decode cX3_init 75 = .ok (.bipush 40, 2) := by decide +kernel
theorem dX3_init_77 : decode cX3_init 77 = .ok (.newarray .int, 2) := by decide +kernel
theorem dX3_init_79 : decode cX3_init 79 = .ok (.putfield 51, 3) := by decide +kernel
theorem dX3_init_82 : decode cX3_init 82 = .ok (.aload_n 0, 1) := by decide +kernel
theorem dX3_init_83 : decode cX3_init 83 = .ok (.bipush 8, 2) := by decide +kernel
theorem dX3_init_85 : decode cX3_init 85 = .ok (.newarray .int, 2) := by decide +kernel
theorem dX3_init_87 : decode cX3_init 87 = .ok (.putfield 54, 3) := by decide +kernel
theorem dX3_init_90 : decode cX3_init 90 = .ok (.return_, 1) := by decide +kernel
theorem dX3_row_0 : decode cX3_row 0 = .ok (.aload_n 0, 1) := by decide +kernel
theorem dX3_row_1 : decode cX3_row 1 = .ok (.getfield 10, 3) := by decide +kernel
theorem dX3_row_4 : decode cX3_row 4 = .ok (.iload_n 1, 1) := by decide +kernel
theorem dX3_row_5 : decode cX3_row 5 = .ok (.iload_n 2, 1) := by decide +kernel
theorem dX3_row_6 : decode cX3_row 6 = .ok (.iload_n 3, 1) := by decide +kernel
theorem dX3_row_7 : decode cX3_row 7 = .ok (.iload 4, 2) := by decide +kernel
theorem dX3_row_9 : decode cX3_row 9 = .ok (.invokevirtual 57, 3) := by decide +kernel
theorem dX3_row_12 : decode cX3_row 12 = .ok (.ireturn, 1) := by decide +kernel
theorem dX3_label_0 : decode cX3_label 0 = .ok (.iload_n 1, 1) := by decide +kernel
theorem dX3_label_1 : decode cX3_label 1 = .ok (.invokestatic 61, 3) := by decide +kernel
theorem dX3_label_4 : decode cX3_label 4 = .ok (.ifCond .eq 14, 3) := by decide +kernel
theorem dX3_label_7 : decode cX3_label 7 = .ok (.aload_n 0, 1) := by decide +kernel
theorem dX3_label_8 : decode cX3_label 8 = .ok (.getfield 10, 3) := by decide +kernel
theorem dX3_label_11 : decode cX3_label 11 = .ok (.iload_n 2, 1) := by decide +kernel
theorem dX3_label_12 : decode cX3_label 12 = .ok (.invokevirtual 65, 3) := by decide +kernel
theorem dX3_label_15 : decode cX3_label 15 = .ok (.ifCond .ne 6, 3) := by decide +kernel
theorem dX3_label_18 : decode cX3_label 18 = .ok (.bipush (-101), 2) := by decide +kernel
theorem dX3_label_20 : decode cX3_label 20 = .ok (.ireturn, 1) := by decide +kernel
theorem dX3_label_21 : decode cX3_label 21 = .ok (.iload_n 3, 1) := by decide +kernel
theorem dX3_label_22 : decode cX3_label 22 = .ok (.invokestatic 68, 3) := by decide +kernel
theorem dX3_label_25 : decode cX3_label 25 = .ok (.ifCond .ne 6, 3) := by decide +kernel
theorem dX3_label_28 : decode cX3_label 28 = .ok (.bipush (-102), 2) := by decide +kernel
theorem dX3_label_30 : decode cX3_label 30 = .ok (.ireturn, 1) := by decide +kernel
theorem dX3_label_31 : decode cX3_label 31 = .ok (.aload_n 0, 1) := by decide +kernel
theorem dX3_label_32 : decode cX3_label 32 = .ok (.getfield 10, 3) := by decide +kernel
theorem dX3_label_35 : decode cX3_label 35 = .ok (.iload_n 1, 1) := by decide +kernel
theorem dX3_label_36 : decode cX3_label 36 = .ok (.iload_n 2, 1) := by decide +kernel
theorem dX3_label_37 : decode cX3_label 37 = .ok (.invokevirtual 71, 3) := by decide +kernel
theorem dX3_label_40 : decode cX3_label 40 = .ok (.iconst (-1), 1) := by decide +kernel
theorem dX3_label_41 : decode cX3_label 41 = .ok (.if_icmp .eq 5, 3) := by decide +kernel
theorem dX3_label_44 : decode cX3_label 44 = .ok (.iconst 0, 1) := by decide +kernel
theorem dX3_label_45 : decode cX3_label 45 = .ok (.ireturn, 1) := by decide +kernel
theorem dX3_label_46 : decode cX3_label 46 = .ok (.aload_n 0, 1) := by decide +kernel
theorem dX3_label_47 : decode cX3_label 47 = .ok (.getfield 10, 3) := by decide +kernel
theorem dX3_label_50 : decode cX3_label 50 = .ok (.iload_n 1, 1) := by decide +kernel
theorem dX3_label_51 : decode cX3_label 51 = .ok (.iload_n 2, 1) := by decide +kernel
theorem dX3_label_52 : decode cX3_label 52 = .ok (.iload_n 3, 1) := by decide +kernel
theorem dX3_label_53 : decode cX3_label 53 = .ok (.invokevirtual 75, 3) := by decide +kernel
theorem dX3_label_56 : decode cX3_label 56 = .ok (.iconst 1, 1) := by decide +kernel
theorem dX3_label_57 : decode cX3_label 57 = .ok (.ireturn, 1) := by decide +kernel
theorem dX3_said_0 : decode cX3_said 0 = .ok (.iload_n 1, 1) := by decide +kernel
theorem dX3_said_1 : decode cX3_said 1 = .ok (.invokestatic 61, 3) := by decide +kernel
theorem dX3_said_4 : decode cX3_said 4 = .ok (.ifCond .eq 14, 3) := by decide +kernel
theorem dX3_said_7 : decode cX3_said 7 = .ok (.aload_n 0, 1) := by decide +kernel
theorem dX3_said_8 : decode cX3_said 8 = .ok (.getfield 10, 3) := by decide +kernel
theorem dX3_said_11 : decode cX3_said 11 = .ok (.iload_n 2, 1) := by decide +kernel
theorem dX3_said_12 : decode cX3_said 12 = .ok (.invokevirtual 65, 3) := by decide +kernel
theorem dX3_said_15 : decode cX3_said 15 = .ok (.ifCond .ne 6, 3) := by decide +kernel
theorem dX3_said_18 : decode cX3_said 18 = .ok (.bipush (-101), 2) := by decide +kernel
theorem dX3_said_20 : decode cX3_said 20 = .ok (.ireturn, 1) := by decide +kernel
theorem dX3_said_21 : decode cX3_said 21 = .ok (.aload_n 0, 1) := by decide +kernel
theorem dX3_said_22 : decode cX3_said 22 = .ok (.getfield 10, 3) := by decide +kernel
theorem dX3_said_25 : decode cX3_said 25 = .ok (.iload_n 1, 1) := by decide +kernel
theorem dX3_said_26 : decode cX3_said 26 = .ok (.iload_n 2, 1) := by decide +kernel
theorem dX3_said_27 : decode cX3_said 27 = .ok (.invokevirtual 71, 3) := by decide +kernel
theorem dX3_said_30 : decode cX3_said 30 = .ok (.ireturn, 1) := by decide +kernel
theorem dX3_gold_0 : decode cX3_gold 0 = .ok (.aload_n 0, 1) := by decide +kernel
theorem dX3_gold_1 : decode cX3_gold 1 = .ok (.getfield 10, 3) := by decide +kernel
theorem dX3_gold_4 : decode cX3_gold 4 = .ok (.iload_n 1, 1) := by decide +kernel
theorem dX3_gold_5 : decode cX3_gold 5 = .ok (.invokevirtual 65, 3) := by decide +kernel
theorem dX3_gold_8 : decode cX3_gold 8 = .ok (.ifCond .ne 6, 3) := by decide +kernel
theorem dX3_gold_11 : decode cX3_gold 11 = .ok (.bipush (-101), 2) := by decide +kernel
theorem dX3_gold_13 : decode cX3_gold 13 = .ok (.ireturn, 1) := by decide +kernel
theorem dX3_gold_14 : decode cX3_gold 14 = .ok (.iload_n 2, 1) := by decide +kernel
theorem dX3_gold_15 : decode cX3_gold 15 = .ok (.iconst (-1), 1) := by decide +kernel
theorem dX3_gold_16 : decode cX3_gold 16 = .ok (.if_icmp .eq 13, 3) := by decide +kernel
theorem dX3_gold_19 : decode cX3_gold 19 = .ok (.iload_n 2, 1) := by decide +kernel
theorem dX3_gold_20 : decode cX3_gold 20 = .ok (.invokestatic 68, 3) := by decide +kernel
theorem dX3_gold_23 : decode cX3_gold 23 = .ok (.ifCond .ne 6, 3) := by decide +kernel
theorem dX3_gold_26 : decode cX3_gold 26 = .ok (.bipush (-102), 2) := by decide +kernel
theorem dX3_gold_28 : decode cX3_gold 28 = .ok (.ireturn, 1) := by decide +kernel
theorem dX3_gold_29 : decode cX3_gold 29 = .ok (.aload_n 0, 1) := by decide +kernel
theorem dX3_gold_30 : decode cX3_gold 30 = .ok (.getfield 10, 3) := by decide +kernel
theorem dX3_gold_33 : decode cX3_gold 33 = .ok (.iload_n 1, 1) := by decide +kernel
theorem dX3_gold_34 : decode cX3_gold 34 = .ok (.invokevirtual 79, 3) := by decide +kernel
theorem dX3_gold_37 : decode cX3_gold 37 = .ok (.istore_n 3, 1) := by decide +kernel
theorem dX3_gold_38 : decode cX3_gold 38 = .ok (.aload_n 0, 1) := by decide +kernel
theorem dX3_gold_39 : decode cX3_gold 39 = .ok (.getfield 10, 3) := by decide +kernel
theorem dX3_gold_42 : decode cX3_gold 42 = .ok (.iload_n 1, 1) := by decide +kernel
theorem dX3_gold_43 : decode cX3_gold 43 = .ok (.iload_n 2, 1) := by decide +kernel
theorem dX3_gold_44 : decode cX3_gold 44 = .ok (.invokevirtual 83, 3) := by decide +kernel
theorem dX3_gold_47 : decode cX3_gold 47 = .ok (.iload_n 3, 1) := by decide +kernel
theorem dX3_gold_48 : decode cX3_gold 48 = .ok (.ireturn, 1) := by decide +kernel
theorem dX3_bound_0 : decode cX3_bound 0 = .ok (.iload_n 1, 1) := by decide +kernel
theorem dX3_bound_1 : decode cX3_bound 1 = .ok (.iconst 1, 1) := by decide +kernel
theorem dX3_bound_2 : decode cX3_bound 2 = .ok (.if_icmp .lt 9, 3) := by decide +kernel
theorem dX3_bound_5 : decode cX3_bound 5 = .ok (.iload_n 1, 1) := by decide +kernel
theorem dX3_bound_6 : decode cX3_bound 6 = .ok (.bipush 9, 2) := by decide +kernel
theorem dX3_bound_8 : decode cX3_bound 8 = .ok (.if_icmp .le 6, 3) := by decide +kernel
theorem dX3_bound_11 : decode cX3_bound 11 = .ok (.bipush (-102), 2) := by decide +kernel
theorem dX3_bound_13 : decode cX3_bound 13 = .ok (.ireturn, 1) := by decide +kernel
theorem dX3_bound_14 : decode cX3_bound 14 = .ok (.aload_n 0, 1) := by decide +kernel
theorem dX3_bound_15 : decode cX3_bound 15 = .ok (.getfield 44, 3) := by decide +kernel
theorem dX3_bound_18 : decode cX3_bound 18 = .ok (.istore_n 2, 1) := by decide +kernel
theorem dX3_bound_19 : decode cX3_bound 19 = .ok (.aload_n 0, 1) := by decide +kernel
theorem dX3_bound_20 : decode cX3_bound 20 = .ok (.iload_n 1, 1) := by decide +kernel
theorem dX3_bound_21 : decode cX3_bound 21 = .ok (.putfield 44, 3) := by decide +kernel
theorem dX3_bound_24 : decode cX3_bound 24 = .ok (.iload_n 2, 1) := by decide +kernel
theorem dX3_bound_25 : decode cX3_bound 25 = .ok (.ireturn, 1) := by decide +kernel
theorem dX3_expert_0 : decode cX3_expert 0 = .ok (.iload_n 1, 1) := by decide +kernel
theorem dX3_expert_1 : decode cX3_expert 1 = .ok (.invokestatic 61, 3) := by decide +kernel
theorem dX3_expert_4 : decode cX3_expert 4 = .ok (.ifCond .ne 6, 3) := by decide +kernel
theorem dX3_expert_7 : decode cX3_expert 7 = .ok (.bipush (-101), 2) := by decide +kernel
theorem dX3_expert_9 : decode cX3_expert 9 = .ok (.ireturn, 1) := by decide +kernel
theorem dX3_expert_10 : decode cX3_expert 10 = .ok (.aload_n 0, 1) := by decide +kernel
theorem dX3_expert_11 : decode cX3_expert 11 = .ok (.getfield 30, 3) := by decide +kernel
theorem dX3_expert_14 : decode cX3_expert 14 = .ok (.iload_n 1, 1) := by decide +kernel
theorem dX3_expert_15 : decode cX3_expert 15 = .ok (.baload, 1) := by decide +kernel
theorem dX3_expert_16 : decode cX3_expert 16 = .ok (.iload_n 2, 1) := by decide +kernel
theorem dX3_expert_17 : decode cX3_expert 17 = .ok (.if_icmp .eq 7, 3) := by decide +kernel
theorem dX3_expert_20 : decode cX3_expert 20 = .ok (.iconst 1, 1) := by decide +kernel
theorem dX3_expert_21 : decode cX3_expert 21 = .ok (.goto 4, 3) := by decide +kernel
theorem dX3_expert_24 : decode cX3_expert 24 = .ok (.iconst 0, 1) := by decide +kernel
theorem dX3_expert_25 : decode cX3_expert 25 = .ok (.istore_n 3, 1) := by decide +kernel
theorem dX3_expert_26 : decode cX3_expert 26 = .ok (.aload_n 0, 1) := by decide +kernel
theorem dX3_expert_27 : decode cX3_expert 27 = .ok (.getfield 30, 3) := by decide +kernel
theorem dX3_expert_30 : decode cX3_expert 30 = .ok (.iload_n 1, 1) := by decide +kernel
theorem dX3_expert_31 : decode cX3_expert 31 = .ok (.iload_n 2, 1) := by decide +kernel
theorem dX3_expert_32 : decode cX3_expert 32 = .ok (.bastore, 1) := by decide +kernel
theorem dX3_expert_33 : decode cX3_expert 33 = .ok (.iload_n 3, 1) := by decide +kernel
theorem dX3_expert_34 : decode cX3_expert 34 = .ok (.ifCond .eq 7, 3) := by decide +kernel
theorem dX3_expert_37 : decode cX3_expert 37 = .ok (.iconst 1, 1) := by decide +kernel
theorem dX3_expert_38 : decode cX3_expert 38 = .ok (.goto 4, 3) := by decide +kernel
theorem dX3_expert_41 : decode cX3_expert 41 = .ok (.iconst 0, 1) := by decide +kernel
theorem dX3_expert_42 : decode cX3_expert 42 = .ok (.ireturn, 1) := by decide +kernel
theorem dX3_person_0 : decode cX3_person 0 = .ok (.iload_n 1, 1) := by decide +kernel
theorem dX3_person_1 : decode cX3_person 1 = .ok (.invokestatic 61, 3) := by decide +kernel
theorem dX3_person_4 : decode cX3_person 4 = .ok (.ifCond .ne 6, 3) := by decide +kernel
theorem dX3_person_7 : decode cX3_person 7 = .ok (.bipush (-101), 2) := by decide +kernel
theorem dX3_person_9 : decode cX3_person 9 = .ok (.ireturn, 1) := by decide +kernel
theorem dX3_person_10 : decode cX3_person 10 = .ok (.iload_n 2, 1) := by decide +kernel
theorem dX3_person_11 : decode cX3_person 11 = .ok (.tableswitch 68 0 3 #[29, 36, 45, 59], 29) := by decide +kernel
theorem dX3_person_40 : decode cX3_person 40 = .ok (.aload_n 0, 1) := by decide +kernel
theorem dX3_person_41 : decode cX3_person 41 = .ok (.getfield 34, 3) := by decide +kernel
theorem dX3_person_44 : decode cX3_person 44 = .ok (.iload_n 1, 1) := by decide +kernel
theorem dX3_person_45 : decode cX3_person 45 = .ok (.iaload, 1) := by decide +kernel
theorem dX3_person_46 : decode cX3_person 46 = .ok (.ireturn, 1) := by decide +kernel
theorem dX3_person_47 : decode cX3_person 47 = .ok (.aload_n 0, 1) := by decide +kernel
theorem dX3_person_48 : decode cX3_person 48 = .ok (.getfield 10, 3) := by decide +kernel
theorem dX3_person_51 : decode cX3_person 51 = .ok (.iload_n 1, 1) := by decide +kernel
theorem dX3_person_52 : decode cX3_person 52 = .ok (.invokevirtual 87, 3) := by decide +kernel
theorem dX3_person_55 : decode cX3_person 55 = .ok (.ireturn, 1) := by decide +kernel
theorem dX3_person_56 : decode cX3_person 56 = .ok (.aload_n 0, 1) := by decide +kernel
theorem dX3_person_57 : decode cX3_person 57 = .ok (.iload_n 1, 1) := by decide +kernel
theorem dX3_person_58 : decode cX3_person 58 = .ok (.invokevirtual 90, 3) := by decide +kernel
theorem dX3_person_61 : decode cX3_person 61 = .ok (.ifCond .eq 7, 3) := by decide +kernel
theorem dX3_person_64 : decode cX3_person 64 = .ok (.iconst 1, 1) := by decide +kernel
theorem dX3_person_65 : decode cX3_person 65 = .ok (.goto 4, 3) := by decide +kernel
theorem dX3_person_68 : decode cX3_person 68 = .ok (.iconst 0, 1) := by decide +kernel
theorem dX3_person_69 : decode cX3_person 69 = .ok (.ireturn, 1) := by decide +kernel
theorem dX3_person_70 : decode cX3_person 70 = .ok (.aload_n 0, 1) := by decide +kernel
theorem dX3_person_71 : decode cX3_person 71 = .ok (.getfield 10, 3) := by decide +kernel
theorem dX3_person_74 : decode cX3_person 74 = .ok (.iload_n 1, 1) := by decide +kernel
theorem dX3_person_75 : decode cX3_person 75 = .ok (.invokevirtual 93, 3) := by decide +kernel
theorem dX3_person_78 : decode cX3_person 78 = .ok (.ireturn, 1) := by decide +kernel
theorem dX3_person_79 : decode cX3_person 79 = .ok (.bipush (-102), 2) := by decide +kernel
theorem dX3_person_81 : decode cX3_person 81 = .ok (.ireturn, 1) := by decide +kernel
theorem dX3_rule_0 : decode cX3_rule 0 = .ok (.iload_n 1, 1) := by decide +kernel
theorem dX3_rule_1 : decode cX3_rule 1 = .ok (.ifCond .lt 22, 3) := by decide +kernel
theorem dX3_rule_4 : decode cX3_rule 4 = .ok (.iload_n 1, 1) := by decide +kernel
theorem dX3_rule_5 : decode cX3_rule 5 = .ok (.iconst 4, 1) := by decide +kernel
theorem dX3_rule_6 : decode cX3_rule 6 = .ok (.if_icmp .ge 17, 3) := by decide +kernel
theorem dX3_rule_9 : decode cX3_rule 9 = .ok (.iload_n 2, 1) := by decide +kernel
theorem dX3_rule_10 : decode cX3_rule 10 = .ok (.invokestatic 96, 3) := by decide +kernel
theorem dX3_rule_13 : decode cX3_rule 13 = .ok (.ifCond .eq 10, 3) := by decide +kernel
theorem dX3_rule_16 : decode cX3_rule 16 = .ok (.iload_n 3, 1) := by decide +kernel
theorem dX3_rule_17 : decode cX3_rule 17 = .ok (.invokestatic 96, 3) := by decide +kernel
theorem dX3_rule_20 : decode cX3_rule 20 = .ok (.ifCond .ne 6, 3) := by decide +kernel
theorem dX3_rule_23 : decode cX3_rule 23 = .ok (.bipush (-102), 2) := by decide +kernel
theorem dX3_rule_25 : decode cX3_rule 25 = .ok (.ireturn, 1) := by decide +kernel
theorem dX3_rule_26 : decode cX3_rule 26 = .ok (.aload_n 0, 1) := by decide +kernel
theorem dX3_rule_27 : decode cX3_rule 27 = .ok (.getfield 19, 3) := by decide +kernel
theorem dX3_rule_30 : decode cX3_rule 30 = .ok (.iload_n 1, 1) := by decide +kernel
theorem dX3_rule_31 : decode cX3_rule 31 = .ok (.iload_n 2, 1) := by decide +kernel
theorem dX3_rule_32 : decode cX3_rule 32 = .ok (.iload_n 3, 1) := by decide +kernel
theorem dX3_rule_33 : decode cX3_rule 33 = .ok (.iload 4, 2) := by decide +kernel
theorem dX3_rule_35 : decode cX3_rule 35 = .ok (.invokevirtual 99, 3) := by decide +kernel
theorem dX3_rule_38 : decode cX3_rule 38 = .ok (.ireturn, 1) := by decide +kernel
theorem dX3_turn_0 : decode cX3_turn 0 = .ok (.aload_n 0, 1) := by decide +kernel
theorem dX3_turn_1 : decode cX3_turn 1 = .ok (.getfield 19, 3) := by decide +kernel
theorem dX3_turn_4 : decode cX3_turn 4 = .ok (.iload_n 1, 1) := by decide +kernel
theorem dX3_turn_5 : decode cX3_turn 5 = .ok (.invokevirtual 102, 3) := by decide +kernel
theorem dX3_turn_8 : decode cX3_turn 8 = .ok (.ifCond .ne 6, 3) := by decide +kernel
theorem dX3_turn_11 : decode cX3_turn 11 = .ok (.bipush (-101), 2) := by decide +kernel
theorem dX3_turn_13 : decode cX3_turn 13 = .ok (.ireturn, 1) := by decide +kernel
theorem dX3_turn_14 : decode cX3_turn 14 = .ok (.aload_n 0, 1) := by decide +kernel
theorem dX3_turn_15 : decode cX3_turn 15 = .ok (.getfield 19, 3) := by decide +kernel
theorem dX3_turn_18 : decode cX3_turn 18 = .ok (.iload_n 1, 1) := by decide +kernel
theorem dX3_turn_19 : decode cX3_turn 19 = .ok (.invokevirtual 105, 3) := by decide +kernel
theorem dX3_turn_22 : decode cX3_turn 22 = .ok (.iload_n 2, 1) := by decide +kernel
theorem dX3_turn_23 : decode cX3_turn 23 = .ok (.if_icmp .eq 7, 3) := by decide +kernel
theorem dX3_turn_26 : decode cX3_turn 26 = .ok (.iconst 1, 1) := by decide +kernel
theorem dX3_turn_27 : decode cX3_turn 27 = .ok (.goto 4, 3) := by decide +kernel
theorem dX3_turn_30 : decode cX3_turn 30 = .ok (.iconst 0, 1) := by decide +kernel
theorem dX3_turn_31 : decode cX3_turn 31 = .ok (.istore_n 3, 1) := by decide +kernel
theorem dX3_turn_32 : decode cX3_turn 32 = .ok (.aload_n 0, 1) := by decide +kernel
theorem dX3_turn_33 : decode cX3_turn 33 = .ok (.getfield 19, 3) := by decide +kernel
theorem dX3_turn_36 : decode cX3_turn 36 = .ok (.iload_n 1, 1) := by decide +kernel
theorem dX3_turn_37 : decode cX3_turn 37 = .ok (.iload_n 2, 1) := by decide +kernel
theorem dX3_turn_38 : decode cX3_turn 38 = .ok (.invokevirtual 108, 3) := by decide +kernel
theorem dX3_turn_41 : decode cX3_turn 41 = .ok (.iload_n 3, 1) := by decide +kernel
theorem dX3_turn_42 : decode cX3_turn 42 = .ok (.ifCond .eq 7, 3) := by decide +kernel
theorem dX3_turn_45 : decode cX3_turn 45 = .ok (.iconst 1, 1) := by decide +kernel
theorem dX3_turn_46 : decode cX3_turn 46 = .ok (.goto 4, 3) := by decide +kernel
theorem dX3_turn_49 : decode cX3_turn 49 = .ok (.iconst 0, 1) := by decide +kernel
theorem dX3_turn_50 : decode cX3_turn 50 = .ok (.ireturn, 1) := by decide +kernel
theorem dX3_table_0 : decode cX3_table 0 = .ok (.iload_n 1, 1) := by decide +kernel
theorem dX3_table_1 : decode cX3_table 1 = .ok (.invokestatic 112, 3) := by decide +kernel
theorem dX3_table_4 : decode cX3_table 4 = .ok (.ifCond .ne 6, 3) := by decide +kernel
theorem dX3_table_7 : decode cX3_table 7 = .ok (.bipush (-102), 2) := by decide +kernel
theorem dX3_table_9 : decode cX3_table 9 = .ok (.ireturn, 1) := by decide +kernel
theorem dX3_table_10 : decode cX3_table 10 = .ok (.aload_n 0, 1) := by decide +kernel
theorem dX3_table_11 : decode cX3_table 11 = .ok (.getfield 19, 3) := by decide +kernel
theorem dX3_table_14 : decode cX3_table 14 = .ok (.iload_n 1, 1) := by decide +kernel
theorem dX3_table_15 : decode cX3_table 15 = .ok (.iload_n 2, 1) := by decide +kernel
theorem dX3_table_16 : decode cX3_table 16 = .ok (.invokevirtual 115, 3) := by decide +kernel
theorem dX3_table_19 : decode cX3_table 19 = .ok (.ireturn, 1) := by decide +kernel
theorem dX3_says_0 : decode cX3_says 0 = .ok (.aload_n 0, 1) := by decide +kernel
theorem dX3_says_1 : decode cX3_says 1 = .ok (.getfield 19, 3) := by decide +kernel
theorem dX3_says_4 : decode cX3_says 4 = .ok (.iload_n 1, 1) := by decide +kernel
theorem dX3_says_5 : decode cX3_says 5 = .ok (.invokevirtual 102, 3) := by decide +kernel
theorem dX3_says_8 : decode cX3_says 8 = .ok (.ifCond .eq 14, 3) := by decide +kernel
theorem dX3_says_11 : decode cX3_says 11 = .ok (.aload_n 0, 1) := by decide +kernel
theorem dX3_says_12 : decode cX3_says 12 = .ok (.getfield 10, 3) := by decide +kernel
theorem dX3_says_15 : decode cX3_says 15 = .ok (.iload_n 2, 1) := by decide +kernel
theorem dX3_says_16 : decode cX3_says 16 = .ok (.invokevirtual 65, 3) := by decide +kernel
theorem dX3_says_19 : decode cX3_says 19 = .ok (.ifCond .ne 13, 3) := by decide +kernel
theorem dX3_says_22 : decode cX3_says 22 = .ok (.new 118, 3) := by decide +kernel
theorem dX3_says_25 : decode cX3_says 25 = .ok (.dup, 1) := by decide +kernel
theorem dX3_says_26 : decode cX3_says 26 = .ok (.ldc 120, 2) := by decide +kernel
theorem dX3_says_28 : decode cX3_says 28 = .ok (.invokespecial 122, 3) := by decide +kernel
theorem dX3_says_31 : decode cX3_says 31 = .ok (.athrow, 1) := by decide +kernel
theorem dX3_says_32 : decode cX3_says 32 = .ok (.aload_n 0, 1) := by decide +kernel
theorem dX3_says_33 : decode cX3_says 33 = .ok (.getfield 19, 3) := by decide +kernel
theorem dX3_says_36 : decode cX3_says 36 = .ok (.iload_n 1, 1) := by decide +kernel
theorem dX3_says_37 : decode cX3_says 37 = .ok (.aload_n 0, 1) := by decide +kernel
theorem dX3_says_38 : decode cX3_says 38 = .ok (.getfield 10, 3) := by decide +kernel
theorem dX3_says_41 : decode cX3_says 41 = .ok (.iload_n 2, 1) := by decide +kernel
theorem dX3_says_42 : decode cX3_says 42 = .ok (.invokevirtual 125, 3) := by decide +kernel
theorem dX3_says_45 : decode cX3_says 45 = .ok (.istore_n 3, 1) := by decide +kernel
theorem dX3_says_46 : decode cX3_says 46 = .ok (.iload_n 3, 1) := by decide +kernel
theorem dX3_says_47 : decode cX3_says 47 = .ok (.bipush (-2), 2) := by decide +kernel
theorem dX3_says_49 : decode cX3_says 49 = .ok (.if_icmp .ne 13, 3) := by decide +kernel
theorem dX3_says_52 : decode cX3_says 52 = .ok (.new 129, 3) := by decide +kernel
theorem dX3_says_55 : decode cX3_says 55 = .ok (.dup, 1) := by decide +kernel
theorem dX3_says_56 : decode cX3_says 56 = .ok (.ldc 131, 2) := by decide +kernel
theorem dX3_says_58 : decode cX3_says 58 = .ok (.invokespecial 133, 3) := by decide +kernel
theorem dX3_says_61 : decode cX3_says 61 = .ok (.athrow, 1) := by decide +kernel
theorem dX3_says_62 : decode cX3_says 62 = .ok (.iload_n 3, 1) := by decide +kernel
theorem dX3_says_63 : decode cX3_says 63 = .ok (.bipush (-3), 2) := by decide +kernel
theorem dX3_says_65 : decode cX3_says 65 = .ok (.if_icmp .ne 13, 3) := by decide +kernel
theorem dX3_says_68 : decode cX3_says 68 = .ok (.new 134, 3) := by decide +kernel
theorem dX3_says_71 : decode cX3_says 71 = .ok (.dup, 1) := by decide +kernel
theorem dX3_says_72 : decode cX3_says 72 = .ok (.ldc 136, 2) := by decide +kernel
theorem dX3_says_74 : decode cX3_says 74 = .ok (.invokespecial 138, 3) := by decide +kernel
theorem dX3_says_77 : decode cX3_says 77 = .ok (.athrow, 1) := by decide +kernel
theorem dX3_says_78 : decode cX3_says 78 = .ok (.iload_n 3, 1) := by decide +kernel
theorem dX3_says_79 : decode cX3_says 79 = .ok (.ireturn, 1) := by decide +kernel
theorem dX3_abstains_0 : decode cX3_abstains 0 = .ok (.aload_n 0, 1) := by decide +kernel
theorem dX3_abstains_1 : decode cX3_abstains 1 = .ok (.getfield 19, 3) := by decide +kernel
theorem dX3_abstains_4 : decode cX3_abstains 4 = .ok (.iload_n 1, 1) := by decide +kernel
theorem dX3_abstains_5 : decode cX3_abstains 5 = .ok (.invokevirtual 102, 3) := by decide +kernel
theorem dX3_abstains_8 : decode cX3_abstains 8 = .ok (.ifCond .ne 6, 3) := by decide +kernel
theorem dX3_abstains_11 : decode cX3_abstains 11 = .ok (.bipush (-101), 2) := by decide +kernel
theorem dX3_abstains_13 : decode cX3_abstains 13 = .ok (.ireturn, 1) := by decide +kernel
theorem dX3_abstains_14 : decode cX3_abstains 14 = .ok (.iconst 0, 1) := by decide +kernel
theorem dX3_abstains_15 : decode cX3_abstains 15 = .ok (.istore_n 2, 1) := by decide +kernel
theorem dX3_abstains_16 : decode cX3_abstains 16 = .ok (.iconst 0, 1) := by decide +kernel
theorem dX3_abstains_17 : decode cX3_abstains 17 = .ok (.istore_n 3, 1) := by decide +kernel
theorem dX3_abstains_18 : decode cX3_abstains 18 = .ok (.iload_n 3, 1) := by decide +kernel
theorem dX3_abstains_19 : decode cX3_abstains 19 = .ok (.aload_n 0, 1) := by decide +kernel
theorem dX3_abstains_20 : decode cX3_abstains 20 = .ok (.getfield 10, 3) := by decide +kernel
theorem dX3_abstains_23 : decode cX3_abstains 23 = .ok (.invokevirtual 139, 3) := by decide +kernel
theorem dX3_abstains_26 : decode cX3_abstains 26 = .ok (.if_icmp .ge 31, 3) := by decide +kernel
theorem dX3_abstains_29 : decode cX3_abstains 29 = .ok (.aload_n 0, 1) := by decide +kernel
theorem dX3_abstains_30 : decode cX3_abstains 30 = .ok (.getfield 19, 3) := by decide +kernel
theorem dX3_abstains_33 : decode cX3_abstains 33 = .ok (.iload_n 1, 1) := by decide +kernel
theorem dX3_abstains_34 : decode cX3_abstains 34 = .ok (.aload_n 0, 1) := by decide +kernel
theorem dX3_abstains_35 : decode cX3_abstains 35 = .ok (.getfield 10, 3) := by decide +kernel
theorem dX3_abstains_38 : decode cX3_abstains 38 = .ok (.iload_n 3, 1) := by decide +kernel
theorem dX3_abstains_39 : decode cX3_abstains 39 = .ok (.invokevirtual 125, 3) := by decide +kernel
theorem dX3_abstains_42 : decode cX3_abstains 42 = .ok (.invokestatic 68, 3) := by decide +kernel
theorem dX3_abstains_45 : decode cX3_abstains 45 = .ok (.ifCond .ne 6, 3) := by decide +kernel
theorem dX3_abstains_48 : decode cX3_abstains 48 = .ok (.iinc 2 1, 3) := by decide +kernel
theorem dX3_abstains_51 : decode cX3_abstains 51 = .ok (.iinc 3 1, 3) := by decide +kernel
theorem dX3_abstains_54 : decode cX3_abstains 54 = .ok (.goto (-36), 3) := by decide +kernel
theorem dX3_abstains_57 : decode cX3_abstains 57 = .ok (.iload_n 2, 1) := by decide +kernel
theorem dX3_abstains_58 : decode cX3_abstains 58 = .ok (.ireturn, 1) := by decide +kernel
theorem dX3_votes_0 : decode cX3_votes 0 = .ok (.aload_n 0, 1) := by decide +kernel
theorem dX3_votes_1 : decode cX3_votes 1 = .ok (.getfield 10, 3) := by decide +kernel
theorem dX3_votes_4 : decode cX3_votes 4 = .ok (.iload_n 1, 1) := by decide +kernel
theorem dX3_votes_5 : decode cX3_votes 5 = .ok (.invokevirtual 65, 3) := by decide +kernel
theorem dX3_votes_8 : decode cX3_votes 8 = .ok (.ifCond .ne 6, 3) := by decide +kernel
theorem dX3_votes_11 : decode cX3_votes 11 = .ok (.bipush (-101), 2) := by decide +kernel
theorem dX3_votes_13 : decode cX3_votes 13 = .ok (.ireturn, 1) := by decide +kernel
theorem dX3_votes_14 : decode cX3_votes 14 = .ok (.iload_n 2, 1) := by decide +kernel
theorem dX3_votes_15 : decode cX3_votes 15 = .ok (.invokestatic 68, 3) := by decide +kernel
theorem dX3_votes_18 : decode cX3_votes 18 = .ok (.ifCond .ne 6, 3) := by decide +kernel
theorem dX3_votes_21 : decode cX3_votes 21 = .ok (.bipush (-102), 2) := by decide +kernel
theorem dX3_votes_23 : decode cX3_votes 23 = .ok (.ireturn, 1) := by decide +kernel
theorem dX3_votes_24 : decode cX3_votes 24 = .ok (.aload_n 0, 1) := by decide +kernel
theorem dX3_votes_25 : decode cX3_votes 25 = .ok (.iload_n 1, 1) := by decide +kernel
theorem dX3_votes_26 : decode cX3_votes 26 = .ok (.invokevirtual 143, 3) := by decide +kernel
theorem dX3_votes_29 : decode cX3_votes 29 = .ok (.aload_n 0, 1) := by decide +kernel
theorem dX3_votes_30 : decode cX3_votes 30 = .ok (.getfield 48, 3) := by decide +kernel
theorem dX3_votes_33 : decode cX3_votes 33 = .ok (.iload_n 2, 1) := by decide +kernel
theorem dX3_votes_34 : decode cX3_votes 34 = .ok (.iaload, 1) := by decide +kernel
theorem dX3_votes_35 : decode cX3_votes 35 = .ok (.ireturn, 1) := by decide +kernel
theorem dX3_decided_0 : decode cX3_decided 0 = .ok (.aload_n 0, 1) := by decide +kernel
theorem dX3_decided_1 : decode cX3_decided 1 = .ok (.getfield 10, 3) := by decide +kernel
theorem dX3_decided_4 : decode cX3_decided 4 = .ok (.iload_n 1, 1) := by decide +kernel
theorem dX3_decided_5 : decode cX3_decided 5 = .ok (.invokevirtual 65, 3) := by decide +kernel
theorem dX3_decided_8 : decode cX3_decided 8 = .ok (.ifCond .ne 6, 3) := by decide +kernel
theorem dX3_decided_11 : decode cX3_decided 11 = .ok (.bipush (-101), 2) := by decide +kernel
theorem dX3_decided_13 : decode cX3_decided 13 = .ok (.ireturn, 1) := by decide +kernel
theorem dX3_decided_14 : decode cX3_decided 14 = .ok (.aload_n 0, 1) := by decide +kernel
theorem dX3_decided_15 : decode cX3_decided 15 = .ok (.iload_n 1, 1) := by decide +kernel
theorem dX3_decided_16 : decode cX3_decided 16 = .ok (.invokevirtual 147, 3) := by decide +kernel
theorem dX3_decided_19 : decode cX3_decided 19 = .ok (.ireturn, 1) := by decide +kernel
theorem dX3_learn_0 : decode cX3_learn 0 = .ok (.iload_n 1, 1) := by decide +kernel
theorem dX3_learn_1 : decode cX3_learn 1 = .ok (.iconst 1, 1) := by decide +kernel
theorem dX3_learn_2 : decode cX3_learn 2 = .ok (.if_icmp .lt 9, 3) := by decide +kernel
theorem dX3_learn_5 : decode cX3_learn 5 = .ok (.iload_n 1, 1) := by decide +kernel
theorem dX3_learn_6 : decode cX3_learn 6 = .ok (.bipush 20, 2) := by decide +kernel
theorem dX3_learn_8 : decode cX3_learn 8 = .ok (.if_icmp .le 6, 3) := by decide +kernel
theorem dX3_learn_11 : decode cX3_learn 11 = .ok (.bipush (-102), 2) := by decide +kernel
theorem dX3_learn_13 : decode cX3_learn 13 = .ok (.ireturn, 1) := by decide +kernel
theorem dX3_learn_14 : decode cX3_learn 14 = .ok (.aload_n 0, 1) := by decide +kernel
theorem dX3_learn_15 : decode cX3_learn 15 = .ok (.getfield 34, 3) := by decide +kernel
theorem dX3_learn_18 : decode cX3_learn 18 = .ok (.bipush 10, 2) := by decide +kernel
theorem dX3_learn_20 : decode cX3_learn 20 = .ok (.invokestatic 38, 3) := by decide +kernel
theorem dX3_learn_23 : decode cX3_learn 23 = .ok (.iconst 1, 1) := by decide +kernel
theorem dX3_learn_24 : decode cX3_learn 24 = .ok (.istore_n 2, 1) := by decide +kernel
theorem dX3_learn_25 : decode cX3_learn 25 = .ok (.iload_n 2, 1) := by decide +kernel
theorem dX3_learn_26 : decode cX3_learn 26 = .ok (.iload_n 1, 1) := by decide +kernel
theorem dX3_learn_27 : decode cX3_learn 27 = .ok (.if_icmp .ge 18, 3) := by decide +kernel
theorem dX3_learn_30 : decode cX3_learn 30 = .ok (.aload_n 0, 1) := by decide +kernel
theorem dX3_learn_31 : decode cX3_learn 31 = .ok (.invokevirtual 150, 3) := by decide +kernel
theorem dX3_learn_34 : decode cX3_learn 34 = .ok (.ifCond .ne 5, 3) := by decide +kernel
theorem dX3_learn_37 : decode cX3_learn 37 = .ok (.iload_n 2, 1) := by decide +kernel
theorem dX3_learn_38 : decode cX3_learn 38 = .ok (.ireturn, 1) := by decide +kernel
theorem dX3_learn_39 : decode cX3_learn 39 = .ok (.iinc 2 1, 3) := by decide +kernel
theorem dX3_learn_42 : decode cX3_learn 42 = .ok (.goto (-17), 3) := by decide +kernel
theorem dX3_learn_45 : decode cX3_learn 45 = .ok (.aload_n 0, 1) := by decide +kernel
theorem dX3_learn_46 : decode cX3_learn 46 = .ok (.invokevirtual 150, 3) := by decide +kernel
theorem dX3_learn_49 : decode cX3_learn 49 = .ok (.pop, 1) := by decide +kernel
theorem dX3_learn_50 : decode cX3_learn 50 = .ok (.iload_n 1, 1) := by decide +kernel
theorem dX3_learn_51 : decode cX3_learn 51 = .ok (.ireturn, 1) := by decide +kernel
theorem dX3_agree_0 : decode cX3_agree 0 = .ok (.iload_n 1, 1) := by decide +kernel
theorem dX3_agree_1 : decode cX3_agree 1 = .ok (.invokestatic 61, 3) := by decide +kernel
theorem dX3_agree_4 : decode cX3_agree 4 = .ok (.ifCond .eq 15, 3) := by decide +kernel
theorem dX3_agree_7 : decode cX3_agree 7 = .ok (.iload_n 2, 1) := by decide +kernel
theorem dX3_agree_8 : decode cX3_agree 8 = .ok (.invokestatic 61, 3) := by decide +kernel
theorem dX3_agree_11 : decode cX3_agree 11 = .ok (.ifCond .eq 8, 3) := by decide +kernel
theorem dX3_agree_14 : decode cX3_agree 14 = .ok (.iload_n 1, 1) := by decide +kernel
theorem dX3_agree_15 : decode cX3_agree 15 = .ok (.iload_n 2, 1) := by decide +kernel
theorem dX3_agree_16 : decode cX3_agree 16 = .ok (.if_icmp .ne 13, 3) := by decide +kernel
theorem dX3_agree_19 : decode cX3_agree 19 = .ok (.new 118, 3) := by decide +kernel
theorem dX3_agree_22 : decode cX3_agree 22 = .ok (.dup, 1) := by decide +kernel
theorem dX3_agree_23 : decode cX3_agree 23 = .ok (.ldc 154, 2) := by decide +kernel
theorem dX3_agree_25 : decode cX3_agree 25 = .ok (.invokespecial 122, 3) := by decide +kernel
theorem dX3_agree_28 : decode cX3_agree 28 = .ok (.athrow, 1) := by decide +kernel
theorem dX3_agree_29 : decode cX3_agree 29 = .ok (.iload_n 3, 1) := by decide +kernel
theorem dX3_agree_30 : decode cX3_agree 30 = .ok (.ifCond .lt 8, 3) := by decide +kernel
theorem dX3_agree_33 : decode cX3_agree 33 = .ok (.iload_n 3, 1) := by decide +kernel
theorem dX3_agree_34 : decode cX3_agree 34 = .ok (.iconst 4, 1) := by decide +kernel
theorem dX3_agree_35 : decode cX3_agree 35 = .ok (.if_icmp .lt 13, 3) := by decide +kernel
theorem dX3_agree_38 : decode cX3_agree 38 = .ok (.new 118, 3) := by decide +kernel
theorem dX3_agree_41 : decode cX3_agree 41 = .ok (.dup, 1) := by decide +kernel
theorem dX3_agree_42 : decode cX3_agree 42 = .ok (.ldc 156, 2) := by decide +kernel
theorem dX3_agree_44 : decode cX3_agree 44 = .ok (.invokespecial 122, 3) := by decide +kernel
theorem dX3_agree_47 : decode cX3_agree 47 = .ok (.athrow, 1) := by decide +kernel
theorem dX3_agree_48 : decode cX3_agree 48 = .ok (.aload_n 0, 1) := by decide +kernel
theorem dX3_agree_49 : decode cX3_agree 49 = .ok (.getfield 26, 3) := by decide +kernel
theorem dX3_agree_52 : decode cX3_agree 52 = .ok (.aload_n 0, 1) := by decide +kernel
theorem dX3_agree_53 : decode cX3_agree 53 = .ok (.getfield 10, 3) := by decide +kernel
theorem dX3_agree_56 : decode cX3_agree 56 = .ok (.iload_n 1, 1) := by decide +kernel
theorem dX3_agree_57 : decode cX3_agree 57 = .ok (.iload_n 2, 1) := by decide +kernel
theorem dX3_agree_58 : decode cX3_agree 58 = .ok (.invokevirtual 158, 3) := by decide +kernel
theorem dX3_agree_61 : decode cX3_agree 61 = .ok (.aload_n 0, 1) := by decide +kernel
theorem dX3_agree_62 : decode cX3_agree 62 = .ok (.iload_n 3, 1) := by decide +kernel
theorem dX3_agree_63 : decode cX3_agree 63 = .ok (.invokevirtual 162, 3) := by decide +kernel
theorem dX3_agree_66 : decode cX3_agree 66 = .ok (.lreturn, 1) := by decide +kernel
theorem dX3_all_0 : decode cX3_all 0 = .ok (.iload_n 1, 1) := by decide +kernel
theorem dX3_all_1 : decode cX3_all 1 = .ok (.ifCond .lt 8, 3) := by decide +kernel
theorem dX3_all_4 : decode cX3_all 4 = .ok (.iload_n 1, 1) := by decide +kernel
theorem dX3_all_5 : decode cX3_all 5 = .ok (.iconst 4, 1) := by decide +kernel
theorem dX3_all_6 : decode cX3_all 6 = .ok (.if_icmp .lt 13, 3) := by decide +kernel
theorem dX3_all_9 : decode cX3_all 9 = .ok (.new 118, 3) := by decide +kernel
theorem dX3_all_12 : decode cX3_all 12 = .ok (.dup, 1) := by decide +kernel
theorem dX3_all_13 : decode cX3_all 13 = .ok (.ldc 156, 2) := by decide +kernel
theorem dX3_all_15 : decode cX3_all 15 = .ok (.invokespecial 122, 3) := by decide +kernel
theorem dX3_all_18 : decode cX3_all 18 = .ok (.athrow, 1) := by decide +kernel
theorem dX3_all_19 : decode cX3_all 19 = .ok (.aload_n 0, 1) := by decide +kernel
theorem dX3_all_20 : decode cX3_all 20 = .ok (.getfield 26, 3) := by decide +kernel
theorem dX3_all_23 : decode cX3_all 23 = .ok (.aload_n 0, 1) := by decide +kernel
theorem dX3_all_24 : decode cX3_all 24 = .ok (.getfield 10, 3) := by decide +kernel
theorem dX3_all_27 : decode cX3_all 27 = .ok (.invokevirtual 166, 3) := by decide +kernel
theorem dX3_all_30 : decode cX3_all 30 = .ok (.aload_n 0, 1) := by decide +kernel
theorem dX3_all_31 : decode cX3_all 31 = .ok (.iload_n 1, 1) := by decide +kernel
theorem dX3_all_32 : decode cX3_all 32 = .ok (.invokevirtual 162, 3) := by decide +kernel
theorem dX3_all_35 : decode cX3_all 35 = .ok (.lreturn, 1) := by decide +kernel
theorem dX3_next_0 : decode cX3_next 0 = .ok (.iload_n 1, 1) := by decide +kernel
theorem dX3_next_1 : decode cX3_next 1 = .ok (.invokestatic 61, 3) := by decide +kernel
theorem dX3_next_4 : decode cX3_next 4 = .ok (.ifCond .ne 6, 3) := by decide +kernel
theorem dX3_next_7 : decode cX3_next 7 = .ok (.bipush (-101), 2) := by decide +kernel
theorem dX3_next_9 : decode cX3_next 9 = .ok (.ireturn, 1) := by decide +kernel
theorem dX3_next_10 : decode cX3_next 10 = .ok (.aload_n 0, 1) := by decide +kernel
theorem dX3_next_11 : decode cX3_next 11 = .ok (.iload_n 1, 1) := by decide +kernel
theorem dX3_next_12 : decode cX3_next 12 = .ok (.invokevirtual 90, 3) := by decide +kernel
theorem dX3_next_15 : decode cX3_next 15 = .ok (.ifCond .eq 5, 3) := by decide +kernel
theorem dX3_next_18 : decode cX3_next 18 = .ok (.iconst (-1), 1) := by decide +kernel
theorem dX3_next_19 : decode cX3_next 19 = .ok (.ireturn, 1) := by decide +kernel
theorem dX3_next_20 : decode cX3_next 20 = .ok (.iconst (-1), 1) := by decide +kernel
theorem dX3_next_21 : decode cX3_next 21 = .ok (.istore_n 2, 1) := by decide +kernel
theorem dX3_next_22 : decode cX3_next 22 = .ok (.iconst 0, 1) := by decide +kernel
theorem dX3_next_23 : decode cX3_next 23 = .ok (.istore_n 3, 1) := by decide +kernel
theorem dX3_next_24 : decode cX3_next 24 = .ok (.iconst 0, 1) := by decide +kernel
theorem dX3_next_25 : decode cX3_next 25 = .ok (.istore 4, 2) := by decide +kernel
theorem dX3_next_27 : decode cX3_next 27 = .ok (.iconst 0, 1) := by decide +kernel
theorem dX3_next_28 : decode cX3_next 28 = .ok (.istore 5, 2) := by decide +kernel
theorem dX3_next_30 : decode cX3_next 30 = .ok (.iload 5, 2) := by decide +kernel
theorem dX3_next_32 : decode cX3_next 32 = .ok (.aload_n 0, 1) := by decide +kernel
theorem dX3_next_33 : decode cX3_next 33 = .ok (.getfield 10, 3) := by decide +kernel
theorem dX3_next_36 : decode cX3_next 36 = .ok (.invokevirtual 139, 3) := by decide +kernel
theorem dX3_next_39 : decode cX3_next 39 = .ok (.if_icmp .ge 96, 3) := by decide +kernel
theorem dX3_next_42 : decode cX3_next 42 = .ok (.aload_n 0, 1) := by decide +kernel
theorem dX3_next_43 : decode cX3_next 43 = .ok (.getfield 10, 3) := by decide +kernel
theorem dX3_next_46 : decode cX3_next 46 = .ok (.iload_n 1, 1) := by decide +kernel
theorem dX3_next_47 : decode cX3_next 47 = .ok (.iload 5, 2) := by decide +kernel
theorem dX3_next_49 : decode cX3_next 49 = .ok (.invokevirtual 71, 3) := by decide +kernel
theorem dX3_next_52 : decode cX3_next 52 = .ok (.iconst (-1), 1) := by decide +kernel
theorem dX3_next_53 : decode cX3_next 53 = .ok (.if_icmp .ne 76, 3) := by decide +kernel
theorem dX3_next_56 : decode cX3_next 56 = .ok (.aload_n 0, 1) := by decide +kernel
theorem dX3_next_57 : decode cX3_next 57 = .ok (.getfield 10, 3) := by decide +kernel
theorem dX3_next_60 : decode cX3_next 60 = .ok (.iload 5, 2) := by decide +kernel
theorem dX3_next_62 : decode cX3_next 62 = .ok (.invokevirtual 79, 3) := by decide +kernel
theorem dX3_next_65 : decode cX3_next 65 = .ok (.iconst (-1), 1) := by decide +kernel
theorem dX3_next_66 : decode cX3_next 66 = .ok (.if_icmp .eq 6, 3) := by decide +kernel
theorem dX3_next_69 : decode cX3_next 69 = .ok (.goto 60, 3) := by decide +kernel
theorem dX3_next_72 : decode cX3_next 72 = .ok (.aload_n 0, 1) := by decide +kernel
theorem dX3_next_73 : decode cX3_next 73 = .ok (.iload 5, 2) := by decide +kernel
theorem dX3_next_75 : decode cX3_next 75 = .ok (.invokevirtual 143, 3) := by decide +kernel
theorem dX3_next_78 : decode cX3_next 78 = .ok (.aload_n 0, 1) := by decide +kernel
theorem dX3_next_79 : decode cX3_next 79 = .ok (.invokevirtual 170, 3) := by decide +kernel
theorem dX3_next_82 : decode cX3_next 82 = .ok (.istore 6, 2) := by decide +kernel
theorem dX3_next_84 : decode cX3_next 84 = .ok (.aload_n 0, 1) := by decide +kernel
theorem dX3_next_85 : decode cX3_next 85 = .ok (.getfield 10, 3) := by decide +kernel
theorem dX3_next_88 : decode cX3_next 88 = .ok (.iload 5, 2) := by decide +kernel
theorem dX3_next_90 : decode cX3_next 90 = .ok (.invokevirtual 173, 3) := by decide +kernel
theorem dX3_next_93 : decode cX3_next 93 = .ok (.istore 7, 2) := by decide +kernel
theorem dX3_next_95 : decode cX3_next 95 = .ok (.iload_n 2, 1) := by decide +kernel
theorem dX3_next_96 : decode cX3_next 96 = .ok (.iconst (-1), 1) := by decide +kernel
theorem dX3_next_97 : decode cX3_next 97 = .ok (.if_icmp .eq 22, 3) := by decide +kernel
theorem dX3_next_100 : decode cX3_next 100 = .ok (.iload 6, 2) := by decide +kernel
theorem dX3_next_102 : decode cX3_next 102 = .ok (.iload_n 3, 1) := by decide +kernel
theorem dX3_next_103 : decode cX3_next 103 = .ok (.if_icmp .lt 16, 3) := by decide +kernel
theorem dX3_next_106 : decode cX3_next 106 = .ok (.iload 6, 2) := by decide +kernel
theorem dX3_next_108 : decode cX3_next 108 = .ok (.iload_n 3, 1) := by decide +kernel
theorem dX3_next_109 : decode cX3_next 109 = .ok (.if_icmp .ne 20, 3) := by decide +kernel
theorem dX3_next_112 : decode cX3_next 112 = .ok (.iload 7, 2) := by decide +kernel
theorem dX3_next_114 : decode cX3_next 114 = .ok (.iload 4, 2) := by decide +kernel
theorem dX3_next_116 : decode cX3_next 116 = .ok (.if_icmp .ge 13, 3) := by decide +kernel
theorem dX3_next_119 : decode cX3_next 119 = .ok (.iload 5, 2) := by decide +kernel
theorem dX3_next_121 : decode cX3_next 121 = .ok (.istore_n 2, 1) := by decide +kernel
theorem dX3_next_122 : decode cX3_next 122 = .ok (.iload 6, 2) := by decide +kernel
theorem dX3_next_124 : decode cX3_next 124 = .ok (.istore_n 3, 1) := by decide +kernel
theorem dX3_next_125 : decode cX3_next 125 = .ok (.iload 7, 2) := by decide +kernel
theorem dX3_next_127 : decode cX3_next 127 = .ok (.istore 4, 2) := by decide +kernel
theorem dX3_next_129 : decode cX3_next 129 = .ok (.iinc 5 1, 3) := by decide +kernel
theorem dX3_next_132 : decode cX3_next 132 = .ok (.goto (-102), 3) := by decide +kernel
theorem dX3_next_135 : decode cX3_next 135 = .ok (.iload_n 2, 1) := by decide +kernel
theorem dX3_next_136 : decode cX3_next 136 = .ok (.ireturn, 1) := by decide +kernel
theorem dX3_about_0 : decode cX3_about 0 = .ok (.iload_n 1, 1) := by decide +kernel
theorem dX3_about_1 : decode cX3_about 1 = .ok (.tableswitch 96 0 7 #[47, 55, 60, 68, 73, 81, 86, 91], 47) := by decide +kernel
theorem dX3_about_48 : decode cX3_about 48 = .ok (.aload_n 0, 1) := by decide +kernel
theorem dX3_about_49 : decode cX3_about 49 = .ok (.getfield 10, 3) := by decide +kernel
theorem dX3_about_52 : decode cX3_about 52 = .ok (.invokevirtual 139, 3) := by decide +kernel
theorem dX3_about_55 : decode cX3_about 55 = .ok (.ireturn, 1) := by decide +kernel
theorem dX3_about_56 : decode cX3_about 56 = .ok (.aload_n 0, 1) := by decide +kernel
theorem dX3_about_57 : decode cX3_about 57 = .ok (.invokevirtual 176, 3) := by decide +kernel
theorem dX3_about_60 : decode cX3_about 60 = .ok (.ireturn, 1) := by decide +kernel
theorem dX3_about_61 : decode cX3_about 61 = .ok (.aload_n 0, 1) := by decide +kernel
theorem dX3_about_62 : decode cX3_about 62 = .ok (.getfield 19, 3) := by decide +kernel
theorem dX3_about_65 : decode cX3_about 65 = .ok (.invokevirtual 179, 3) := by decide +kernel
theorem dX3_about_68 : decode cX3_about 68 = .ok (.ireturn, 1) := by decide +kernel
theorem dX3_about_69 : decode cX3_about 69 = .ok (.aload_n 0, 1) := by decide +kernel
theorem dX3_about_70 : decode cX3_about 70 = .ok (.invokevirtual 180, 3) := by decide +kernel
theorem dX3_about_73 : decode cX3_about 73 = .ok (.ireturn, 1) := by decide +kernel
theorem dX3_about_74 : decode cX3_about 74 = .ok (.aload_n 0, 1) := by decide +kernel
theorem dX3_about_75 : decode cX3_about 75 = .ok (.getfield 10, 3) := by decide +kernel
theorem dX3_about_78 : decode cX3_about 78 = .ok (.invokevirtual 183, 3) := by decide +kernel
theorem dX3_about_81 : decode cX3_about 81 = .ok (.ireturn, 1) := by decide +kernel
theorem dX3_about_82 : decode cX3_about 82 = .ok (.aload_n 0, 1) := by decide +kernel
theorem dX3_about_83 : decode cX3_about 83 = .ok (.getfield 44, 3) := by decide +kernel
theorem dX3_about_86 : decode cX3_about 86 = .ok (.ireturn, 1) := by decide +kernel
theorem dX3_about_87 : decode cX3_about 87 = .ok (.aload_n 0, 1) := by decide +kernel
theorem dX3_about_88 : decode cX3_about 88 = .ok (.invokevirtual 186, 3) := by decide +kernel
theorem dX3_about_91 : decode cX3_about 91 = .ok (.ireturn, 1) := by decide +kernel
theorem dX3_about_92 : decode cX3_about 92 = .ok (.aload_n 0, 1) := by decide +kernel
theorem dX3_about_93 : decode cX3_about 93 = .ok (.invokevirtual 189, 3) := by decide +kernel
theorem dX3_about_96 : decode cX3_about 96 = .ok (.ireturn, 1) := by decide +kernel
theorem dX3_about_97 : decode cX3_about 97 = .ok (.bipush (-102), 2) := by decide +kernel
theorem dX3_about_99 : decode cX3_about 99 = .ok (.ireturn, 1) := by decide +kernel
theorem dX3_isPerson_0 : decode cX3_isPerson 0 = .ok (.iload_n 0, 1) := by decide +kernel
theorem dX3_isPerson_1 : decode cX3_isPerson 1 = .ok (.ifCond .lt 13, 3) := by decide +kernel
theorem dX3_isPerson_4 : decode cX3_isPerson 4 = .ok (.iload_n 0, 1) := by decide +kernel
theorem dX3_isPerson_5 : decode cX3_isPerson 5 = .ok (.bipush 8, 2) := by decide +kernel
theorem dX3_isPerson_7 : decode cX3_isPerson 7 = .ok (.if_icmp .ge 7, 3) := by decide +kernel
theorem dX3_isPerson_10 : decode cX3_isPerson 10 = .ok (.iconst 1, 1) := by decide +kernel
theorem dX3_isPerson_11 : decode cX3_isPerson 11 = .ok (.goto 4, 3) := by decide +kernel
theorem dX3_isPerson_14 : decode cX3_isPerson 14 = .ok (.iconst 0, 1) := by decide +kernel
theorem dX3_isPerson_15 : decode cX3_isPerson 15 = .ok (.ireturn, 1) := by decide +kernel
theorem dX3_isLabel_0 : decode cX3_isLabel 0 = .ok (.iload_n 0, 1) := by decide +kernel
theorem dX3_isLabel_1 : decode cX3_isLabel 1 = .ok (.ifCond .lt 12, 3) := by decide +kernel
theorem dX3_isLabel_4 : decode cX3_isLabel 4 = .ok (.iload_n 0, 1) := by decide +kernel
theorem dX3_isLabel_5 : decode cX3_isLabel 5 = .ok (.iconst 5, 1) := by decide +kernel
theorem dX3_isLabel_6 : decode cX3_isLabel 6 = .ok (.if_icmp .ge 7, 3) := by decide +kernel
theorem dX3_isLabel_9 : decode cX3_isLabel 9 = .ok (.iconst 1, 1) := by decide +kernel
theorem dX3_isLabel_10 : decode cX3_isLabel 10 = .ok (.goto 4, 3) := by decide +kernel
theorem dX3_isLabel_13 : decode cX3_isLabel 13 = .ok (.iconst 0, 1) := by decide +kernel
theorem dX3_isLabel_14 : decode cX3_isLabel 14 = .ok (.ireturn, 1) := by decide +kernel
theorem dX3_isFeature_0 : decode cX3_isFeature 0 = .ok (.iload_n 0, 1) := by decide +kernel
theorem dX3_isFeature_1 : decode cX3_isFeature 1 = .ok (.ifCond .lt 12, 3) := by decide +kernel
theorem dX3_isFeature_4 : decode cX3_isFeature 4 = .ok (.iload_n 0, 1) := by decide +kernel
theorem dX3_isFeature_5 : decode cX3_isFeature 5 = .ok (.iconst 4, 1) := by decide +kernel
theorem dX3_isFeature_6 : decode cX3_isFeature 6 = .ok (.if_icmp .ge 7, 3) := by decide +kernel
theorem dX3_isFeature_9 : decode cX3_isFeature 9 = .ok (.iconst 1, 1) := by decide +kernel
theorem dX3_isFeature_10 : decode cX3_isFeature 10 = .ok (.goto 4, 3) := by decide +kernel
theorem dX3_isFeature_13 : decode cX3_isFeature 13 = .ok (.iconst 0, 1) := by decide +kernel
theorem dX3_isFeature_14 : decode cX3_isFeature 14 = .ok (.ireturn, 1) := by decide +kernel
theorem dX3_isPlace_0 : decode cX3_isPlace 0 = .ok (.iload_n 0, 1) := by decide +kernel
theorem dX3_isPlace_1 : decode cX3_isPlace 1 = .ok (.ifCond .lt 13, 3) := by decide +kernel
theorem dX3_isPlace_4 : decode cX3_isPlace 4 = .ok (.iload_n 0, 1) := by decide +kernel
theorem dX3_isPlace_5 : decode cX3_isPlace 5 = .ok (.bipush 8, 2) := by decide +kernel
theorem dX3_isPlace_7 : decode cX3_isPlace 7 = .ok (.if_icmp .ge 7, 3) := by decide +kernel
theorem dX3_isPlace_10 : decode cX3_isPlace 10 = .ok (.iconst 1, 1) := by decide +kernel
theorem dX3_isPlace_11 : decode cX3_isPlace 11 = .ok (.goto 4, 3) := by decide +kernel
theorem dX3_isPlace_14 : decode cX3_isPlace 14 = .ok (.iconst 0, 1) := by decide +kernel
theorem dX3_isPlace_15 : decode cX3_isPlace 15 = .ok (.ireturn, 1) := by decide +kernel
theorem dX3_isBarred_0 : decode cX3_isBarred 0 = .ok (.aload_n 0, 1) := by decide +kernel
theorem dX3_isBarred_1 : decode cX3_isBarred 1 = .ok (.getfield 10, 3) := by decide +kernel
theorem dX3_isBarred_4 : decode cX3_isBarred 4 = .ok (.iload_n 1, 1) := by decide +kernel
theorem dX3_isBarred_5 : decode cX3_isBarred 5 = .ok (.invokevirtual 87, 3) := by decide +kernel
theorem dX3_isBarred_8 : decode cX3_isBarred 8 = .ok (.aload_n 0, 1) := by decide +kernel
theorem dX3_isBarred_9 : decode cX3_isBarred 9 = .ok (.getfield 44, 3) := by decide +kernel
theorem dX3_isBarred_12 : decode cX3_isBarred 12 = .ok (.if_icmp .lt 7, 3) := by decide +kernel
theorem dX3_isBarred_15 : decode cX3_isBarred 15 = .ok (.iconst 1, 1) := by decide +kernel
theorem dX3_isBarred_16 : decode cX3_isBarred 16 = .ok (.goto 4, 3) := by decide +kernel
theorem dX3_isBarred_19 : decode cX3_isBarred 19 = .ok (.iconst 0, 1) := by decide +kernel
theorem dX3_isBarred_20 : decode cX3_isBarred 20 = .ok (.ireturn, 1) := by decide +kernel
theorem dX3_countVotes_0 : decode cX3_countVotes 0 = .ok (.aload_n 0, 1) := by decide +kernel
theorem dX3_countVotes_1 : decode cX3_countVotes 1 = .ok (.getfield 48, 3) := by decide +kernel
theorem dX3_countVotes_4 : decode cX3_countVotes 4 = .ok (.iconst 0, 1) := by decide +kernel
theorem dX3_countVotes_5 : decode cX3_countVotes 5 = .ok (.invokestatic 38, 3) := by decide +kernel
theorem dX3_countVotes_8 : decode cX3_countVotes 8 = .ok (.iconst 0, 1) := by decide +kernel
theorem dX3_countVotes_9 : decode cX3_countVotes 9 = .ok (.istore_n 2, 1) := by decide +kernel
theorem dX3_countVotes_10 : decode cX3_countVotes 10 = .ok (.iload_n 2, 1) := by decide +kernel
theorem dX3_countVotes_11 : decode cX3_countVotes 11 = .ok (.bipush 8, 2) := by decide +kernel
theorem dX3_countVotes_13 : decode cX3_countVotes 13 = .ok (.if_icmp .ge 49, 3) := by decide +kernel
theorem dX3_countVotes_16 : decode cX3_countVotes 16 = .ok (.aload_n 0, 1) := by decide +kernel
theorem dX3_countVotes_17 : decode cX3_countVotes 17 = .ok (.getfield 10, 3) := by decide +kernel
theorem dX3_countVotes_20 : decode cX3_countVotes 20 = .ok (.iload_n 2, 1) := by decide +kernel
theorem dX3_countVotes_21 : decode cX3_countVotes 21 = .ok (.iload_n 1, 1) := by decide +kernel
theorem dX3_countVotes_22 : decode cX3_countVotes 22 = .ok (.invokevirtual 71, 3) := by decide +kernel
theorem dX3_countVotes_25 : decode cX3_countVotes 25 = .ok (.istore_n 3, 1) := by decide +kernel
theorem dX3_countVotes_26 : decode cX3_countVotes 26 = .ok (.iload_n 3, 1) := by decide +kernel
theorem dX3_countVotes_27 : decode cX3_countVotes 27 = .ok (.invokestatic 68, 3) := by decide +kernel
theorem dX3_countVotes_30 : decode cX3_countVotes 30 = .ok (.ifCond .eq 26, 3) := by decide +kernel
theorem dX3_countVotes_33 : decode cX3_countVotes 33 = .ok (.aload_n 0, 1) := by decide +kernel
theorem dX3_countVotes_34 : decode cX3_countVotes 34 = .ok (.iload_n 2, 1) := by decide +kernel
theorem dX3_countVotes_35 : decode cX3_countVotes 35 = .ok (.invokevirtual 90, 3) := by decide +kernel
theorem dX3_countVotes_38 : decode cX3_countVotes 38 = .ok (.ifCond .ne 18, 3) := by decide +kernel
theorem dX3_countVotes_41 : decode cX3_countVotes 41 = .ok (.aload_n 0, 1) := by decide +kernel
theorem dX3_countVotes_42 : decode cX3_countVotes 42 = .ok (.getfield 48, 3) := by decide +kernel
theorem dX3_countVotes_45 : decode cX3_countVotes 45 = .ok (.iload_n 3, 1) := by decide +kernel
theorem dX3_countVotes_46 : decode cX3_countVotes 46 = .ok (.dup2, 1) := by decide +kernel
theorem dX3_countVotes_47 : decode cX3_countVotes 47 = .ok (.iaload, 1) := by decide +kernel
theorem dX3_countVotes_48 : decode cX3_countVotes 48 = .ok (.aload_n 0, 1) := by decide +kernel
theorem dX3_countVotes_49 : decode cX3_countVotes 49 = .ok (.getfield 34, 3) := by decide +kernel
theorem dX3_countVotes_52 : decode cX3_countVotes 52 = .ok (.iload_n 2, 1) := by decide +kernel
theorem dX3_countVotes_53 : decode cX3_countVotes 53 = .ok (.iaload, 1) := by decide +kernel
theorem dX3_countVotes_54 : decode cX3_countVotes 54 = .ok (.iadd, 1) := by decide +kernel
theorem dX3_countVotes_55 : decode cX3_countVotes 55 = .ok (.iastore, 1) := by decide +kernel
theorem dX3_countVotes_56 : decode cX3_countVotes 56 = .ok (.iinc 2 1, 3) := by decide +kernel
theorem dX3_countVotes_59 : decode cX3_countVotes 59 = .ok (.goto (-49), 3) := by decide +kernel
theorem dX3_countVotes_62 : decode cX3_countVotes 62 = .ok (.iconst 0, 1) := by decide +kernel
theorem dX3_countVotes_63 : decode cX3_countVotes 63 = .ok (.istore_n 2, 1) := by decide +kernel
theorem dX3_countVotes_64 : decode cX3_countVotes 64 = .ok (.iload_n 2, 1) := by decide +kernel
theorem dX3_countVotes_65 : decode cX3_countVotes 65 = .ok (.aload_n 0, 1) := by decide +kernel
theorem dX3_countVotes_66 : decode cX3_countVotes 66 = .ok (.getfield 19, 3) := by decide +kernel
theorem dX3_countVotes_69 : decode cX3_countVotes 69 = .ok (.invokevirtual 179, 3) := by decide +kernel
theorem dX3_countVotes_72 : decode cX3_countVotes 72 = .ok (.if_icmp .ge 55, 3) := by decide +kernel
theorem dX3_countVotes_75 : decode cX3_countVotes 75 = .ok (.aload_n 0, 1) := by decide +kernel
theorem dX3_countVotes_76 : decode cX3_countVotes 76 = .ok (.getfield 19, 3) := by decide +kernel
theorem dX3_countVotes_79 : decode cX3_countVotes 79 = .ok (.iload_n 2, 1) := by decide +kernel
theorem dX3_countVotes_80 : decode cX3_countVotes 80 = .ok (.invokevirtual 105, 3) := by decide +kernel
theorem dX3_countVotes_83 : decode cX3_countVotes 83 = .ok (.ifCond .eq 19, 3) := by decide +kernel
theorem dX3_countVotes_86 : decode cX3_countVotes 86 = .ok (.aload_n 0, 1) := by decide +kernel
theorem dX3_countVotes_87 : decode cX3_countVotes 87 = .ok (.getfield 19, 3) := by decide +kernel
theorem dX3_countVotes_90 : decode cX3_countVotes 90 = .ok (.iload_n 2, 1) := by decide +kernel
theorem dX3_countVotes_91 : decode cX3_countVotes 91 = .ok (.aload_n 0, 1) := by decide +kernel
theorem dX3_countVotes_92 : decode cX3_countVotes 92 = .ok (.getfield 10, 3) := by decide +kernel
theorem dX3_countVotes_95 : decode cX3_countVotes 95 = .ok (.iload_n 1, 1) := by decide +kernel
theorem dX3_countVotes_96 : decode cX3_countVotes 96 = .ok (.invokevirtual 125, 3) := by decide +kernel
theorem dX3_countVotes_99 : decode cX3_countVotes 99 = .ok (.goto 4, 3) := by decide +kernel
theorem dX3_countVotes_102 : decode cX3_countVotes 102 = .ok (.iconst (-1), 1) := by decide +kernel
theorem dX3_countVotes_103 : decode cX3_countVotes 103 = .ok (.istore_n 3, 1) := by decide +kernel
theorem dX3_countVotes_104 : decode cX3_countVotes 104 = .ok (.iload_n 3, 1) := by decide +kernel
theorem dX3_countVotes_105 : decode cX3_countVotes 105 = .ok (.invokestatic 68, 3) := by decide +kernel
theorem dX3_countVotes_108 : decode cX3_countVotes 108 = .ok (.ifCond .eq 13, 3) := by decide +kernel
theorem dX3_countVotes_111 : decode cX3_countVotes 111 = .ok (.aload_n 0, 1) := by decide +kernel
theorem dX3_countVotes_112 : decode cX3_countVotes 112 = .ok (.getfield 48, 3) := by decide +kernel
theorem dX3_countVotes_115 : decode cX3_countVotes 115 = .ok (.iload_n 3, 1) := by decide +kernel
theorem dX3_countVotes_116 : decode cX3_countVotes 116 = .ok (.dup2, 1) := by decide +kernel
theorem dX3_countVotes_117 : decode cX3_countVotes 117 = .ok (.iaload, 1) := by decide +kernel
theorem dX3_countVotes_118 : decode cX3_countVotes 118 = .ok (.iconst 1, 1) := by decide +kernel
theorem dX3_countVotes_119 : decode cX3_countVotes 119 = .ok (.iadd, 1) := by decide +kernel
theorem dX3_countVotes_120 : decode cX3_countVotes 120 = .ok (.iastore, 1) := by decide +kernel
theorem dX3_countVotes_121 : decode cX3_countVotes 121 = .ok (.iinc 2 1, 3) := by decide +kernel
theorem dX3_countVotes_124 : decode cX3_countVotes 124 = .ok (.goto (-60), 3) := by decide +kernel
theorem dX3_countVotes_127 : decode cX3_countVotes 127 = .ok (.return_, 1) := by decide +kernel
theorem dX3_decide_0 : decode cX3_decide 0 = .ok (.aload_n 0, 1) := by decide +kernel
theorem dX3_decide_1 : decode cX3_decide 1 = .ok (.getfield 10, 3) := by decide +kernel
theorem dX3_decide_4 : decode cX3_decide 4 = .ok (.iload_n 1, 1) := by decide +kernel
theorem dX3_decide_5 : decode cX3_decide 5 = .ok (.invokevirtual 79, 3) := by decide +kernel
theorem dX3_decide_8 : decode cX3_decide 8 = .ok (.iconst (-1), 1) := by decide +kernel
theorem dX3_decide_9 : decode cX3_decide 9 = .ok (.if_icmp .eq 12, 3) := by decide +kernel
theorem dX3_decide_12 : decode cX3_decide 12 = .ok (.aload_n 0, 1) := by decide +kernel
theorem dX3_decide_13 : decode cX3_decide 13 = .ok (.getfield 10, 3) := by decide +kernel
theorem dX3_decide_16 : decode cX3_decide 16 = .ok (.iload_n 1, 1) := by decide +kernel
theorem dX3_decide_17 : decode cX3_decide 17 = .ok (.invokevirtual 79, 3) := by decide +kernel
theorem dX3_decide_20 : decode cX3_decide 20 = .ok (.ireturn, 1) := by decide +kernel
theorem dX3_decide_21 : decode cX3_decide 21 = .ok (.aload_n 0, 1) := by decide +kernel
theorem dX3_decide_22 : decode cX3_decide 22 = .ok (.iload_n 1, 1) := by decide +kernel
theorem dX3_decide_23 : decode cX3_decide 23 = .ok (.invokevirtual 143, 3) := by decide +kernel
theorem dX3_decide_26 : decode cX3_decide 26 = .ok (.aload_n 0, 1) := by decide +kernel
theorem dX3_decide_27 : decode cX3_decide 27 = .ok (.invokevirtual 192, 3) := by decide +kernel
theorem dX3_decide_30 : decode cX3_decide 30 = .ok (.istore_n 2, 1) := by decide +kernel
theorem dX3_decide_31 : decode cX3_decide 31 = .ok (.iload_n 2, 1) := by decide +kernel
theorem dX3_decide_32 : decode cX3_decide 32 = .ok (.iconst (-1), 1) := by decide +kernel
theorem dX3_decide_33 : decode cX3_decide 33 = .ok (.if_icmp .eq 7, 3) := by decide +kernel
theorem dX3_decide_36 : decode cX3_decide 36 = .ok (.iload_n 2, 1) := by decide +kernel
theorem dX3_decide_37 : decode cX3_decide 37 = .ok (.goto 8, 3) := by decide +kernel
theorem dX3_decide_40 : decode cX3_decide 40 = .ok (.aload_n 0, 1) := by decide +kernel
theorem dX3_decide_41 : decode cX3_decide 41 = .ok (.iload_n 1, 1) := by decide +kernel
theorem dX3_decide_42 : decode cX3_decide 42 = .ok (.invokevirtual 195, 3) := by decide +kernel
theorem dX3_decide_45 : decode cX3_decide 45 = .ok (.ireturn, 1) := by decide +kernel
theorem dX3_winnerInTally_0 : decode cX3_winnerInTally 0 = .ok (.iconst (-1), 1) := by decide +kernel
theorem dX3_winnerInTally_1 : decode cX3_winnerInTally 1 = .ok (.istore_n 1, 1) := by decide +kernel
theorem dX3_winnerInTally_2 : decode cX3_winnerInTally 2 = .ok (.iconst 0, 1) := by decide +kernel
theorem dX3_winnerInTally_3 : decode cX3_winnerInTally 3 = .ok (.istore_n 2, 1) := by decide +kernel
theorem dX3_winnerInTally_4 : decode cX3_winnerInTally 4 = .ok (.iconst 0, 1) := by decide +kernel
theorem dX3_winnerInTally_5 : decode cX3_winnerInTally 5 = .ok (.istore_n 3, 1) := by decide +kernel
theorem dX3_winnerInTally_6 : decode cX3_winnerInTally 6 = .ok (.iload_n 3, 1) := by decide +kernel
theorem dX3_winnerInTally_7 : decode cX3_winnerInTally 7 = .ok (.iconst 5, 1) := by decide +kernel
theorem dX3_winnerInTally_8 : decode cX3_winnerInTally 8 = .ok (.if_icmp .ge 43, 3) := by decide +kernel
theorem dX3_winnerInTally_11 : decode cX3_winnerInTally 11 = .ok (.aload_n 0, 1) := by decide +kernel
theorem dX3_winnerInTally_12 : decode cX3_winnerInTally 12 = .ok (.getfield 48, 3) := by decide +kernel
theorem dX3_winnerInTally_15 : decode cX3_winnerInTally 15 = .ok (.iload_n 3, 1) := by decide +kernel
theorem dX3_winnerInTally_16 : decode cX3_winnerInTally 16 = .ok (.iaload, 1) := by decide +kernel
theorem dX3_winnerInTally_17 : decode cX3_winnerInTally 17 = .ok (.iload_n 2, 1) := by decide +kernel
theorem dX3_winnerInTally_18 : decode cX3_winnerInTally 18 = .ok (.if_icmp .le 15, 3) := by decide +kernel
theorem dX3_winnerInTally_21 : decode cX3_winnerInTally 21 = .ok (.aload_n 0, 1) := by decide +kernel
theorem dX3_winnerInTally_22 : decode cX3_winnerInTally 22 = .ok (.getfield 48, 3) := by decide +kernel
theorem dX3_winnerInTally_25 : decode cX3_winnerInTally 25 = .ok (.iload_n 3, 1) := by decide +kernel
theorem dX3_winnerInTally_26 : decode cX3_winnerInTally 26 = .ok (.iaload, 1) := by decide +kernel
theorem dX3_winnerInTally_27 : decode cX3_winnerInTally 27 = .ok (.istore_n 2, 1) := by decide +kernel
theorem dX3_winnerInTally_28 : decode cX3_winnerInTally 28 = .ok (.iload_n 3, 1) := by decide +kernel
theorem dX3_winnerInTally_29 : decode cX3_winnerInTally 29 = .ok (.istore_n 1, 1) := by decide +kernel
theorem dX3_winnerInTally_30 : decode cX3_winnerInTally 30 = .ok (.goto 15, 3) := by decide +kernel
theorem dX3_winnerInTally_33 : decode cX3_winnerInTally 33 = .ok (.aload_n 0, 1) := by decide +kernel
theorem dX3_winnerInTally_34 : decode cX3_winnerInTally 34 = .ok (.getfield 48, 3) := by decide +kernel
theorem dX3_winnerInTally_37 : decode cX3_winnerInTally 37 = .ok (.iload_n 3, 1) := by decide +kernel
theorem dX3_winnerInTally_38 : decode cX3_winnerInTally 38 = .ok (.iaload, 1) := by decide +kernel
theorem dX3_winnerInTally_39 : decode cX3_winnerInTally 39 = .ok (.iload_n 2, 1) := by decide +kernel
theorem dX3_winnerInTally_40 : decode cX3_winnerInTally 40 = .ok (.if_icmp .ne 5, 3) := by decide +kernel
theorem dX3_winnerInTally_43 : decode cX3_winnerInTally 43 = .ok (.iconst (-1), 1) := by decide +kernel
theorem dX3_winnerInTally_44 : decode cX3_winnerInTally 44 = .ok (.istore_n 1, 1) := by decide +kernel
theorem dX3_winnerInTally_45 : decode cX3_winnerInTally 45 = .ok (.iinc 3 1, 3) := by decide +kernel
theorem dX3_winnerInTally_48 : decode cX3_winnerInTally 48 = .ok (.goto (-42), 3) := by decide +kernel
theorem dX3_winnerInTally_51 : decode cX3_winnerInTally 51 = .ok (.iload_n 1, 1) := by decide +kernel
theorem dX3_winnerInTally_52 : decode cX3_winnerInTally 52 = .ok (.ireturn, 1) := by decide +kernel
theorem dX3_expertOn_0 : decode cX3_expertOn 0 = .ok (.iconst 0, 1) := by decide +kernel
theorem dX3_expertOn_1 : decode cX3_expertOn 1 = .ok (.istore_n 2, 1) := by decide +kernel
theorem dX3_expertOn_2 : decode cX3_expertOn 2 = .ok (.iload_n 2, 1) := by decide +kernel
theorem dX3_expertOn_3 : decode cX3_expertOn 3 = .ok (.bipush 8, 2) := by decide +kernel
theorem dX3_expertOn_5 : decode cX3_expertOn 5 = .ok (.if_icmp .ge 43, 3) := by decide +kernel
theorem dX3_expertOn_8 : decode cX3_expertOn 8 = .ok (.aload_n 0, 1) := by decide +kernel
theorem dX3_expertOn_9 : decode cX3_expertOn 9 = .ok (.getfield 10, 3) := by decide +kernel
theorem dX3_expertOn_12 : decode cX3_expertOn 12 = .ok (.iload_n 2, 1) := by decide +kernel
theorem dX3_expertOn_13 : decode cX3_expertOn 13 = .ok (.iload_n 1, 1) := by decide +kernel
theorem dX3_expertOn_14 : decode cX3_expertOn 14 = .ok (.invokevirtual 71, 3) := by decide +kernel
theorem dX3_expertOn_17 : decode cX3_expertOn 17 = .ok (.istore_n 3, 1) := by decide +kernel
theorem dX3_expertOn_18 : decode cX3_expertOn 18 = .ok (.aload_n 0, 1) := by decide +kernel
theorem dX3_expertOn_19 : decode cX3_expertOn 19 = .ok (.getfield 30, 3) := by decide +kernel
theorem dX3_expertOn_22 : decode cX3_expertOn 22 = .ok (.iload_n 2, 1) := by decide +kernel
theorem dX3_expertOn_23 : decode cX3_expertOn 23 = .ok (.baload, 1) := by decide +kernel
theorem dX3_expertOn_24 : decode cX3_expertOn 24 = .ok (.ifCond .eq 18, 3) := by decide +kernel
theorem dX3_expertOn_27 : decode cX3_expertOn 27 = .ok (.iload_n 3, 1) := by decide +kernel
theorem dX3_expertOn_28 : decode cX3_expertOn 28 = .ok (.iconst (-1), 1) := by decide +kernel
theorem dX3_expertOn_29 : decode cX3_expertOn 29 = .ok (.if_icmp .eq 13, 3) := by decide +kernel
theorem dX3_expertOn_32 : decode cX3_expertOn 32 = .ok (.aload_n 0, 1) := by decide +kernel
theorem dX3_expertOn_33 : decode cX3_expertOn 33 = .ok (.iload_n 2, 1) := by decide +kernel
theorem dX3_expertOn_34 : decode cX3_expertOn 34 = .ok (.invokevirtual 90, 3) := by decide +kernel
theorem dX3_expertOn_37 : decode cX3_expertOn 37 = .ok (.ifCond .ne 5, 3) := by decide +kernel
theorem dX3_expertOn_40 : decode cX3_expertOn 40 = .ok (.iload_n 3, 1) := by decide +kernel
theorem dX3_expertOn_41 : decode cX3_expertOn 41 = .ok (.ireturn, 1) := by decide +kernel
theorem dX3_expertOn_42 : decode cX3_expertOn 42 = .ok (.iinc 2 1, 3) := by decide +kernel
theorem dX3_expertOn_45 : decode cX3_expertOn 45 = .ok (.goto (-43), 3) := by decide +kernel
theorem dX3_expertOn_48 : decode cX3_expertOn 48 = .ok (.iconst (-1), 1) := by decide +kernel
theorem dX3_expertOn_49 : decode cX3_expertOn 49 = .ok (.ireturn, 1) := by decide +kernel
theorem dX3_leadInTally_0 : decode cX3_leadInTally 0 = .ok (.iconst 0, 1) := by decide +kernel
theorem dX3_leadInTally_1 : decode cX3_leadInTally 1 = .ok (.istore_n 1, 1) := by decide +kernel
theorem dX3_leadInTally_2 : decode cX3_leadInTally 2 = .ok (.iconst 0, 1) := by decide +kernel
theorem dX3_leadInTally_3 : decode cX3_leadInTally 3 = .ok (.istore_n 2, 1) := by decide +kernel
theorem dX3_leadInTally_4 : decode cX3_leadInTally 4 = .ok (.iconst 0, 1) := by decide +kernel
theorem dX3_leadInTally_5 : decode cX3_leadInTally 5 = .ok (.istore_n 3, 1) := by decide +kernel
theorem dX3_leadInTally_6 : decode cX3_leadInTally 6 = .ok (.iload_n 3, 1) := by decide +kernel
theorem dX3_leadInTally_7 : decode cX3_leadInTally 7 = .ok (.iconst 5, 1) := by decide +kernel
theorem dX3_leadInTally_8 : decode cX3_leadInTally 8 = .ok (.if_icmp .ge 48, 3) := by decide +kernel
theorem dX3_leadInTally_11 : decode cX3_leadInTally 11 = .ok (.aload_n 0, 1) := by decide +kernel
theorem dX3_leadInTally_12 : decode cX3_leadInTally 12 = .ok (.getfield 48, 3) := by decide +kernel
theorem dX3_leadInTally_15 : decode cX3_leadInTally 15 = .ok (.iload_n 3, 1) := by decide +kernel
theorem dX3_leadInTally_16 : decode cX3_leadInTally 16 = .ok (.iaload, 1) := by decide +kernel
theorem dX3_leadInTally_17 : decode cX3_leadInTally 17 = .ok (.iload_n 1, 1) := by decide +kernel
theorem dX3_leadInTally_18 : decode cX3_leadInTally 18 = .ok (.if_icmp .le 15, 3) := by decide +kernel
theorem dX3_leadInTally_21 : decode cX3_leadInTally 21 = .ok (.iload_n 1, 1) := by decide +kernel
theorem dX3_leadInTally_22 : decode cX3_leadInTally 22 = .ok (.istore_n 2, 1) := by decide +kernel
theorem dX3_leadInTally_23 : decode cX3_leadInTally 23 = .ok (.aload_n 0, 1) := by decide +kernel
theorem dX3_leadInTally_24 : decode cX3_leadInTally 24 = .ok (.getfield 48, 3) := by decide +kernel
theorem dX3_leadInTally_27 : decode cX3_leadInTally 27 = .ok (.iload_n 3, 1) := by decide +kernel
theorem dX3_leadInTally_28 : decode cX3_leadInTally 28 = .ok (.iaload, 1) := by decide +kernel
theorem dX3_leadInTally_29 : decode cX3_leadInTally 29 = .ok (.istore_n 1, 1) := by decide +kernel
theorem dX3_leadInTally_30 : decode cX3_leadInTally 30 = .ok (.goto 20, 3) := by decide +kernel
theorem dX3_leadInTally_33 : decode cX3_leadInTally 33 = .ok (.aload_n 0, 1) := by decide +kernel
theorem dX3_leadInTally_34 : decode cX3_leadInTally 34 = .ok (.getfield 48, 3) := by decide +kernel
theorem dX3_leadInTally_37 : decode cX3_leadInTally 37 = .ok (.iload_n 3, 1) := by decide +kernel
theorem dX3_leadInTally_38 : decode cX3_leadInTally 38 = .ok (.iaload, 1) := by decide +kernel
theorem dX3_leadInTally_39 : decode cX3_leadInTally 39 = .ok (.iload_n 2, 1) := by decide +kernel
theorem dX3_leadInTally_40 : decode cX3_leadInTally 40 = .ok (.if_icmp .le 10, 3) := by decide +kernel
theorem dX3_leadInTally_43 : decode cX3_leadInTally 43 = .ok (.aload_n 0, 1) := by decide +kernel
theorem dX3_leadInTally_44 : decode cX3_leadInTally 44 = .ok (.getfield 48, 3) := by decide +kernel
theorem dX3_leadInTally_47 : decode cX3_leadInTally 47 = .ok (.iload_n 3, 1) := by decide +kernel
theorem dX3_leadInTally_48 : decode cX3_leadInTally 48 = .ok (.iaload, 1) := by decide +kernel
theorem dX3_leadInTally_49 : decode cX3_leadInTally 49 = .ok (.istore_n 2, 1) := by decide +kernel
theorem dX3_leadInTally_50 : decode cX3_leadInTally 50 = .ok (.iinc 3 1, 3) := by decide +kernel
theorem dX3_leadInTally_53 : decode cX3_leadInTally 53 = .ok (.goto (-47), 3) := by decide +kernel
theorem dX3_leadInTally_56 : decode cX3_leadInTally 56 = .ok (.iload_n 1, 1) := by decide +kernel
theorem dX3_leadInTally_57 : decode cX3_leadInTally 57 = .ok (.iload_n 2, 1) := by decide +kernel
theorem dX3_leadInTally_58 : decode cX3_leadInTally 58 = .ok (.isub, 1) := by decide +kernel
theorem dX3_leadInTally_59 : decode cX3_leadInTally 59 = .ok (.ireturn, 1) := by decide +kernel
theorem dX3_learnRound_0 : decode cX3_learnRound 0 = .ok (.iconst 0, 1) := by decide +kernel
theorem dX3_learnRound_1 : decode cX3_learnRound 1 = .ok (.istore_n 1, 1) := by decide +kernel
theorem dX3_learnRound_2 : decode cX3_learnRound 2 = .ok (.iload_n 1, 1) := by decide +kernel
theorem dX3_learnRound_3 : decode cX3_learnRound 3 = .ok (.aload_n 0, 1) := by decide +kernel
theorem dX3_learnRound_4 : decode cX3_learnRound 4 = .ok (.getfield 10, 3) := by decide +kernel
theorem dX3_learnRound_7 : decode cX3_learnRound 7 = .ok (.invokevirtual 139, 3) := by decide +kernel
theorem dX3_learnRound_10 : decode cX3_learnRound 10 = .ok (.if_icmp .ge 20, 3) := by decide +kernel
theorem dX3_learnRound_13 : decode cX3_learnRound 13 = .ok (.aload_n 0, 1) := by decide +kernel
theorem dX3_learnRound_14 : decode cX3_learnRound 14 = .ok (.getfield 51, 3) := by decide +kernel
theorem dX3_learnRound_17 : decode cX3_learnRound 17 = .ok (.iload_n 1, 1) := by decide +kernel
theorem dX3_learnRound_18 : decode cX3_learnRound 18 = .ok (.aload_n 0, 1) := by decide +kernel
theorem dX3_learnRound_19 : decode cX3_learnRound 19 = .ok (.iload_n 1, 1) := by decide +kernel
theorem dX3_learnRound_20 : decode cX3_learnRound 20 = .ok (.invokevirtual 147, 3) := by decide +kernel
theorem dX3_learnRound_23 : decode cX3_learnRound 23 = .ok (.iastore, 1) := by decide +kernel
theorem dX3_learnRound_24 : decode cX3_learnRound 24 = .ok (.iinc 1 1, 3) := by decide +kernel
theorem dX3_learnRound_27 : decode cX3_learnRound 27 = .ok (.goto (-25), 3) := by decide +kernel
theorem dX3_learnRound_30 : decode cX3_learnRound 30 = .ok (.iconst 0, 1) := by decide +kernel
theorem dX3_learnRound_31 : decode cX3_learnRound 31 = .ok (.istore_n 1, 1) := by decide +kernel
theorem dX3_learnRound_32 : decode cX3_learnRound 32 = .ok (.iconst 0, 1) := by decide +kernel
theorem dX3_learnRound_33 : decode cX3_learnRound 33 = .ok (.istore_n 2, 1) := by decide +kernel
theorem dX3_learnRound_34 : decode cX3_learnRound 34 = .ok (.iload_n 2, 1) := by decide +kernel
theorem dX3_learnRound_35 : decode cX3_learnRound 35 = .ok (.bipush 8, 2) := by decide +kernel
theorem dX3_learnRound_37 : decode cX3_learnRound 37 = .ok (.if_icmp .ge 43, 3) := by decide +kernel
theorem dX3_learnRound_40 : decode cX3_learnRound 40 = .ok (.aload_n 0, 1) := by decide +kernel
theorem dX3_learnRound_41 : decode cX3_learnRound 41 = .ok (.getfield 54, 3) := by decide +kernel
theorem dX3_learnRound_44 : decode cX3_learnRound 44 = .ok (.iload_n 2, 1) := by decide +kernel
theorem dX3_learnRound_45 : decode cX3_learnRound 45 = .ok (.aload_n 0, 1) := by decide +kernel
theorem dX3_learnRound_46 : decode cX3_learnRound 46 = .ok (.iload_n 2, 1) := by decide +kernel
theorem dX3_learnRound_47 : decode cX3_learnRound 47 = .ok (.invokevirtual 198, 3) := by decide +kernel
theorem dX3_learnRound_50 : decode cX3_learnRound 50 = .ok (.iastore, 1) := by decide +kernel
theorem dX3_learnRound_51 : decode cX3_learnRound 51 = .ok (.iload_n 1, 1) := by decide +kernel
theorem dX3_learnRound_52 : decode cX3_learnRound 52 = .ok (.aload_n 0, 1) := by decide +kernel
theorem dX3_learnRound_53 : decode cX3_learnRound 53 = .ok (.getfield 54, 3) := by decide +kernel
theorem dX3_learnRound_56 : decode cX3_learnRound 56 = .ok (.iload_n 2, 1) := by decide +kernel
theorem dX3_learnRound_57 : decode cX3_learnRound 57 = .ok (.iaload, 1) := by decide +kernel
theorem dX3_learnRound_58 : decode cX3_learnRound 58 = .ok (.aload_n 0, 1) := by decide +kernel
theorem dX3_learnRound_59 : decode cX3_learnRound 59 = .ok (.getfield 34, 3) := by decide +kernel
theorem dX3_learnRound_62 : decode cX3_learnRound 62 = .ok (.iload_n 2, 1) := by decide +kernel
theorem dX3_learnRound_63 : decode cX3_learnRound 63 = .ok (.iaload, 1) := by decide +kernel
theorem dX3_learnRound_64 : decode cX3_learnRound 64 = .ok (.if_icmp .eq 7, 3) := by decide +kernel
theorem dX3_learnRound_67 : decode cX3_learnRound 67 = .ok (.iconst 1, 1) := by decide +kernel
theorem dX3_learnRound_68 : decode cX3_learnRound 68 = .ok (.goto 4, 3) := by decide +kernel
theorem dX3_learnRound_71 : decode cX3_learnRound 71 = .ok (.iconst 0, 1) := by decide +kernel
theorem dX3_learnRound_72 : decode cX3_learnRound 72 = .ok (.ior, 1) := by decide +kernel
theorem dX3_learnRound_73 : decode cX3_learnRound 73 = .ok (.istore_n 1, 1) := by decide +kernel
theorem dX3_learnRound_74 : decode cX3_learnRound 74 = .ok (.iinc 2 1, 3) := by decide +kernel
theorem dX3_learnRound_77 : decode cX3_learnRound 77 = .ok (.goto (-43), 3) := by decide +kernel
theorem dX3_learnRound_80 : decode cX3_learnRound 80 = .ok (.aload_n 0, 1) := by decide +kernel
theorem dX3_learnRound_81 : decode cX3_learnRound 81 = .ok (.getfield 54, 3) := by decide +kernel
theorem dX3_learnRound_84 : decode cX3_learnRound 84 = .ok (.iconst 0, 1) := by decide +kernel
theorem dX3_learnRound_85 : decode cX3_learnRound 85 = .ok (.aload_n 0, 1) := by decide +kernel
theorem dX3_learnRound_86 : decode cX3_learnRound 86 = .ok (.getfield 34, 3) := by decide +kernel
theorem dX3_learnRound_89 : decode cX3_learnRound 89 = .ok (.iconst 0, 1) := by decide +kernel
theorem dX3_learnRound_90 : decode cX3_learnRound 90 = .ok (.bipush 8, 2) := by decide +kernel
theorem dX3_learnRound_92 : decode cX3_learnRound 92 = .ok (.invokestatic 201, 3) := by decide +kernel
theorem dX3_learnRound_95 : decode cX3_learnRound 95 = .ok (.iload_n 1, 1) := by decide +kernel
theorem dX3_learnRound_96 : decode cX3_learnRound 96 = .ok (.ireturn, 1) := by decide +kernel
theorem dX3_earnedTrust_0 : decode cX3_earnedTrust 0 = .ok (.iconst 0, 1) := by decide +kernel
theorem dX3_earnedTrust_1 : decode cX3_earnedTrust 1 = .ok (.istore_n 2, 1) := by decide +kernel
theorem dX3_earnedTrust_2 : decode cX3_earnedTrust 2 = .ok (.iconst 0, 1) := by decide +kernel
theorem dX3_earnedTrust_3 : decode cX3_earnedTrust 3 = .ok (.istore_n 3, 1) := by decide +kernel
theorem dX3_earnedTrust_4 : decode cX3_earnedTrust 4 = .ok (.iconst 0, 1) := by decide +kernel
theorem dX3_earnedTrust_5 : decode cX3_earnedTrust 5 = .ok (.istore 4, 2) := by decide +kernel
theorem dX3_earnedTrust_7 : decode cX3_earnedTrust 7 = .ok (.iload 4, 2) := by decide +kernel
theorem dX3_earnedTrust_9 : decode cX3_earnedTrust 9 = .ok (.aload_n 0, 1) := by decide +kernel
theorem dX3_earnedTrust_10 : decode cX3_earnedTrust 10 = .ok (.getfield 10, 3) := by decide +kernel
theorem dX3_earnedTrust_13 : decode cX3_earnedTrust 13 = .ok (.invokevirtual 139, 3) := by decide +kernel
theorem dX3_earnedTrust_16 : decode cX3_earnedTrust 16 = .ok (.if_icmp .ge 59, 3) := by decide +kernel
theorem dX3_earnedTrust_19 : decode cX3_earnedTrust 19 = .ok (.aload_n 0, 1) := by decide +kernel
theorem dX3_earnedTrust_20 : decode cX3_earnedTrust 20 = .ok (.getfield 10, 3) := by decide +kernel
theorem dX3_earnedTrust_23 : decode cX3_earnedTrust 23 = .ok (.iload_n 1, 1) := by decide +kernel
theorem dX3_earnedTrust_24 : decode cX3_earnedTrust 24 = .ok (.iload 4, 2) := by decide +kernel
theorem dX3_earnedTrust_26 : decode cX3_earnedTrust 26 = .ok (.invokevirtual 71, 3) := by decide +kernel
theorem dX3_earnedTrust_29 : decode cX3_earnedTrust 29 = .ok (.istore 5, 2) := by decide +kernel
theorem dX3_earnedTrust_31 : decode cX3_earnedTrust 31 = .ok (.iload 5, 2) := by decide +kernel
theorem dX3_earnedTrust_33 : decode cX3_earnedTrust 33 = .ok (.iconst (-1), 1) := by decide +kernel
theorem dX3_earnedTrust_34 : decode cX3_earnedTrust 34 = .ok (.if_icmp .eq 35, 3) := by decide +kernel
theorem dX3_earnedTrust_37 : decode cX3_earnedTrust 37 = .ok (.aload_n 0, 1) := by decide +kernel
theorem dX3_earnedTrust_38 : decode cX3_earnedTrust 38 = .ok (.getfield 51, 3) := by decide +kernel
theorem dX3_earnedTrust_41 : decode cX3_earnedTrust 41 = .ok (.iload 4, 2) := by decide +kernel
theorem dX3_earnedTrust_43 : decode cX3_earnedTrust 43 = .ok (.iaload, 1) := by decide +kernel
theorem dX3_earnedTrust_44 : decode cX3_earnedTrust 44 = .ok (.iconst (-1), 1) := by decide +kernel
theorem dX3_earnedTrust_45 : decode cX3_earnedTrust 45 = .ok (.if_icmp .ne 6, 3) := by decide +kernel
theorem dX3_earnedTrust_48 : decode cX3_earnedTrust 48 = .ok (.goto 21, 3) := by decide +kernel
theorem dX3_earnedTrust_51 : decode cX3_earnedTrust 51 = .ok (.iinc 2 1, 3) := by decide +kernel
theorem dX3_earnedTrust_54 : decode cX3_earnedTrust 54 = .ok (.iload 5, 2) := by decide +kernel
theorem dX3_earnedTrust_56 : decode cX3_earnedTrust 56 = .ok (.aload_n 0, 1) := by decide +kernel
theorem dX3_earnedTrust_57 : decode cX3_earnedTrust 57 = .ok (.getfield 51, 3) := by decide +kernel
theorem dX3_earnedTrust_60 : decode cX3_earnedTrust 60 = .ok (.iload 4, 2) := by decide +kernel
theorem dX3_earnedTrust_62 : decode cX3_earnedTrust 62 = .ok (.iaload, 1) := by decide +kernel
theorem dX3_earnedTrust_63 : decode cX3_earnedTrust 63 = .ok (.if_icmp .ne 6, 3) := by decide +kernel
theorem dX3_earnedTrust_66 : decode cX3_earnedTrust 66 = .ok (.iinc 3 1, 3) := by decide +kernel
theorem dX3_earnedTrust_69 : decode cX3_earnedTrust 69 = .ok (.iinc 4 1, 3) := by decide +kernel
theorem dX3_earnedTrust_72 : decode cX3_earnedTrust 72 = .ok (.goto (-65), 3) := by decide +kernel
theorem dX3_earnedTrust_75 : decode cX3_earnedTrust 75 = .ok (.iload_n 2, 1) := by decide +kernel
theorem dX3_earnedTrust_76 : decode cX3_earnedTrust 76 = .ok (.ifCond .ne 7, 3) := by decide +kernel
theorem dX3_earnedTrust_79 : decode cX3_earnedTrust 79 = .ok (.iconst 1, 1) := by decide +kernel
theorem dX3_earnedTrust_80 : decode cX3_earnedTrust 80 = .ok (.goto 11, 3) := by decide +kernel
theorem dX3_earnedTrust_83 : decode cX3_earnedTrust 83 = .ok (.iconst 1, 1) := by decide +kernel
theorem dX3_earnedTrust_84 : decode cX3_earnedTrust 84 = .ok (.bipush 9, 2) := by decide +kernel
theorem dX3_earnedTrust_86 : decode cX3_earnedTrust 86 = .ok (.iload_n 3, 1) := by decide +kernel
theorem dX3_earnedTrust_87 : decode cX3_earnedTrust 87 = .ok (.imul, 1) := by decide +kernel
theorem dX3_earnedTrust_88 : decode cX3_earnedTrust 88 = .ok (.iload_n 2, 1) := by decide +kernel
theorem dX3_earnedTrust_89 : decode cX3_earnedTrust 89 = .ok (.idiv, 1) := by decide +kernel
theorem dX3_earnedTrust_90 : decode cX3_earnedTrust 90 = .ok (.iadd, 1) := by decide +kernel
theorem dX3_earnedTrust_91 : decode cX3_earnedTrust 91 = .ok (.ireturn, 1) := by decide +kernel
theorem dX3_partOfAgreement_0 : decode cX3_partOfAgreement 0 = .ok (.iload_n 1, 1) := by decide +kernel
theorem dX3_partOfAgreement_1 : decode cX3_partOfAgreement 1 = .ok (.iconst 2, 1) := by decide +kernel
theorem dX3_partOfAgreement_2 : decode cX3_partOfAgreement 2 = .ok (.if_icmp .ne 12, 3) := by decide +kernel
theorem dX3_partOfAgreement_5 : decode cX3_partOfAgreement 5 = .ok (.aload_n 0, 1) := by decide +kernel
theorem dX3_partOfAgreement_6 : decode cX3_partOfAgreement 6 = .ok (.getfield 26, 3) := by decide +kernel
theorem dX3_partOfAgreement_9 : decode cX3_partOfAgreement 9 = .ok (.invokevirtual 207, 3) := by decide +kernel
theorem dX3_partOfAgreement_12 : decode cX3_partOfAgreement 12 = .ok (.i2l, 1) := by decide +kernel
theorem dX3_partOfAgreement_13 : decode cX3_partOfAgreement 13 = .ok (.lreturn, 1) := by decide +kernel
theorem dX3_partOfAgreement_14 : decode cX3_partOfAgreement 14 = .ok (.iload_n 1, 1) := by decide +kernel
theorem dX3_partOfAgreement_15 : decode cX3_partOfAgreement 15 = .ok (.iconst 3, 1) := by decide +kernel
theorem dX3_partOfAgreement_16 : decode cX3_partOfAgreement 16 = .ok (.if_icmp .ne 12, 3) := by decide +kernel
theorem dX3_partOfAgreement_19 : decode cX3_partOfAgreement 19 = .ok (.aload_n 0, 1) := by decide +kernel
theorem dX3_partOfAgreement_20 : decode cX3_partOfAgreement 20 = .ok (.getfield 26, 3) := by decide +kernel
theorem dX3_partOfAgreement_23 : decode cX3_partOfAgreement 23 = .ok (.invokevirtual 210, 3) := by decide +kernel
theorem dX3_partOfAgreement_26 : decode cX3_partOfAgreement 26 = .ok (.i2l, 1) := by decide +kernel
theorem dX3_partOfAgreement_27 : decode cX3_partOfAgreement 27 = .ok (.lreturn, 1) := by decide +kernel
theorem dX3_partOfAgreement_28 : decode cX3_partOfAgreement 28 = .ok (.aload_n 0, 1) := by decide +kernel
theorem dX3_partOfAgreement_29 : decode cX3_partOfAgreement 29 = .ok (.getfield 26, 3) := by decide +kernel
theorem dX3_partOfAgreement_32 : decode cX3_partOfAgreement 32 = .ok (.invokevirtual 213, 3) := by decide +kernel
theorem dX3_partOfAgreement_35 : decode cX3_partOfAgreement 35 = .ok (.lconst 0, 1) := by decide +kernel
theorem dX3_partOfAgreement_36 : decode cX3_partOfAgreement 36 = .ok (.lcmp, 1) := by decide +kernel
theorem dX3_partOfAgreement_37 : decode cX3_partOfAgreement 37 = .ok (.ifCond .ne 13, 3) := by decide +kernel
theorem dX3_partOfAgreement_40 : decode cX3_partOfAgreement 40 = .ok (.new 129, 3) := by decide +kernel
theorem dX3_partOfAgreement_43 : decode cX3_partOfAgreement 43 = .ok (.dup, 1) := by decide +kernel
theorem dX3_partOfAgreement_44 : decode cX3_partOfAgreement 44 = .ok (.ldc 217, 2) := by decide +kernel
theorem dX3_partOfAgreement_46 : decode cX3_partOfAgreement 46 = .ok (.invokespecial 133, 3) := by decide +kernel
theorem dX3_partOfAgreement_49 : decode cX3_partOfAgreement 49 = .ok (.athrow, 1) := by decide +kernel
theorem dX3_partOfAgreement_50 : decode cX3_partOfAgreement 50 = .ok (.iload_n 1, 1) := by decide +kernel
theorem dX3_partOfAgreement_51 : decode cX3_partOfAgreement 51 = .ok (.ifCond .ne 13, 3) := by decide +kernel
theorem dX3_partOfAgreement_54 : decode cX3_partOfAgreement 54 = .ok (.aload_n 0, 1) := by decide +kernel
theorem dX3_partOfAgreement_55 : decode cX3_partOfAgreement 55 = .ok (.getfield 26, 3) := by decide +kernel
theorem dX3_partOfAgreement_58 : decode cX3_partOfAgreement 58 = .ok (.invokevirtual 219, 3) := by decide +kernel
theorem dX3_partOfAgreement_61 : decode cX3_partOfAgreement 61 = .ok (.goto 10, 3) := by decide +kernel
theorem dX3_partOfAgreement_64 : decode cX3_partOfAgreement 64 = .ok (.aload_n 0, 1) := by decide +kernel
theorem dX3_partOfAgreement_65 : decode cX3_partOfAgreement 65 = .ok (.getfield 26, 3) := by decide +kernel
theorem dX3_partOfAgreement_68 : decode cX3_partOfAgreement 68 = .ok (.invokevirtual 213, 3) := by decide +kernel
theorem dX3_partOfAgreement_71 : decode cX3_partOfAgreement 71 = .ok (.lreturn, 1) := by decide +kernel
theorem dX3_countLabellings_0 : decode cX3_countLabellings 0 = .ok (.iconst 0, 1) := by decide +kernel
theorem dX3_countLabellings_1 : decode cX3_countLabellings 1 = .ok (.istore_n 1, 1) := by decide +kernel
theorem dX3_countLabellings_2 : decode cX3_countLabellings 2 = .ok (.iconst 0, 1) := by decide +kernel
theorem dX3_countLabellings_3 : decode cX3_countLabellings 3 = .ok (.istore_n 2, 1) := by decide +kernel
theorem dX3_countLabellings_4 : decode cX3_countLabellings 4 = .ok (.iload_n 2, 1) := by decide +kernel
theorem dX3_countLabellings_5 : decode cX3_countLabellings 5 = .ok (.bipush 8, 2) := by decide +kernel
theorem dX3_countLabellings_7 : decode cX3_countLabellings 7 = .ok (.if_icmp .ge 20, 3) := by decide +kernel
theorem dX3_countLabellings_10 : decode cX3_countLabellings 10 = .ok (.iload_n 1, 1) := by decide +kernel
theorem dX3_countLabellings_11 : decode cX3_countLabellings 11 = .ok (.aload_n 0, 1) := by decide +kernel
theorem dX3_countLabellings_12 : decode cX3_countLabellings 12 = .ok (.getfield 10, 3) := by decide +kernel
theorem dX3_countLabellings_15 : decode cX3_countLabellings 15 = .ok (.iload_n 2, 1) := by decide +kernel
theorem dX3_countLabellings_16 : decode cX3_countLabellings 16 = .ok (.invokevirtual 93, 3) := by decide +kernel
theorem dX3_countLabellings_19 : decode cX3_countLabellings 19 = .ok (.iadd, 1) := by decide +kernel
theorem dX3_countLabellings_20 : decode cX3_countLabellings 20 = .ok (.istore_n 1, 1) := by decide +kernel
theorem dX3_countLabellings_21 : decode cX3_countLabellings 21 = .ok (.iinc 2 1, 3) := by decide +kernel
theorem dX3_countLabellings_24 : decode cX3_countLabellings 24 = .ok (.goto (-20), 3) := by decide +kernel
theorem dX3_countLabellings_27 : decode cX3_countLabellings 27 = .ok (.iload_n 1, 1) := by decide +kernel
theorem dX3_countLabellings_28 : decode cX3_countLabellings 28 = .ok (.ireturn, 1) := by decide +kernel
theorem dX3_countDecided_0 : decode cX3_countDecided 0 = .ok (.iconst 0, 1) := by decide +kernel
theorem dX3_countDecided_1 : decode cX3_countDecided 1 = .ok (.istore_n 1, 1) := by decide +kernel
theorem dX3_countDecided_2 : decode cX3_countDecided 2 = .ok (.iconst 0, 1) := by decide +kernel
theorem dX3_countDecided_3 : decode cX3_countDecided 3 = .ok (.istore_n 2, 1) := by decide +kernel
theorem dX3_countDecided_4 : decode cX3_countDecided 4 = .ok (.iload_n 2, 1) := by decide +kernel
theorem dX3_countDecided_5 : decode cX3_countDecided 5 = .ok (.aload_n 0, 1) := by decide +kernel
theorem dX3_countDecided_6 : decode cX3_countDecided 6 = .ok (.getfield 10, 3) := by decide +kernel
theorem dX3_countDecided_9 : decode cX3_countDecided 9 = .ok (.invokevirtual 139, 3) := by decide +kernel
theorem dX3_countDecided_12 : decode cX3_countDecided 12 = .ok (.if_icmp .ge 21, 3) := by decide +kernel
theorem dX3_countDecided_15 : decode cX3_countDecided 15 = .ok (.aload_n 0, 1) := by decide +kernel
theorem dX3_countDecided_16 : decode cX3_countDecided 16 = .ok (.iload_n 2, 1) := by decide +kernel
theorem dX3_countDecided_17 : decode cX3_countDecided 17 = .ok (.invokevirtual 147, 3) := by decide +kernel
theorem dX3_countDecided_20 : decode cX3_countDecided 20 = .ok (.iconst (-1), 1) := by decide +kernel
theorem dX3_countDecided_21 : decode cX3_countDecided 21 = .ok (.if_icmp .eq 6, 3) := by decide +kernel
theorem dX3_countDecided_24 : decode cX3_countDecided 24 = .ok (.iinc 1 1, 3) := by decide +kernel
theorem dX3_countDecided_27 : decode cX3_countDecided 27 = .ok (.iinc 2 1, 3) := by decide +kernel
theorem dX3_countDecided_30 : decode cX3_countDecided 30 = .ok (.goto (-26), 3) := by decide +kernel
theorem dX3_countDecided_33 : decode cX3_countDecided 33 = .ok (.iload_n 1, 1) := by decide +kernel
theorem dX3_countDecided_34 : decode cX3_countDecided 34 = .ok (.ireturn, 1) := by decide +kernel
theorem dX3_countBarred_0 : decode cX3_countBarred 0 = .ok (.iconst 0, 1) := by decide +kernel
theorem dX3_countBarred_1 : decode cX3_countBarred 1 = .ok (.istore_n 1, 1) := by decide +kernel
theorem dX3_countBarred_2 : decode cX3_countBarred 2 = .ok (.iconst 0, 1) := by decide +kernel
theorem dX3_countBarred_3 : decode cX3_countBarred 3 = .ok (.istore_n 2, 1) := by decide +kernel
theorem dX3_countBarred_4 : decode cX3_countBarred 4 = .ok (.iload_n 2, 1) := by decide +kernel
theorem dX3_countBarred_5 : decode cX3_countBarred 5 = .ok (.bipush 8, 2) := by decide +kernel
theorem dX3_countBarred_7 : decode cX3_countBarred 7 = .ok (.if_icmp .ge 20, 3) := by decide +kernel
theorem dX3_countBarred_10 : decode cX3_countBarred 10 = .ok (.aload_n 0, 1) := by decide +kernel
theorem dX3_countBarred_11 : decode cX3_countBarred 11 = .ok (.iload_n 2, 1) := by decide +kernel
theorem dX3_countBarred_12 : decode cX3_countBarred 12 = .ok (.invokevirtual 90, 3) := by decide +kernel
theorem dX3_countBarred_15 : decode cX3_countBarred 15 = .ok (.ifCond .eq 6, 3) := by decide +kernel
theorem dX3_countBarred_18 : decode cX3_countBarred 18 = .ok (.iinc 1 1, 3) := by decide +kernel
theorem dX3_countBarred_21 : decode cX3_countBarred 21 = .ok (.iinc 2 1, 3) := by decide +kernel
theorem dX3_countBarred_24 : decode cX3_countBarred 24 = .ok (.goto (-20), 3) := by decide +kernel
theorem dX3_countBarred_27 : decode cX3_countBarred 27 = .ok (.iload_n 1, 1) := by decide +kernel
theorem dX3_countBarred_28 : decode cX3_countBarred 28 = .ok (.ireturn, 1) := by decide +kernel
theorem dX3_countDisputed_0 : decode cX3_countDisputed 0 = .ok (.iconst 0, 1) := by decide +kernel
theorem dX3_countDisputed_1 : decode cX3_countDisputed 1 = .ok (.istore_n 1, 1) := by decide +kernel
end
section
theorem dX3_countDisputed_2 : decode cX3_countDisputed 2 = .ok (.iconst 0, 1) := by decide +kernel
theorem dX3_countDisputed_3 : decode cX3_countDisputed 3 = .ok (.istore_n 2, 1) := by decide +kernel
theorem dX3_countDisputed_4 : decode cX3_countDisputed 4 = .ok (.iload_n 2, 1) := by decide +kernel
theorem dX3_countDisputed_5 : decode cX3_countDisputed 5 = .ok (.aload_n 0, 1) := by decide +kernel
theorem dX3_countDisputed_6 : decode cX3_countDisputed 6 = .ok (.getfield 10, 3) := by decide +kernel
theorem dX3_countDisputed_9 : decode cX3_countDisputed 9 = .ok (.invokevirtual 139, 3) := by decide +kernel
theorem dX3_countDisputed_12 : decode cX3_countDisputed 12 = .ok (.if_icmp .ge 20, 3) := by decide +kernel
theorem dX3_countDisputed_15 : decode cX3_countDisputed 15 = .ok (.aload_n 0, 1) := by decide +kernel
theorem dX3_countDisputed_16 : decode cX3_countDisputed 16 = .ok (.iload_n 2, 1) := by decide +kernel
theorem dX3_countDisputed_17 : decode cX3_countDisputed 17 = .ok (.invokevirtual 222, 3) := by decide +kernel
theorem dX3_countDisputed_20 : decode cX3_countDisputed 20 = .ok (.ifCond .eq 6, 3) := by decide +kernel
theorem dX3_countDisputed_23 : decode cX3_countDisputed 23 = .ok (.iinc 1 1, 3) := by decide +kernel
theorem dX3_countDisputed_26 : decode cX3_countDisputed 26 = .ok (.iinc 2 1, 3) := by decide +kernel
theorem dX3_countDisputed_29 : decode cX3_countDisputed 29 = .ok (.goto (-25), 3) := by decide +kernel
theorem dX3_countDisputed_32 : decode cX3_countDisputed 32 = .ok (.iload_n 1, 1) := by decide +kernel
theorem dX3_countDisputed_33 : decode cX3_countDisputed 33 = .ok (.ireturn, 1) := by decide +kernel
theorem dX3_isDisputed_0 : decode cX3_isDisputed 0 = .ok (.iconst (-1), 1) := by decide +kernel
theorem dX3_isDisputed_1 : decode cX3_isDisputed 1 = .ok (.istore_n 2, 1) := by decide +kernel
theorem dX3_isDisputed_2 : decode cX3_isDisputed 2 = .ok (.iconst 0, 1) := by decide +kernel
theorem dX3_isDisputed_3 : decode cX3_isDisputed 3 = .ok (.istore_n 3, 1) := by decide +kernel
theorem dX3_isDisputed_4 : decode cX3_isDisputed 4 = .ok (.iload_n 3, 1) := by decide +kernel
theorem dX3_isDisputed_5 : decode cX3_isDisputed 5 = .ok (.aload_n 0, 1) := by decide +kernel
theorem dX3_isDisputed_6 : decode cX3_isDisputed 6 = .ok (.getfield 19, 3) := by decide +kernel
theorem dX3_isDisputed_9 : decode cX3_isDisputed 9 = .ok (.invokevirtual 179, 3) := by decide +kernel
theorem dX3_isDisputed_12 : decode cX3_isDisputed 12 = .ok (.if_icmp .ge 66, 3) := by decide +kernel
theorem dX3_isDisputed_15 : decode cX3_isDisputed 15 = .ok (.aload_n 0, 1) := by decide +kernel
theorem dX3_isDisputed_16 : decode cX3_isDisputed 16 = .ok (.getfield 19, 3) := by decide +kernel
theorem dX3_isDisputed_19 : decode cX3_isDisputed 19 = .ok (.iload_n 3, 1) := by decide +kernel
theorem dX3_isDisputed_20 : decode cX3_isDisputed 20 = .ok (.invokevirtual 105, 3) := by decide +kernel
theorem dX3_isDisputed_23 : decode cX3_isDisputed 23 = .ok (.ifCond .eq 19, 3) := by decide +kernel
theorem dX3_isDisputed_26 : decode cX3_isDisputed 26 = .ok (.aload_n 0, 1) := by decide +kernel
theorem dX3_isDisputed_27 : decode cX3_isDisputed 27 = .ok (.getfield 19, 3) := by decide +kernel
theorem dX3_isDisputed_30 : decode cX3_isDisputed 30 = .ok (.iload_n 3, 1) := by decide +kernel
theorem dX3_isDisputed_31 : decode cX3_isDisputed 31 = .ok (.aload_n 0, 1) := by decide +kernel
theorem dX3_isDisputed_32 : decode cX3_isDisputed 32 = .ok (.getfield 10, 3) := by decide +kernel
theorem dX3_isDisputed_35 : decode cX3_isDisputed 35 = .ok (.iload_n 1, 1) := by decide +kernel
theorem dX3_isDisputed_36 : decode cX3_isDisputed 36 = .ok (.invokevirtual 125, 3) := by decide +kernel
theorem dX3_isDisputed_39 : decode cX3_isDisputed 39 = .ok (.goto 4, 3) := by decide +kernel
theorem dX3_isDisputed_42 : decode cX3_isDisputed 42 = .ok (.iconst (-1), 1) := by decide +kernel
theorem dX3_isDisputed_43 : decode cX3_isDisputed 43 = .ok (.istore 4, 2) := by decide +kernel
theorem dX3_isDisputed_45 : decode cX3_isDisputed 45 = .ok (.iload 4, 2) := by decide +kernel
theorem dX3_isDisputed_47 : decode cX3_isDisputed 47 = .ok (.invokestatic 68, 3) := by decide +kernel
theorem dX3_isDisputed_50 : decode cX3_isDisputed 50 = .ok (.ifCond .ne 6, 3) := by decide +kernel
theorem dX3_isDisputed_53 : decode cX3_isDisputed 53 = .ok (.goto 19, 3) := by decide +kernel
theorem dX3_isDisputed_56 : decode cX3_isDisputed 56 = .ok (.iload_n 2, 1) := by decide +kernel
theorem dX3_isDisputed_57 : decode cX3_isDisputed 57 = .ok (.iconst (-1), 1) := by decide +kernel
theorem dX3_isDisputed_58 : decode cX3_isDisputed 58 = .ok (.if_icmp .eq 11, 3) := by decide +kernel
theorem dX3_isDisputed_61 : decode cX3_isDisputed 61 = .ok (.iload 4, 2) := by decide +kernel
theorem dX3_isDisputed_63 : decode cX3_isDisputed 63 = .ok (.iload_n 2, 1) := by decide +kernel
theorem dX3_isDisputed_64 : decode cX3_isDisputed 64 = .ok (.if_icmp .eq 5, 3) := by decide +kernel
theorem dX3_isDisputed_67 : decode cX3_isDisputed 67 = .ok (.iconst 1, 1) := by decide +kernel
theorem dX3_isDisputed_68 : decode cX3_isDisputed 68 = .ok (.ireturn, 1) := by decide +kernel
theorem dX3_isDisputed_69 : decode cX3_isDisputed 69 = .ok (.iload 4, 2) := by decide +kernel
theorem dX3_isDisputed_71 : decode cX3_isDisputed 71 = .ok (.istore_n 2, 1) := by decide +kernel
theorem dX3_isDisputed_72 : decode cX3_isDisputed 72 = .ok (.iinc 3 1, 3) := by decide +kernel
theorem dX3_isDisputed_75 : decode cX3_isDisputed 75 = .ok (.goto (-71), 3) := by decide +kernel
theorem dX3_isDisputed_78 : decode cX3_isDisputed 78 = .ok (.iconst 0, 1) := by decide +kernel
theorem dX3_isDisputed_79 : decode cX3_isDisputed 79 = .ok (.ireturn, 1) := by decide +kernel
theorem dX4_thrown_0 : decode cX4_thrown 0 = .ok (.aload_n 0, 1) := by decide +kernel
theorem dX4_thrown_1 : decode cX4_thrown 1 = .ok (.getfield 1, 3) := by decide +kernel
theorem dX4_thrown_4 : decode cX4_thrown 4 = .ok (.ireturn, 1) := by decide +kernel
theorem dX4_init_0 : decode cX4_init 0 = .ok (.aload_n 0, 1) := by decide +kernel
theorem dX4_init_1 : decode cX4_init 1 = .ok (.invokespecial 7, 3) := by decide +kernel
theorem dX4_init_4 : decode cX4_init 4 = .ok (.aload_n 0, 1) := by decide +kernel
theorem dX4_init_5 : decode cX4_init 5 = .ok (.sipush 160, 3) := by decide +kernel
theorem dX4_init_8 : decode cX4_init 8 = .ok (.newarray .int, 2) := by decide +kernel
theorem dX4_init_10 : decode cX4_init 10 = .ok (.putfield 13, 3) := by decide +kernel
theorem dX4_init_13 : decode cX4_init 13 = .ok (.aload_n 0, 1) := by decide +kernel
theorem dX4_init_14 : decode cX4_init 14 = .ok (.sipush 320, 3) := by decide +kernel
theorem dX4_init_17 : decode cX4_init 17 = .ok (.newarray .int, 2) := by decide +kernel
theorem dX4_init_19 : decode cX4_init 19 = .ok (.putfield 17, 3) := by decide +kernel
theorem dX4_init_22 : decode cX4_init 22 = .ok (.aload_n 0, 1) := by decide +kernel
theorem dX4_init_23 : decode cX4_init 23 = .ok (.bipush 40, 2) := by decide +kernel
theorem dX4_init_25 : decode cX4_init 25 = .ok (.newarray .int, 2) := by decide +kernel
theorem dX4_init_27 : decode cX4_init 27 = .ok (.putfield 20, 3) := by decide +kernel
theorem dX4_init_30 : decode cX4_init 30 = .ok (.aload_n 0, 1) := by decide +kernel
theorem dX4_init_31 : decode cX4_init 31 = .ok (.iconst 3, 1) := by decide +kernel
theorem dX4_init_32 : decode cX4_init 32 = .ok (.putfield 23, 3) := by decide +kernel
theorem dX4_init_35 : decode cX4_init 35 = .ok (.aload_n 0, 1) := by decide +kernel
theorem dX4_init_36 : decode cX4_init 36 = .ok (.bipush 8, 2) := by decide +kernel
theorem dX4_init_38 : decode cX4_init 38 = .ok (.newarray .boolean, 2) := by decide +kernel
theorem dX4_init_40 : decode cX4_init 40 = .ok (.putfield 26, 3) := by decide +kernel
theorem dX4_init_43 : decode cX4_init 43 = .ok (.aload_n 0, 1) := by decide +kernel
theorem dX4_init_44 : decode cX4_init 44 = .ok (.bipush 8, 2) := by decide +kernel
theorem dX4_init_46 : decode cX4_init 46 = .ok (.newarray .int, 2) := by decide +kernel
theorem dX4_init_48 : decode cX4_init 48 = .ok (.dup, 1) := by decide +kernel
theorem dX4_init_49 : decode cX4_init 49 = .ok (.iconst 0, 1) := by decide +kernel
theorem dX4_init_50 : decode cX4_init 50 = .ok (.bipush 10, 2) := by decide +kernel
theorem dX4_init_52 : decode cX4_init 52 = .ok (.iastore, 1) := by decide +kernel
theorem dX4_init_53 : decode cX4_init 53 = .ok (.dup, 1) := by decide +kernel
theorem dX4_init_54 : decode cX4_init 54 = .ok (.iconst 1, 1) := by decide +kernel
theorem dX4_init_55 : decode cX4_init 55 = .ok (.bipush 10, 2) := by decide +kernel
theorem dX4_init_57 : decode cX4_init 57 = .ok (.iastore, 1) := by decide +kernel
theorem dX4_init_58 : decode cX4_init 58 = .ok (.dup, 1) := by decide +kernel
theorem dX4_init_59 : decode cX4_init 59 = .ok (.iconst 2, 1) := by decide +kernel
theorem dX4_init_60 : decode cX4_init 60 = .ok (.bipush 10, 2) := by decide +kernel
theorem dX4_init_62 : decode cX4_init 62 = .ok (.iastore, 1) := by decide +kernel
theorem dX4_init_63 : decode cX4_init 63 = .ok (.dup, 1) := by decide +kernel
theorem dX4_init_64 : decode cX4_init 64 = .ok (.iconst 3, 1) := by decide +kernel
theorem dX4_init_65 : decode cX4_init 65 = .ok (.bipush 10, 2) := by decide +kernel
theorem dX4_init_67 : decode cX4_init 67 = .ok (.iastore, 1) := by decide +kernel
theorem dX4_init_68 : decode cX4_init 68 = .ok (.dup, 1) := by decide +kernel
theorem dX4_init_69 : decode cX4_init 69 = .ok (.iconst 4, 1) := by decide +kernel
theorem dX4_init_70 : decode cX4_init 70 = .ok (.bipush 10, 2) := by decide +kernel
theorem dX4_init_72 : decode cX4_init 72 = .ok (.iastore, 1) := by decide +kernel
theorem dX4_init_73 : decode cX4_init 73 = .ok (.dup, 1) := by decide +kernel
theorem dX4_init_74 : decode cX4_init 74 = .ok (.iconst 5, 1) := by decide +kernel
theorem dX4_init_75 : decode cX4_init 75 = .ok (.bipush 10, 2) := by decide +kernel
theorem dX4_init_77 : decode cX4_init 77 = .ok (.iastore, 1) := by decide +kernel
theorem dX4_init_78 : decode cX4_init 78 = .ok (.dup, 1) := by decide +kernel
theorem dX4_init_79 : decode cX4_init 79 = .ok (.bipush 6, 2) := by decide +kernel
theorem dX4_init_81 : decode cX4_init 81 = .ok (.bipush 10, 2) := by decide +kernel
theorem dX4_init_83 : decode cX4_init 83 = .ok (.iastore, 1) := by decide +kernel
theorem dX4_init_84 : decode cX4_init 84 = .ok (.dup, 1) := by decide +kernel
theorem dX4_init_85 : decode cX4_init 85 = .ok (.bipush 7, 2) := by decide +kernel
theorem dX4_init_87 : decode cX4_init 87 = .ok (.bipush 10, 2) := by decide +kernel
theorem dX4_init_89 : decode cX4_init 89 = .ok (.iastore, 1) := by decide +kernel
theorem dX4_init_90 : decode cX4_init 90 = .ok (.putfield 30, 3) := by decide +kernel
theorem dX4_init_93 : decode cX4_init 93 = .ok (.aload_n 0, 1) := by decide +kernel
theorem dX4_init_94 : decode cX4_init 94 = .ok (.bipush 8, 2) := by decide +kernel
theorem dX4_init_96 : decode cX4_init 96 = .ok (.newarray .int, 2) := by decide +kernel
theorem dX4_init_98 : decode cX4_init 98 = .ok (.putfield 33, 3) := by decide +kernel
theorem dX4_init_101 : decode cX4_init 101 = .ok (.aload_n 0, 1) := by decide +kernel
theorem dX4_init_102 : decode cX4_init 102 = .ok (.bipush 6, 2) := by decide +kernel
theorem dX4_init_104 : decode cX4_init 104 = .ok (.newarray .int, 2) := by decide +kernel
theorem dX4_init_106 : decode cX4_init 106 = .ok (.putfield 36, 3) := by decide +kernel
theorem dX4_init_109 : decode cX4_init 109 = .ok (.aload_n 0, 1) := by decide +kernel
theorem dX4_init_110 : decode cX4_init 110 = .ok (.bipush 6, 2) := by decide +kernel
theorem dX4_init_112 : decode cX4_init 112 = .ok (.newarray .int, 2) := by decide +kernel
theorem dX4_init_114 : decode cX4_init 114 = .ok (.putfield 39, 3) := by decide +kernel
theorem dX4_init_117 : decode cX4_init 117 = .ok (.aload_n 0, 1) := by decide +kernel
theorem dX4_init_118 : decode cX4_init 118 = .ok (.bipush 6, 2) := by decide +kernel
theorem dX4_init_120 : decode cX4_init 120 = .ok (.newarray .int, 2) := by decide +kernel
theorem dX4_init_122 : decode cX4_init 122 = .ok (.putfield 42, 3) := by decide +kernel
theorem dX4_init_125 : decode cX4_init 125 = .ok (.aload_n 0, 1) := by decide +kernel
theorem dX4_init_126 : decode cX4_init 126 = .ok (.bipush 6, 2) := by decide +kernel
theorem dX4_init_128 : decode cX4_init 128 = .ok (.newarray .int, 2) := by decide +kernel
theorem dX4_init_130 : decode cX4_init 130 = .ok (.putfield 45, 3) := by decide +kernel
theorem dX4_init_133 : decode cX4_init 133 = .ok (.aload_n 0, 1) := by decide +kernel
theorem dX4_init_134 : decode cX4_init 134 = .ok (.bipush 6, 2) := by decide +kernel
theorem dX4_init_136 : decode cX4_init 136 = .ok (.newarray .boolean, 2) := by decide +kernel
theorem dX4_init_138 : decode cX4_init 138 = .ok (.putfield 48, 3) := by decide +kernel
theorem dX4_init_141 : decode cX4_init 141 = .ok (.aload_n 0, 1) := by decide +kernel
theorem dX4_init_142 : decode cX4_init 142 = .ok (.bipush 8, 2) := by decide +kernel
theorem dX4_init_144 : decode cX4_init 144 = .ok (.newarray .int, 2) := by decide +kernel
theorem dX4_init_146 : decode cX4_init 146 = .ok (.putfield 51, 3) := by decide +kernel
theorem dX4_init_149 : decode cX4_init 149 = .ok (.aload_n 0, 1) := by decide +kernel
theorem dX4_init_150 : decode cX4_init 150 = .ok (.bipush 40, 2) := by decide +kernel
theorem dX4_init_152 : decode cX4_init 152 = .ok (.newarray .int, 2) := by decide +kernel
theorem dX4_init_154 : decode cX4_init 154 = .ok (.putfield 54, 3) := by decide +kernel
theorem dX4_init_157 : decode cX4_init 157 = .ok (.aload_n 0, 1) := by decide +kernel
theorem dX4_init_158 : decode cX4_init 158 = .ok (.iconst 0, 1) := by decide +kernel
theorem dX4_init_159 : decode cX4_init 159 = .ok (.putfield 1, 3) := by decide +kernel
theorem dX4_init_162 : decode cX4_init 162 = .ok (.return_, 1) := by decide +kernel
theorem dX4_in_0 : decode cX4_in 0 = .ok (.iload_n 0, 1) := by decide +kernel
theorem dX4_in_1 : decode cX4_in 1 = .ok (.iload_n 1, 1) := by decide +kernel
theorem dX4_in_2 : decode cX4_in 2 = .ok (.if_icmp .lt 12, 3) := by decide +kernel
theorem dX4_in_5 : decode cX4_in 5 = .ok (.iload_n 0, 1) := by decide +kernel
theorem dX4_in_6 : decode cX4_in 6 = .ok (.iload_n 2, 1) := by decide +kernel
theorem dX4_in_7 : decode cX4_in 7 = .ok (.if_icmp .gt 7, 3) := by decide +kernel
theorem dX4_in_10 : decode cX4_in 10 = .ok (.iconst 1, 1) := by decide +kernel
theorem dX4_in_11 : decode cX4_in 11 = .ok (.goto 4, 3) := by decide +kernel
theorem dX4_in_14 : decode cX4_in 14 = .ok (.iconst 0, 1) := by decide +kernel
theorem dX4_in_15 : decode cX4_in 15 = .ok (.ireturn, 1) := by decide +kernel
theorem dX4_isRow_0 : decode cX4_isRow 0 = .ok (.iload_n 1, 1) := by decide +kernel
theorem dX4_isRow_1 : decode cX4_isRow 1 = .ok (.iconst 0, 1) := by decide +kernel
theorem dX4_isRow_2 : decode cX4_isRow 2 = .ok (.aload_n 0, 1) := by decide +kernel
theorem dX4_isRow_3 : decode cX4_isRow 3 = .ok (.getfield 57, 3) := by decide +kernel
theorem dX4_isRow_6 : decode cX4_isRow 6 = .ok (.iconst 1, 1) := by decide +kernel
theorem dX4_isRow_7 : decode cX4_isRow 7 = .ok (.isub, 1) := by decide +kernel
theorem dX4_isRow_8 : decode cX4_isRow 8 = .ok (.invokestatic 60, 3) := by decide +kernel
theorem dX4_isRow_11 : decode cX4_isRow 11 = .ok (.ireturn, 1) := by decide +kernel
theorem dX4_isPerson_0 : decode cX4_isPerson 0 = .ok (.iload_n 0, 1) := by decide +kernel
theorem dX4_isPerson_1 : decode cX4_isPerson 1 = .ok (.iconst 0, 1) := by decide +kernel
theorem dX4_isPerson_2 : decode cX4_isPerson 2 = .ok (.bipush 7, 2) := by decide +kernel
theorem dX4_isPerson_4 : decode cX4_isPerson 4 = .ok (.invokestatic 60, 3) := by decide +kernel
theorem dX4_isPerson_7 : decode cX4_isPerson 7 = .ok (.ireturn, 1) := by decide +kernel
theorem dX4_row_0 : decode cX4_row 0 = .ok (.aload_n 0, 1) := by decide +kernel
theorem dX4_row_1 : decode cX4_row 1 = .ok (.getfield 57, 3) := by decide +kernel
theorem dX4_row_4 : decode cX4_row 4 = .ok (.bipush 40, 2) := by decide +kernel
theorem dX4_row_6 : decode cX4_row 6 = .ok (.if_icmp .ne 6, 3) := by decide +kernel
theorem dX4_row_9 : decode cX4_row 9 = .ok (.bipush (-104), 2) := by decide +kernel
theorem dX4_row_11 : decode cX4_row 11 = .ok (.ireturn, 1) := by decide +kernel
theorem dX4_row_12 : decode cX4_row 12 = .ok (.aload_n 0, 1) := by decide +kernel
theorem dX4_row_13 : decode cX4_row 13 = .ok (.getfield 13, 3) := by decide +kernel
theorem dX4_row_16 : decode cX4_row 16 = .ok (.iconst 4, 1) := by decide +kernel
theorem dX4_row_17 : decode cX4_row 17 = .ok (.aload_n 0, 1) := by decide +kernel
theorem dX4_row_18 : decode cX4_row 18 = .ok (.getfield 57, 3) := by decide +kernel
theorem dX4_row_21 : decode cX4_row 21 = .ok (.imul, 1) := by decide +kernel
theorem dX4_row_22 : decode cX4_row 22 = .ok (.iload_n 1, 1) := by decide +kernel
theorem dX4_row_23 : decode cX4_row 23 = .ok (.iastore, 1) := by decide +kernel
theorem dX4_row_24 : decode cX4_row 24 = .ok (.aload_n 0, 1) := by decide +kernel
theorem dX4_row_25 : decode cX4_row 25 = .ok (.getfield 13, 3) := by decide +kernel
theorem dX4_row_28 : decode cX4_row 28 = .ok (.iconst 4, 1) := by decide +kernel
theorem dX4_row_29 : decode cX4_row 29 = .ok (.aload_n 0, 1) := by decide +kernel
theorem dX4_row_30 : decode cX4_row 30 = .ok (.getfield 57, 3) := by decide +kernel
theorem dX4_row_33 : decode cX4_row 33 = .ok (.imul, 1) := by decide +kernel
theorem dX4_row_34 : decode cX4_row 34 = .ok (.iconst 1, 1) := by decide +kernel
theorem dX4_row_35 : decode cX4_row 35 = .ok (.iadd, 1) := by decide +kernel
theorem dX4_row_36 : decode cX4_row 36 = .ok (.iload_n 2, 1) := by decide +kernel
theorem dX4_row_37 : decode cX4_row 37 = .ok (.iastore, 1) := by decide +kernel
theorem dX4_row_38 : decode cX4_row 38 = .ok (.aload_n 0, 1) := by decide +kernel
theorem dX4_row_39 : decode cX4_row 39 = .ok (.getfield 13, 3) := by decide +kernel
theorem dX4_row_42 : decode cX4_row 42 = .ok (.iconst 4, 1) := by decide +kernel
theorem dX4_row_43 : decode cX4_row 43 = .ok (.aload_n 0, 1) := by decide +kernel
theorem dX4_row_44 : decode cX4_row 44 = .ok (.getfield 57, 3) := by decide +kernel
theorem dX4_row_47 : decode cX4_row 47 = .ok (.imul, 1) := by decide +kernel
theorem dX4_row_48 : decode cX4_row 48 = .ok (.iconst 2, 1) := by decide +kernel
theorem dX4_row_49 : decode cX4_row 49 = .ok (.iadd, 1) := by decide +kernel
theorem dX4_row_50 : decode cX4_row 50 = .ok (.iload_n 3, 1) := by decide +kernel
theorem dX4_row_51 : decode cX4_row 51 = .ok (.iastore, 1) := by decide +kernel
theorem dX4_row_52 : decode cX4_row 52 = .ok (.aload_n 0, 1) := by decide +kernel
theorem dX4_row_53 : decode cX4_row 53 = .ok (.getfield 13, 3) := by decide +kernel
theorem dX4_row_56 : decode cX4_row 56 = .ok (.iconst 4, 1) := by decide +kernel
theorem dX4_row_57 : decode cX4_row 57 = .ok (.aload_n 0, 1) := by decide +kernel
theorem dX4_row_58 : decode cX4_row 58 = .ok (.getfield 57, 3) := by decide +kernel
theorem dX4_row_61 : decode cX4_row 61 = .ok (.imul, 1) := by decide +kernel
theorem dX4_row_62 : decode cX4_row 62 = .ok (.iconst 3, 1) := by decide +kernel
theorem dX4_row_63 : decode cX4_row 63 = .ok (.iadd, 1) := by decide +kernel
theorem dX4_row_64 : decode cX4_row 64 = .ok (.iload 4, 2) := by decide +kernel
theorem dX4_row_66 : decode cX4_row 66 = .ok (.iastore, 1) := by decide +kernel
theorem dX4_row_67 : decode cX4_row 67 = .ok (.aload_n 0, 1) := by decide +kernel
theorem dX4_row_68 : decode cX4_row 68 = .ok (.getfield 20, 3) := by decide +kernel
theorem dX4_row_71 : decode cX4_row 71 = .ok (.aload_n 0, 1) := by decide +kernel
theorem dX4_row_72 : decode cX4_row 72 = .ok (.getfield 57, 3) := by decide +kernel
theorem dX4_row_75 : decode cX4_row 75 = .ok (.iconst (-1), 1) := by decide +kernel
theorem dX4_row_76 : decode cX4_row 76 = .ok (.iastore, 1) := by decide +kernel
theorem dX4_row_77 : decode cX4_row 77 = .ok (.aload_n 0, 1) := by decide +kernel
theorem dX4_row_78 : decode cX4_row 78 = .ok (.dup, 1) := by decide +kernel
theorem dX4_row_79 : decode cX4_row 79 = .ok (.getfield 57, 3) := by decide +kernel
theorem dX4_row_82 : decode cX4_row 82 = .ok (.iconst 1, 1) := by decide +kernel
theorem dX4_row_83 : decode cX4_row 83 = .ok (.iadd, 1) := by decide +kernel
theorem dX4_row_84 : decode cX4_row 84 = .ok (.putfield 57, 3) := by decide +kernel
theorem dX4_row_87 : decode cX4_row 87 = .ok (.aload_n 0, 1) := by decide +kernel
theorem dX4_row_88 : decode cX4_row 88 = .ok (.getfield 57, 3) := by decide +kernel
theorem dX4_row_91 : decode cX4_row 91 = .ok (.iconst 1, 1) := by decide +kernel
theorem dX4_row_92 : decode cX4_row 92 = .ok (.isub, 1) := by decide +kernel
theorem dX4_row_93 : decode cX4_row 93 = .ok (.ireturn, 1) := by decide +kernel
theorem dX4_label_0 : decode cX4_label 0 = .ok (.iload_n 1, 1) := by decide +kernel
theorem dX4_label_1 : decode cX4_label 1 = .ok (.invokestatic 64, 3) := by decide +kernel
theorem dX4_label_4 : decode cX4_label 4 = .ok (.ifCond .eq 11, 3) := by decide +kernel
theorem dX4_label_7 : decode cX4_label 7 = .ok (.aload_n 0, 1) := by decide +kernel
theorem dX4_label_8 : decode cX4_label 8 = .ok (.iload_n 2, 1) := by decide +kernel
theorem dX4_label_9 : decode cX4_label 9 = .ok (.invokevirtual 68, 3) := by decide +kernel
theorem dX4_label_12 : decode cX4_label 12 = .ok (.ifCond .ne 6, 3) := by decide +kernel
theorem dX4_label_15 : decode cX4_label 15 = .ok (.bipush (-101), 2) := by decide +kernel
theorem dX4_label_17 : decode cX4_label 17 = .ok (.ireturn, 1) := by decide +kernel
theorem dX4_label_18 : decode cX4_label 18 = .ok (.iload_n 3, 1) := by decide +kernel
theorem dX4_label_19 : decode cX4_label 19 = .ok (.iconst 0, 1) := by decide +kernel
theorem dX4_label_20 : decode cX4_label 20 = .ok (.iconst 4, 1) := by decide +kernel
theorem dX4_label_21 : decode cX4_label 21 = .ok (.invokestatic 60, 3) := by decide +kernel
theorem dX4_label_24 : decode cX4_label 24 = .ok (.ifCond .ne 6, 3) := by decide +kernel
theorem dX4_label_27 : decode cX4_label 27 = .ok (.bipush (-102), 2) := by decide +kernel
theorem dX4_label_29 : decode cX4_label 29 = .ok (.ireturn, 1) := by decide +kernel
theorem dX4_label_30 : decode cX4_label 30 = .ok (.aload_n 0, 1) := by decide +kernel
theorem dX4_label_31 : decode cX4_label 31 = .ok (.getfield 17, 3) := by decide +kernel
theorem dX4_label_34 : decode cX4_label 34 = .ok (.bipush 8, 2) := by decide +kernel
theorem dX4_label_36 : decode cX4_label 36 = .ok (.iload_n 2, 1) := by decide +kernel
theorem dX4_label_37 : decode cX4_label 37 = .ok (.imul, 1) := by decide +kernel
theorem dX4_label_38 : decode cX4_label 38 = .ok (.iload_n 1, 1) := by decide +kernel
theorem dX4_label_39 : decode cX4_label 39 = .ok (.iadd, 1) := by decide +kernel
theorem dX4_label_40 : decode cX4_label 40 = .ok (.iaload, 1) := by decide +kernel
theorem dX4_label_41 : decode cX4_label 41 = .ok (.ifCond .le 5, 3) := by decide +kernel
theorem dX4_label_44 : decode cX4_label 44 = .ok (.iconst 0, 1) := by decide +kernel
theorem dX4_label_45 : decode cX4_label 45 = .ok (.ireturn, 1) := by decide +kernel
theorem dX4_label_46 : decode cX4_label 46 = .ok (.aload_n 0, 1) := by decide +kernel
theorem dX4_label_47 : decode cX4_label 47 = .ok (.getfield 17, 3) := by decide +kernel
theorem dX4_label_50 : decode cX4_label 50 = .ok (.bipush 8, 2) := by decide +kernel
theorem dX4_label_52 : decode cX4_label 52 = .ok (.iload_n 2, 1) := by decide +kernel
theorem dX4_label_53 : decode cX4_label 53 = .ok (.imul, 1) := by decide +kernel
theorem dX4_label_54 : decode cX4_label 54 = .ok (.iload_n 1, 1) := by decide +kernel
theorem dX4_label_55 : decode cX4_label 55 = .ok (.iadd, 1) := by decide +kernel
theorem dX4_label_56 : decode cX4_label 56 = .ok (.iload_n 3, 1) := by decide +kernel
theorem dX4_label_57 : decode cX4_label 57 = .ok (.iconst 1, 1) := by decide +kernel
theorem dX4_label_58 : decode cX4_label 58 = .ok (.iadd, 1) := by decide +kernel
theorem dX4_label_59 : decode cX4_label 59 = .ok (.iastore, 1) := by decide +kernel
theorem dX4_label_60 : decode cX4_label 60 = .ok (.iconst 1, 1) := by decide +kernel
theorem dX4_label_61 : decode cX4_label 61 = .ok (.ireturn, 1) := by decide +kernel
theorem dX4_said_0 : decode cX4_said 0 = .ok (.iload_n 1, 1) := by decide +kernel
theorem dX4_said_1 : decode cX4_said 1 = .ok (.invokestatic 64, 3) := by decide +kernel
theorem dX4_said_4 : decode cX4_said 4 = .ok (.ifCond .eq 11, 3) := by decide +kernel
theorem dX4_said_7 : decode cX4_said 7 = .ok (.aload_n 0, 1) := by decide +kernel
theorem dX4_said_8 : decode cX4_said 8 = .ok (.iload_n 2, 1) := by decide +kernel
theorem dX4_said_9 : decode cX4_said 9 = .ok (.invokevirtual 68, 3) := by decide +kernel
theorem dX4_said_12 : decode cX4_said 12 = .ok (.ifCond .ne 8, 3) := by decide +kernel
theorem dX4_said_15 : decode cX4_said 15 = .ok (.bipush (-101), 2) := by decide +kernel
theorem dX4_said_17 : decode cX4_said 17 = .ok (.goto 16, 3) := by decide +kernel
theorem dX4_said_20 : decode cX4_said 20 = .ok (.aload_n 0, 1) := by decide +kernel
theorem dX4_said_21 : decode cX4_said 21 = .ok (.getfield 17, 3) := by decide +kernel
theorem dX4_said_24 : decode cX4_said 24 = .ok (.bipush 8, 2) := by decide +kernel
theorem dX4_said_26 : decode cX4_said 26 = .ok (.iload_n 2, 1) := by decide +kernel
theorem dX4_said_27 : decode cX4_said 27 = .ok (.imul, 1) := by decide +kernel
theorem dX4_said_28 : decode cX4_said 28 = .ok (.iload_n 1, 1) := by decide +kernel
theorem dX4_said_29 : decode cX4_said 29 = .ok (.iadd, 1) := by decide +kernel
theorem dX4_said_30 : decode cX4_said 30 = .ok (.iaload, 1) := by decide +kernel
theorem dX4_said_31 : decode cX4_said 31 = .ok (.iconst 1, 1) := by decide +kernel
theorem dX4_said_32 : decode cX4_said 32 = .ok (.isub, 1) := by decide +kernel
theorem dX4_said_33 : decode cX4_said 33 = .ok (.ireturn, 1) := by decide +kernel
theorem dX4_gold_0 : decode cX4_gold 0 = .ok (.aload_n 0, 1) := by decide +kernel
theorem dX4_gold_1 : decode cX4_gold 1 = .ok (.iload_n 1, 1) := by decide +kernel
theorem dX4_gold_2 : decode cX4_gold 2 = .ok (.invokevirtual 68, 3) := by decide +kernel
theorem dX4_gold_5 : decode cX4_gold 5 = .ok (.ifCond .ne 6, 3) := by decide +kernel
theorem dX4_gold_8 : decode cX4_gold 8 = .ok (.bipush (-101), 2) := by decide +kernel
theorem dX4_gold_10 : decode cX4_gold 10 = .ok (.ireturn, 1) := by decide +kernel
theorem dX4_gold_11 : decode cX4_gold 11 = .ok (.iload_n 2, 1) := by decide +kernel
theorem dX4_gold_12 : decode cX4_gold 12 = .ok (.iconst (-1), 1) := by decide +kernel
theorem dX4_gold_13 : decode cX4_gold 13 = .ok (.iconst 4, 1) := by decide +kernel
theorem dX4_gold_14 : decode cX4_gold 14 = .ok (.invokestatic 60, 3) := by decide +kernel
theorem dX4_gold_17 : decode cX4_gold 17 = .ok (.ifCond .ne 6, 3) := by decide +kernel
theorem dX4_gold_20 : decode cX4_gold 20 = .ok (.bipush (-102), 2) := by decide +kernel
theorem dX4_gold_22 : decode cX4_gold 22 = .ok (.ireturn, 1) := by decide +kernel
theorem dX4_gold_23 : decode cX4_gold 23 = .ok (.aload_n 0, 1) := by decide +kernel
theorem dX4_gold_24 : decode cX4_gold 24 = .ok (.getfield 20, 3) := by decide +kernel
theorem dX4_gold_27 : decode cX4_gold 27 = .ok (.iload_n 1, 1) := by decide +kernel
theorem dX4_gold_28 : decode cX4_gold 28 = .ok (.iaload, 1) := by decide +kernel
theorem dX4_gold_29 : decode cX4_gold 29 = .ok (.istore_n 3, 1) := by decide +kernel
theorem dX4_gold_30 : decode cX4_gold 30 = .ok (.aload_n 0, 1) := by decide +kernel
theorem dX4_gold_31 : decode cX4_gold 31 = .ok (.getfield 20, 3) := by decide +kernel
theorem dX4_gold_34 : decode cX4_gold 34 = .ok (.iload_n 1, 1) := by decide +kernel
theorem dX4_gold_35 : decode cX4_gold 35 = .ok (.iload_n 2, 1) := by decide +kernel
theorem dX4_gold_36 : decode cX4_gold 36 = .ok (.iastore, 1) := by decide +kernel
theorem dX4_gold_37 : decode cX4_gold 37 = .ok (.iload_n 3, 1) := by decide +kernel
theorem dX4_gold_38 : decode cX4_gold 38 = .ok (.ireturn, 1) := by decide +kernel
theorem dX4_bound_0 : decode cX4_bound 0 = .ok (.iload_n 1, 1) := by decide +kernel
theorem dX4_bound_1 : decode cX4_bound 1 = .ok (.iconst 1, 1) := by decide +kernel
theorem dX4_bound_2 : decode cX4_bound 2 = .ok (.bipush 9, 2) := by decide +kernel
theorem dX4_bound_4 : decode cX4_bound 4 = .ok (.invokestatic 60, 3) := by decide +kernel
theorem dX4_bound_7 : decode cX4_bound 7 = .ok (.ifCond .ne 6, 3) := by decide +kernel
theorem dX4_bound_10 : decode cX4_bound 10 = .ok (.bipush (-102), 2) := by decide +kernel
theorem dX4_bound_12 : decode cX4_bound 12 = .ok (.ireturn, 1) := by decide +kernel
theorem dX4_bound_13 : decode cX4_bound 13 = .ok (.aload_n 0, 1) := by decide +kernel
theorem dX4_bound_14 : decode cX4_bound 14 = .ok (.getfield 23, 3) := by decide +kernel
theorem dX4_bound_17 : decode cX4_bound 17 = .ok (.istore_n 2, 1) := by decide +kernel
theorem dX4_bound_18 : decode cX4_bound 18 = .ok (.aload_n 0, 1) := by decide +kernel
theorem dX4_bound_19 : decode cX4_bound 19 = .ok (.iload_n 1, 1) := by decide +kernel
theorem dX4_bound_20 : decode cX4_bound 20 = .ok (.putfield 23, 3) := by decide +kernel
theorem dX4_bound_23 : decode cX4_bound 23 = .ok (.iload_n 2, 1) := by decide +kernel
theorem dX4_bound_24 : decode cX4_bound 24 = .ok (.ireturn, 1) := by decide +kernel
theorem dX4_expert_0 : decode cX4_expert 0 = .ok (.iload_n 1, 1) := by decide +kernel
theorem dX4_expert_1 : decode cX4_expert 1 = .ok (.invokestatic 64, 3) := by decide +kernel
theorem dX4_expert_4 : decode cX4_expert 4 = .ok (.ifCond .ne 6, 3) := by decide +kernel
theorem dX4_expert_7 : decode cX4_expert 7 = .ok (.bipush (-101), 2) := by decide +kernel
theorem dX4_expert_9 : decode cX4_expert 9 = .ok (.ireturn, 1) := by decide +kernel
theorem dX4_expert_10 : decode cX4_expert 10 = .ok (.aload_n 0, 1) := by decide +kernel
theorem dX4_expert_11 : decode cX4_expert 11 = .ok (.getfield 26, 3) := by decide +kernel
theorem dX4_expert_14 : decode cX4_expert 14 = .ok (.iload_n 1, 1) := by decide +kernel
theorem dX4_expert_15 : decode cX4_expert 15 = .ok (.baload, 1) := by decide +kernel
theorem dX4_expert_16 : decode cX4_expert 16 = .ok (.istore_n 3, 1) := by decide +kernel
theorem dX4_expert_17 : decode cX4_expert 17 = .ok (.aload_n 0, 1) := by decide +kernel
theorem dX4_expert_18 : decode cX4_expert 18 = .ok (.getfield 26, 3) := by decide +kernel
theorem dX4_expert_21 : decode cX4_expert 21 = .ok (.iload_n 1, 1) := by decide +kernel
theorem dX4_expert_22 : decode cX4_expert 22 = .ok (.iload_n 2, 1) := by decide +kernel
theorem dX4_expert_23 : decode cX4_expert 23 = .ok (.bastore, 1) := by decide +kernel
theorem dX4_expert_24 : decode cX4_expert 24 = .ok (.iload_n 3, 1) := by decide +kernel
theorem dX4_expert_25 : decode cX4_expert 25 = .ok (.iload_n 2, 1) := by decide +kernel
theorem dX4_expert_26 : decode cX4_expert 26 = .ok (.if_icmp .eq 7, 3) := by decide +kernel
theorem dX4_expert_29 : decode cX4_expert 29 = .ok (.iconst 1, 1) := by decide +kernel
theorem dX4_expert_30 : decode cX4_expert 30 = .ok (.goto 4, 3) := by decide +kernel
theorem dX4_expert_33 : decode cX4_expert 33 = .ok (.iconst 0, 1) := by decide +kernel
theorem dX4_expert_34 : decode cX4_expert 34 = .ok (.ireturn, 1) := by decide +kernel
theorem dX4_wrong_0 : decode cX4_wrong 0 = .ok (.iconst 0, 1) := by decide +kernel
theorem dX4_wrong_1 : decode cX4_wrong 1 = .ok (.istore_n 2, 1) := by decide +kernel
theorem dX4_wrong_2 : decode cX4_wrong 2 = .ok (.iconst 0, 1) := by decide +kernel
theorem dX4_wrong_3 : decode cX4_wrong 3 = .ok (.istore_n 3, 1) := by decide +kernel
theorem dX4_wrong_4 : decode cX4_wrong 4 = .ok (.iload_n 3, 1) := by decide +kernel
theorem dX4_wrong_5 : decode cX4_wrong 5 = .ok (.aload_n 0, 1) := by decide +kernel
theorem dX4_wrong_6 : decode cX4_wrong 6 = .ok (.getfield 57, 3) := by decide +kernel
theorem dX4_wrong_9 : decode cX4_wrong 9 = .ok (.if_icmp .ge 63, 3) := by decide +kernel
theorem dX4_wrong_12 : decode cX4_wrong 12 = .ok (.iload_n 2, 1) := by decide +kernel
theorem dX4_wrong_13 : decode cX4_wrong 13 = .ok (.aload_n 0, 1) := by decide +kernel
theorem dX4_wrong_14 : decode cX4_wrong 14 = .ok (.getfield 20, 3) := by decide +kernel
theorem dX4_wrong_17 : decode cX4_wrong 17 = .ok (.iload_n 3, 1) := by decide +kernel
theorem dX4_wrong_18 : decode cX4_wrong 18 = .ok (.iaload, 1) := by decide +kernel
theorem dX4_wrong_19 : decode cX4_wrong 19 = .ok (.iconst (-1), 1) := by decide +kernel
theorem dX4_wrong_20 : decode cX4_wrong 20 = .ok (.if_icmp .eq 43, 3) := by decide +kernel
theorem dX4_wrong_23 : decode cX4_wrong 23 = .ok (.aload_n 0, 1) := by decide +kernel
theorem dX4_wrong_24 : decode cX4_wrong 24 = .ok (.getfield 17, 3) := by decide +kernel
theorem dX4_wrong_27 : decode cX4_wrong 27 = .ok (.bipush 8, 2) := by decide +kernel
theorem dX4_wrong_29 : decode cX4_wrong 29 = .ok (.iload_n 3, 1) := by decide +kernel
theorem dX4_wrong_30 : decode cX4_wrong 30 = .ok (.imul, 1) := by decide +kernel
theorem dX4_wrong_31 : decode cX4_wrong 31 = .ok (.iload_n 1, 1) := by decide +kernel
theorem dX4_wrong_32 : decode cX4_wrong 32 = .ok (.iadd, 1) := by decide +kernel
theorem dX4_wrong_33 : decode cX4_wrong 33 = .ok (.iaload, 1) := by decide +kernel
theorem dX4_wrong_34 : decode cX4_wrong 34 = .ok (.ifCond .le 29, 3) := by decide +kernel
theorem dX4_wrong_37 : decode cX4_wrong 37 = .ok (.aload_n 0, 1) := by decide +kernel
theorem dX4_wrong_38 : decode cX4_wrong 38 = .ok (.getfield 17, 3) := by decide +kernel
theorem dX4_wrong_41 : decode cX4_wrong 41 = .ok (.bipush 8, 2) := by decide +kernel
theorem dX4_wrong_43 : decode cX4_wrong 43 = .ok (.iload_n 3, 1) := by decide +kernel
theorem dX4_wrong_44 : decode cX4_wrong 44 = .ok (.imul, 1) := by decide +kernel
theorem dX4_wrong_45 : decode cX4_wrong 45 = .ok (.iload_n 1, 1) := by decide +kernel
theorem dX4_wrong_46 : decode cX4_wrong 46 = .ok (.iadd, 1) := by decide +kernel
theorem dX4_wrong_47 : decode cX4_wrong 47 = .ok (.iaload, 1) := by decide +kernel
theorem dX4_wrong_48 : decode cX4_wrong 48 = .ok (.iconst 1, 1) := by decide +kernel
theorem dX4_wrong_49 : decode cX4_wrong 49 = .ok (.isub, 1) := by decide +kernel
theorem dX4_wrong_50 : decode cX4_wrong 50 = .ok (.aload_n 0, 1) := by decide +kernel
theorem dX4_wrong_51 : decode cX4_wrong 51 = .ok (.getfield 20, 3) := by decide +kernel
theorem dX4_wrong_54 : decode cX4_wrong 54 = .ok (.iload_n 3, 1) := by decide +kernel
theorem dX4_wrong_55 : decode cX4_wrong 55 = .ok (.iaload, 1) := by decide +kernel
theorem dX4_wrong_56 : decode cX4_wrong 56 = .ok (.if_icmp .eq 7, 3) := by decide +kernel
theorem dX4_wrong_59 : decode cX4_wrong 59 = .ok (.iconst 1, 1) := by decide +kernel
theorem dX4_wrong_60 : decode cX4_wrong 60 = .ok (.goto 4, 3) := by decide +kernel
theorem dX4_wrong_63 : decode cX4_wrong 63 = .ok (.iconst 0, 1) := by decide +kernel
theorem dX4_wrong_64 : decode cX4_wrong 64 = .ok (.iadd, 1) := by decide +kernel
theorem dX4_wrong_65 : decode cX4_wrong 65 = .ok (.istore_n 2, 1) := by decide +kernel
theorem dX4_wrong_66 : decode cX4_wrong 66 = .ok (.iinc 3 1, 3) := by decide +kernel
theorem dX4_wrong_69 : decode cX4_wrong 69 = .ok (.goto (-65), 3) := by decide +kernel
theorem dX4_wrong_72 : decode cX4_wrong 72 = .ok (.iload_n 2, 1) := by decide +kernel
theorem dX4_wrong_73 : decode cX4_wrong 73 = .ok (.ireturn, 1) := by decide +kernel
theorem dX4_isBarred_0 : decode cX4_isBarred 0 = .ok (.aload_n 0, 1) := by decide +kernel
theorem dX4_isBarred_1 : decode cX4_isBarred 1 = .ok (.iload_n 1, 1) := by decide +kernel
theorem dX4_isBarred_2 : decode cX4_isBarred 2 = .ok (.invokevirtual 71, 3) := by decide +kernel
theorem dX4_isBarred_5 : decode cX4_isBarred 5 = .ok (.aload_n 0, 1) := by decide +kernel
theorem dX4_isBarred_6 : decode cX4_isBarred 6 = .ok (.getfield 23, 3) := by decide +kernel
theorem dX4_isBarred_9 : decode cX4_isBarred 9 = .ok (.if_icmp .lt 7, 3) := by decide +kernel
theorem dX4_isBarred_12 : decode cX4_isBarred 12 = .ok (.iconst 1, 1) := by decide +kernel
theorem dX4_isBarred_13 : decode cX4_isBarred 13 = .ok (.goto 4, 3) := by decide +kernel
theorem dX4_isBarred_16 : decode cX4_isBarred 16 = .ok (.iconst 0, 1) := by decide +kernel
theorem dX4_isBarred_17 : decode cX4_isBarred 17 = .ok (.ireturn, 1) := by decide +kernel
theorem dX4_labelled_0 : decode cX4_labelled 0 = .ok (.iconst 0, 1) := by decide +kernel
theorem dX4_labelled_1 : decode cX4_labelled 1 = .ok (.istore_n 2, 1) := by decide +kernel
theorem dX4_labelled_2 : decode cX4_labelled 2 = .ok (.iconst 0, 1) := by decide +kernel
theorem dX4_labelled_3 : decode cX4_labelled 3 = .ok (.istore_n 3, 1) := by decide +kernel
theorem dX4_labelled_4 : decode cX4_labelled 4 = .ok (.iload_n 3, 1) := by decide +kernel
theorem dX4_labelled_5 : decode cX4_labelled 5 = .ok (.aload_n 0, 1) := by decide +kernel
theorem dX4_labelled_6 : decode cX4_labelled 6 = .ok (.getfield 57, 3) := by decide +kernel
theorem dX4_labelled_9 : decode cX4_labelled 9 = .ok (.if_icmp .ge 31, 3) := by decide +kernel
theorem dX4_labelled_12 : decode cX4_labelled 12 = .ok (.iload_n 2, 1) := by decide +kernel
theorem dX4_labelled_13 : decode cX4_labelled 13 = .ok (.aload_n 0, 1) := by decide +kernel
theorem dX4_labelled_14 : decode cX4_labelled 14 = .ok (.getfield 17, 3) := by decide +kernel
theorem dX4_labelled_17 : decode cX4_labelled 17 = .ok (.bipush 8, 2) := by decide +kernel
theorem dX4_labelled_19 : decode cX4_labelled 19 = .ok (.iload_n 3, 1) := by decide +kernel
theorem dX4_labelled_20 : decode cX4_labelled 20 = .ok (.imul, 1) := by decide +kernel
theorem dX4_labelled_21 : decode cX4_labelled 21 = .ok (.iload_n 1, 1) := by decide +kernel
theorem dX4_labelled_22 : decode cX4_labelled 22 = .ok (.iadd, 1) := by decide +kernel
theorem dX4_labelled_23 : decode cX4_labelled 23 = .ok (.iaload, 1) := by decide +kernel
theorem dX4_labelled_24 : decode cX4_labelled 24 = .ok (.ifCond .le 7, 3) := by decide +kernel
theorem dX4_labelled_27 : decode cX4_labelled 27 = .ok (.iconst 1, 1) := by decide +kernel
theorem dX4_labelled_28 : decode cX4_labelled 28 = .ok (.goto 4, 3) := by decide +kernel
theorem dX4_labelled_31 : decode cX4_labelled 31 = .ok (.iconst 0, 1) := by decide +kernel
theorem dX4_labelled_32 : decode cX4_labelled 32 = .ok (.iadd, 1) := by decide +kernel
theorem dX4_labelled_33 : decode cX4_labelled 33 = .ok (.istore_n 2, 1) := by decide +kernel
theorem dX4_labelled_34 : decode cX4_labelled 34 = .ok (.iinc 3 1, 3) := by decide +kernel
theorem dX4_labelled_37 : decode cX4_labelled 37 = .ok (.goto (-33), 3) := by decide +kernel
theorem dX4_labelled_40 : decode cX4_labelled 40 = .ok (.iload_n 2, 1) := by decide +kernel
theorem dX4_labelled_41 : decode cX4_labelled 41 = .ok (.ireturn, 1) := by decide +kernel
theorem dX4_person_0 : decode cX4_person 0 = .ok (.iload_n 1, 1) := by decide +kernel
theorem dX4_person_1 : decode cX4_person 1 = .ok (.invokestatic 64, 3) := by decide +kernel
theorem dX4_person_4 : decode cX4_person 4 = .ok (.ifCond .ne 6, 3) := by decide +kernel
theorem dX4_person_7 : decode cX4_person 7 = .ok (.bipush (-101), 2) := by decide +kernel
theorem dX4_person_9 : decode cX4_person 9 = .ok (.ireturn, 1) := by decide +kernel
theorem dX4_person_10 : decode cX4_person 10 = .ok (.iload_n 2, 1) := by decide +kernel
theorem dX4_person_11 : decode cX4_person 11 = .ok (.tableswitch 62 0 3 #[29, 36, 42, 56], 29) := by decide +kernel
theorem dX4_person_40 : decode cX4_person 40 = .ok (.aload_n 0, 1) := by decide +kernel
theorem dX4_person_41 : decode cX4_person 41 = .ok (.getfield 30, 3) := by decide +kernel
theorem dX4_person_44 : decode cX4_person 44 = .ok (.iload_n 1, 1) := by decide +kernel
theorem dX4_person_45 : decode cX4_person 45 = .ok (.iaload, 1) := by decide +kernel
theorem dX4_person_46 : decode cX4_person 46 = .ok (.ireturn, 1) := by decide +kernel
theorem dX4_person_47 : decode cX4_person 47 = .ok (.aload_n 0, 1) := by decide +kernel
theorem dX4_person_48 : decode cX4_person 48 = .ok (.iload_n 1, 1) := by decide +kernel
theorem dX4_person_49 : decode cX4_person 49 = .ok (.invokevirtual 71, 3) := by decide +kernel
theorem dX4_person_52 : decode cX4_person 52 = .ok (.ireturn, 1) := by decide +kernel
theorem dX4_person_53 : decode cX4_person 53 = .ok (.aload_n 0, 1) := by decide +kernel
theorem dX4_person_54 : decode cX4_person 54 = .ok (.iload_n 1, 1) := by decide +kernel
theorem dX4_person_55 : decode cX4_person 55 = .ok (.invokevirtual 75, 3) := by decide +kernel
theorem dX4_person_58 : decode cX4_person 58 = .ok (.ifCond .eq 7, 3) := by decide +kernel
theorem dX4_person_61 : decode cX4_person 61 = .ok (.iconst 1, 1) := by decide +kernel
theorem dX4_person_62 : decode cX4_person 62 = .ok (.goto 4, 3) := by decide +kernel
theorem dX4_person_65 : decode cX4_person 65 = .ok (.iconst 0, 1) := by decide +kernel
theorem dX4_person_66 : decode cX4_person 66 = .ok (.ireturn, 1) := by decide +kernel
theorem dX4_person_67 : decode cX4_person 67 = .ok (.aload_n 0, 1) := by decide +kernel
theorem dX4_person_68 : decode cX4_person 68 = .ok (.iload_n 1, 1) := by decide +kernel
theorem dX4_person_69 : decode cX4_person 69 = .ok (.invokevirtual 78, 3) := by decide +kernel
theorem dX4_person_72 : decode cX4_person 72 = .ok (.ireturn, 1) := by decide +kernel
theorem dX4_person_73 : decode cX4_person 73 = .ok (.bipush (-102), 2) := by decide +kernel
theorem dX4_person_75 : decode cX4_person 75 = .ok (.ireturn, 1) := by decide +kernel
theorem dX4_rule_0 : decode cX4_rule 0 = .ok (.iload_n 1, 1) := by decide +kernel
theorem dX4_rule_1 : decode cX4_rule 1 = .ok (.iconst 0, 1) := by decide +kernel
theorem dX4_rule_2 : decode cX4_rule 2 = .ok (.iconst 3, 1) := by decide +kernel
theorem dX4_rule_3 : decode cX4_rule 3 = .ok (.invokestatic 60, 3) := by decide +kernel
theorem dX4_rule_6 : decode cX4_rule 6 = .ok (.ifCond .eq 21, 3) := by decide +kernel
theorem dX4_rule_9 : decode cX4_rule 9 = .ok (.iload_n 2, 1) := by decide +kernel
theorem dX4_rule_10 : decode cX4_rule 10 = .ok (.iconst 0, 1) := by decide +kernel
theorem dX4_rule_11 : decode cX4_rule 11 = .ok (.iconst 3, 1) := by decide +kernel
theorem dX4_rule_12 : decode cX4_rule 12 = .ok (.invokestatic 60, 3) := by decide +kernel
theorem dX4_rule_15 : decode cX4_rule 15 = .ok (.ifCond .eq 12, 3) := by decide +kernel
theorem dX4_rule_18 : decode cX4_rule 18 = .ok (.iload_n 3, 1) := by decide +kernel
theorem dX4_rule_19 : decode cX4_rule 19 = .ok (.iconst 0, 1) := by decide +kernel
theorem dX4_rule_20 : decode cX4_rule 20 = .ok (.iconst 3, 1) := by decide +kernel
theorem dX4_rule_21 : decode cX4_rule 21 = .ok (.invokestatic 60, 3) := by decide +kernel
theorem dX4_rule_24 : decode cX4_rule 24 = .ok (.ifCond .ne 6, 3) := by decide +kernel
theorem dX4_rule_27 : decode cX4_rule 27 = .ok (.bipush (-102), 2) := by decide +kernel
theorem dX4_rule_29 : decode cX4_rule 29 = .ok (.ireturn, 1) := by decide +kernel
theorem dX4_rule_30 : decode cX4_rule 30 = .ok (.aload_n 0, 1) := by decide +kernel
theorem dX4_rule_31 : decode cX4_rule 31 = .ok (.getfield 81, 3) := by decide +kernel
theorem dX4_rule_34 : decode cX4_rule 34 = .ok (.bipush 6, 2) := by decide +kernel
theorem dX4_rule_36 : decode cX4_rule 36 = .ok (.if_icmp .ne 6, 3) := by decide +kernel
theorem dX4_rule_39 : decode cX4_rule 39 = .ok (.bipush (-104), 2) := by decide +kernel
theorem dX4_rule_41 : decode cX4_rule 41 = .ok (.ireturn, 1) := by decide +kernel
theorem dX4_rule_42 : decode cX4_rule 42 = .ok (.aload_n 0, 1) := by decide +kernel
theorem dX4_rule_43 : decode cX4_rule 43 = .ok (.getfield 36, 3) := by decide +kernel
theorem dX4_rule_46 : decode cX4_rule 46 = .ok (.aload_n 0, 1) := by decide +kernel
theorem dX4_rule_47 : decode cX4_rule 47 = .ok (.getfield 81, 3) := by decide +kernel
theorem dX4_rule_50 : decode cX4_rule 50 = .ok (.iload_n 1, 1) := by decide +kernel
theorem dX4_rule_51 : decode cX4_rule 51 = .ok (.iastore, 1) := by decide +kernel
theorem dX4_rule_52 : decode cX4_rule 52 = .ok (.aload_n 0, 1) := by decide +kernel
theorem dX4_rule_53 : decode cX4_rule 53 = .ok (.getfield 39, 3) := by decide +kernel
theorem dX4_rule_56 : decode cX4_rule 56 = .ok (.aload_n 0, 1) := by decide +kernel
theorem dX4_rule_57 : decode cX4_rule 57 = .ok (.getfield 81, 3) := by decide +kernel
theorem dX4_rule_60 : decode cX4_rule 60 = .ok (.iload_n 2, 1) := by decide +kernel
theorem dX4_rule_61 : decode cX4_rule 61 = .ok (.iastore, 1) := by decide +kernel
theorem dX4_rule_62 : decode cX4_rule 62 = .ok (.aload_n 0, 1) := by decide +kernel
theorem dX4_rule_63 : decode cX4_rule 63 = .ok (.getfield 42, 3) := by decide +kernel
theorem dX4_rule_66 : decode cX4_rule 66 = .ok (.aload_n 0, 1) := by decide +kernel
theorem dX4_rule_67 : decode cX4_rule 67 = .ok (.getfield 81, 3) := by decide +kernel
theorem dX4_rule_70 : decode cX4_rule 70 = .ok (.iload_n 3, 1) := by decide +kernel
theorem dX4_rule_71 : decode cX4_rule 71 = .ok (.iastore, 1) := by decide +kernel
theorem dX4_rule_72 : decode cX4_rule 72 = .ok (.aload_n 0, 1) := by decide +kernel
theorem dX4_rule_73 : decode cX4_rule 73 = .ok (.getfield 45, 3) := by decide +kernel
theorem dX4_rule_76 : decode cX4_rule 76 = .ok (.aload_n 0, 1) := by decide +kernel
theorem dX4_rule_77 : decode cX4_rule 77 = .ok (.getfield 81, 3) := by decide +kernel
theorem dX4_rule_80 : decode cX4_rule 80 = .ok (.iload 4, 2) := by decide +kernel
theorem dX4_rule_82 : decode cX4_rule 82 = .ok (.iastore, 1) := by decide +kernel
theorem dX4_rule_83 : decode cX4_rule 83 = .ok (.aload_n 0, 1) := by decide +kernel
theorem dX4_rule_84 : decode cX4_rule 84 = .ok (.getfield 48, 3) := by decide +kernel
theorem dX4_rule_87 : decode cX4_rule 87 = .ok (.aload_n 0, 1) := by decide +kernel
theorem dX4_rule_88 : decode cX4_rule 88 = .ok (.getfield 81, 3) := by decide +kernel
theorem dX4_rule_91 : decode cX4_rule 91 = .ok (.iconst 1, 1) := by decide +kernel
theorem dX4_rule_92 : decode cX4_rule 92 = .ok (.bastore, 1) := by decide +kernel
theorem dX4_rule_93 : decode cX4_rule 93 = .ok (.aload_n 0, 1) := by decide +kernel
theorem dX4_rule_94 : decode cX4_rule 94 = .ok (.dup, 1) := by decide +kernel
theorem dX4_rule_95 : decode cX4_rule 95 = .ok (.getfield 81, 3) := by decide +kernel
theorem dX4_rule_98 : decode cX4_rule 98 = .ok (.iconst 1, 1) := by decide +kernel
theorem dX4_rule_99 : decode cX4_rule 99 = .ok (.iadd, 1) := by decide +kernel
theorem dX4_rule_100 : decode cX4_rule 100 = .ok (.putfield 81, 3) := by decide +kernel
theorem dX4_rule_103 : decode cX4_rule 103 = .ok (.aload_n 0, 1) := by decide +kernel
theorem dX4_rule_104 : decode cX4_rule 104 = .ok (.getfield 81, 3) := by decide +kernel
theorem dX4_rule_107 : decode cX4_rule 107 = .ok (.iconst 1, 1) := by decide +kernel
theorem dX4_rule_108 : decode cX4_rule 108 = .ok (.isub, 1) := by decide +kernel
theorem dX4_rule_109 : decode cX4_rule 109 = .ok (.ireturn, 1) := by decide +kernel
theorem dX4_turn_0 : decode cX4_turn 0 = .ok (.iload_n 1, 1) := by decide +kernel
theorem dX4_turn_1 : decode cX4_turn 1 = .ok (.iconst 0, 1) := by decide +kernel
theorem dX4_turn_2 : decode cX4_turn 2 = .ok (.aload_n 0, 1) := by decide +kernel
theorem dX4_turn_3 : decode cX4_turn 3 = .ok (.getfield 81, 3) := by decide +kernel
theorem dX4_turn_6 : decode cX4_turn 6 = .ok (.iconst 1, 1) := by decide +kernel
theorem dX4_turn_7 : decode cX4_turn 7 = .ok (.isub, 1) := by decide +kernel
theorem dX4_turn_8 : decode cX4_turn 8 = .ok (.invokestatic 60, 3) := by decide +kernel
theorem dX4_turn_11 : decode cX4_turn 11 = .ok (.ifCond .ne 6, 3) := by decide +kernel
theorem dX4_turn_14 : decode cX4_turn 14 = .ok (.bipush (-101), 2) := by decide +kernel
theorem dX4_turn_16 : decode cX4_turn 16 = .ok (.ireturn, 1) := by decide +kernel
theorem dX4_turn_17 : decode cX4_turn 17 = .ok (.aload_n 0, 1) := by decide +kernel
theorem dX4_turn_18 : decode cX4_turn 18 = .ok (.getfield 48, 3) := by decide +kernel
theorem dX4_turn_21 : decode cX4_turn 21 = .ok (.iload_n 1, 1) := by decide +kernel
theorem dX4_turn_22 : decode cX4_turn 22 = .ok (.baload, 1) := by decide +kernel
theorem dX4_turn_23 : decode cX4_turn 23 = .ok (.istore_n 3, 1) := by decide +kernel
theorem dX4_turn_24 : decode cX4_turn 24 = .ok (.aload_n 0, 1) := by decide +kernel
theorem dX4_turn_25 : decode cX4_turn 25 = .ok (.getfield 48, 3) := by decide +kernel
theorem dX4_turn_28 : decode cX4_turn 28 = .ok (.iload_n 1, 1) := by decide +kernel
theorem dX4_turn_29 : decode cX4_turn 29 = .ok (.iload_n 2, 1) := by decide +kernel
theorem dX4_turn_30 : decode cX4_turn 30 = .ok (.bastore, 1) := by decide +kernel
theorem dX4_turn_31 : decode cX4_turn 31 = .ok (.iload_n 3, 1) := by decide +kernel
theorem dX4_turn_32 : decode cX4_turn 32 = .ok (.iload_n 2, 1) := by decide +kernel
theorem dX4_turn_33 : decode cX4_turn 33 = .ok (.if_icmp .eq 7, 3) := by decide +kernel
theorem dX4_turn_36 : decode cX4_turn 36 = .ok (.iconst 1, 1) := by decide +kernel
theorem dX4_turn_37 : decode cX4_turn 37 = .ok (.goto 4, 3) := by decide +kernel
theorem dX4_turn_40 : decode cX4_turn 40 = .ok (.iconst 0, 1) := by decide +kernel
theorem dX4_turn_41 : decode cX4_turn 41 = .ok (.ireturn, 1) := by decide +kernel
theorem dX4_table_0 : decode cX4_table 0 = .ok (.iload_n 1, 1) := by decide +kernel
theorem dX4_table_1 : decode cX4_table 1 = .ok (.iconst 0, 1) := by decide +kernel
theorem dX4_table_2 : decode cX4_table 2 = .ok (.bipush 7, 2) := by decide +kernel
theorem dX4_table_4 : decode cX4_table 4 = .ok (.invokestatic 60, 3) := by decide +kernel
theorem dX4_table_7 : decode cX4_table 7 = .ok (.ifCond .ne 6, 3) := by decide +kernel
theorem dX4_table_10 : decode cX4_table 10 = .ok (.bipush (-102), 2) := by decide +kernel
theorem dX4_table_12 : decode cX4_table 12 = .ok (.ireturn, 1) := by decide +kernel
theorem dX4_table_13 : decode cX4_table 13 = .ok (.aload_n 0, 1) := by decide +kernel
theorem dX4_table_14 : decode cX4_table 14 = .ok (.getfield 51, 3) := by decide +kernel
theorem dX4_table_17 : decode cX4_table 17 = .ok (.iload_n 1, 1) := by decide +kernel
theorem dX4_table_18 : decode cX4_table 18 = .ok (.iaload, 1) := by decide +kernel
theorem dX4_table_19 : decode cX4_table 19 = .ok (.istore_n 3, 1) := by decide +kernel
theorem dX4_table_20 : decode cX4_table 20 = .ok (.aload_n 0, 1) := by decide +kernel
theorem dX4_table_21 : decode cX4_table 21 = .ok (.getfield 51, 3) := by decide +kernel
theorem dX4_table_24 : decode cX4_table 24 = .ok (.iload_n 1, 1) := by decide +kernel
theorem dX4_table_25 : decode cX4_table 25 = .ok (.iload_n 2, 1) := by decide +kernel
theorem dX4_table_26 : decode cX4_table 26 = .ok (.iastore, 1) := by decide +kernel
theorem dX4_table_27 : decode cX4_table 27 = .ok (.iload_n 3, 1) := by decide +kernel
theorem dX4_table_28 : decode cX4_table 28 = .ok (.ireturn, 1) := by decide +kernel
theorem dX4_saysOf_0 : decode cX4_saysOf 0 = .ok (.aload_n 0, 1) := by decide +kernel
theorem dX4_saysOf_1 : decode cX4_saysOf 1 = .ok (.getfield 13, 3) := by decide +kernel
theorem dX4_saysOf_4 : decode cX4_saysOf 4 = .ok (.iconst 4, 1) := by decide +kernel
theorem dX4_saysOf_5 : decode cX4_saysOf 5 = .ok (.iload_n 2, 1) := by decide +kernel
theorem dX4_saysOf_6 : decode cX4_saysOf 6 = .ok (.imul, 1) := by decide +kernel
theorem dX4_saysOf_7 : decode cX4_saysOf 7 = .ok (.aload_n 0, 1) := by decide +kernel
theorem dX4_saysOf_8 : decode cX4_saysOf 8 = .ok (.getfield 39, 3) := by decide +kernel
theorem dX4_saysOf_11 : decode cX4_saysOf 11 = .ok (.iload_n 1, 1) := by decide +kernel
theorem dX4_saysOf_12 : decode cX4_saysOf 12 = .ok (.iaload, 1) := by decide +kernel
theorem dX4_saysOf_13 : decode cX4_saysOf 13 = .ok (.iadd, 1) := by decide +kernel
theorem dX4_saysOf_14 : decode cX4_saysOf 14 = .ok (.iaload, 1) := by decide +kernel
theorem dX4_saysOf_15 : decode cX4_saysOf 15 = .ok (.istore_n 3, 1) := by decide +kernel
theorem dX4_saysOf_16 : decode cX4_saysOf 16 = .ok (.aload_n 0, 1) := by decide +kernel
theorem dX4_saysOf_17 : decode cX4_saysOf 17 = .ok (.getfield 13, 3) := by decide +kernel
theorem dX4_saysOf_20 : decode cX4_saysOf 20 = .ok (.iconst 4, 1) := by decide +kernel
theorem dX4_saysOf_21 : decode cX4_saysOf 21 = .ok (.iload_n 2, 1) := by decide +kernel
theorem dX4_saysOf_22 : decode cX4_saysOf 22 = .ok (.imul, 1) := by decide +kernel
theorem dX4_saysOf_23 : decode cX4_saysOf 23 = .ok (.aload_n 0, 1) := by decide +kernel
theorem dX4_saysOf_24 : decode cX4_saysOf 24 = .ok (.getfield 42, 3) := by decide +kernel
theorem dX4_saysOf_27 : decode cX4_saysOf 27 = .ok (.iload_n 1, 1) := by decide +kernel
theorem dX4_saysOf_28 : decode cX4_saysOf 28 = .ok (.iaload, 1) := by decide +kernel
theorem dX4_saysOf_29 : decode cX4_saysOf 29 = .ok (.iadd, 1) := by decide +kernel
theorem dX4_saysOf_30 : decode cX4_saysOf 30 = .ok (.iaload, 1) := by decide +kernel
theorem dX4_saysOf_31 : decode cX4_saysOf 31 = .ok (.istore 4, 2) := by decide +kernel
theorem dX4_saysOf_33 : decode cX4_saysOf 33 = .ok (.aload_n 0, 1) := by decide +kernel
theorem dX4_saysOf_34 : decode cX4_saysOf 34 = .ok (.getfield 36, 3) := by decide +kernel
theorem dX4_saysOf_37 : decode cX4_saysOf 37 = .ok (.iload_n 1, 1) := by decide +kernel
theorem dX4_saysOf_38 : decode cX4_saysOf 38 = .ok (.iaload, 1) := by decide +kernel
theorem dX4_saysOf_39 : decode cX4_saysOf 39 = .ok (.iconst 2, 1) := by decide +kernel
theorem dX4_saysOf_40 : decode cX4_saysOf 40 = .ok (.if_icmp .ge 36, 3) := by decide +kernel
theorem dX4_saysOf_43 : decode cX4_saysOf 43 = .ok (.iload 4, 2) := by decide +kernel
theorem dX4_saysOf_45 : decode cX4_saysOf 45 = .ok (.ifCond .ne 6, 3) := by decide +kernel
theorem dX4_saysOf_48 : decode cX4_saysOf 48 = .ok (.bipush (-2), 2) := by decide +kernel
theorem dX4_saysOf_50 : decode cX4_saysOf 50 = .ok (.ireturn, 1) := by decide +kernel
theorem dX4_saysOf_51 : decode cX4_saysOf 51 = .ok (.aload_n 0, 1) := by decide +kernel
theorem dX4_saysOf_52 : decode cX4_saysOf 52 = .ok (.getfield 36, 3) := by decide +kernel
theorem dX4_saysOf_55 : decode cX4_saysOf 55 = .ok (.iload_n 1, 1) := by decide +kernel
theorem dX4_saysOf_56 : decode cX4_saysOf 56 = .ok (.iaload, 1) := by decide +kernel
theorem dX4_saysOf_57 : decode cX4_saysOf 57 = .ok (.ifCond .ne 10, 3) := by decide +kernel
theorem dX4_saysOf_60 : decode cX4_saysOf 60 = .ok (.iload_n 3, 1) := by decide +kernel
theorem dX4_saysOf_61 : decode cX4_saysOf 61 = .ok (.iload 4, 2) := by decide +kernel
theorem dX4_saysOf_63 : decode cX4_saysOf 63 = .ok (.idiv, 1) := by decide +kernel
theorem dX4_saysOf_64 : decode cX4_saysOf 64 = .ok (.goto 7, 3) := by decide +kernel
theorem dX4_saysOf_67 : decode cX4_saysOf 67 = .ok (.iload_n 3, 1) := by decide +kernel
theorem dX4_saysOf_68 : decode cX4_saysOf 68 = .ok (.iload 4, 2) := by decide +kernel
theorem dX4_saysOf_70 : decode cX4_saysOf 70 = .ok (.irem, 1) := by decide +kernel
theorem dX4_saysOf_71 : decode cX4_saysOf 71 = .ok (.istore 5, 2) := by decide +kernel
theorem dX4_saysOf_73 : decode cX4_saysOf 73 = .ok (.goto 66, 3) := by decide +kernel
theorem dX4_saysOf_76 : decode cX4_saysOf 76 = .ok (.aload_n 0, 1) := by decide +kernel
theorem dX4_saysOf_77 : decode cX4_saysOf 77 = .ok (.getfield 36, 3) := by decide +kernel
theorem dX4_saysOf_80 : decode cX4_saysOf 80 = .ok (.iload_n 1, 1) := by decide +kernel
theorem dX4_saysOf_81 : decode cX4_saysOf 81 = .ok (.iaload, 1) := by decide +kernel
theorem dX4_saysOf_82 : decode cX4_saysOf 82 = .ok (.iconst 2, 1) := by decide +kernel
theorem dX4_saysOf_83 : decode cX4_saysOf 83 = .ok (.if_icmp .ne 39, 3) := by decide +kernel
theorem dX4_saysOf_86 : decode cX4_saysOf 86 = .ok (.iload_n 3, 1) := by decide +kernel
theorem dX4_saysOf_87 : decode cX4_saysOf 87 = .ok (.aload_n 0, 1) := by decide +kernel
theorem dX4_saysOf_88 : decode cX4_saysOf 88 = .ok (.getfield 45, 3) := by decide +kernel
theorem dX4_saysOf_91 : decode cX4_saysOf 91 = .ok (.iload_n 1, 1) := by decide +kernel
theorem dX4_saysOf_92 : decode cX4_saysOf 92 = .ok (.iaload, 1) := by decide +kernel
theorem dX4_saysOf_93 : decode cX4_saysOf 93 = .ok (.iadd, 1) := by decide +kernel
theorem dX4_saysOf_94 : decode cX4_saysOf 94 = .ok (.istore 6, 2) := by decide +kernel
theorem dX4_saysOf_96 : decode cX4_saysOf 96 = .ok (.iload 6, 2) := by decide +kernel
theorem dX4_saysOf_98 : decode cX4_saysOf 98 = .ok (.iconst 0, 1) := by decide +kernel
theorem dX4_saysOf_99 : decode cX4_saysOf 99 = .ok (.bipush 7, 2) := by decide +kernel
theorem dX4_saysOf_101 : decode cX4_saysOf 101 = .ok (.invokestatic 60, 3) := by decide +kernel
theorem dX4_saysOf_104 : decode cX4_saysOf 104 = .ok (.ifCond .ne 6, 3) := by decide +kernel
theorem dX4_saysOf_107 : decode cX4_saysOf 107 = .ok (.bipush (-3), 2) := by decide +kernel
theorem dX4_saysOf_109 : decode cX4_saysOf 109 = .ok (.ireturn, 1) := by decide +kernel
theorem dX4_saysOf_110 : decode cX4_saysOf 110 = .ok (.aload_n 0, 1) := by decide +kernel
theorem dX4_saysOf_111 : decode cX4_saysOf 111 = .ok (.getfield 51, 3) := by decide +kernel
theorem dX4_saysOf_114 : decode cX4_saysOf 114 = .ok (.iload 6, 2) := by decide +kernel
theorem dX4_saysOf_116 : decode cX4_saysOf 116 = .ok (.iaload, 1) := by decide +kernel
theorem dX4_saysOf_117 : decode cX4_saysOf 117 = .ok (.istore 5, 2) := by decide +kernel
theorem dX4_saysOf_119 : decode cX4_saysOf 119 = .ok (.goto 20, 3) := by decide +kernel
theorem dX4_saysOf_122 : decode cX4_saysOf 122 = .ok (.iload_n 3, 1) := by decide +kernel
theorem dX4_saysOf_123 : decode cX4_saysOf 123 = .ok (.aload_n 0, 1) := by decide +kernel
theorem dX4_saysOf_124 : decode cX4_saysOf 124 = .ok (.getfield 45, 3) := by decide +kernel
theorem dX4_saysOf_127 : decode cX4_saysOf 127 = .ok (.iload_n 1, 1) := by decide +kernel
theorem dX4_saysOf_128 : decode cX4_saysOf 128 = .ok (.iaload, 1) := by decide +kernel
theorem dX4_saysOf_129 : decode cX4_saysOf 129 = .ok (.if_icmp .ge 7, 3) := by decide +kernel
theorem dX4_saysOf_132 : decode cX4_saysOf 132 = .ok (.iconst 0, 1) := by decide +kernel
theorem dX4_saysOf_133 : decode cX4_saysOf 133 = .ok (.goto 4, 3) := by decide +kernel
theorem dX4_saysOf_136 : decode cX4_saysOf 136 = .ok (.iconst 1, 1) := by decide +kernel
theorem dX4_saysOf_137 : decode cX4_saysOf 137 = .ok (.istore 5, 2) := by decide +kernel
theorem dX4_saysOf_139 : decode cX4_saysOf 139 = .ok (.iload 5, 2) := by decide +kernel
theorem dX4_saysOf_141 : decode cX4_saysOf 141 = .ok (.iconst 5, 1) := by decide +kernel
theorem dX4_saysOf_142 : decode cX4_saysOf 142 = .ok (.irem, 1) := by decide +kernel
theorem dX4_saysOf_143 : decode cX4_saysOf 143 = .ok (.istore 6, 2) := by decide +kernel
theorem dX4_saysOf_145 : decode cX4_saysOf 145 = .ok (.iload 6, 2) := by decide +kernel
theorem dX4_saysOf_147 : decode cX4_saysOf 147 = .ok (.ifCond .ge 10, 3) := by decide +kernel
theorem dX4_saysOf_150 : decode cX4_saysOf 150 = .ok (.iload 6, 2) := by decide +kernel
theorem dX4_saysOf_152 : decode cX4_saysOf 152 = .ok (.iconst 5, 1) := by decide +kernel
theorem dX4_saysOf_153 : decode cX4_saysOf 153 = .ok (.iadd, 1) := by decide +kernel
theorem dX4_saysOf_154 : decode cX4_saysOf 154 = .ok (.goto 5, 3) := by decide +kernel
theorem dX4_saysOf_157 : decode cX4_saysOf 157 = .ok (.iload 6, 2) := by decide +kernel
theorem dX4_saysOf_159 : decode cX4_saysOf 159 = .ok (.ireturn, 1) := by decide +kernel
theorem dX4_says_0 : decode cX4_says 0 = .ok (.aload_n 0, 1) := by decide +kernel
theorem dX4_says_1 : decode cX4_says 1 = .ok (.iload_n 1, 1) := by decide +kernel
theorem dX4_says_2 : decode cX4_says 2 = .ok (.iconst 0, 1) := by decide +kernel
theorem dX4_says_3 : decode cX4_says 3 = .ok (.aload_n 0, 1) := by decide +kernel
theorem dX4_says_4 : decode cX4_says 4 = .ok (.getfield 81, 3) := by decide +kernel
theorem dX4_says_7 : decode cX4_says 7 = .ok (.iconst 1, 1) := by decide +kernel
theorem dX4_says_8 : decode cX4_says 8 = .ok (.isub, 1) := by decide +kernel
theorem dX4_says_9 : decode cX4_says 9 = .ok (.invokestatic 60, 3) := by decide +kernel
theorem dX4_says_12 : decode cX4_says 12 = .ok (.ifCond .eq 15, 3) := by decide +kernel
theorem dX4_says_15 : decode cX4_says 15 = .ok (.aload_n 0, 1) := by decide +kernel
theorem dX4_says_16 : decode cX4_says 16 = .ok (.iload_n 2, 1) := by decide +kernel
theorem dX4_says_17 : decode cX4_says 17 = .ok (.invokevirtual 68, 3) := by decide +kernel
theorem dX4_says_20 : decode cX4_says 20 = .ok (.ifCond .eq 7, 3) := by decide +kernel
theorem dX4_says_23 : decode cX4_says 23 = .ok (.iconst 0, 1) := by decide +kernel
theorem dX4_says_24 : decode cX4_says 24 = .ok (.goto 4, 3) := by decide +kernel
theorem dX4_says_27 : decode cX4_says 27 = .ok (.iconst 1, 1) := by decide +kernel
theorem dX4_says_28 : decode cX4_says 28 = .ok (.putfield 1, 3) := by decide +kernel
theorem dX4_says_31 : decode cX4_says 31 = .ok (.aload_n 0, 1) := by decide +kernel
theorem dX4_says_32 : decode cX4_says 32 = .ok (.getfield 1, 3) := by decide +kernel
theorem dX4_says_35 : decode cX4_says 35 = .ok (.ifCond .le 5, 3) := by decide +kernel
theorem dX4_says_38 : decode cX4_says 38 = .ok (.iconst 0, 1) := by decide +kernel
theorem dX4_says_39 : decode cX4_says 39 = .ok (.ireturn, 1) := by decide +kernel
theorem dX4_says_40 : decode cX4_says 40 = .ok (.aload_n 0, 1) := by decide +kernel
theorem dX4_says_41 : decode cX4_says 41 = .ok (.iload_n 1, 1) := by decide +kernel
theorem dX4_says_42 : decode cX4_says 42 = .ok (.iload_n 2, 1) := by decide +kernel
theorem dX4_says_43 : decode cX4_says 43 = .ok (.invokevirtual 84, 3) := by decide +kernel
theorem dX4_says_46 : decode cX4_says 46 = .ok (.istore_n 3, 1) := by decide +kernel
theorem dX4_says_47 : decode cX4_says 47 = .ok (.aload_n 0, 1) := by decide +kernel
theorem dX4_says_48 : decode cX4_says 48 = .ok (.iload_n 3, 1) := by decide +kernel
theorem dX4_says_49 : decode cX4_says 49 = .ok (.ifCond .ge 8, 3) := by decide +kernel
theorem dX4_says_52 : decode cX4_says 52 = .ok (.iload_n 3, 1) := by decide +kernel
theorem dX4_says_53 : decode cX4_says 53 = .ok (.ineg, 1) := by decide +kernel
theorem dX4_says_54 : decode cX4_says 54 = .ok (.goto 4, 3) := by decide +kernel
theorem dX4_says_57 : decode cX4_says 57 = .ok (.iconst 0, 1) := by decide +kernel
theorem dX4_says_58 : decode cX4_says 58 = .ok (.putfield 1, 3) := by decide +kernel
theorem dX4_says_61 : decode cX4_says 61 = .ok (.iload_n 3, 1) := by decide +kernel
theorem dX4_says_62 : decode cX4_says 62 = .ok (.ifCond .ge 7, 3) := by decide +kernel
theorem dX4_says_65 : decode cX4_says 65 = .ok (.iconst 0, 1) := by decide +kernel
theorem dX4_says_66 : decode cX4_says 66 = .ok (.goto 4, 3) := by decide +kernel
theorem dX4_says_69 : decode cX4_says 69 = .ok (.iload_n 3, 1) := by decide +kernel
theorem dX4_says_70 : decode cX4_says 70 = .ok (.ireturn, 1) := by decide +kernel
theorem dX4_abstains_0 : decode cX4_abstains 0 = .ok (.iload_n 1, 1) := by decide +kernel
theorem dX4_abstains_1 : decode cX4_abstains 1 = .ok (.iconst 0, 1) := by decide +kernel
theorem dX4_abstains_2 : decode cX4_abstains 2 = .ok (.aload_n 0, 1) := by decide +kernel
theorem dX4_abstains_3 : decode cX4_abstains 3 = .ok (.getfield 81, 3) := by decide +kernel
theorem dX4_abstains_6 : decode cX4_abstains 6 = .ok (.iconst 1, 1) := by decide +kernel
theorem dX4_abstains_7 : decode cX4_abstains 7 = .ok (.isub, 1) := by decide +kernel
theorem dX4_abstains_8 : decode cX4_abstains 8 = .ok (.invokestatic 60, 3) := by decide +kernel
theorem dX4_abstains_11 : decode cX4_abstains 11 = .ok (.ifCond .ne 6, 3) := by decide +kernel
theorem dX4_abstains_14 : decode cX4_abstains 14 = .ok (.bipush (-101), 2) := by decide +kernel
theorem dX4_abstains_16 : decode cX4_abstains 16 = .ok (.ireturn, 1) := by decide +kernel
theorem dX4_abstains_17 : decode cX4_abstains 17 = .ok (.iconst 0, 1) := by decide +kernel
theorem dX4_abstains_18 : decode cX4_abstains 18 = .ok (.istore_n 2, 1) := by decide +kernel
theorem dX4_abstains_19 : decode cX4_abstains 19 = .ok (.iconst 0, 1) := by decide +kernel
theorem dX4_abstains_20 : decode cX4_abstains 20 = .ok (.istore_n 3, 1) := by decide +kernel
theorem dX4_abstains_21 : decode cX4_abstains 21 = .ok (.iload_n 3, 1) := by decide +kernel
theorem dX4_abstains_22 : decode cX4_abstains 22 = .ok (.aload_n 0, 1) := by decide +kernel
theorem dX4_abstains_23 : decode cX4_abstains 23 = .ok (.getfield 57, 3) := by decide +kernel
theorem dX4_abstains_26 : decode cX4_abstains 26 = .ok (.if_icmp .ge 26, 3) := by decide +kernel
theorem dX4_abstains_29 : decode cX4_abstains 29 = .ok (.iload_n 2, 1) := by decide +kernel
theorem dX4_abstains_30 : decode cX4_abstains 30 = .ok (.aload_n 0, 1) := by decide +kernel
theorem dX4_abstains_31 : decode cX4_abstains 31 = .ok (.iload_n 1, 1) := by decide +kernel
theorem dX4_abstains_32 : decode cX4_abstains 32 = .ok (.iload_n 3, 1) := by decide +kernel
theorem dX4_abstains_33 : decode cX4_abstains 33 = .ok (.invokevirtual 84, 3) := by decide +kernel
theorem dX4_abstains_36 : decode cX4_abstains 36 = .ok (.ifCond .ge 7, 3) := by decide +kernel
theorem dX4_abstains_39 : decode cX4_abstains 39 = .ok (.iconst 1, 1) := by decide +kernel
theorem dX4_abstains_40 : decode cX4_abstains 40 = .ok (.goto 4, 3) := by decide +kernel
theorem dX4_abstains_43 : decode cX4_abstains 43 = .ok (.iconst 0, 1) := by decide +kernel
theorem dX4_abstains_44 : decode cX4_abstains 44 = .ok (.iadd, 1) := by decide +kernel
theorem dX4_abstains_45 : decode cX4_abstains 45 = .ok (.istore_n 2, 1) := by decide +kernel
theorem dX4_abstains_46 : decode cX4_abstains 46 = .ok (.iinc 3 1, 3) := by decide +kernel
theorem dX4_abstains_49 : decode cX4_abstains 49 = .ok (.goto (-28), 3) := by decide +kernel
theorem dX4_abstains_52 : decode cX4_abstains 52 = .ok (.iload_n 2, 1) := by decide +kernel
theorem dX4_abstains_53 : decode cX4_abstains 53 = .ok (.ireturn, 1) := by decide +kernel
theorem dX4_votesOf_0 : decode cX4_votesOf 0 = .ok (.iconst 0, 1) := by decide +kernel
theorem dX4_votesOf_1 : decode cX4_votesOf 1 = .ok (.istore_n 3, 1) := by decide +kernel
theorem dX4_votesOf_2 : decode cX4_votesOf 2 = .ok (.iconst 0, 1) := by decide +kernel
theorem dX4_votesOf_3 : decode cX4_votesOf 3 = .ok (.istore 4, 2) := by decide +kernel
theorem dX4_votesOf_5 : decode cX4_votesOf 5 = .ok (.iload 4, 2) := by decide +kernel
theorem dX4_votesOf_7 : decode cX4_votesOf 7 = .ok (.bipush 8, 2) := by decide +kernel
theorem dX4_votesOf_9 : decode cX4_votesOf 9 = .ok (.if_icmp .ge 50, 3) := by decide +kernel
theorem dX4_votesOf_12 : decode cX4_votesOf 12 = .ok (.iload_n 3, 1) := by decide +kernel
theorem dX4_votesOf_13 : decode cX4_votesOf 13 = .ok (.aload_n 0, 1) := by decide +kernel
theorem dX4_votesOf_14 : decode cX4_votesOf 14 = .ok (.getfield 17, 3) := by decide +kernel
theorem dX4_votesOf_17 : decode cX4_votesOf 17 = .ok (.bipush 8, 2) := by decide +kernel
theorem dX4_votesOf_19 : decode cX4_votesOf 19 = .ok (.iload_n 1, 1) := by decide +kernel
theorem dX4_votesOf_20 : decode cX4_votesOf 20 = .ok (.imul, 1) := by decide +kernel
theorem dX4_votesOf_21 : decode cX4_votesOf 21 = .ok (.iload 4, 2) := by decide +kernel
theorem dX4_votesOf_23 : decode cX4_votesOf 23 = .ok (.iadd, 1) := by decide +kernel
theorem dX4_votesOf_24 : decode cX4_votesOf 24 = .ok (.iaload, 1) := by decide +kernel
theorem dX4_votesOf_25 : decode cX4_votesOf 25 = .ok (.iload_n 2, 1) := by decide +kernel
theorem dX4_votesOf_26 : decode cX4_votesOf 26 = .ok (.iconst 1, 1) := by decide +kernel
theorem dX4_votesOf_27 : decode cX4_votesOf 27 = .ok (.iadd, 1) := by decide +kernel
theorem dX4_votesOf_28 : decode cX4_votesOf 28 = .ok (.if_icmp .ne 22, 3) := by decide +kernel
theorem dX4_votesOf_31 : decode cX4_votesOf 31 = .ok (.aload_n 0, 1) := by decide +kernel
theorem dX4_votesOf_32 : decode cX4_votesOf 32 = .ok (.iload 4, 2) := by decide +kernel
theorem dX4_votesOf_34 : decode cX4_votesOf 34 = .ok (.invokevirtual 75, 3) := by decide +kernel
theorem dX4_votesOf_37 : decode cX4_votesOf 37 = .ok (.ifCond .ne 13, 3) := by decide +kernel
theorem dX4_votesOf_40 : decode cX4_votesOf 40 = .ok (.aload_n 0, 1) := by decide +kernel
theorem dX4_votesOf_41 : decode cX4_votesOf 41 = .ok (.getfield 30, 3) := by decide +kernel
theorem dX4_votesOf_44 : decode cX4_votesOf 44 = .ok (.iload 4, 2) := by decide +kernel
theorem dX4_votesOf_46 : decode cX4_votesOf 46 = .ok (.iaload, 1) := by decide +kernel
theorem dX4_votesOf_47 : decode cX4_votesOf 47 = .ok (.goto 4, 3) := by decide +kernel
theorem dX4_votesOf_50 : decode cX4_votesOf 50 = .ok (.iconst 0, 1) := by decide +kernel
theorem dX4_votesOf_51 : decode cX4_votesOf 51 = .ok (.iadd, 1) := by decide +kernel
theorem dX4_votesOf_52 : decode cX4_votesOf 52 = .ok (.istore_n 3, 1) := by decide +kernel
theorem dX4_votesOf_53 : decode cX4_votesOf 53 = .ok (.iinc 4 1, 3) := by decide +kernel
theorem dX4_votesOf_56 : decode cX4_votesOf 56 = .ok (.goto (-51), 3) := by decide +kernel
theorem dX4_votesOf_59 : decode cX4_votesOf 59 = .ok (.iconst 0, 1) := by decide +kernel
theorem dX4_votesOf_60 : decode cX4_votesOf 60 = .ok (.istore 4, 2) := by decide +kernel
theorem dX4_votesOf_62 : decode cX4_votesOf 62 = .ok (.iload 4, 2) := by decide +kernel
theorem dX4_votesOf_64 : decode cX4_votesOf 64 = .ok (.aload_n 0, 1) := by decide +kernel
theorem dX4_votesOf_65 : decode cX4_votesOf 65 = .ok (.getfield 81, 3) := by decide +kernel
theorem dX4_votesOf_68 : decode cX4_votesOf 68 = .ok (.if_icmp .ge 38, 3) := by decide +kernel
theorem dX4_votesOf_71 : decode cX4_votesOf 71 = .ok (.iload_n 3, 1) := by decide +kernel
theorem dX4_votesOf_72 : decode cX4_votesOf 72 = .ok (.aload_n 0, 1) := by decide +kernel
theorem dX4_votesOf_73 : decode cX4_votesOf 73 = .ok (.getfield 48, 3) := by decide +kernel
theorem dX4_votesOf_76 : decode cX4_votesOf 76 = .ok (.iload 4, 2) := by decide +kernel
theorem dX4_votesOf_78 : decode cX4_votesOf 78 = .ok (.baload, 1) := by decide +kernel
theorem dX4_votesOf_79 : decode cX4_votesOf 79 = .ok (.ifCond .eq 18, 3) := by decide +kernel
theorem dX4_votesOf_82 : decode cX4_votesOf 82 = .ok (.aload_n 0, 1) := by decide +kernel
theorem dX4_votesOf_83 : decode cX4_votesOf 83 = .ok (.iload 4, 2) := by decide +kernel
theorem dX4_votesOf_85 : decode cX4_votesOf 85 = .ok (.iload_n 1, 1) := by decide +kernel
theorem dX4_votesOf_86 : decode cX4_votesOf 86 = .ok (.invokevirtual 84, 3) := by decide +kernel
theorem dX4_votesOf_89 : decode cX4_votesOf 89 = .ok (.iload_n 2, 1) := by decide +kernel
theorem dX4_votesOf_90 : decode cX4_votesOf 90 = .ok (.if_icmp .ne 7, 3) := by decide +kernel
theorem dX4_votesOf_93 : decode cX4_votesOf 93 = .ok (.iconst 1, 1) := by decide +kernel
theorem dX4_votesOf_94 : decode cX4_votesOf 94 = .ok (.goto 4, 3) := by decide +kernel
theorem dX4_votesOf_97 : decode cX4_votesOf 97 = .ok (.iconst 0, 1) := by decide +kernel
theorem dX4_votesOf_98 : decode cX4_votesOf 98 = .ok (.iadd, 1) := by decide +kernel
theorem dX4_votesOf_99 : decode cX4_votesOf 99 = .ok (.istore_n 3, 1) := by decide +kernel
theorem dX4_votesOf_100 : decode cX4_votesOf 100 = .ok (.iinc 4 1, 3) := by decide +kernel
theorem dX4_votesOf_103 : decode cX4_votesOf 103 = .ok (.goto (-41), 3) := by decide +kernel
theorem dX4_votesOf_106 : decode cX4_votesOf 106 = .ok (.iload_n 3, 1) := by decide +kernel
theorem dX4_votesOf_107 : decode cX4_votesOf 107 = .ok (.ireturn, 1) := by decide +kernel
theorem dX4_votes_0 : decode cX4_votes 0 = .ok (.aload_n 0, 1) := by decide +kernel
theorem dX4_votes_1 : decode cX4_votes 1 = .ok (.iload_n 1, 1) := by decide +kernel
theorem dX4_votes_2 : decode cX4_votes 2 = .ok (.invokevirtual 68, 3) := by decide +kernel
theorem dX4_votes_5 : decode cX4_votes 5 = .ok (.ifCond .ne 8, 3) := by decide +kernel
theorem dX4_votes_8 : decode cX4_votes 8 = .ok (.bipush (-101), 2) := by decide +kernel
theorem dX4_votes_10 : decode cX4_votes 10 = .ok (.goto 23, 3) := by decide +kernel
theorem dX4_votes_13 : decode cX4_votes 13 = .ok (.iload_n 2, 1) := by decide +kernel
theorem dX4_votes_14 : decode cX4_votes 14 = .ok (.iconst 0, 1) := by decide +kernel
theorem dX4_votes_15 : decode cX4_votes 15 = .ok (.iconst 4, 1) := by decide +kernel
theorem dX4_votes_16 : decode cX4_votes 16 = .ok (.invokestatic 60, 3) := by decide +kernel
theorem dX4_votes_19 : decode cX4_votes 19 = .ok (.ifCond .eq 12, 3) := by decide +kernel
theorem dX4_votes_22 : decode cX4_votes 22 = .ok (.aload_n 0, 1) := by decide +kernel
theorem dX4_votes_23 : decode cX4_votes 23 = .ok (.iload_n 1, 1) := by decide +kernel
theorem dX4_votes_24 : decode cX4_votes 24 = .ok (.iload_n 2, 1) := by decide +kernel
theorem dX4_votes_25 : decode cX4_votes 25 = .ok (.invokevirtual 88, 3) := by decide +kernel
theorem dX4_votes_28 : decode cX4_votes 28 = .ok (.goto 5, 3) := by decide +kernel
theorem dX4_votes_31 : decode cX4_votes 31 = .ok (.bipush (-102), 2) := by decide +kernel
theorem dX4_votes_33 : decode cX4_votes 33 = .ok (.ireturn, 1) := by decide +kernel
theorem dX4_weigh_0 : decode cX4_weigh 0 = .ok (.aload_n 0, 1) := by decide +kernel
theorem dX4_weigh_1 : decode cX4_weigh 1 = .ok (.iconst (-1), 1) := by decide +kernel
theorem dX4_weigh_2 : decode cX4_weigh 2 = .ok (.putfield 91, 3) := by decide +kernel
theorem dX4_weigh_5 : decode cX4_weigh 5 = .ok (.aload_n 0, 1) := by decide +kernel
theorem dX4_weigh_6 : decode cX4_weigh 6 = .ok (.iconst (-1), 1) := by decide +kernel
theorem dX4_weigh_7 : decode cX4_weigh 7 = .ok (.putfield 94, 3) := by decide +kernel
theorem dX4_weigh_10 : decode cX4_weigh 10 = .ok (.aload_n 0, 1) := by decide +kernel
theorem dX4_weigh_11 : decode cX4_weigh 11 = .ok (.iconst (-1), 1) := by decide +kernel
theorem dX4_weigh_12 : decode cX4_weigh 12 = .ok (.putfield 97, 3) := by decide +kernel
theorem dX4_weigh_15 : decode cX4_weigh 15 = .ok (.iconst 0, 1) := by decide +kernel
theorem dX4_weigh_16 : decode cX4_weigh 16 = .ok (.istore_n 2, 1) := by decide +kernel
theorem dX4_weigh_17 : decode cX4_weigh 17 = .ok (.iload_n 2, 1) := by decide +kernel
theorem dX4_weigh_18 : decode cX4_weigh 18 = .ok (.iconst 5, 1) := by decide +kernel
theorem dX4_weigh_19 : decode cX4_weigh 19 = .ok (.if_icmp .ge 58, 3) := by decide +kernel
theorem dX4_weigh_22 : decode cX4_weigh 22 = .ok (.aload_n 0, 1) := by decide +kernel
theorem dX4_weigh_23 : decode cX4_weigh 23 = .ok (.iload_n 1, 1) := by decide +kernel
theorem dX4_weigh_24 : decode cX4_weigh 24 = .ok (.iload_n 2, 1) := by decide +kernel
theorem dX4_weigh_25 : decode cX4_weigh 25 = .ok (.invokevirtual 88, 3) := by decide +kernel
theorem dX4_weigh_28 : decode cX4_weigh 28 = .ok (.istore_n 3, 1) := by decide +kernel
theorem dX4_weigh_29 : decode cX4_weigh 29 = .ok (.iload_n 3, 1) := by decide +kernel
theorem dX4_weigh_30 : decode cX4_weigh 30 = .ok (.aload_n 0, 1) := by decide +kernel
theorem dX4_weigh_31 : decode cX4_weigh 31 = .ok (.getfield 91, 3) := by decide +kernel
theorem dX4_weigh_34 : decode cX4_weigh 34 = .ok (.if_icmp .le 24, 3) := by decide +kernel
theorem dX4_weigh_37 : decode cX4_weigh 37 = .ok (.aload_n 0, 1) := by decide +kernel
theorem dX4_weigh_38 : decode cX4_weigh 38 = .ok (.aload_n 0, 1) := by decide +kernel
theorem dX4_weigh_39 : decode cX4_weigh 39 = .ok (.getfield 91, 3) := by decide +kernel
theorem dX4_weigh_42 : decode cX4_weigh 42 = .ok (.putfield 94, 3) := by decide +kernel
theorem dX4_weigh_45 : decode cX4_weigh 45 = .ok (.aload_n 0, 1) := by decide +kernel
theorem dX4_weigh_46 : decode cX4_weigh 46 = .ok (.iload_n 3, 1) := by decide +kernel
theorem dX4_weigh_47 : decode cX4_weigh 47 = .ok (.putfield 91, 3) := by decide +kernel
theorem dX4_weigh_50 : decode cX4_weigh 50 = .ok (.aload_n 0, 1) := by decide +kernel
theorem dX4_weigh_51 : decode cX4_weigh 51 = .ok (.iload_n 2, 1) := by decide +kernel
theorem dX4_weigh_52 : decode cX4_weigh 52 = .ok (.putfield 97, 3) := by decide +kernel
theorem dX4_weigh_55 : decode cX4_weigh 55 = .ok (.goto 16, 3) := by decide +kernel
theorem dX4_weigh_58 : decode cX4_weigh 58 = .ok (.iload_n 3, 1) := by decide +kernel
theorem dX4_weigh_59 : decode cX4_weigh 59 = .ok (.aload_n 0, 1) := by decide +kernel
theorem dX4_weigh_60 : decode cX4_weigh 60 = .ok (.getfield 94, 3) := by decide +kernel
theorem dX4_weigh_63 : decode cX4_weigh 63 = .ok (.if_icmp .le 8, 3) := by decide +kernel
theorem dX4_weigh_66 : decode cX4_weigh 66 = .ok (.aload_n 0, 1) := by decide +kernel
theorem dX4_weigh_67 : decode cX4_weigh 67 = .ok (.iload_n 3, 1) := by decide +kernel
theorem dX4_weigh_68 : decode cX4_weigh 68 = .ok (.putfield 94, 3) := by decide +kernel
theorem dX4_weigh_71 : decode cX4_weigh 71 = .ok (.iinc 2 1, 3) := by decide +kernel
theorem dX4_weigh_74 : decode cX4_weigh 74 = .ok (.goto (-57), 3) := by decide +kernel
theorem dX4_weigh_77 : decode cX4_weigh 77 = .ok (.return_, 1) := by decide +kernel
theorem dX4_decidedOf_0 : decode cX4_decidedOf 0 = .ok (.aload_n 0, 1) := by decide +kernel
theorem dX4_decidedOf_1 : decode cX4_decidedOf 1 = .ok (.getfield 20, 3) := by decide +kernel
theorem dX4_decidedOf_4 : decode cX4_decidedOf 4 = .ok (.iload_n 1, 1) := by decide +kernel
theorem dX4_decidedOf_5 : decode cX4_decidedOf 5 = .ok (.iaload, 1) := by decide +kernel
theorem dX4_decidedOf_6 : decode cX4_decidedOf 6 = .ok (.iconst (-1), 1) := by decide +kernel
theorem dX4_decidedOf_7 : decode cX4_decidedOf 7 = .ok (.if_icmp .eq 10, 3) := by decide +kernel
theorem dX4_decidedOf_10 : decode cX4_decidedOf 10 = .ok (.aload_n 0, 1) := by decide +kernel
theorem dX4_decidedOf_11 : decode cX4_decidedOf 11 = .ok (.getfield 20, 3) := by decide +kernel
theorem dX4_decidedOf_14 : decode cX4_decidedOf 14 = .ok (.iload_n 1, 1) := by decide +kernel
theorem dX4_decidedOf_15 : decode cX4_decidedOf 15 = .ok (.iaload, 1) := by decide +kernel
theorem dX4_decidedOf_16 : decode cX4_decidedOf 16 = .ok (.ireturn, 1) := by decide +kernel
theorem dX4_decidedOf_17 : decode cX4_decidedOf 17 = .ok (.aload_n 0, 1) := by decide +kernel
theorem dX4_decidedOf_18 : decode cX4_decidedOf 18 = .ok (.iload_n 1, 1) := by decide +kernel
theorem dX4_decidedOf_19 : decode cX4_decidedOf 19 = .ok (.invokevirtual 100, 3) := by decide +kernel
theorem dX4_decidedOf_22 : decode cX4_decidedOf 22 = .ok (.aload_n 0, 1) := by decide +kernel
theorem dX4_decidedOf_23 : decode cX4_decidedOf 23 = .ok (.getfield 91, 3) := by decide +kernel
theorem dX4_decidedOf_26 : decode cX4_decidedOf 26 = .ok (.ifCond .le 19, 3) := by decide +kernel
theorem dX4_decidedOf_29 : decode cX4_decidedOf 29 = .ok (.aload_n 0, 1) := by decide +kernel
theorem dX4_decidedOf_30 : decode cX4_decidedOf 30 = .ok (.getfield 91, 3) := by decide +kernel
theorem dX4_decidedOf_33 : decode cX4_decidedOf 33 = .ok (.aload_n 0, 1) := by decide +kernel
theorem dX4_decidedOf_34 : decode cX4_decidedOf 34 = .ok (.getfield 94, 3) := by decide +kernel
theorem dX4_decidedOf_37 : decode cX4_decidedOf 37 = .ok (.if_icmp .le 8, 3) := by decide +kernel
theorem dX4_decidedOf_40 : decode cX4_decidedOf 40 = .ok (.aload_n 0, 1) := by decide +kernel
theorem dX4_decidedOf_41 : decode cX4_decidedOf 41 = .ok (.getfield 97, 3) := by decide +kernel
theorem dX4_decidedOf_44 : decode cX4_decidedOf 44 = .ok (.ireturn, 1) := by decide +kernel
theorem dX4_decidedOf_45 : decode cX4_decidedOf 45 = .ok (.iconst 0, 1) := by decide +kernel
theorem dX4_decidedOf_46 : decode cX4_decidedOf 46 = .ok (.istore_n 2, 1) := by decide +kernel
theorem dX4_decidedOf_47 : decode cX4_decidedOf 47 = .ok (.iload_n 2, 1) := by decide +kernel
theorem dX4_decidedOf_48 : decode cX4_decidedOf 48 = .ok (.bipush 8, 2) := by decide +kernel
theorem dX4_decidedOf_50 : decode cX4_decidedOf 50 = .ok (.if_icmp .ge 54, 3) := by decide +kernel
theorem dX4_decidedOf_53 : decode cX4_decidedOf 53 = .ok (.aload_n 0, 1) := by decide +kernel
theorem dX4_decidedOf_54 : decode cX4_decidedOf 54 = .ok (.getfield 26, 3) := by decide +kernel
theorem dX4_decidedOf_57 : decode cX4_decidedOf 57 = .ok (.iload_n 2, 1) := by decide +kernel
theorem dX4_decidedOf_58 : decode cX4_decidedOf 58 = .ok (.baload, 1) := by decide +kernel
theorem dX4_decidedOf_59 : decode cX4_decidedOf 59 = .ok (.ifCond .eq 39, 3) := by decide +kernel
theorem dX4_decidedOf_62 : decode cX4_decidedOf 62 = .ok (.aload_n 0, 1) := by decide +kernel
theorem dX4_decidedOf_63 : decode cX4_decidedOf 63 = .ok (.iload_n 2, 1) := by decide +kernel
theorem dX4_decidedOf_64 : decode cX4_decidedOf 64 = .ok (.invokevirtual 75, 3) := by decide +kernel
theorem dX4_decidedOf_67 : decode cX4_decidedOf 67 = .ok (.ifCond .ne 31, 3) := by decide +kernel
theorem dX4_decidedOf_70 : decode cX4_decidedOf 70 = .ok (.aload_n 0, 1) := by decide +kernel
theorem dX4_decidedOf_71 : decode cX4_decidedOf 71 = .ok (.getfield 17, 3) := by decide +kernel
theorem dX4_decidedOf_74 : decode cX4_decidedOf 74 = .ok (.bipush 8, 2) := by decide +kernel
theorem dX4_decidedOf_76 : decode cX4_decidedOf 76 = .ok (.iload_n 1, 1) := by decide +kernel
theorem dX4_decidedOf_77 : decode cX4_decidedOf 77 = .ok (.imul, 1) := by decide +kernel
theorem dX4_decidedOf_78 : decode cX4_decidedOf 78 = .ok (.iload_n 2, 1) := by decide +kernel
theorem dX4_decidedOf_79 : decode cX4_decidedOf 79 = .ok (.iadd, 1) := by decide +kernel
theorem dX4_decidedOf_80 : decode cX4_decidedOf 80 = .ok (.iaload, 1) := by decide +kernel
theorem dX4_decidedOf_81 : decode cX4_decidedOf 81 = .ok (.ifCond .le 17, 3) := by decide +kernel
theorem dX4_decidedOf_84 : decode cX4_decidedOf 84 = .ok (.aload_n 0, 1) := by decide +kernel
theorem dX4_decidedOf_85 : decode cX4_decidedOf 85 = .ok (.getfield 17, 3) := by decide +kernel
theorem dX4_decidedOf_88 : decode cX4_decidedOf 88 = .ok (.bipush 8, 2) := by decide +kernel
theorem dX4_decidedOf_90 : decode cX4_decidedOf 90 = .ok (.iload_n 1, 1) := by decide +kernel
theorem dX4_decidedOf_91 : decode cX4_decidedOf 91 = .ok (.imul, 1) := by decide +kernel
theorem dX4_decidedOf_92 : decode cX4_decidedOf 92 = .ok (.iload_n 2, 1) := by decide +kernel
theorem dX4_decidedOf_93 : decode cX4_decidedOf 93 = .ok (.iadd, 1) := by decide +kernel
theorem dX4_decidedOf_94 : decode cX4_decidedOf 94 = .ok (.iaload, 1) := by decide +kernel
theorem dX4_decidedOf_95 : decode cX4_decidedOf 95 = .ok (.iconst 1, 1) := by decide +kernel
theorem dX4_decidedOf_96 : decode cX4_decidedOf 96 = .ok (.isub, 1) := by decide +kernel
theorem dX4_decidedOf_97 : decode cX4_decidedOf 97 = .ok (.ireturn, 1) := by decide +kernel
theorem dX4_decidedOf_98 : decode cX4_decidedOf 98 = .ok (.iinc 2 1, 3) := by decide +kernel
theorem dX4_decidedOf_101 : decode cX4_decidedOf 101 = .ok (.goto (-54), 3) := by decide +kernel
theorem dX4_decidedOf_104 : decode cX4_decidedOf 104 = .ok (.iconst (-1), 1) := by decide +kernel
theorem dX4_decidedOf_105 : decode cX4_decidedOf 105 = .ok (.ireturn, 1) := by decide +kernel
theorem dX4_decided_0 : decode cX4_decided 0 = .ok (.aload_n 0, 1) := by decide +kernel
theorem dX4_decided_1 : decode cX4_decided 1 = .ok (.iload_n 1, 1) := by decide +kernel
theorem dX4_decided_2 : decode cX4_decided 2 = .ok (.invokevirtual 68, 3) := by decide +kernel
theorem dX4_decided_5 : decode cX4_decided 5 = .ok (.ifCond .eq 11, 3) := by decide +kernel
theorem dX4_decided_8 : decode cX4_decided 8 = .ok (.aload_n 0, 1) := by decide +kernel
theorem dX4_decided_9 : decode cX4_decided 9 = .ok (.iload_n 1, 1) := by decide +kernel
theorem dX4_decided_10 : decode cX4_decided 10 = .ok (.invokevirtual 104, 3) := by decide +kernel
theorem dX4_decided_13 : decode cX4_decided 13 = .ok (.goto 5, 3) := by decide +kernel
theorem dX4_decided_16 : decode cX4_decided 16 = .ok (.bipush (-101), 2) := by decide +kernel
theorem dX4_decided_18 : decode cX4_decided 18 = .ok (.ireturn, 1) := by decide +kernel
theorem dX4_learn_0 : decode cX4_learn 0 = .ok (.iload_n 1, 1) := by decide +kernel
theorem dX4_learn_1 : decode cX4_learn 1 = .ok (.iconst 1, 1) := by decide +kernel
theorem dX4_learn_2 : decode cX4_learn 2 = .ok (.bipush 20, 2) := by decide +kernel
theorem dX4_learn_4 : decode cX4_learn 4 = .ok (.invokestatic 60, 3) := by decide +kernel
theorem dX4_learn_7 : decode cX4_learn 7 = .ok (.ifCond .ne 6, 3) := by decide +kernel
theorem dX4_learn_10 : decode cX4_learn 10 = .ok (.bipush (-102), 2) := by decide +kernel
theorem dX4_learn_12 : decode cX4_learn 12 = .ok (.ireturn, 1) := by decide +kernel
theorem dX4_learn_13 : decode cX4_learn 13 = .ok (.iconst 0, 1) := by decide +kernel
theorem dX4_learn_14 : decode cX4_learn 14 = .ok (.istore_n 2, 1) := by decide +kernel
theorem dX4_learn_15 : decode cX4_learn 15 = .ok (.iload_n 2, 1) := by decide +kernel
theorem dX4_learn_16 : decode cX4_learn 16 = .ok (.bipush 8, 2) := by decide +kernel
theorem dX4_learn_18 : decode cX4_learn 18 = .ok (.if_icmp .ge 17, 3) := by decide +kernel
theorem dX4_learn_21 : decode cX4_learn 21 = .ok (.aload_n 0, 1) := by decide +kernel
theorem dX4_learn_22 : decode cX4_learn 22 = .ok (.getfield 30, 3) := by decide +kernel
theorem dX4_learn_25 : decode cX4_learn 25 = .ok (.iload_n 2, 1) := by decide +kernel
theorem dX4_learn_26 : decode cX4_learn 26 = .ok (.bipush 10, 2) := by decide +kernel
theorem dX4_learn_28 : decode cX4_learn 28 = .ok (.iastore, 1) := by decide +kernel
theorem dX4_learn_29 : decode cX4_learn 29 = .ok (.iinc 2 1, 3) := by decide +kernel
theorem dX4_learn_32 : decode cX4_learn 32 = .ok (.goto (-17), 3) := by decide +kernel
theorem dX4_learn_35 : decode cX4_learn 35 = .ok (.iconst 0, 1) := by decide +kernel
theorem dX4_learn_36 : decode cX4_learn 36 = .ok (.istore_n 2, 1) := by decide +kernel
theorem dX4_learn_37 : decode cX4_learn 37 = .ok (.iconst 1, 1) := by decide +kernel
theorem dX4_learn_38 : decode cX4_learn 38 = .ok (.istore_n 3, 1) := by decide +kernel
theorem dX4_learn_39 : decode cX4_learn 39 = .ok (.iload_n 2, 1) := by decide +kernel
theorem dX4_learn_40 : decode cX4_learn 40 = .ok (.iload_n 1, 1) := by decide +kernel
theorem dX4_learn_41 : decode cX4_learn 41 = .ok (.if_icmp .ge 234, 3) := by decide +kernel
theorem dX4_learn_44 : decode cX4_learn 44 = .ok (.iload_n 3, 1) := by decide +kernel
theorem dX4_learn_45 : decode cX4_learn 45 = .ok (.ifCond .eq 230, 3) := by decide +kernel
theorem dX4_learn_48 : decode cX4_learn 48 = .ok (.iinc 2 1, 3) := by decide +kernel
theorem dX4_learn_51 : decode cX4_learn 51 = .ok (.iconst 0, 1) := by decide +kernel
theorem dX4_learn_52 : decode cX4_learn 52 = .ok (.istore 4, 2) := by decide +kernel
theorem dX4_learn_54 : decode cX4_learn 54 = .ok (.iload 4, 2) := by decide +kernel
theorem dX4_learn_56 : decode cX4_learn 56 = .ok (.aload_n 0, 1) := by decide +kernel
theorem dX4_learn_57 : decode cX4_learn 57 = .ok (.getfield 57, 3) := by decide +kernel
theorem dX4_learn_60 : decode cX4_learn 60 = .ok (.if_icmp .ge 22, 3) := by decide +kernel
theorem dX4_learn_63 : decode cX4_learn 63 = .ok (.aload_n 0, 1) := by decide +kernel
theorem dX4_learn_64 : decode cX4_learn 64 = .ok (.getfield 54, 3) := by decide +kernel
theorem dX4_learn_67 : decode cX4_learn 67 = .ok (.iload 4, 2) := by decide +kernel
theorem dX4_learn_69 : decode cX4_learn 69 = .ok (.aload_n 0, 1) := by decide +kernel
theorem dX4_learn_70 : decode cX4_learn 70 = .ok (.iload 4, 2) := by decide +kernel
theorem dX4_learn_72 : decode cX4_learn 72 = .ok (.invokevirtual 104, 3) := by decide +kernel
theorem dX4_learn_75 : decode cX4_learn 75 = .ok (.iastore, 1) := by decide +kernel
theorem dX4_learn_76 : decode cX4_learn 76 = .ok (.iinc 4 1, 3) := by decide +kernel
theorem dX4_learn_79 : decode cX4_learn 79 = .ok (.goto (-25), 3) := by decide +kernel
theorem dX4_learn_82 : decode cX4_learn 82 = .ok (.iconst 0, 1) := by decide +kernel
theorem dX4_learn_83 : decode cX4_learn 83 = .ok (.istore_n 3, 1) := by decide +kernel
theorem dX4_learn_84 : decode cX4_learn 84 = .ok (.iconst 0, 1) := by decide +kernel
theorem dX4_learn_85 : decode cX4_learn 85 = .ok (.istore 4, 2) := by decide +kernel
theorem dX4_learn_87 : decode cX4_learn 87 = .ok (.iload 4, 2) := by decide +kernel
theorem dX4_learn_89 : decode cX4_learn 89 = .ok (.bipush 8, 2) := by decide +kernel
theorem dX4_learn_91 : decode cX4_learn 91 = .ok (.if_icmp .ge 151, 3) := by decide +kernel
theorem dX4_learn_94 : decode cX4_learn 94 = .ok (.iconst 0, 1) := by decide +kernel
theorem dX4_learn_95 : decode cX4_learn 95 = .ok (.istore 5, 2) := by decide +kernel
theorem dX4_learn_97 : decode cX4_learn 97 = .ok (.iconst 0, 1) := by decide +kernel
theorem dX4_learn_98 : decode cX4_learn 98 = .ok (.istore 6, 2) := by decide +kernel
theorem dX4_learn_100 : decode cX4_learn 100 = .ok (.iconst 0, 1) := by decide +kernel
theorem dX4_learn_101 : decode cX4_learn 101 = .ok (.istore 7, 2) := by decide +kernel
theorem dX4_learn_103 : decode cX4_learn 103 = .ok (.iload 7, 2) := by decide +kernel
theorem dX4_learn_105 : decode cX4_learn 105 = .ok (.aload_n 0, 1) := by decide +kernel
theorem dX4_learn_106 : decode cX4_learn 106 = .ok (.getfield 57, 3) := by decide +kernel
theorem dX4_learn_109 : decode cX4_learn 109 = .ok (.if_icmp .ge 74, 3) := by decide +kernel
theorem dX4_learn_112 : decode cX4_learn 112 = .ok (.aload_n 0, 1) := by decide +kernel
theorem dX4_learn_113 : decode cX4_learn 113 = .ok (.getfield 54, 3) := by decide +kernel
theorem dX4_learn_116 : decode cX4_learn 116 = .ok (.iload 7, 2) := by decide +kernel
theorem dX4_learn_118 : decode cX4_learn 118 = .ok (.iaload, 1) := by decide +kernel
theorem dX4_learn_119 : decode cX4_learn 119 = .ok (.iconst (-1), 1) := by decide +kernel
theorem dX4_learn_120 : decode cX4_learn 120 = .ok (.if_icmp .eq 57, 3) := by decide +kernel
theorem dX4_learn_123 : decode cX4_learn 123 = .ok (.aload_n 0, 1) := by decide +kernel
theorem dX4_learn_124 : decode cX4_learn 124 = .ok (.getfield 17, 3) := by decide +kernel
theorem dX4_learn_127 : decode cX4_learn 127 = .ok (.bipush 8, 2) := by decide +kernel
theorem dX4_learn_129 : decode cX4_learn 129 = .ok (.iload 7, 2) := by decide +kernel
theorem dX4_learn_131 : decode cX4_learn 131 = .ok (.imul, 1) := by decide +kernel
theorem dX4_learn_132 : decode cX4_learn 132 = .ok (.iload 4, 2) := by decide +kernel
theorem dX4_learn_134 : decode cX4_learn 134 = .ok (.iadd, 1) := by decide +kernel
theorem dX4_learn_135 : decode cX4_learn 135 = .ok (.iaload, 1) := by decide +kernel
theorem dX4_learn_136 : decode cX4_learn 136 = .ok (.ifCond .le 41, 3) := by decide +kernel
theorem dX4_learn_139 : decode cX4_learn 139 = .ok (.iinc 5 1, 3) := by decide +kernel
theorem dX4_learn_142 : decode cX4_learn 142 = .ok (.iload 6, 2) := by decide +kernel
theorem dX4_learn_144 : decode cX4_learn 144 = .ok (.aload_n 0, 1) := by decide +kernel
theorem dX4_learn_145 : decode cX4_learn 145 = .ok (.getfield 17, 3) := by decide +kernel
theorem dX4_learn_148 : decode cX4_learn 148 = .ok (.bipush 8, 2) := by decide +kernel
theorem dX4_learn_150 : decode cX4_learn 150 = .ok (.iload 7, 2) := by decide +kernel
theorem dX4_learn_152 : decode cX4_learn 152 = .ok (.imul, 1) := by decide +kernel
theorem dX4_learn_153 : decode cX4_learn 153 = .ok (.iload 4, 2) := by decide +kernel
theorem dX4_learn_155 : decode cX4_learn 155 = .ok (.iadd, 1) := by decide +kernel
theorem dX4_learn_156 : decode cX4_learn 156 = .ok (.iaload, 1) := by decide +kernel
theorem dX4_learn_157 : decode cX4_learn 157 = .ok (.iconst 1, 1) := by decide +kernel
theorem dX4_learn_158 : decode cX4_learn 158 = .ok (.isub, 1) := by decide +kernel
theorem dX4_learn_159 : decode cX4_learn 159 = .ok (.aload_n 0, 1) := by decide +kernel
theorem dX4_learn_160 : decode cX4_learn 160 = .ok (.getfield 54, 3) := by decide +kernel
theorem dX4_learn_163 : decode cX4_learn 163 = .ok (.iload 7, 2) := by decide +kernel
theorem dX4_learn_165 : decode cX4_learn 165 = .ok (.iaload, 1) := by decide +kernel
theorem dX4_learn_166 : decode cX4_learn 166 = .ok (.if_icmp .ne 7, 3) := by decide +kernel
theorem dX4_learn_169 : decode cX4_learn 169 = .ok (.iconst 1, 1) := by decide +kernel
theorem dX4_learn_170 : decode cX4_learn 170 = .ok (.goto 4, 3) := by decide +kernel
theorem dX4_learn_173 : decode cX4_learn 173 = .ok (.iconst 0, 1) := by decide +kernel
theorem dX4_learn_174 : decode cX4_learn 174 = .ok (.iadd, 1) := by decide +kernel
theorem dX4_learn_175 : decode cX4_learn 175 = .ok (.istore 6, 2) := by decide +kernel
theorem dX4_learn_177 : decode cX4_learn 177 = .ok (.iinc 7 1, 3) := by decide +kernel
theorem dX4_learn_180 : decode cX4_learn 180 = .ok (.goto (-77), 3) := by decide +kernel
theorem dX4_learn_183 : decode cX4_learn 183 = .ok (.aload_n 0, 1) := by decide +kernel
theorem dX4_learn_184 : decode cX4_learn 184 = .ok (.getfield 33, 3) := by decide +kernel
theorem dX4_learn_187 : decode cX4_learn 187 = .ok (.iload 4, 2) := by decide +kernel
theorem dX4_learn_189 : decode cX4_learn 189 = .ok (.iload 5, 2) := by decide +kernel
theorem dX4_learn_191 : decode cX4_learn 191 = .ok (.ifCond .ne 7, 3) := by decide +kernel
theorem dX4_learn_194 : decode cX4_learn 194 = .ok (.iconst 1, 1) := by decide +kernel
theorem dX4_learn_195 : decode cX4_learn 195 = .ok (.goto 13, 3) := by decide +kernel
theorem dX4_learn_198 : decode cX4_learn 198 = .ok (.iconst 1, 1) := by decide +kernel
theorem dX4_learn_199 : decode cX4_learn 199 = .ok (.bipush 9, 2) := by decide +kernel
theorem dX4_learn_201 : decode cX4_learn 201 = .ok (.iload 6, 2) := by decide +kernel
theorem dX4_learn_203 : decode cX4_learn 203 = .ok (.imul, 1) := by decide +kernel
theorem dX4_learn_204 : decode cX4_learn 204 = .ok (.iload 5, 2) := by decide +kernel
theorem dX4_learn_206 : decode cX4_learn 206 = .ok (.idiv, 1) := by decide +kernel
theorem dX4_learn_207 : decode cX4_learn 207 = .ok (.iadd, 1) := by decide +kernel
theorem dX4_learn_208 : decode cX4_learn 208 = .ok (.iastore, 1) := by decide +kernel
theorem dX4_learn_209 : decode cX4_learn 209 = .ok (.iload_n 3, 1) := by decide +kernel
theorem dX4_learn_210 : decode cX4_learn 210 = .ok (.ifCond .ne 20, 3) := by decide +kernel
theorem dX4_learn_213 : decode cX4_learn 213 = .ok (.aload_n 0, 1) := by decide +kernel
theorem dX4_learn_214 : decode cX4_learn 214 = .ok (.getfield 33, 3) := by decide +kernel
theorem dX4_learn_217 : decode cX4_learn 217 = .ok (.iload 4, 2) := by decide +kernel
theorem dX4_learn_219 : decode cX4_learn 219 = .ok (.iaload, 1) := by decide +kernel
theorem dX4_learn_220 : decode cX4_learn 220 = .ok (.aload_n 0, 1) := by decide +kernel
theorem dX4_learn_221 : decode cX4_learn 221 = .ok (.getfield 30, 3) := by decide +kernel
theorem dX4_learn_224 : decode cX4_learn 224 = .ok (.iload 4, 2) := by decide +kernel
theorem dX4_learn_226 : decode cX4_learn 226 = .ok (.iaload, 1) := by decide +kernel
theorem dX4_learn_227 : decode cX4_learn 227 = .ok (.if_icmp .eq 7, 3) := by decide +kernel
theorem dX4_learn_230 : decode cX4_learn 230 = .ok (.iconst 1, 1) := by decide +kernel
theorem dX4_learn_231 : decode cX4_learn 231 = .ok (.goto 4, 3) := by decide +kernel
theorem dX4_learn_234 : decode cX4_learn 234 = .ok (.iconst 0, 1) := by decide +kernel
theorem dX4_learn_235 : decode cX4_learn 235 = .ok (.istore_n 3, 1) := by decide +kernel
theorem dX4_learn_236 : decode cX4_learn 236 = .ok (.iinc 4 1, 3) := by decide +kernel
theorem dX4_learn_239 : decode cX4_learn 239 = .ok (.goto (-152), 3) := by decide +kernel
theorem dX4_learn_242 : decode cX4_learn 242 = .ok (.iconst 0, 1) := by decide +kernel
theorem dX4_learn_243 : decode cX4_learn 243 = .ok (.istore 4, 2) := by decide +kernel
theorem dX4_learn_245 : decode cX4_learn 245 = .ok (.iload 4, 2) := by decide +kernel
theorem dX4_learn_247 : decode cX4_learn 247 = .ok (.bipush 8, 2) := by decide +kernel
theorem dX4_learn_249 : decode cX4_learn 249 = .ok (.if_icmp .ge 23, 3) := by decide +kernel
theorem dX4_learn_252 : decode cX4_learn 252 = .ok (.aload_n 0, 1) := by decide +kernel
theorem dX4_learn_253 : decode cX4_learn 253 = .ok (.getfield 30, 3) := by decide +kernel
theorem dX4_learn_256 : decode cX4_learn 256 = .ok (.iload 4, 2) := by decide +kernel
theorem dX4_learn_258 : decode cX4_learn 258 = .ok (.aload_n 0, 1) := by decide +kernel
theorem dX4_learn_259 : decode cX4_learn 259 = .ok (.getfield 33, 3) := by decide +kernel
theorem dX4_learn_262 : decode cX4_learn 262 = .ok (.iload 4, 2) := by decide +kernel
theorem dX4_learn_264 : decode cX4_learn 264 = .ok (.iaload, 1) := by decide +kernel
theorem dX4_learn_265 : decode cX4_learn 265 = .ok (.iastore, 1) := by decide +kernel
theorem dX4_learn_266 : decode cX4_learn 266 = .ok (.iinc 4 1, 3) := by decide +kernel
theorem dX4_learn_269 : decode cX4_learn 269 = .ok (.goto (-24), 3) := by decide +kernel
theorem dX4_learn_272 : decode cX4_learn 272 = .ok (.goto (-233), 3) := by decide +kernel
theorem dX4_learn_275 : decode cX4_learn 275 = .ok (.iload_n 2, 1) := by decide +kernel
theorem dX4_learn_276 : decode cX4_learn 276 = .ok (.ireturn, 1) := by decide +kernel
theorem dX4_cut_0 : decode cX4_cut 0 = .ok (.lload_n 3, 1) := by decide +kernel
theorem dX4_cut_1 : decode cX4_cut 1 = .ok (.lconst 0, 1) := by decide +kernel
theorem dX4_cut_2 : decode cX4_cut 2 = .ok (.lcmp, 1) := by decide +kernel
theorem dX4_cut_3 : decode cX4_cut 3 = .ok (.ifCond .ne 10, 3) := by decide +kernel
theorem dX4_cut_6 : decode cX4_cut 6 = .ok (.aload_n 0, 1) := by decide +kernel
theorem dX4_cut_7 : decode cX4_cut 7 = .ok (.iconst 2, 1) := by decide +kernel
theorem dX4_cut_8 : decode cX4_cut 8 = .ok (.putfield 1, 3) := by decide +kernel
theorem dX4_cut_11 : decode cX4_cut 11 = .ok (.lconst 0, 1) := by decide +kernel
theorem dX4_cut_12 : decode cX4_cut 12 = .ok (.lreturn, 1) := by decide +kernel
theorem dX4_cut_13 : decode cX4_cut 13 = .ok (.lload_n 1, 1) := by decide +kernel
theorem dX4_cut_14 : decode cX4_cut 14 = .ok (.lconst 0, 1) := by decide +kernel
theorem dX4_cut_15 : decode cX4_cut 15 = .ok (.lcmp, 1) := by decide +kernel
theorem dX4_cut_16 : decode cX4_cut 16 = .ok (.ifCond .ge 8, 3) := by decide +kernel
theorem dX4_cut_19 : decode cX4_cut 19 = .ok (.lload_n 1, 1) := by decide +kernel
theorem dX4_cut_20 : decode cX4_cut 20 = .ok (.lneg, 1) := by decide +kernel
theorem dX4_cut_21 : decode cX4_cut 21 = .ok (.goto 4, 3) := by decide +kernel
theorem dX4_cut_24 : decode cX4_cut 24 = .ok (.lload_n 1, 1) := by decide +kernel
theorem dX4_cut_25 : decode cX4_cut 25 = .ok (.lstore 6, 2) := by decide +kernel
theorem dX4_cut_27 : decode cX4_cut 27 = .ok (.lload_n 3, 1) := by decide +kernel
theorem dX4_cut_28 : decode cX4_cut 28 = .ok (.lconst 0, 1) := by decide +kernel
theorem dX4_cut_29 : decode cX4_cut 29 = .ok (.lcmp, 1) := by decide +kernel
theorem dX4_cut_30 : decode cX4_cut 30 = .ok (.ifCond .ge 8, 3) := by decide +kernel
theorem dX4_cut_33 : decode cX4_cut 33 = .ok (.lload_n 3, 1) := by decide +kernel
theorem dX4_cut_34 : decode cX4_cut 34 = .ok (.lneg, 1) := by decide +kernel
theorem dX4_cut_35 : decode cX4_cut 35 = .ok (.goto 4, 3) := by decide +kernel
theorem dX4_cut_38 : decode cX4_cut 38 = .ok (.lload_n 3, 1) := by decide +kernel
theorem dX4_cut_39 : decode cX4_cut 39 = .ok (.lstore 8, 2) := by decide +kernel
theorem dX4_cut_41 : decode cX4_cut 41 = .ok (.lload 8, 2) := by decide +kernel
theorem dX4_cut_43 : decode cX4_cut 43 = .ok (.lconst 0, 1) := by decide +kernel
theorem dX4_cut_44 : decode cX4_cut 44 = .ok (.lcmp, 1) := by decide +kernel
theorem dX4_cut_45 : decode cX4_cut 45 = .ok (.ifCond .eq 21, 3) := by decide +kernel
theorem dX4_cut_48 : decode cX4_cut 48 = .ok (.lload 6, 2) := by decide +kernel
theorem dX4_cut_50 : decode cX4_cut 50 = .ok (.lload 8, 2) := by decide +kernel
theorem dX4_cut_52 : decode cX4_cut 52 = .ok (.lrem, 1) := by decide +kernel
theorem dX4_cut_53 : decode cX4_cut 53 = .ok (.lstore 10, 2) := by decide +kernel
theorem dX4_cut_55 : decode cX4_cut 55 = .ok (.lload 8, 2) := by decide +kernel
theorem dX4_cut_57 : decode cX4_cut 57 = .ok (.lstore 6, 2) := by decide +kernel
theorem dX4_cut_59 : decode cX4_cut 59 = .ok (.lload 10, 2) := by decide +kernel
theorem dX4_cut_61 : decode cX4_cut 61 = .ok (.lstore 8, 2) := by decide +kernel
theorem dX4_cut_63 : decode cX4_cut 63 = .ok (.goto (-22), 3) := by decide +kernel
theorem dX4_cut_66 : decode cX4_cut 66 = .ok (.lload_n 3, 1) := by decide +kernel
theorem dX4_cut_67 : decode cX4_cut 67 = .ok (.lconst 0, 1) := by decide +kernel
theorem dX4_cut_68 : decode cX4_cut 68 = .ok (.lcmp, 1) := by decide +kernel
theorem dX4_cut_69 : decode cX4_cut 69 = .ok (.ifCond .ge 9, 3) := by decide +kernel
theorem dX4_cut_72 : decode cX4_cut 72 = .ok (.lload 6, 2) := by decide +kernel
theorem dX4_cut_74 : decode cX4_cut 74 = .ok (.lneg, 1) := by decide +kernel
theorem dX4_cut_75 : decode cX4_cut 75 = .ok (.goto 5, 3) := by decide +kernel
theorem dX4_cut_78 : decode cX4_cut 78 = .ok (.lload 6, 2) := by decide +kernel
theorem dX4_cut_80 : decode cX4_cut 80 = .ok (.lstore 10, 2) := by decide +kernel
theorem dX4_cut_82 : decode cX4_cut 82 = .ok (.iload 5, 2) := by decide +kernel
theorem dX4_cut_84 : decode cX4_cut 84 = .ok (.ifCond .ne 10, 3) := by decide +kernel
theorem dX4_cut_87 : decode cX4_cut 87 = .ok (.lload_n 1, 1) := by decide +kernel
theorem dX4_cut_88 : decode cX4_cut 88 = .ok (.lload 10, 2) := by decide +kernel
theorem dX4_cut_90 : decode cX4_cut 90 = .ok (.ldiv, 1) := by decide +kernel
theorem dX4_cut_91 : decode cX4_cut 91 = .ok (.goto 7, 3) := by decide +kernel
theorem dX4_cut_94 : decode cX4_cut 94 = .ok (.lload_n 3, 1) := by decide +kernel
theorem dX4_cut_95 : decode cX4_cut 95 = .ok (.lload 10, 2) := by decide +kernel
theorem dX4_cut_97 : decode cX4_cut 97 = .ok (.ldiv, 1) := by decide +kernel
theorem dX4_cut_98 : decode cX4_cut 98 = .ok (.lreturn, 1) := by decide +kernel
theorem dX4_agree_0 : decode cX4_agree 0 = .ok (.aload_n 0, 1) := by decide +kernel
theorem dX4_agree_1 : decode cX4_agree 1 = .ok (.iload_n 1, 1) := by decide +kernel
theorem dX4_agree_2 : decode cX4_agree 2 = .ok (.invokestatic 64, 3) := by decide +kernel
theorem dX4_agree_5 : decode cX4_agree 5 = .ok (.ifCond .eq 28, 3) := by decide +kernel
theorem dX4_agree_8 : decode cX4_agree 8 = .ok (.iload_n 2, 1) := by decide +kernel
theorem dX4_agree_9 : decode cX4_agree 9 = .ok (.invokestatic 64, 3) := by decide +kernel
theorem dX4_agree_12 : decode cX4_agree 12 = .ok (.ifCond .eq 21, 3) := by decide +kernel
theorem dX4_agree_15 : decode cX4_agree 15 = .ok (.iload_n 1, 1) := by decide +kernel
theorem dX4_agree_16 : decode cX4_agree 16 = .ok (.iload_n 2, 1) := by decide +kernel
theorem dX4_agree_17 : decode cX4_agree 17 = .ok (.if_icmp .eq 16, 3) := by decide +kernel
theorem dX4_agree_20 : decode cX4_agree 20 = .ok (.iload_n 3, 1) := by decide +kernel
theorem dX4_agree_21 : decode cX4_agree 21 = .ok (.iconst 0, 1) := by decide +kernel
theorem dX4_agree_22 : decode cX4_agree 22 = .ok (.iconst 3, 1) := by decide +kernel
theorem dX4_agree_23 : decode cX4_agree 23 = .ok (.invokestatic 60, 3) := by decide +kernel
theorem dX4_agree_26 : decode cX4_agree 26 = .ok (.ifCond .eq 7, 3) := by decide +kernel
theorem dX4_agree_29 : decode cX4_agree 29 = .ok (.iconst 0, 1) := by decide +kernel
theorem dX4_agree_30 : decode cX4_agree 30 = .ok (.goto 4, 3) := by decide +kernel
theorem dX4_agree_33 : decode cX4_agree 33 = .ok (.iconst 1, 1) := by decide +kernel
theorem dX4_agree_34 : decode cX4_agree 34 = .ok (.putfield 1, 3) := by decide +kernel
theorem dX4_agree_37 : decode cX4_agree 37 = .ok (.aload_n 0, 1) := by decide +kernel
theorem dX4_agree_38 : decode cX4_agree 38 = .ok (.getfield 1, 3) := by decide +kernel
theorem dX4_agree_41 : decode cX4_agree 41 = .ok (.ifCond .le 5, 3) := by decide +kernel
theorem dX4_agree_44 : decode cX4_agree 44 = .ok (.lconst 0, 1) := by decide +kernel
theorem dX4_agree_45 : decode cX4_agree 45 = .ok (.lreturn, 1) := by decide +kernel
theorem dX4_agree_46 : decode cX4_agree 46 = .ok (.lconst 0, 1) := by decide +kernel
theorem dX4_agree_47 : decode cX4_agree 47 = .ok (.lstore 4, 2) := by decide +kernel
theorem dX4_agree_49 : decode cX4_agree 49 = .ok (.lconst 0, 1) := by decide +kernel
theorem dX4_agree_50 : decode cX4_agree 50 = .ok (.lstore 6, 2) := by decide +kernel
theorem dX4_agree_52 : decode cX4_agree 52 = .ok (.lconst 0, 1) := by decide +kernel
theorem dX4_agree_53 : decode cX4_agree 53 = .ok (.lstore 8, 2) := by decide +kernel
theorem dX4_agree_55 : decode cX4_agree 55 = .ok (.iconst 0, 1) := by decide +kernel
theorem dX4_agree_56 : decode cX4_agree 56 = .ok (.istore 10, 2) := by decide +kernel
theorem dX4_agree_58 : decode cX4_agree 58 = .ok (.iload 10, 2) := by decide +kernel
theorem dX4_agree_60 : decode cX4_agree 60 = .ok (.iconst 5, 1) := by decide +kernel
theorem dX4_agree_61 : decode cX4_agree 61 = .ok (.if_icmp .ge 150, 3) := by decide +kernel
theorem dX4_agree_64 : decode cX4_agree 64 = .ok (.lconst 0, 1) := by decide +kernel
theorem dX4_agree_65 : decode cX4_agree 65 = .ok (.lstore 11, 2) := by decide +kernel
theorem dX4_agree_67 : decode cX4_agree 67 = .ok (.lconst 0, 1) := by decide +kernel
theorem dX4_agree_68 : decode cX4_agree 68 = .ok (.lstore 13, 2) := by decide +kernel
theorem dX4_agree_70 : decode cX4_agree 70 = .ok (.iconst 0, 1) := by decide +kernel
theorem dX4_agree_71 : decode cX4_agree 71 = .ok (.istore 15, 2) := by decide +kernel
theorem dX4_agree_73 : decode cX4_agree 73 = .ok (.iload 15, 2) := by decide +kernel
theorem dX4_agree_75 : decode cX4_agree 75 = .ok (.aload_n 0, 1) := by decide +kernel
theorem dX4_agree_76 : decode cX4_agree 76 = .ok (.getfield 57, 3) := by decide +kernel
theorem dX4_agree_79 : decode cX4_agree 79 = .ok (.if_icmp .ge 109, 3) := by decide +kernel
theorem dX4_agree_82 : decode cX4_agree 82 = .ok (.aload_n 0, 1) := by decide +kernel
theorem dX4_agree_83 : decode cX4_agree 83 = .ok (.getfield 17, 3) := by decide +kernel
theorem dX4_agree_86 : decode cX4_agree 86 = .ok (.bipush 8, 2) := by decide +kernel
theorem dX4_agree_88 : decode cX4_agree 88 = .ok (.iload 15, 2) := by decide +kernel
theorem dX4_agree_90 : decode cX4_agree 90 = .ok (.imul, 1) := by decide +kernel
theorem dX4_agree_91 : decode cX4_agree 91 = .ok (.iload_n 1, 1) := by decide +kernel
theorem dX4_agree_92 : decode cX4_agree 92 = .ok (.iadd, 1) := by decide +kernel
theorem dX4_agree_93 : decode cX4_agree 93 = .ok (.iaload, 1) := by decide +kernel
theorem dX4_agree_94 : decode cX4_agree 94 = .ok (.iconst 1, 1) := by decide +kernel
theorem dX4_agree_95 : decode cX4_agree 95 = .ok (.isub, 1) := by decide +kernel
theorem dX4_agree_96 : decode cX4_agree 96 = .ok (.istore 16, 2) := by decide +kernel
theorem dX4_agree_98 : decode cX4_agree 98 = .ok (.aload_n 0, 1) := by decide +kernel
theorem dX4_agree_99 : decode cX4_agree 99 = .ok (.getfield 17, 3) := by decide +kernel
theorem dX4_agree_102 : decode cX4_agree 102 = .ok (.bipush 8, 2) := by decide +kernel
theorem dX4_agree_104 : decode cX4_agree 104 = .ok (.iload 15, 2) := by decide +kernel
theorem dX4_agree_106 : decode cX4_agree 106 = .ok (.imul, 1) := by decide +kernel
theorem dX4_agree_107 : decode cX4_agree 107 = .ok (.iload_n 2, 1) := by decide +kernel
theorem dX4_agree_108 : decode cX4_agree 108 = .ok (.iadd, 1) := by decide +kernel
theorem dX4_agree_109 : decode cX4_agree 109 = .ok (.iaload, 1) := by decide +kernel
theorem dX4_agree_110 : decode cX4_agree 110 = .ok (.iconst 1, 1) := by decide +kernel
theorem dX4_agree_111 : decode cX4_agree 111 = .ok (.isub, 1) := by decide +kernel
theorem dX4_agree_112 : decode cX4_agree 112 = .ok (.istore 17, 2) := by decide +kernel
theorem dX4_agree_114 : decode cX4_agree 114 = .ok (.iload 16, 2) := by decide +kernel
theorem dX4_agree_116 : decode cX4_agree 116 = .ok (.ifCond .lt 66, 3) := by decide +kernel
theorem dX4_agree_119 : decode cX4_agree 119 = .ok (.iload 17, 2) := by decide +kernel
theorem dX4_agree_121 : decode cX4_agree 121 = .ok (.ifCond .lt 61, 3) := by decide +kernel
theorem dX4_agree_124 : decode cX4_agree 124 = .ok (.lload 11, 2) := by decide +kernel
theorem dX4_agree_126 : decode cX4_agree 126 = .ok (.iload 16, 2) := by decide +kernel
theorem dX4_agree_128 : decode cX4_agree 128 = .ok (.iload 10, 2) := by decide +kernel
theorem dX4_agree_130 : decode cX4_agree 130 = .ok (.if_icmp .ne 7, 3) := by decide +kernel
theorem dX4_agree_133 : decode cX4_agree 133 = .ok (.lconst 1, 1) := by decide +kernel
theorem dX4_agree_134 : decode cX4_agree 134 = .ok (.goto 4, 3) := by decide +kernel
theorem dX4_agree_137 : decode cX4_agree 137 = .ok (.lconst 0, 1) := by decide +kernel
theorem dX4_agree_138 : decode cX4_agree 138 = .ok (.ladd, 1) := by decide +kernel
theorem dX4_agree_139 : decode cX4_agree 139 = .ok (.lstore 11, 2) := by decide +kernel
theorem dX4_agree_141 : decode cX4_agree 141 = .ok (.lload 13, 2) := by decide +kernel
theorem dX4_agree_143 : decode cX4_agree 143 = .ok (.iload 17, 2) := by decide +kernel
theorem dX4_agree_145 : decode cX4_agree 145 = .ok (.iload 10, 2) := by decide +kernel
theorem dX4_agree_147 : decode cX4_agree 147 = .ok (.if_icmp .ne 7, 3) := by decide +kernel
theorem dX4_agree_150 : decode cX4_agree 150 = .ok (.lconst 1, 1) := by decide +kernel
theorem dX4_agree_151 : decode cX4_agree 151 = .ok (.goto 4, 3) := by decide +kernel
theorem dX4_agree_154 : decode cX4_agree 154 = .ok (.lconst 0, 1) := by decide +kernel
theorem dX4_agree_155 : decode cX4_agree 155 = .ok (.ladd, 1) := by decide +kernel
theorem dX4_agree_156 : decode cX4_agree 156 = .ok (.lstore 13, 2) := by decide +kernel
theorem dX4_agree_158 : decode cX4_agree 158 = .ok (.lload 6, 2) := by decide +kernel
theorem dX4_agree_160 : decode cX4_agree 160 = .ok (.iload 16, 2) := by decide +kernel
theorem dX4_agree_162 : decode cX4_agree 162 = .ok (.iload 10, 2) := by decide +kernel
theorem dX4_agree_164 : decode cX4_agree 164 = .ok (.if_icmp .ne 14, 3) := by decide +kernel
theorem dX4_agree_167 : decode cX4_agree 167 = .ok (.iload 17, 2) := by decide +kernel
theorem dX4_agree_169 : decode cX4_agree 169 = .ok (.iload 10, 2) := by decide +kernel
theorem dX4_agree_171 : decode cX4_agree 171 = .ok (.if_icmp .ne 7, 3) := by decide +kernel
theorem dX4_agree_174 : decode cX4_agree 174 = .ok (.lconst 1, 1) := by decide +kernel
theorem dX4_agree_175 : decode cX4_agree 175 = .ok (.goto 4, 3) := by decide +kernel
theorem dX4_agree_178 : decode cX4_agree 178 = .ok (.lconst 0, 1) := by decide +kernel
theorem dX4_agree_179 : decode cX4_agree 179 = .ok (.ladd, 1) := by decide +kernel
theorem dX4_agree_180 : decode cX4_agree 180 = .ok (.lstore 6, 2) := by decide +kernel
theorem dX4_agree_182 : decode cX4_agree 182 = .ok (.iinc 15 1, 3) := by decide +kernel
theorem dX4_agree_185 : decode cX4_agree 185 = .ok (.goto (-112), 3) := by decide +kernel
theorem dX4_agree_188 : decode cX4_agree 188 = .ok (.lload 4, 2) := by decide +kernel
theorem dX4_agree_190 : decode cX4_agree 190 = .ok (.lload 11, 2) := by decide +kernel
theorem dX4_agree_192 : decode cX4_agree 192 = .ok (.ladd, 1) := by decide +kernel
theorem dX4_agree_193 : decode cX4_agree 193 = .ok (.lstore 4, 2) := by decide +kernel
theorem dX4_agree_195 : decode cX4_agree 195 = .ok (.lload 8, 2) := by decide +kernel
theorem dX4_agree_197 : decode cX4_agree 197 = .ok (.lload 11, 2) := by decide +kernel
theorem dX4_agree_199 : decode cX4_agree 199 = .ok (.lload 13, 2) := by decide +kernel
theorem dX4_agree_201 : decode cX4_agree 201 = .ok (.lmul, 1) := by decide +kernel
theorem dX4_agree_202 : decode cX4_agree 202 = .ok (.ladd, 1) := by decide +kernel
theorem dX4_agree_203 : decode cX4_agree 203 = .ok (.lstore 8, 2) := by decide +kernel
theorem dX4_agree_205 : decode cX4_agree 205 = .ok (.iinc 10 1, 3) := by decide +kernel
theorem dX4_agree_208 : decode cX4_agree 208 = .ok (.goto (-150), 3) := by decide +kernel
theorem dX4_agree_211 : decode cX4_agree 211 = .ok (.iload_n 3, 1) := by decide +kernel
theorem dX4_agree_212 : decode cX4_agree 212 = .ok (.iconst 2, 1) := by decide +kernel
theorem dX4_agree_213 : decode cX4_agree 213 = .ok (.if_icmp .ne 8, 3) := by decide +kernel
theorem dX4_agree_216 : decode cX4_agree 216 = .ok (.lload 4, 2) := by decide +kernel
theorem dX4_agree_218 : decode cX4_agree 218 = .ok (.goto 34, 3) := by decide +kernel
theorem dX4_agree_221 : decode cX4_agree 221 = .ok (.iload_n 3, 1) := by decide +kernel
theorem dX4_agree_222 : decode cX4_agree 222 = .ok (.iconst 3, 1) := by decide +kernel
theorem dX4_agree_223 : decode cX4_agree 223 = .ok (.if_icmp .ne 8, 3) := by decide +kernel
theorem dX4_agree_226 : decode cX4_agree 226 = .ok (.lload 6, 2) := by decide +kernel
theorem dX4_agree_228 : decode cX4_agree 228 = .ok (.goto 24, 3) := by decide +kernel
theorem dX4_agree_231 : decode cX4_agree 231 = .ok (.aload_n 0, 1) := by decide +kernel
theorem dX4_agree_232 : decode cX4_agree 232 = .ok (.lload 4, 2) := by decide +kernel
theorem dX4_agree_234 : decode cX4_agree 234 = .ok (.lload 6, 2) := by decide +kernel
theorem dX4_agree_236 : decode cX4_agree 236 = .ok (.lmul, 1) := by decide +kernel
theorem dX4_agree_237 : decode cX4_agree 237 = .ok (.lload 8, 2) := by decide +kernel
theorem dX4_agree_239 : decode cX4_agree 239 = .ok (.lsub, 1) := by decide +kernel
theorem dX4_agree_240 : decode cX4_agree 240 = .ok (.lload 4, 2) := by decide +kernel
theorem dX4_agree_242 : decode cX4_agree 242 = .ok (.lload 4, 2) := by decide +kernel
theorem dX4_agree_244 : decode cX4_agree 244 = .ok (.lmul, 1) := by decide +kernel
theorem dX4_agree_245 : decode cX4_agree 245 = .ok (.lload 8, 2) := by decide +kernel
theorem dX4_agree_247 : decode cX4_agree 247 = .ok (.lsub, 1) := by decide +kernel
theorem dX4_agree_248 : decode cX4_agree 248 = .ok (.iload_n 3, 1) := by decide +kernel
theorem dX4_agree_249 : decode cX4_agree 249 = .ok (.invokevirtual 107, 3) := by decide +kernel
theorem dX4_agree_252 : decode cX4_agree 252 = .ok (.lreturn, 1) := by decide +kernel
theorem dX4_labellings_0 : decode cX4_labellings 0 = .ok (.iconst 0, 1) := by decide +kernel
theorem dX4_labellings_1 : decode cX4_labellings 1 = .ok (.istore_n 2, 1) := by decide +kernel
theorem dX4_labellings_2 : decode cX4_labellings 2 = .ok (.iconst 0, 1) := by decide +kernel
theorem dX4_labellings_3 : decode cX4_labellings 3 = .ok (.istore_n 3, 1) := by decide +kernel
theorem dX4_labellings_4 : decode cX4_labellings 4 = .ok (.iload_n 3, 1) := by decide +kernel
theorem dX4_labellings_5 : decode cX4_labellings 5 = .ok (.bipush 8, 2) := by decide +kernel
theorem dX4_labellings_7 : decode cX4_labellings 7 = .ok (.if_icmp .ge 31, 3) := by decide +kernel
theorem dX4_labellings_10 : decode cX4_labellings 10 = .ok (.iload_n 2, 1) := by decide +kernel
theorem dX4_labellings_11 : decode cX4_labellings 11 = .ok (.aload_n 0, 1) := by decide +kernel
theorem dX4_labellings_12 : decode cX4_labellings 12 = .ok (.getfield 17, 3) := by decide +kernel
theorem dX4_labellings_15 : decode cX4_labellings 15 = .ok (.bipush 8, 2) := by decide +kernel
theorem dX4_labellings_17 : decode cX4_labellings 17 = .ok (.iload_n 1, 1) := by decide +kernel
theorem dX4_labellings_18 : decode cX4_labellings 18 = .ok (.imul, 1) := by decide +kernel
theorem dX4_labellings_19 : decode cX4_labellings 19 = .ok (.iload_n 3, 1) := by decide +kernel
theorem dX4_labellings_20 : decode cX4_labellings 20 = .ok (.iadd, 1) := by decide +kernel
theorem dX4_labellings_21 : decode cX4_labellings 21 = .ok (.iaload, 1) := by decide +kernel
theorem dX4_labellings_22 : decode cX4_labellings 22 = .ok (.ifCond .le 7, 3) := by decide +kernel
theorem dX4_labellings_25 : decode cX4_labellings 25 = .ok (.iconst 1, 1) := by decide +kernel
theorem dX4_labellings_26 : decode cX4_labellings 26 = .ok (.goto 4, 3) := by decide +kernel
theorem dX4_labellings_29 : decode cX4_labellings 29 = .ok (.iconst 0, 1) := by decide +kernel
theorem dX4_labellings_30 : decode cX4_labellings 30 = .ok (.iadd, 1) := by decide +kernel
theorem dX4_labellings_31 : decode cX4_labellings 31 = .ok (.istore_n 2, 1) := by decide +kernel
theorem dX4_labellings_32 : decode cX4_labellings 32 = .ok (.iinc 3 1, 3) := by decide +kernel
theorem dX4_labellings_35 : decode cX4_labellings 35 = .ok (.goto (-31), 3) := by decide +kernel
theorem dX4_labellings_38 : decode cX4_labellings 38 = .ok (.iload_n 2, 1) := by decide +kernel
theorem dX4_labellings_39 : decode cX4_labellings 39 = .ok (.ireturn, 1) := by decide +kernel
theorem dX4_countOf_0 : decode cX4_countOf 0 = .ok (.iconst 0, 1) := by decide +kernel
theorem dX4_countOf_1 : decode cX4_countOf 1 = .ok (.istore_n 3, 1) := by decide +kernel
theorem dX4_countOf_2 : decode cX4_countOf 2 = .ok (.iconst 0, 1) := by decide +kernel
theorem dX4_countOf_3 : decode cX4_countOf 3 = .ok (.istore 4, 2) := by decide +kernel
theorem dX4_countOf_5 : decode cX4_countOf 5 = .ok (.iload 4, 2) := by decide +kernel
theorem dX4_countOf_7 : decode cX4_countOf 7 = .ok (.bipush 8, 2) := by decide +kernel
theorem dX4_countOf_9 : decode cX4_countOf 9 = .ok (.if_icmp .ge 35, 3) := by decide +kernel
theorem dX4_countOf_12 : decode cX4_countOf 12 = .ok (.iload_n 3, 1) := by decide +kernel
theorem dX4_countOf_13 : decode cX4_countOf 13 = .ok (.aload_n 0, 1) := by decide +kernel
theorem dX4_countOf_14 : decode cX4_countOf 14 = .ok (.getfield 17, 3) := by decide +kernel
theorem dX4_countOf_17 : decode cX4_countOf 17 = .ok (.bipush 8, 2) := by decide +kernel
theorem dX4_countOf_19 : decode cX4_countOf 19 = .ok (.iload_n 1, 1) := by decide +kernel
theorem dX4_countOf_20 : decode cX4_countOf 20 = .ok (.imul, 1) := by decide +kernel
theorem dX4_countOf_21 : decode cX4_countOf 21 = .ok (.iload 4, 2) := by decide +kernel
theorem dX4_countOf_23 : decode cX4_countOf 23 = .ok (.iadd, 1) := by decide +kernel
theorem dX4_countOf_24 : decode cX4_countOf 24 = .ok (.iaload, 1) := by decide +kernel
theorem dX4_countOf_25 : decode cX4_countOf 25 = .ok (.iload_n 2, 1) := by decide +kernel
theorem dX4_countOf_26 : decode cX4_countOf 26 = .ok (.iconst 1, 1) := by decide +kernel
theorem dX4_countOf_27 : decode cX4_countOf 27 = .ok (.iadd, 1) := by decide +kernel
theorem dX4_countOf_28 : decode cX4_countOf 28 = .ok (.if_icmp .ne 7, 3) := by decide +kernel
theorem dX4_countOf_31 : decode cX4_countOf 31 = .ok (.iconst 1, 1) := by decide +kernel
theorem dX4_countOf_32 : decode cX4_countOf 32 = .ok (.goto 4, 3) := by decide +kernel
theorem dX4_countOf_35 : decode cX4_countOf 35 = .ok (.iconst 0, 1) := by decide +kernel
theorem dX4_countOf_36 : decode cX4_countOf 36 = .ok (.iadd, 1) := by decide +kernel
theorem dX4_countOf_37 : decode cX4_countOf 37 = .ok (.istore_n 3, 1) := by decide +kernel
theorem dX4_countOf_38 : decode cX4_countOf 38 = .ok (.iinc 4 1, 3) := by decide +kernel
theorem dX4_countOf_41 : decode cX4_countOf 41 = .ok (.goto (-36), 3) := by decide +kernel
theorem dX4_countOf_44 : decode cX4_countOf 44 = .ok (.iload_n 3, 1) := by decide +kernel
theorem dX4_countOf_45 : decode cX4_countOf 45 = .ok (.ireturn, 1) := by decide +kernel
theorem dX4_all_0 : decode cX4_all 0 = .ok (.aload_n 0, 1) := by decide +kernel
theorem dX4_all_1 : decode cX4_all 1 = .ok (.iload_n 1, 1) := by decide +kernel
theorem dX4_all_2 : decode cX4_all 2 = .ok (.iconst 0, 1) := by decide +kernel
theorem dX4_all_3 : decode cX4_all 3 = .ok (.iconst 3, 1) := by decide +kernel
theorem dX4_all_4 : decode cX4_all 4 = .ok (.invokestatic 60, 3) := by decide +kernel
theorem dX4_all_7 : decode cX4_all 7 = .ok (.ifCond .eq 7, 3) := by decide +kernel
theorem dX4_all_10 : decode cX4_all 10 = .ok (.iconst 0, 1) := by decide +kernel
theorem dX4_all_11 : decode cX4_all 11 = .ok (.goto 4, 3) := by decide +kernel
theorem dX4_all_14 : decode cX4_all 14 = .ok (.iconst 1, 1) := by decide +kernel
theorem dX4_all_15 : decode cX4_all 15 = .ok (.putfield 1, 3) := by decide +kernel
theorem dX4_all_18 : decode cX4_all 18 = .ok (.aload_n 0, 1) := by decide +kernel
theorem dX4_all_19 : decode cX4_all 19 = .ok (.getfield 1, 3) := by decide +kernel
theorem dX4_all_22 : decode cX4_all 22 = .ok (.ifCond .le 5, 3) := by decide +kernel
theorem dX4_all_25 : decode cX4_all 25 = .ok (.lconst 0, 1) := by decide +kernel
theorem dX4_all_26 : decode cX4_all 26 = .ok (.lreturn, 1) := by decide +kernel
theorem dX4_all_27 : decode cX4_all 27 = .ok (.lconst 0, 1) := by decide +kernel
theorem dX4_all_28 : decode cX4_all 28 = .ok (.lstore_n 2, 1) := by decide +kernel
theorem dX4_all_29 : decode cX4_all 29 = .ok (.lconst 0, 1) := by decide +kernel
theorem dX4_all_30 : decode cX4_all 30 = .ok (.lstore 4, 2) := by decide +kernel
theorem dX4_all_32 : decode cX4_all 32 = .ok (.lconst 0, 1) := by decide +kernel
theorem dX4_all_33 : decode cX4_all 33 = .ok (.lstore 6, 2) := by decide +kernel
theorem dX4_all_35 : decode cX4_all 35 = .ok (.iconst 0, 1) := by decide +kernel
theorem dX4_all_36 : decode cX4_all 36 = .ok (.istore 8, 2) := by decide +kernel
theorem dX4_all_38 : decode cX4_all 38 = .ok (.iload 8, 2) := by decide +kernel
theorem dX4_all_40 : decode cX4_all 40 = .ok (.aload_n 0, 1) := by decide +kernel
theorem dX4_all_41 : decode cX4_all 41 = .ok (.getfield 57, 3) := by decide +kernel
theorem dX4_all_44 : decode cX4_all 44 = .ok (.if_icmp .ge 99, 3) := by decide +kernel
theorem dX4_all_47 : decode cX4_all 47 = .ok (.aload_n 0, 1) := by decide +kernel
theorem dX4_all_48 : decode cX4_all 48 = .ok (.iload 8, 2) := by decide +kernel
theorem dX4_all_50 : decode cX4_all 50 = .ok (.invokevirtual 111, 3) := by decide +kernel
theorem dX4_all_53 : decode cX4_all 53 = .ok (.istore 9, 2) := by decide +kernel
theorem dX4_all_55 : decode cX4_all 55 = .ok (.iload 9, 2) := by decide +kernel
theorem dX4_all_57 : decode cX4_all 57 = .ok (.iconst 1, 1) := by decide +kernel
theorem dX4_all_58 : decode cX4_all 58 = .ok (.if_icmp .le 79, 3) := by decide +kernel
theorem dX4_all_61 : decode cX4_all 61 = .ok (.lload_n 2, 1) := by decide +kernel
theorem dX4_all_62 : decode cX4_all 62 = .ok (.lconst 1, 1) := by decide +kernel
theorem dX4_all_63 : decode cX4_all 63 = .ok (.ladd, 1) := by decide +kernel
theorem dX4_all_64 : decode cX4_all 64 = .ok (.lstore_n 2, 1) := by decide +kernel
theorem dX4_all_65 : decode cX4_all 65 = .ok (.lload 6, 2) := by decide +kernel
theorem dX4_all_67 : decode cX4_all 67 = .ok (.iload 9, 2) := by decide +kernel
theorem dX4_all_69 : decode cX4_all 69 = .ok (.i2l, 1) := by decide +kernel
theorem dX4_all_70 : decode cX4_all 70 = .ok (.ladd, 1) := by decide +kernel
theorem dX4_all_71 : decode cX4_all 71 = .ok (.lstore 6, 2) := by decide +kernel
theorem dX4_all_73 : decode cX4_all 73 = .ok (.iconst 0, 1) := by decide +kernel
theorem dX4_all_74 : decode cX4_all 74 = .ok (.istore 10, 2) := by decide +kernel
theorem dX4_all_76 : decode cX4_all 76 = .ok (.iconst 0, 1) := by decide +kernel
theorem dX4_all_77 : decode cX4_all 77 = .ok (.istore 11, 2) := by decide +kernel
theorem dX4_all_79 : decode cX4_all 79 = .ok (.iload 11, 2) := by decide +kernel
theorem dX4_all_81 : decode cX4_all 81 = .ok (.iconst 5, 1) := by decide +kernel
theorem dX4_all_82 : decode cX4_all 82 = .ok (.if_icmp .ge 33, 3) := by decide +kernel
theorem dX4_all_85 : decode cX4_all 85 = .ok (.aload_n 0, 1) := by decide +kernel
theorem dX4_all_86 : decode cX4_all 86 = .ok (.iload 8, 2) := by decide +kernel
theorem dX4_all_88 : decode cX4_all 88 = .ok (.iload 11, 2) := by decide +kernel
theorem dX4_all_90 : decode cX4_all 90 = .ok (.invokevirtual 114, 3) := by decide +kernel
theorem dX4_all_93 : decode cX4_all 93 = .ok (.istore 12, 2) := by decide +kernel
theorem dX4_all_95 : decode cX4_all 95 = .ok (.iload 10, 2) := by decide +kernel
theorem dX4_all_97 : decode cX4_all 97 = .ok (.iload 12, 2) := by decide +kernel
theorem dX4_all_99 : decode cX4_all 99 = .ok (.iload 12, 2) := by decide +kernel
theorem dX4_all_101 : decode cX4_all 101 = .ok (.iconst 1, 1) := by decide +kernel
theorem dX4_all_102 : decode cX4_all 102 = .ok (.isub, 1) := by decide +kernel
theorem dX4_all_103 : decode cX4_all 103 = .ok (.imul, 1) := by decide +kernel
theorem dX4_all_104 : decode cX4_all 104 = .ok (.iconst 2, 1) := by decide +kernel
theorem dX4_all_105 : decode cX4_all 105 = .ok (.idiv, 1) := by decide +kernel
theorem dX4_all_106 : decode cX4_all 106 = .ok (.iadd, 1) := by decide +kernel
theorem dX4_all_107 : decode cX4_all 107 = .ok (.istore 10, 2) := by decide +kernel
theorem dX4_all_109 : decode cX4_all 109 = .ok (.iinc 11 1, 3) := by decide +kernel
theorem dX4_all_112 : decode cX4_all 112 = .ok (.goto (-33), 3) := by decide +kernel
theorem dX4_all_115 : decode cX4_all 115 = .ok (.lload 4, 2) := by decide +kernel
theorem dX4_all_117 : decode cX4_all 117 = .ok (.sipush 840, 3) := by decide +kernel
theorem dX4_all_120 : decode cX4_all 120 = .ok (.iload 10, 2) := by decide +kernel
theorem dX4_all_122 : decode cX4_all 122 = .ok (.imul, 1) := by decide +kernel
theorem dX4_all_123 : decode cX4_all 123 = .ok (.iload 9, 2) := by decide +kernel
theorem dX4_all_125 : decode cX4_all 125 = .ok (.iload 9, 2) := by decide +kernel
theorem dX4_all_127 : decode cX4_all 127 = .ok (.iconst 1, 1) := by decide +kernel
theorem dX4_all_128 : decode cX4_all 128 = .ok (.isub, 1) := by decide +kernel
theorem dX4_all_129 : decode cX4_all 129 = .ok (.imul, 1) := by decide +kernel
theorem dX4_all_130 : decode cX4_all 130 = .ok (.iconst 2, 1) := by decide +kernel
theorem dX4_all_131 : decode cX4_all 131 = .ok (.idiv, 1) := by decide +kernel
theorem dX4_all_132 : decode cX4_all 132 = .ok (.idiv, 1) := by decide +kernel
theorem dX4_all_133 : decode cX4_all 133 = .ok (.i2l, 1) := by decide +kernel
theorem dX4_all_134 : decode cX4_all 134 = .ok (.ladd, 1) := by decide +kernel
theorem dX4_all_135 : decode cX4_all 135 = .ok (.lstore 4, 2) := by decide +kernel
theorem dX4_all_137 : decode cX4_all 137 = .ok (.iinc 8 1, 3) := by decide +kernel
theorem dX4_all_140 : decode cX4_all 140 = .ok (.goto (-102), 3) := by decide +kernel
theorem dX4_all_143 : decode cX4_all 143 = .ok (.lconst 0, 1) := by decide +kernel
theorem dX4_all_144 : decode cX4_all 144 = .ok (.lstore 8, 2) := by decide +kernel
theorem dX4_all_146 : decode cX4_all 146 = .ok (.iconst 0, 1) := by decide +kernel
theorem dX4_all_147 : decode cX4_all 147 = .ok (.istore 10, 2) := by decide +kernel
theorem dX4_all_149 : decode cX4_all 149 = .ok (.iload 10, 2) := by decide +kernel
theorem dX4_all_151 : decode cX4_all 151 = .ok (.iconst 5, 1) := by decide +kernel
theorem dX4_all_152 : decode cX4_all 152 = .ok (.if_icmp .ge 68, 3) := by decide +kernel
theorem dX4_all_155 : decode cX4_all 155 = .ok (.lconst 0, 1) := by decide +kernel
theorem dX4_all_156 : decode cX4_all 156 = .ok (.lstore 11, 2) := by decide +kernel
theorem dX4_all_158 : decode cX4_all 158 = .ok (.iconst 0, 1) := by decide +kernel
theorem dX4_all_159 : decode cX4_all 159 = .ok (.istore 13, 2) := by decide +kernel
theorem dX4_all_161 : decode cX4_all 161 = .ok (.iload 13, 2) := by decide +kernel
theorem dX4_all_163 : decode cX4_all 163 = .ok (.aload_n 0, 1) := by decide +kernel
theorem dX4_all_164 : decode cX4_all 164 = .ok (.getfield 57, 3) := by decide +kernel
theorem dX4_all_167 : decode cX4_all 167 = .ok (.if_icmp .ge 37, 3) := by decide +kernel
theorem dX4_all_170 : decode cX4_all 170 = .ok (.lload 11, 2) := by decide +kernel
theorem dX4_all_172 : decode cX4_all 172 = .ok (.aload_n 0, 1) := by decide +kernel
theorem dX4_all_173 : decode cX4_all 173 = .ok (.iload 13, 2) := by decide +kernel
theorem dX4_all_175 : decode cX4_all 175 = .ok (.invokevirtual 111, 3) := by decide +kernel
theorem dX4_all_178 : decode cX4_all 178 = .ok (.iconst 1, 1) := by decide +kernel
theorem dX4_all_179 : decode cX4_all 179 = .ok (.if_icmp .le 15, 3) := by decide +kernel
theorem dX4_all_182 : decode cX4_all 182 = .ok (.aload_n 0, 1) := by decide +kernel
theorem dX4_all_183 : decode cX4_all 183 = .ok (.iload 13, 2) := by decide +kernel
theorem dX4_all_185 : decode cX4_all 185 = .ok (.iload 10, 2) := by decide +kernel
theorem dX4_all_187 : decode cX4_all 187 = .ok (.invokevirtual 114, 3) := by decide +kernel
theorem dX4_all_190 : decode cX4_all 190 = .ok (.i2l, 1) := by decide +kernel
theorem dX4_all_191 : decode cX4_all 191 = .ok (.goto 4, 3) := by decide +kernel
theorem dX4_all_194 : decode cX4_all 194 = .ok (.lconst 0, 1) := by decide +kernel
theorem dX4_all_195 : decode cX4_all 195 = .ok (.ladd, 1) := by decide +kernel
theorem dX4_all_196 : decode cX4_all 196 = .ok (.lstore 11, 2) := by decide +kernel
theorem dX4_all_198 : decode cX4_all 198 = .ok (.iinc 13 1, 3) := by decide +kernel
theorem dX4_all_201 : decode cX4_all 201 = .ok (.goto (-40), 3) := by decide +kernel
theorem dX4_all_204 : decode cX4_all 204 = .ok (.lload 8, 2) := by decide +kernel
theorem dX4_all_206 : decode cX4_all 206 = .ok (.lload 11, 2) := by decide +kernel
theorem dX4_all_208 : decode cX4_all 208 = .ok (.lload 11, 2) := by decide +kernel
theorem dX4_all_210 : decode cX4_all 210 = .ok (.lmul, 1) := by decide +kernel
theorem dX4_all_211 : decode cX4_all 211 = .ok (.ladd, 1) := by decide +kernel
theorem dX4_all_212 : decode cX4_all 212 = .ok (.lstore 8, 2) := by decide +kernel
theorem dX4_all_214 : decode cX4_all 214 = .ok (.iinc 10 1, 3) := by decide +kernel
theorem dX4_all_217 : decode cX4_all 217 = .ok (.goto (-68), 3) := by decide +kernel
theorem dX4_all_220 : decode cX4_all 220 = .ok (.iload_n 1, 1) := by decide +kernel
theorem dX4_all_221 : decode cX4_all 221 = .ok (.iconst 2, 1) := by decide +kernel
theorem dX4_all_222 : decode cX4_all 222 = .ok (.if_icmp .ne 7, 3) := by decide +kernel
theorem dX4_all_225 : decode cX4_all 225 = .ok (.lload_n 2, 1) := by decide +kernel
theorem dX4_all_226 : decode cX4_all 226 = .ok (.goto 49, 3) := by decide +kernel
theorem dX4_all_229 : decode cX4_all 229 = .ok (.iload_n 1, 1) := by decide +kernel
theorem dX4_all_230 : decode cX4_all 230 = .ok (.iconst 3, 1) := by decide +kernel
theorem dX4_all_231 : decode cX4_all 231 = .ok (.if_icmp .ne 8, 3) := by decide +kernel
theorem dX4_all_234 : decode cX4_all 234 = .ok (.lload 6, 2) := by decide +kernel
theorem dX4_all_236 : decode cX4_all 236 = .ok (.goto 39, 3) := by decide +kernel
theorem dX4_all_239 : decode cX4_all 239 = .ok (.aload_n 0, 1) := by decide +kernel
theorem dX4_all_240 : decode cX4_all 240 = .ok (.lload 4, 2) := by decide +kernel
theorem dX4_all_242 : decode cX4_all 242 = .ok (.lload 6, 2) := by decide +kernel
theorem dX4_all_244 : decode cX4_all 244 = .ok (.lmul, 1) := by decide +kernel
theorem dX4_all_245 : decode cX4_all 245 = .ok (.lload 6, 2) := by decide +kernel
theorem dX4_all_247 : decode cX4_all 247 = .ok (.lmul, 1) := by decide +kernel
theorem dX4_all_248 : decode cX4_all 248 = .ok (.lload 8, 2) := by decide +kernel
theorem dX4_all_250 : decode cX4_all 250 = .ok (.ldc2_w 117, 3) := by decide +kernel
theorem dX4_all_253 : decode cX4_all 253 = .ok (.lmul, 1) := by decide +kernel
theorem dX4_all_254 : decode cX4_all 254 = .ok (.lload_n 2, 1) := by decide +kernel
theorem dX4_all_255 : decode cX4_all 255 = .ok (.lmul, 1) := by decide +kernel
theorem dX4_all_256 : decode cX4_all 256 = .ok (.lsub, 1) := by decide +kernel
theorem dX4_all_257 : decode cX4_all 257 = .ok (.ldc2_w 117, 3) := by decide +kernel
theorem dX4_all_260 : decode cX4_all 260 = .ok (.lload_n 2, 1) := by decide +kernel
theorem dX4_all_261 : decode cX4_all 261 = .ok (.lmul, 1) := by decide +kernel
theorem dX4_all_262 : decode cX4_all 262 = .ok (.lload 6, 2) := by decide +kernel
theorem dX4_all_264 : decode cX4_all 264 = .ok (.lload 6, 2) := by decide +kernel
theorem dX4_all_266 : decode cX4_all 266 = .ok (.lmul, 1) := by decide +kernel
theorem dX4_all_267 : decode cX4_all 267 = .ok (.lload 8, 2) := by decide +kernel
theorem dX4_all_269 : decode cX4_all 269 = .ok (.lsub, 1) := by decide +kernel
theorem dX4_all_270 : decode cX4_all 270 = .ok (.lmul, 1) := by decide +kernel
theorem dX4_all_271 : decode cX4_all 271 = .ok (.iload_n 1, 1) := by decide +kernel
theorem dX4_all_272 : decode cX4_all 272 = .ok (.invokevirtual 107, 3) := by decide +kernel
theorem dX4_all_275 : decode cX4_all 275 = .ok (.lreturn, 1) := by decide +kernel
theorem dX4_next_0 : decode cX4_next 0 = .ok (.iload_n 1, 1) := by decide +kernel
theorem dX4_next_1 : decode cX4_next 1 = .ok (.invokestatic 64, 3) := by decide +kernel
theorem dX4_next_4 : decode cX4_next 4 = .ok (.ifCond .ne 6, 3) := by decide +kernel
theorem dX4_next_7 : decode cX4_next 7 = .ok (.bipush (-101), 2) := by decide +kernel
theorem dX4_next_9 : decode cX4_next 9 = .ok (.ireturn, 1) := by decide +kernel
theorem dX4_next_10 : decode cX4_next 10 = .ok (.iconst (-1), 1) := by decide +kernel
theorem dX4_next_11 : decode cX4_next 11 = .ok (.istore_n 2, 1) := by decide +kernel
theorem dX4_next_12 : decode cX4_next 12 = .ok (.iconst 0, 1) := by decide +kernel
theorem dX4_next_13 : decode cX4_next 13 = .ok (.istore_n 3, 1) := by decide +kernel
theorem dX4_next_14 : decode cX4_next 14 = .ok (.iconst 0, 1) := by decide +kernel
theorem dX4_next_15 : decode cX4_next 15 = .ok (.istore 4, 2) := by decide +kernel
theorem dX4_next_17 : decode cX4_next 17 = .ok (.iconst 0, 1) := by decide +kernel
theorem dX4_next_18 : decode cX4_next 18 = .ok (.istore 5, 2) := by decide +kernel
theorem dX4_next_20 : decode cX4_next 20 = .ok (.iload 5, 2) := by decide +kernel
theorem dX4_next_22 : decode cX4_next 22 = .ok (.aload_n 0, 1) := by decide +kernel
theorem dX4_next_23 : decode cX4_next 23 = .ok (.getfield 57, 3) := by decide +kernel
theorem dX4_next_26 : decode cX4_next 26 = .ok (.if_icmp .ge 102, 3) := by decide +kernel
theorem dX4_next_29 : decode cX4_next 29 = .ok (.aload_n 0, 1) := by decide +kernel
theorem dX4_next_30 : decode cX4_next 30 = .ok (.iload_n 1, 1) := by decide +kernel
theorem dX4_next_31 : decode cX4_next 31 = .ok (.invokevirtual 75, 3) := by decide +kernel
theorem dX4_next_34 : decode cX4_next 34 = .ok (.ifCond .ne 94, 3) := by decide +kernel
theorem dX4_next_37 : decode cX4_next 37 = .ok (.aload_n 0, 1) := by decide +kernel
theorem dX4_next_38 : decode cX4_next 38 = .ok (.getfield 17, 3) := by decide +kernel
theorem dX4_next_41 : decode cX4_next 41 = .ok (.bipush 8, 2) := by decide +kernel
theorem dX4_next_43 : decode cX4_next 43 = .ok (.iload 5, 2) := by decide +kernel
theorem dX4_next_45 : decode cX4_next 45 = .ok (.imul, 1) := by decide +kernel
theorem dX4_next_46 : decode cX4_next 46 = .ok (.iload_n 1, 1) := by decide +kernel
theorem dX4_next_47 : decode cX4_next 47 = .ok (.iadd, 1) := by decide +kernel
theorem dX4_next_48 : decode cX4_next 48 = .ok (.iaload, 1) := by decide +kernel
theorem dX4_next_49 : decode cX4_next 49 = .ok (.ifCond .ne 73, 3) := by decide +kernel
theorem dX4_next_52 : decode cX4_next 52 = .ok (.aload_n 0, 1) := by decide +kernel
theorem dX4_next_53 : decode cX4_next 53 = .ok (.getfield 20, 3) := by decide +kernel
theorem dX4_next_56 : decode cX4_next 56 = .ok (.iload 5, 2) := by decide +kernel
theorem dX4_next_58 : decode cX4_next 58 = .ok (.iaload, 1) := by decide +kernel
theorem dX4_next_59 : decode cX4_next 59 = .ok (.iconst (-1), 1) := by decide +kernel
theorem dX4_next_60 : decode cX4_next 60 = .ok (.if_icmp .ne 62, 3) := by decide +kernel
theorem dX4_next_63 : decode cX4_next 63 = .ok (.aload_n 0, 1) := by decide +kernel
theorem dX4_next_64 : decode cX4_next 64 = .ok (.iload 5, 2) := by decide +kernel
theorem dX4_next_66 : decode cX4_next 66 = .ok (.invokevirtual 100, 3) := by decide +kernel
theorem dX4_next_69 : decode cX4_next 69 = .ok (.aload_n 0, 1) := by decide +kernel
theorem dX4_next_70 : decode cX4_next 70 = .ok (.getfield 91, 3) := by decide +kernel
theorem dX4_next_73 : decode cX4_next 73 = .ok (.aload_n 0, 1) := by decide +kernel
theorem dX4_next_74 : decode cX4_next 74 = .ok (.getfield 94, 3) := by decide +kernel
theorem dX4_next_77 : decode cX4_next 77 = .ok (.isub, 1) := by decide +kernel
theorem dX4_next_78 : decode cX4_next 78 = .ok (.istore 6, 2) := by decide +kernel
theorem dX4_next_80 : decode cX4_next 80 = .ok (.aload_n 0, 1) := by decide +kernel
theorem dX4_next_81 : decode cX4_next 81 = .ok (.iload 5, 2) := by decide +kernel
theorem dX4_next_83 : decode cX4_next 83 = .ok (.invokevirtual 111, 3) := by decide +kernel
theorem dX4_next_86 : decode cX4_next 86 = .ok (.istore 7, 2) := by decide +kernel
theorem dX4_next_88 : decode cX4_next 88 = .ok (.iload_n 2, 1) := by decide +kernel
theorem dX4_next_89 : decode cX4_next 89 = .ok (.iconst (-1), 1) := by decide +kernel
theorem dX4_next_90 : decode cX4_next 90 = .ok (.if_icmp .eq 22, 3) := by decide +kernel
theorem dX4_next_93 : decode cX4_next 93 = .ok (.iload 6, 2) := by decide +kernel
theorem dX4_next_95 : decode cX4_next 95 = .ok (.iload_n 3, 1) := by decide +kernel
theorem dX4_next_96 : decode cX4_next 96 = .ok (.if_icmp .lt 16, 3) := by decide +kernel
theorem dX4_next_99 : decode cX4_next 99 = .ok (.iload 6, 2) := by decide +kernel
theorem dX4_next_101 : decode cX4_next 101 = .ok (.iload_n 3, 1) := by decide +kernel
theorem dX4_next_102 : decode cX4_next 102 = .ok (.if_icmp .ne 20, 3) := by decide +kernel
theorem dX4_next_105 : decode cX4_next 105 = .ok (.iload 7, 2) := by decide +kernel
theorem dX4_next_107 : decode cX4_next 107 = .ok (.iload 4, 2) := by decide +kernel
theorem dX4_next_109 : decode cX4_next 109 = .ok (.if_icmp .ge 13, 3) := by decide +kernel
theorem dX4_next_112 : decode cX4_next 112 = .ok (.iload 5, 2) := by decide +kernel
theorem dX4_next_114 : decode cX4_next 114 = .ok (.istore_n 2, 1) := by decide +kernel
theorem dX4_next_115 : decode cX4_next 115 = .ok (.iload 6, 2) := by decide +kernel
theorem dX4_next_117 : decode cX4_next 117 = .ok (.istore_n 3, 1) := by decide +kernel
theorem dX4_next_118 : decode cX4_next 118 = .ok (.iload 7, 2) := by decide +kernel
theorem dX4_next_120 : decode cX4_next 120 = .ok (.istore 4, 2) := by decide +kernel
theorem dX4_next_122 : decode cX4_next 122 = .ok (.iinc 5 1, 3) := by decide +kernel
theorem dX4_next_125 : decode cX4_next 125 = .ok (.goto (-105), 3) := by decide +kernel
theorem dX4_next_128 : decode cX4_next 128 = .ok (.iload_n 2, 1) := by decide +kernel
theorem dX4_next_129 : decode cX4_next 129 = .ok (.ireturn, 1) := by decide +kernel
theorem dX4_isUnlike_0 : decode cX4_isUnlike 0 = .ok (.iconst 0, 1) := by decide +kernel
theorem dX4_isUnlike_1 : decode cX4_isUnlike 1 = .ok (.istore_n 2, 1) := by decide +kernel
theorem dX4_isUnlike_2 : decode cX4_isUnlike 2 = .ok (.iconst 0, 1) := by decide +kernel
theorem dX4_isUnlike_3 : decode cX4_isUnlike 3 = .ok (.istore_n 3, 1) := by decide +kernel
theorem dX4_isUnlike_4 : decode cX4_isUnlike 4 = .ok (.iload_n 3, 1) := by decide +kernel
theorem dX4_isUnlike_5 : decode cX4_isUnlike 5 = .ok (.aload_n 0, 1) := by decide +kernel
theorem dX4_isUnlike_6 : decode cX4_isUnlike 6 = .ok (.getfield 81, 3) := by decide +kernel
theorem dX4_isUnlike_9 : decode cX4_isUnlike 9 = .ok (.if_icmp .ge 87, 3) := by decide +kernel
theorem dX4_isUnlike_12 : decode cX4_isUnlike 12 = .ok (.iconst 0, 1) := by decide +kernel
theorem dX4_isUnlike_13 : decode cX4_isUnlike 13 = .ok (.istore 4, 2) := by decide +kernel
theorem dX4_isUnlike_15 : decode cX4_isUnlike 15 = .ok (.iload 4, 2) := by decide +kernel
theorem dX4_isUnlike_17 : decode cX4_isUnlike 17 = .ok (.iload_n 3, 1) := by decide +kernel
theorem dX4_isUnlike_18 : decode cX4_isUnlike 18 = .ok (.if_icmp .ge 72, 3) := by decide +kernel
theorem dX4_isUnlike_21 : decode cX4_isUnlike 21 = .ok (.aload_n 0, 1) := by decide +kernel
theorem dX4_isUnlike_22 : decode cX4_isUnlike 22 = .ok (.iload_n 3, 1) := by decide +kernel
theorem dX4_isUnlike_23 : decode cX4_isUnlike 23 = .ok (.iload_n 1, 1) := by decide +kernel
theorem dX4_isUnlike_24 : decode cX4_isUnlike 24 = .ok (.invokevirtual 84, 3) := by decide +kernel
theorem dX4_isUnlike_27 : decode cX4_isUnlike 27 = .ok (.istore 5, 2) := by decide +kernel
theorem dX4_isUnlike_29 : decode cX4_isUnlike 29 = .ok (.aload_n 0, 1) := by decide +kernel
theorem dX4_isUnlike_30 : decode cX4_isUnlike 30 = .ok (.iload 4, 2) := by decide +kernel
theorem dX4_isUnlike_32 : decode cX4_isUnlike 32 = .ok (.iload_n 1, 1) := by decide +kernel
theorem dX4_isUnlike_33 : decode cX4_isUnlike 33 = .ok (.invokevirtual 84, 3) := by decide +kernel
theorem dX4_isUnlike_36 : decode cX4_isUnlike 36 = .ok (.istore 6, 2) := by decide +kernel
theorem dX4_isUnlike_38 : decode cX4_isUnlike 38 = .ok (.iload_n 2, 1) := by decide +kernel
theorem dX4_isUnlike_39 : decode cX4_isUnlike 39 = .ok (.ifCond .ne 39, 3) := by decide +kernel
theorem dX4_isUnlike_42 : decode cX4_isUnlike 42 = .ok (.aload_n 0, 1) := by decide +kernel
theorem dX4_isUnlike_43 : decode cX4_isUnlike 43 = .ok (.getfield 48, 3) := by decide +kernel
theorem dX4_isUnlike_46 : decode cX4_isUnlike 46 = .ok (.iload_n 3, 1) := by decide +kernel
theorem dX4_isUnlike_47 : decode cX4_isUnlike 47 = .ok (.baload, 1) := by decide +kernel
theorem dX4_isUnlike_48 : decode cX4_isUnlike 48 = .ok (.ifCond .eq 34, 3) := by decide +kernel
theorem dX4_isUnlike_51 : decode cX4_isUnlike 51 = .ok (.aload_n 0, 1) := by decide +kernel
theorem dX4_isUnlike_52 : decode cX4_isUnlike 52 = .ok (.getfield 48, 3) := by decide +kernel
theorem dX4_isUnlike_55 : decode cX4_isUnlike 55 = .ok (.iload 4, 2) := by decide +kernel
theorem dX4_isUnlike_57 : decode cX4_isUnlike 57 = .ok (.baload, 1) := by decide +kernel
theorem dX4_isUnlike_58 : decode cX4_isUnlike 58 = .ok (.ifCond .eq 24, 3) := by decide +kernel
theorem dX4_isUnlike_61 : decode cX4_isUnlike 61 = .ok (.iload 5, 2) := by decide +kernel
theorem dX4_isUnlike_63 : decode cX4_isUnlike 63 = .ok (.ifCond .lt 19, 3) := by decide +kernel
theorem dX4_isUnlike_66 : decode cX4_isUnlike 66 = .ok (.iload 6, 2) := by decide +kernel
theorem dX4_isUnlike_68 : decode cX4_isUnlike 68 = .ok (.ifCond .lt 14, 3) := by decide +kernel
theorem dX4_isUnlike_71 : decode cX4_isUnlike 71 = .ok (.iload 5, 2) := by decide +kernel
theorem dX4_isUnlike_73 : decode cX4_isUnlike 73 = .ok (.iload 6, 2) := by decide +kernel
theorem dX4_isUnlike_75 : decode cX4_isUnlike 75 = .ok (.if_icmp .eq 7, 3) := by decide +kernel
theorem dX4_isUnlike_78 : decode cX4_isUnlike 78 = .ok (.iconst 1, 1) := by decide +kernel
theorem dX4_isUnlike_79 : decode cX4_isUnlike 79 = .ok (.goto 4, 3) := by decide +kernel
theorem dX4_isUnlike_82 : decode cX4_isUnlike 82 = .ok (.iconst 0, 1) := by decide +kernel
theorem dX4_isUnlike_83 : decode cX4_isUnlike 83 = .ok (.istore_n 2, 1) := by decide +kernel
theorem dX4_isUnlike_84 : decode cX4_isUnlike 84 = .ok (.iinc 4 1, 3) := by decide +kernel
theorem dX4_isUnlike_87 : decode cX4_isUnlike 87 = .ok (.goto (-72), 3) := by decide +kernel
theorem dX4_isUnlike_90 : decode cX4_isUnlike 90 = .ok (.iinc 3 1, 3) := by decide +kernel
theorem dX4_isUnlike_93 : decode cX4_isUnlike 93 = .ok (.goto (-89), 3) := by decide +kernel
theorem dX4_isUnlike_96 : decode cX4_isUnlike 96 = .ok (.iload_n 2, 1) := by decide +kernel
theorem dX4_isUnlike_97 : decode cX4_isUnlike 97 = .ok (.ireturn, 1) := by decide +kernel
theorem dX4_about_0 : decode cX4_about 0 = .ok (.iload_n 1, 1) := by decide +kernel
theorem dX4_about_1 : decode cX4_about 1 = .ok (.iconst 0, 1) := by decide +kernel
theorem dX4_about_2 : decode cX4_about 2 = .ok (.bipush 7, 2) := by decide +kernel
theorem dX4_about_4 : decode cX4_about 4 = .ok (.invokestatic 60, 3) := by decide +kernel
theorem dX4_about_7 : decode cX4_about 7 = .ok (.ifCond .ne 6, 3) := by decide +kernel
theorem dX4_about_10 : decode cX4_about 10 = .ok (.bipush (-102), 2) := by decide +kernel
theorem dX4_about_12 : decode cX4_about 12 = .ok (.ireturn, 1) := by decide +kernel
theorem dX4_about_13 : decode cX4_about 13 = .ok (.iload_n 1, 1) := by decide +kernel
theorem dX4_about_14 : decode cX4_about 14 = .ok (.ifCond .ne 10, 3) := by decide +kernel
theorem dX4_about_17 : decode cX4_about 17 = .ok (.aload_n 0, 1) := by decide +kernel
theorem dX4_about_18 : decode cX4_about 18 = .ok (.getfield 57, 3) := by decide +kernel
theorem dX4_about_21 : decode cX4_about 21 = .ok (.goto 28, 3) := by decide +kernel
theorem dX4_about_24 : decode cX4_about 24 = .ok (.iload_n 1, 1) := by decide +kernel
theorem dX4_about_25 : decode cX4_about 25 = .ok (.iconst 2, 1) := by decide +kernel
theorem dX4_about_26 : decode cX4_about 26 = .ok (.if_icmp .ne 10, 3) := by decide +kernel
theorem dX4_about_29 : decode cX4_about 29 = .ok (.aload_n 0, 1) := by decide +kernel
theorem dX4_about_30 : decode cX4_about 30 = .ok (.getfield 81, 3) := by decide +kernel
theorem dX4_about_33 : decode cX4_about 33 = .ok (.goto 16, 3) := by decide +kernel
theorem dX4_about_36 : decode cX4_about 36 = .ok (.iload_n 1, 1) := by decide +kernel
theorem dX4_about_37 : decode cX4_about 37 = .ok (.iconst 5, 1) := by decide +kernel
theorem dX4_about_38 : decode cX4_about 38 = .ok (.if_icmp .ne 10, 3) := by decide +kernel
theorem dX4_about_41 : decode cX4_about 41 = .ok (.aload_n 0, 1) := by decide +kernel
theorem dX4_about_42 : decode cX4_about 42 = .ok (.getfield 23, 3) := by decide +kernel
theorem dX4_about_45 : decode cX4_about 45 = .ok (.goto 4, 3) := by decide +kernel
theorem dX4_about_48 : decode cX4_about 48 = .ok (.iconst 0, 1) := by decide +kernel
theorem dX4_about_49 : decode cX4_about 49 = .ok (.istore_n 2, 1) := by decide +kernel
theorem dX4_about_50 : decode cX4_about 50 = .ok (.iconst 0, 1) := by decide +kernel
theorem dX4_about_51 : decode cX4_about 51 = .ok (.istore_n 3, 1) := by decide +kernel
theorem dX4_about_52 : decode cX4_about 52 = .ok (.iload_n 3, 1) := by decide +kernel
theorem dX4_about_53 : decode cX4_about 53 = .ok (.aload_n 0, 1) := by decide +kernel
theorem dX4_about_54 : decode cX4_about 54 = .ok (.getfield 57, 3) := by decide +kernel
theorem dX4_about_57 : decode cX4_about 57 = .ok (.if_icmp .ge 77, 3) := by decide +kernel
theorem dX4_about_60 : decode cX4_about 60 = .ok (.iload_n 2, 1) := by decide +kernel
theorem dX4_about_61 : decode cX4_about 61 = .ok (.iload_n 1, 1) := by decide +kernel
theorem dX4_about_62 : decode cX4_about 62 = .ok (.iconst 1, 1) := by decide +kernel
theorem dX4_about_63 : decode cX4_about 63 = .ok (.if_icmp .ne 11, 3) := by decide +kernel
theorem dX4_about_66 : decode cX4_about 66 = .ok (.aload_n 0, 1) := by decide +kernel
theorem dX4_about_67 : decode cX4_about 67 = .ok (.iload_n 3, 1) := by decide +kernel
theorem dX4_about_68 : decode cX4_about 68 = .ok (.invokevirtual 111, 3) := by decide +kernel
theorem dX4_about_71 : decode cX4_about 71 = .ok (.goto 4, 3) := by decide +kernel
theorem dX4_about_74 : decode cX4_about 74 = .ok (.iconst 0, 1) := by decide +kernel
theorem dX4_about_75 : decode cX4_about 75 = .ok (.iadd, 1) := by decide +kernel
theorem dX4_about_76 : decode cX4_about 76 = .ok (.istore_n 2, 1) := by decide +kernel
theorem dX4_about_77 : decode cX4_about 77 = .ok (.iload_n 2, 1) := by decide +kernel
theorem dX4_about_78 : decode cX4_about 78 = .ok (.iload_n 1, 1) := by decide +kernel
theorem dX4_about_79 : decode cX4_about 79 = .ok (.iconst 3, 1) := by decide +kernel
theorem dX4_about_80 : decode cX4_about 80 = .ok (.if_icmp .ne 12, 3) := by decide +kernel
theorem dX4_about_83 : decode cX4_about 83 = .ok (.aload_n 0, 1) := by decide +kernel
theorem dX4_about_84 : decode cX4_about 84 = .ok (.iload_n 3, 1) := by decide +kernel
theorem dX4_about_85 : decode cX4_about 85 = .ok (.invokevirtual 104, 3) := by decide +kernel
theorem dX4_about_88 : decode cX4_about 88 = .ok (.iconst (-1), 1) := by decide +kernel
theorem dX4_about_89 : decode cX4_about 89 = .ok (.if_icmp .ne 32, 3) := by decide +kernel
theorem dX4_about_92 : decode cX4_about 92 = .ok (.iload_n 1, 1) := by decide +kernel
theorem dX4_about_93 : decode cX4_about 93 = .ok (.iconst 4, 1) := by decide +kernel
theorem dX4_about_94 : decode cX4_about 94 = .ok (.if_icmp .ne 13, 3) := by decide +kernel
theorem dX4_about_97 : decode cX4_about 97 = .ok (.aload_n 0, 1) := by decide +kernel
theorem dX4_about_98 : decode cX4_about 98 = .ok (.getfield 20, 3) := by decide +kernel
theorem dX4_about_101 : decode cX4_about 101 = .ok (.iload_n 3, 1) := by decide +kernel
theorem dX4_about_102 : decode cX4_about 102 = .ok (.iaload, 1) := by decide +kernel
theorem dX4_about_103 : decode cX4_about 103 = .ok (.iconst (-1), 1) := by decide +kernel
theorem dX4_about_104 : decode cX4_about 104 = .ok (.if_icmp .ne 17, 3) := by decide +kernel
theorem dX4_about_107 : decode cX4_about 107 = .ok (.iload_n 1, 1) := by decide +kernel
theorem dX4_about_108 : decode cX4_about 108 = .ok (.bipush 7, 2) := by decide +kernel
theorem dX4_about_110 : decode cX4_about 110 = .ok (.if_icmp .ne 15, 3) := by decide +kernel
theorem dX4_about_113 : decode cX4_about 113 = .ok (.aload_n 0, 1) := by decide +kernel
theorem dX4_about_114 : decode cX4_about 114 = .ok (.iload_n 3, 1) := by decide +kernel
theorem dX4_about_115 : decode cX4_about 115 = .ok (.invokevirtual 119, 3) := by decide +kernel
theorem dX4_about_118 : decode cX4_about 118 = .ok (.ifCond .eq 7, 3) := by decide +kernel
theorem dX4_about_121 : decode cX4_about 121 = .ok (.iconst 1, 1) := by decide +kernel
theorem dX4_about_122 : decode cX4_about 122 = .ok (.goto 4, 3) := by decide +kernel
theorem dX4_about_125 : decode cX4_about 125 = .ok (.iconst 0, 1) := by decide +kernel
theorem dX4_about_126 : decode cX4_about 126 = .ok (.iadd, 1) := by decide +kernel
theorem dX4_about_127 : decode cX4_about 127 = .ok (.istore_n 2, 1) := by decide +kernel
theorem dX4_about_128 : decode cX4_about 128 = .ok (.iinc 3 1, 3) := by decide +kernel
theorem dX4_about_131 : decode cX4_about 131 = .ok (.goto (-79), 3) := by decide +kernel
theorem dX4_about_134 : decode cX4_about 134 = .ok (.iconst 0, 1) := by decide +kernel
theorem dX4_about_135 : decode cX4_about 135 = .ok (.istore_n 3, 1) := by decide +kernel
theorem dX4_about_136 : decode cX4_about 136 = .ok (.iload_n 3, 1) := by decide +kernel
theorem dX4_about_137 : decode cX4_about 137 = .ok (.bipush 8, 2) := by decide +kernel
theorem dX4_about_139 : decode cX4_about 139 = .ok (.if_icmp .ge 31, 3) := by decide +kernel
theorem dX4_about_142 : decode cX4_about 142 = .ok (.iload_n 2, 1) := by decide +kernel
theorem dX4_about_143 : decode cX4_about 143 = .ok (.iload_n 1, 1) := by decide +kernel
theorem dX4_about_144 : decode cX4_about 144 = .ok (.bipush 6, 2) := by decide +kernel
theorem dX4_about_146 : decode cX4_about 146 = .ok (.if_icmp .ne 15, 3) := by decide +kernel
theorem dX4_about_149 : decode cX4_about 149 = .ok (.aload_n 0, 1) := by decide +kernel
theorem dX4_about_150 : decode cX4_about 150 = .ok (.iload_n 3, 1) := by decide +kernel
theorem dX4_about_151 : decode cX4_about 151 = .ok (.invokevirtual 75, 3) := by decide +kernel
theorem dX4_about_154 : decode cX4_about 154 = .ok (.ifCond .eq 7, 3) := by decide +kernel
theorem dX4_about_157 : decode cX4_about 157 = .ok (.iconst 1, 1) := by decide +kernel
theorem dX4_about_158 : decode cX4_about 158 = .ok (.goto 4, 3) := by decide +kernel
theorem dX4_about_161 : decode cX4_about 161 = .ok (.iconst 0, 1) := by decide +kernel
theorem dX4_about_162 : decode cX4_about 162 = .ok (.iadd, 1) := by decide +kernel
theorem dX4_about_163 : decode cX4_about 163 = .ok (.istore_n 2, 1) := by decide +kernel
theorem dX4_about_164 : decode cX4_about 164 = .ok (.iinc 3 1, 3) := by decide +kernel
theorem dX4_about_167 : decode cX4_about 167 = .ok (.goto (-31), 3) := by decide +kernel
theorem dX4_about_170 : decode cX4_about 170 = .ok (.iload_n 2, 1) := by decide +kernel
theorem dX4_about_171 : decode cX4_about 171 = .ok (.ireturn, 1) := by decide +kernel
theorem dJx00060_init_a7421_0 : decode cJx00060_init_a7421 0 = .ok (.aload_n 0, 1) := by decide +kernel
theorem dJx00060_init_a7421_1 : decode cJx00060_init_a7421 1 = .ok (.aload_n 1, 1) := by decide +kernel
theorem dJx00060_init_a7421_2 : decode cJx00060_init_a7421 2 = .ok (.invokespecial 7, 3) := by decide +kernel
theorem dJx00060_init_a7421_5 : decode cJx00060_init_a7421 5 = .ok (.return_, 1) := by decide +kernel
theorem dJ9_floorMod_7cf53_0 : decode cJ9_floorMod_7cf53 0 = .ok (.iload_n 0, 1) := by decide +kernel
theorem dJ9_floorMod_7cf53_1 : decode cJ9_floorMod_7cf53 1 = .ok (.iload_n 1, 1) := by decide +kernel
theorem dJ9_floorMod_7cf53_2 : decode cJ9_floorMod_7cf53 2 = .ok (.irem, 1) := by decide +kernel
theorem dJ9_floorMod_7cf53_3 : decode cJ9_floorMod_7cf53 3 = .ok (.istore_n 2, 1) := by decide +kernel
theorem dJ9_floorMod_7cf53_4 : decode cJ9_floorMod_7cf53 4 = .ok (.iload_n 0, 1) := by decide +kernel
theorem dJ9_floorMod_7cf53_5 : decode cJ9_floorMod_7cf53 5 = .ok (.iload_n 1, 1) := by decide +kernel
theorem dJ9_floorMod_7cf53_6 : decode cJ9_floorMod_7cf53 6 = .ok (.ixor, 1) := by decide +kernel
theorem dJ9_floorMod_7cf53_7 : decode cJ9_floorMod_7cf53 7 = .ok (.ifCond .ge 11, 3) := by decide +kernel
theorem dJ9_floorMod_7cf53_10 : decode cJ9_floorMod_7cf53 10 = .ok (.iload_n 2, 1) := by decide +kernel
theorem dJ9_floorMod_7cf53_11 : decode cJ9_floorMod_7cf53 11 = .ok (.ifCond .eq 7, 3) := by decide +kernel
theorem dJ9_floorMod_7cf53_14 : decode cJ9_floorMod_7cf53 14 = .ok (.iload_n 2, 1) := by decide +kernel
theorem dJ9_floorMod_7cf53_15 : decode cJ9_floorMod_7cf53 15 = .ok (.iload_n 1, 1) := by decide +kernel
theorem dJ9_floorMod_7cf53_16 : decode cJ9_floorMod_7cf53 16 = .ok (.iadd, 1) := by decide +kernel
theorem dJ9_floorMod_7cf53_17 : decode cJ9_floorMod_7cf53 17 = .ok (.ireturn, 1) := by decide +kernel
theorem dJ9_floorMod_7cf53_18 : decode cJ9_floorMod_7cf53 18 = .ok (.iload_n 2, 1) := by decide +kernel
theorem dJ9_floorMod_7cf53_19 : decode cJ9_floorMod_7cf53 19 = .ok (.ireturn, 1) := by decide +kernel
theorem dJ7_fill_53178_0 : decode cJ7_fill_53178 0 = .ok (.iconst 0, 1) := by decide +kernel
theorem dJ7_fill_53178_1 : decode cJ7_fill_53178 1 = .ok (.istore_n 2, 1) := by decide +kernel
theorem dJ7_fill_53178_2 : decode cJ7_fill_53178 2 = .ok (.aload_n 0, 1) := by decide +kernel
theorem dJ7_fill_53178_3 : decode cJ7_fill_53178 3 = .ok (.arraylength, 1) := by decide +kernel
theorem dJ7_fill_53178_4 : decode cJ7_fill_53178 4 = .ok (.istore_n 3, 1) := by decide +kernel
theorem dJ7_fill_53178_5 : decode cJ7_fill_53178 5 = .ok (.iload_n 2, 1) := by decide +kernel
theorem dJ7_fill_53178_6 : decode cJ7_fill_53178 6 = .ok (.iload_n 3, 1) := by decide +kernel
theorem dJ7_fill_53178_7 : decode cJ7_fill_53178 7 = .ok (.if_icmp .ge 13, 3) := by decide +kernel
theorem dJ7_fill_53178_10 : decode cJ7_fill_53178 10 = .ok (.aload_n 0, 1) := by decide +kernel
theorem dJ7_fill_53178_11 : decode cJ7_fill_53178 11 = .ok (.iload_n 2, 1) := by decide +kernel
theorem dJ7_fill_53178_12 : decode cJ7_fill_53178 12 = .ok (.iload_n 1, 1) := by decide +kernel
theorem dJ7_fill_53178_13 : decode cJ7_fill_53178 13 = .ok (.iastore, 1) := by decide +kernel
theorem dJ7_fill_53178_14 : decode cJ7_fill_53178 14 = .ok (.iinc 2 1, 3) := by decide +kernel
theorem dJ7_fill_53178_17 : decode cJ7_fill_53178 17 = .ok (.goto (-12), 3) := by decide +kernel
theorem dJ7_fill_53178_20 : decode cJ7_fill_53178 20 = .ok (.return_, 1) := by decide +kernel
end
section
theorem dL_says_0 : decode cL_says 0 = .ok (.aload_n 3, 1) := by decide +kernel
theorem dL_says_1 : decode cL_says 1 = .ok (.iconst 0, 1) := by decide +kernel
theorem dL_says_2 : decode cL_says 2 = .ok (.aload_n 0, 1) := by decide +kernel
theorem dL_says_3 : decode cL_says 3 = .ok (.iload_n 1, 1) := by decide +kernel
theorem dL_says_4 : decode cL_says 4 = .ok (.iload_n 2, 1) := by decide +kernel
theorem dL_says_5 : decode cL_says 5 = .ok (.invokevirtual 7, 3) := by decide +kernel
theorem dL_says_8 : decode cL_says 8 = .ok (.i2l, 1) := by decide +kernel
theorem dL_says_9 : decode cL_says 9 = .ok (.lastore, 1) := by decide +kernel
theorem dL_says_10 : decode cL_says 10 = .ok (.goto 15, 3) := by decide +kernel
theorem dL_says_13 : decode cL_says 13 = .ok (.astore 4, 2) := by decide +kernel
theorem dL_says_15 : decode cL_says 15 = .ok (.iconst 1, 1) := by decide +kernel
theorem dL_says_16 : decode cL_says 16 = .ok (.ireturn, 1) := by decide +kernel
theorem dL_says_17 : decode cL_says 17 = .ok (.astore 4, 2) := by decide +kernel
theorem dL_says_19 : decode cL_says 19 = .ok (.iconst 2, 1) := by decide +kernel
theorem dL_says_20 : decode cL_says 20 = .ok (.ireturn, 1) := by decide +kernel
theorem dL_says_21 : decode cL_says 21 = .ok (.astore 4, 2) := by decide +kernel
theorem dL_says_23 : decode cL_says 23 = .ok (.iconst 3, 1) := by decide +kernel
theorem dL_says_24 : decode cL_says 24 = .ok (.ireturn, 1) := by decide +kernel
theorem dL_says_25 : decode cL_says 25 = .ok (.iconst 0, 1) := by decide +kernel
theorem dL_says_26 : decode cL_says 26 = .ok (.ireturn, 1) := by decide +kernel
theorem dL_agree_0 : decode cL_agree 0 = .ok (.aload 4, 2) := by decide +kernel
theorem dL_agree_2 : decode cL_agree 2 = .ok (.iconst 0, 1) := by decide +kernel
theorem dL_agree_3 : decode cL_agree 3 = .ok (.aload_n 0, 1) := by decide +kernel
theorem dL_agree_4 : decode cL_agree 4 = .ok (.iload_n 1, 1) := by decide +kernel
theorem dL_agree_5 : decode cL_agree 5 = .ok (.iload_n 2, 1) := by decide +kernel
theorem dL_agree_6 : decode cL_agree 6 = .ok (.iload_n 3, 1) := by decide +kernel
theorem dL_agree_7 : decode cL_agree 7 = .ok (.invokevirtual 19, 3) := by decide +kernel
theorem dL_agree_10 : decode cL_agree 10 = .ok (.lastore, 1) := by decide +kernel
theorem dL_agree_11 : decode cL_agree 11 = .ok (.goto 11, 3) := by decide +kernel
theorem dL_agree_14 : decode cL_agree 14 = .ok (.astore 5, 2) := by decide +kernel
theorem dL_agree_16 : decode cL_agree 16 = .ok (.iconst 1, 1) := by decide +kernel
theorem dL_agree_17 : decode cL_agree 17 = .ok (.ireturn, 1) := by decide +kernel
theorem dL_agree_18 : decode cL_agree 18 = .ok (.astore 5, 2) := by decide +kernel
theorem dL_agree_20 : decode cL_agree 20 = .ok (.iconst 2, 1) := by decide +kernel
theorem dL_agree_21 : decode cL_agree 21 = .ok (.ireturn, 1) := by decide +kernel
theorem dL_agree_22 : decode cL_agree 22 = .ok (.iconst 0, 1) := by decide +kernel
theorem dL_agree_23 : decode cL_agree 23 = .ok (.ireturn, 1) := by decide +kernel
theorem dL_all_0 : decode cL_all 0 = .ok (.aload_n 2, 1) := by decide +kernel
theorem dL_all_1 : decode cL_all 1 = .ok (.iconst 0, 1) := by decide +kernel
theorem dL_all_2 : decode cL_all 2 = .ok (.aload_n 0, 1) := by decide +kernel
theorem dL_all_3 : decode cL_all 3 = .ok (.iload_n 1, 1) := by decide +kernel
theorem dL_all_4 : decode cL_all 4 = .ok (.invokevirtual 23, 3) := by decide +kernel
theorem dL_all_7 : decode cL_all 7 = .ok (.lastore, 1) := by decide +kernel
theorem dL_all_8 : decode cL_all 8 = .ok (.goto 9, 3) := by decide +kernel
theorem dL_all_11 : decode cL_all 11 = .ok (.astore_n 3, 1) := by decide +kernel
theorem dL_all_12 : decode cL_all 12 = .ok (.iconst 1, 1) := by decide +kernel
theorem dL_all_13 : decode cL_all 13 = .ok (.ireturn, 1) := by decide +kernel
theorem dL_all_14 : decode cL_all 14 = .ok (.astore_n 3, 1) := by decide +kernel
theorem dL_all_15 : decode cL_all 15 = .ok (.iconst 2, 1) := by decide +kernel
theorem dL_all_16 : decode cL_all 16 = .ok (.ireturn, 1) := by decide +kernel
theorem dL_all_17 : decode cL_all 17 = .ok (.iconst 0, 1) := by decide +kernel
theorem dL_all_18 : decode cL_all 18 = .ok (.ireturn, 1) := by decide +kernel
theorem dL_law_0 : decode cL_law 0 = .ok (.new 8, 3) := by decide +kernel
theorem dL_law_3 : decode cL_law 3 = .ok (.dup, 1) := by decide +kernel
theorem dL_law_4 : decode cL_law 4 = .ok (.invokespecial 27, 3) := by decide +kernel
theorem dL_law_7 : decode cL_law 7 = .ok (.astore_n 1, 1) := by decide +kernel
theorem dL_law_8 : decode cL_law 8 = .ok (.new 28, 3) := by decide +kernel
theorem dL_law_11 : decode cL_law 11 = .ok (.dup, 1) := by decide +kernel
theorem dL_law_12 : decode cL_law 12 = .ok (.invokespecial 30, 3) := by decide +kernel
theorem dL_law_15 : decode cL_law 15 = .ok (.astore_n 2, 1) := by decide +kernel
theorem dL_law_16 : decode cL_law 16 = .ok (.iconst 1, 1) := by decide +kernel
theorem dL_law_17 : decode cL_law 17 = .ok (.newarray .long, 2) := by decide +kernel
theorem dL_law_19 : decode cL_law 19 = .ok (.astore_n 3, 1) := by decide +kernel
theorem dL_law_20 : decode cL_law 20 = .ok (.iconst 0, 1) := by decide +kernel
theorem dL_law_21 : decode cL_law 21 = .ok (.istore 4, 2) := by decide +kernel
theorem dL_law_23 : decode cL_law 23 = .ok (.iload 4, 2) := by decide +kernel
theorem dL_law_25 : decode cL_law 25 = .ok (.aload_n 0, 1) := by decide +kernel
theorem dL_law_26 : decode cL_law 26 = .ok (.arraylength, 1) := by decide +kernel
theorem dL_law_27 : decode cL_law 27 = .ok (.iconst 5, 1) := by decide +kernel
theorem dL_law_28 : decode cL_law 28 = .ok (.isub, 1) := by decide +kernel
theorem dL_law_29 : decode cL_law 29 = .ok (.if_icmp .gt 919, 3) := by decide +kernel
theorem dL_law_32 : decode cL_law 32 = .ok (.aload_n 0, 1) := by decide +kernel
theorem dL_law_33 : decode cL_law 33 = .ok (.iload 4, 2) := by decide +kernel
theorem dL_law_35 : decode cL_law 35 = .ok (.iaload, 1) := by decide +kernel
theorem dL_law_36 : decode cL_law 36 = .ok (.bipush 31, 2) := by decide +kernel
theorem dL_law_38 : decode cL_law 38 = .ok (.iand, 1) := by decide +kernel
theorem dL_law_39 : decode cL_law 39 = .ok (.tableswitch 903 0 18 #[89, 150, 199, 236, 273, 298, 351, 388, 449, 502, 539, 607, 632, 669, 694, 719, 798, 853, 878], 89) := by decide +kernel
theorem dL_law_128 : decode cL_law 128 = .ok (.aload_n 1, 1) := by decide +kernel
theorem dL_law_129 : decode cL_law 129 = .ok (.aload_n 0, 1) := by decide +kernel
theorem dL_law_130 : decode cL_law 130 = .ok (.iload 4, 2) := by decide +kernel
theorem dL_law_132 : decode cL_law 132 = .ok (.iconst 1, 1) := by decide +kernel
theorem dL_law_133 : decode cL_law 133 = .ok (.iadd, 1) := by decide +kernel
theorem dL_law_134 : decode cL_law 134 = .ok (.iaload, 1) := by decide +kernel
theorem dL_law_135 : decode cL_law 135 = .ok (.aload_n 0, 1) := by decide +kernel
theorem dL_law_136 : decode cL_law 136 = .ok (.iload 4, 2) := by decide +kernel
theorem dL_law_138 : decode cL_law 138 = .ok (.iconst 2, 1) := by decide +kernel
theorem dL_law_139 : decode cL_law 139 = .ok (.iadd, 1) := by decide +kernel
theorem dL_law_140 : decode cL_law 140 = .ok (.iaload, 1) := by decide +kernel
theorem dL_law_141 : decode cL_law 141 = .ok (.aload_n 0, 1) := by decide +kernel
theorem dL_law_142 : decode cL_law 142 = .ok (.iload 4, 2) := by decide +kernel
theorem dL_law_144 : decode cL_law 144 = .ok (.iconst 3, 1) := by decide +kernel
theorem dL_law_145 : decode cL_law 145 = .ok (.iadd, 1) := by decide +kernel
theorem dL_law_146 : decode cL_law 146 = .ok (.iaload, 1) := by decide +kernel
theorem dL_law_147 : decode cL_law 147 = .ok (.aload_n 0, 1) := by decide +kernel
theorem dL_law_148 : decode cL_law 148 = .ok (.iload 4, 2) := by decide +kernel
theorem dL_law_150 : decode cL_law 150 = .ok (.iconst 4, 1) := by decide +kernel
theorem dL_law_151 : decode cL_law 151 = .ok (.iadd, 1) := by decide +kernel
theorem dL_law_152 : decode cL_law 152 = .ok (.iaload, 1) := by decide +kernel
theorem dL_law_153 : decode cL_law 153 = .ok (.invokevirtual 31, 3) := by decide +kernel
theorem dL_law_156 : decode cL_law 156 = .ok (.aload_n 2, 1) := by decide +kernel
theorem dL_law_157 : decode cL_law 157 = .ok (.aload_n 0, 1) := by decide +kernel
theorem dL_law_158 : decode cL_law 158 = .ok (.iload 4, 2) := by decide +kernel
theorem dL_law_160 : decode cL_law 160 = .ok (.iconst 1, 1) := by decide +kernel
theorem dL_law_161 : decode cL_law 161 = .ok (.iadd, 1) := by decide +kernel
theorem dL_law_162 : decode cL_law 162 = .ok (.iaload, 1) := by decide +kernel
theorem dL_law_163 : decode cL_law 163 = .ok (.aload_n 0, 1) := by decide +kernel
theorem dL_law_164 : decode cL_law 164 = .ok (.iload 4, 2) := by decide +kernel
theorem dL_law_166 : decode cL_law 166 = .ok (.iconst 2, 1) := by decide +kernel
theorem dL_law_167 : decode cL_law 167 = .ok (.iadd, 1) := by decide +kernel
theorem dL_law_168 : decode cL_law 168 = .ok (.iaload, 1) := by decide +kernel
theorem dL_law_169 : decode cL_law 169 = .ok (.aload_n 0, 1) := by decide +kernel
theorem dL_law_170 : decode cL_law 170 = .ok (.iload 4, 2) := by decide +kernel
theorem dL_law_172 : decode cL_law 172 = .ok (.iconst 3, 1) := by decide +kernel
theorem dL_law_173 : decode cL_law 173 = .ok (.iadd, 1) := by decide +kernel
theorem dL_law_174 : decode cL_law 174 = .ok (.iaload, 1) := by decide +kernel
theorem dL_law_175 : decode cL_law 175 = .ok (.aload_n 0, 1) := by decide +kernel
theorem dL_law_176 : decode cL_law 176 = .ok (.iload 4, 2) := by decide +kernel
theorem dL_law_178 : decode cL_law 178 = .ok (.iconst 4, 1) := by decide +kernel
theorem dL_law_179 : decode cL_law 179 = .ok (.iadd, 1) := by decide +kernel
theorem dL_law_180 : decode cL_law 180 = .ok (.iaload, 1) := by decide +kernel
theorem dL_law_181 : decode cL_law 181 = .ok (.invokevirtual 35, 3) := by decide +kernel
theorem dL_law_184 : decode cL_law 184 = .ok (.if_icmp .eq 758, 3) := by decide +kernel
theorem dL_law_187 : decode cL_law 187 = .ok (.iconst 0, 1) := by decide +kernel
theorem dL_law_188 : decode cL_law 188 = .ok (.ireturn, 1) := by decide +kernel
theorem dL_law_189 : decode cL_law 189 = .ok (.aload_n 1, 1) := by decide +kernel
theorem dL_law_190 : decode cL_law 190 = .ok (.aload_n 0, 1) := by decide +kernel
theorem dL_law_191 : decode cL_law 191 = .ok (.iload 4, 2) := by decide +kernel
theorem dL_law_193 : decode cL_law 193 = .ok (.iconst 1, 1) := by decide +kernel
theorem dL_law_194 : decode cL_law 194 = .ok (.iadd, 1) := by decide +kernel
theorem dL_law_195 : decode cL_law 195 = .ok (.iaload, 1) := by decide +kernel
theorem dL_law_196 : decode cL_law 196 = .ok (.aload_n 0, 1) := by decide +kernel
theorem dL_law_197 : decode cL_law 197 = .ok (.iload 4, 2) := by decide +kernel
theorem dL_law_199 : decode cL_law 199 = .ok (.iconst 2, 1) := by decide +kernel
theorem dL_law_200 : decode cL_law 200 = .ok (.iadd, 1) := by decide +kernel
theorem dL_law_201 : decode cL_law 201 = .ok (.iaload, 1) := by decide +kernel
theorem dL_law_202 : decode cL_law 202 = .ok (.aload_n 0, 1) := by decide +kernel
theorem dL_law_203 : decode cL_law 203 = .ok (.iload 4, 2) := by decide +kernel
theorem dL_law_205 : decode cL_law 205 = .ok (.iconst 3, 1) := by decide +kernel
theorem dL_law_206 : decode cL_law 206 = .ok (.iadd, 1) := by decide +kernel
theorem dL_law_207 : decode cL_law 207 = .ok (.iaload, 1) := by decide +kernel
theorem dL_law_208 : decode cL_law 208 = .ok (.invokevirtual 36, 3) := by decide +kernel
theorem dL_law_211 : decode cL_law 211 = .ok (.aload_n 2, 1) := by decide +kernel
theorem dL_law_212 : decode cL_law 212 = .ok (.aload_n 0, 1) := by decide +kernel
theorem dL_law_213 : decode cL_law 213 = .ok (.iload 4, 2) := by decide +kernel
theorem dL_law_215 : decode cL_law 215 = .ok (.iconst 1, 1) := by decide +kernel
theorem dL_law_216 : decode cL_law 216 = .ok (.iadd, 1) := by decide +kernel
theorem dL_law_217 : decode cL_law 217 = .ok (.iaload, 1) := by decide +kernel
theorem dL_law_218 : decode cL_law 218 = .ok (.aload_n 0, 1) := by decide +kernel
theorem dL_law_219 : decode cL_law 219 = .ok (.iload 4, 2) := by decide +kernel
theorem dL_law_221 : decode cL_law 221 = .ok (.iconst 2, 1) := by decide +kernel
theorem dL_law_222 : decode cL_law 222 = .ok (.iadd, 1) := by decide +kernel
theorem dL_law_223 : decode cL_law 223 = .ok (.iaload, 1) := by decide +kernel
theorem dL_law_224 : decode cL_law 224 = .ok (.aload_n 0, 1) := by decide +kernel
theorem dL_law_225 : decode cL_law 225 = .ok (.iload 4, 2) := by decide +kernel
theorem dL_law_227 : decode cL_law 227 = .ok (.iconst 3, 1) := by decide +kernel
theorem dL_law_228 : decode cL_law 228 = .ok (.iadd, 1) := by decide +kernel
theorem dL_law_229 : decode cL_law 229 = .ok (.iaload, 1) := by decide +kernel
theorem dL_law_230 : decode cL_law 230 = .ok (.invokevirtual 40, 3) := by decide +kernel
theorem dL_law_233 : decode cL_law 233 = .ok (.if_icmp .eq 709, 3) := by decide +kernel
theorem dL_law_236 : decode cL_law 236 = .ok (.iconst 0, 1) := by decide +kernel
theorem dL_law_237 : decode cL_law 237 = .ok (.ireturn, 1) := by decide +kernel
theorem dL_law_238 : decode cL_law 238 = .ok (.aload_n 1, 1) := by decide +kernel
theorem dL_law_239 : decode cL_law 239 = .ok (.aload_n 0, 1) := by decide +kernel
theorem dL_law_240 : decode cL_law 240 = .ok (.iload 4, 2) := by decide +kernel
theorem dL_law_242 : decode cL_law 242 = .ok (.iconst 1, 1) := by decide +kernel
theorem dL_law_243 : decode cL_law 243 = .ok (.iadd, 1) := by decide +kernel
theorem dL_law_244 : decode cL_law 244 = .ok (.iaload, 1) := by decide +kernel
theorem dL_law_245 : decode cL_law 245 = .ok (.aload_n 0, 1) := by decide +kernel
theorem dL_law_246 : decode cL_law 246 = .ok (.iload 4, 2) := by decide +kernel
theorem dL_law_248 : decode cL_law 248 = .ok (.iconst 2, 1) := by decide +kernel
theorem dL_law_249 : decode cL_law 249 = .ok (.iadd, 1) := by decide +kernel
theorem dL_law_250 : decode cL_law 250 = .ok (.iaload, 1) := by decide +kernel
theorem dL_law_251 : decode cL_law 251 = .ok (.invokevirtual 41, 3) := by decide +kernel
theorem dL_law_254 : decode cL_law 254 = .ok (.aload_n 2, 1) := by decide +kernel
theorem dL_law_255 : decode cL_law 255 = .ok (.aload_n 0, 1) := by decide +kernel
theorem dL_law_256 : decode cL_law 256 = .ok (.iload 4, 2) := by decide +kernel
theorem dL_law_258 : decode cL_law 258 = .ok (.iconst 1, 1) := by decide +kernel
theorem dL_law_259 : decode cL_law 259 = .ok (.iadd, 1) := by decide +kernel
theorem dL_law_260 : decode cL_law 260 = .ok (.iaload, 1) := by decide +kernel
theorem dL_law_261 : decode cL_law 261 = .ok (.aload_n 0, 1) := by decide +kernel
theorem dL_law_262 : decode cL_law 262 = .ok (.iload 4, 2) := by decide +kernel
theorem dL_law_264 : decode cL_law 264 = .ok (.iconst 2, 1) := by decide +kernel
theorem dL_law_265 : decode cL_law 265 = .ok (.iadd, 1) := by decide +kernel
theorem dL_law_266 : decode cL_law 266 = .ok (.iaload, 1) := by decide +kernel
theorem dL_law_267 : decode cL_law 267 = .ok (.invokevirtual 44, 3) := by decide +kernel
theorem dL_law_270 : decode cL_law 270 = .ok (.if_icmp .eq 672, 3) := by decide +kernel
theorem dL_law_273 : decode cL_law 273 = .ok (.iconst 0, 1) := by decide +kernel
theorem dL_law_274 : decode cL_law 274 = .ok (.ireturn, 1) := by decide +kernel
theorem dL_law_275 : decode cL_law 275 = .ok (.aload_n 1, 1) := by decide +kernel
theorem dL_law_276 : decode cL_law 276 = .ok (.aload_n 0, 1) := by decide +kernel
theorem dL_law_277 : decode cL_law 277 = .ok (.iload 4, 2) := by decide +kernel
theorem dL_law_279 : decode cL_law 279 = .ok (.iconst 1, 1) := by decide +kernel
theorem dL_law_280 : decode cL_law 280 = .ok (.iadd, 1) := by decide +kernel
theorem dL_law_281 : decode cL_law 281 = .ok (.iaload, 1) := by decide +kernel
theorem dL_law_282 : decode cL_law 282 = .ok (.aload_n 0, 1) := by decide +kernel
theorem dL_law_283 : decode cL_law 283 = .ok (.iload 4, 2) := by decide +kernel
theorem dL_law_285 : decode cL_law 285 = .ok (.iconst 2, 1) := by decide +kernel
theorem dL_law_286 : decode cL_law 286 = .ok (.iadd, 1) := by decide +kernel
theorem dL_law_287 : decode cL_law 287 = .ok (.iaload, 1) := by decide +kernel
theorem dL_law_288 : decode cL_law 288 = .ok (.invokevirtual 45, 3) := by decide +kernel
theorem dL_law_291 : decode cL_law 291 = .ok (.aload_n 2, 1) := by decide +kernel
theorem dL_law_292 : decode cL_law 292 = .ok (.aload_n 0, 1) := by decide +kernel
theorem dL_law_293 : decode cL_law 293 = .ok (.iload 4, 2) := by decide +kernel
theorem dL_law_295 : decode cL_law 295 = .ok (.iconst 1, 1) := by decide +kernel
theorem dL_law_296 : decode cL_law 296 = .ok (.iadd, 1) := by decide +kernel
theorem dL_law_297 : decode cL_law 297 = .ok (.iaload, 1) := by decide +kernel
theorem dL_law_298 : decode cL_law 298 = .ok (.aload_n 0, 1) := by decide +kernel
theorem dL_law_299 : decode cL_law 299 = .ok (.iload 4, 2) := by decide +kernel
theorem dL_law_301 : decode cL_law 301 = .ok (.iconst 2, 1) := by decide +kernel
theorem dL_law_302 : decode cL_law 302 = .ok (.iadd, 1) := by decide +kernel
theorem dL_law_303 : decode cL_law 303 = .ok (.iaload, 1) := by decide +kernel
theorem dL_law_304 : decode cL_law 304 = .ok (.invokevirtual 48, 3) := by decide +kernel
theorem dL_law_307 : decode cL_law 307 = .ok (.if_icmp .eq 635, 3) := by decide +kernel
theorem dL_law_310 : decode cL_law 310 = .ok (.iconst 0, 1) := by decide +kernel
theorem dL_law_311 : decode cL_law 311 = .ok (.ireturn, 1) := by decide +kernel
theorem dL_law_312 : decode cL_law 312 = .ok (.aload_n 1, 1) := by decide +kernel
theorem dL_law_313 : decode cL_law 313 = .ok (.aload_n 0, 1) := by decide +kernel
theorem dL_law_314 : decode cL_law 314 = .ok (.iload 4, 2) := by decide +kernel
theorem dL_law_316 : decode cL_law 316 = .ok (.iconst 1, 1) := by decide +kernel
theorem dL_law_317 : decode cL_law 317 = .ok (.iadd, 1) := by decide +kernel
theorem dL_law_318 : decode cL_law 318 = .ok (.iaload, 1) := by decide +kernel
theorem dL_law_319 : decode cL_law 319 = .ok (.invokevirtual 49, 3) := by decide +kernel
theorem dL_law_322 : decode cL_law 322 = .ok (.aload_n 2, 1) := by decide +kernel
theorem dL_law_323 : decode cL_law 323 = .ok (.aload_n 0, 1) := by decide +kernel
theorem dL_law_324 : decode cL_law 324 = .ok (.iload 4, 2) := by decide +kernel
theorem dL_law_326 : decode cL_law 326 = .ok (.iconst 1, 1) := by decide +kernel
theorem dL_law_327 : decode cL_law 327 = .ok (.iadd, 1) := by decide +kernel
theorem dL_law_328 : decode cL_law 328 = .ok (.iaload, 1) := by decide +kernel
theorem dL_law_329 : decode cL_law 329 = .ok (.invokevirtual 53, 3) := by decide +kernel
theorem dL_law_332 : decode cL_law 332 = .ok (.if_icmp .eq 610, 3) := by decide +kernel
theorem dL_law_335 : decode cL_law 335 = .ok (.iconst 0, 1) := by decide +kernel
theorem dL_law_336 : decode cL_law 336 = .ok (.ireturn, 1) := by decide +kernel
theorem dL_law_337 : decode cL_law 337 = .ok (.aload_n 1, 1) := by decide +kernel
theorem dL_law_338 : decode cL_law 338 = .ok (.aload_n 0, 1) := by decide +kernel
theorem dL_law_339 : decode cL_law 339 = .ok (.iload 4, 2) := by decide +kernel
theorem dL_law_341 : decode cL_law 341 = .ok (.iconst 1, 1) := by decide +kernel
theorem dL_law_342 : decode cL_law 342 = .ok (.iadd, 1) := by decide +kernel
theorem dL_law_343 : decode cL_law 343 = .ok (.iaload, 1) := by decide +kernel
theorem dL_law_344 : decode cL_law 344 = .ok (.aload_n 0, 1) := by decide +kernel
theorem dL_law_345 : decode cL_law 345 = .ok (.iload 4, 2) := by decide +kernel
theorem dL_law_347 : decode cL_law 347 = .ok (.iconst 2, 1) := by decide +kernel
theorem dL_law_348 : decode cL_law 348 = .ok (.iadd, 1) := by decide +kernel
theorem dL_law_349 : decode cL_law 349 = .ok (.iaload, 1) := by decide +kernel
theorem dL_law_350 : decode cL_law 350 = .ok (.ifCond .eq 7, 3) := by decide +kernel
theorem dL_law_353 : decode cL_law 353 = .ok (.iconst 1, 1) := by decide +kernel
theorem dL_law_354 : decode cL_law 354 = .ok (.goto 4, 3) := by decide +kernel
theorem dL_law_357 : decode cL_law 357 = .ok (.iconst 0, 1) := by decide +kernel
theorem dL_law_358 : decode cL_law 358 = .ok (.invokevirtual 54, 3) := by decide +kernel
theorem dL_law_361 : decode cL_law 361 = .ok (.aload_n 2, 1) := by decide +kernel
theorem dL_law_362 : decode cL_law 362 = .ok (.aload_n 0, 1) := by decide +kernel
theorem dL_law_363 : decode cL_law 363 = .ok (.iload 4, 2) := by decide +kernel
theorem dL_law_365 : decode cL_law 365 = .ok (.iconst 1, 1) := by decide +kernel
theorem dL_law_366 : decode cL_law 366 = .ok (.iadd, 1) := by decide +kernel
theorem dL_law_367 : decode cL_law 367 = .ok (.iaload, 1) := by decide +kernel
theorem dL_law_368 : decode cL_law 368 = .ok (.aload_n 0, 1) := by decide +kernel
theorem dL_law_369 : decode cL_law 369 = .ok (.iload 4, 2) := by decide +kernel
theorem dL_law_371 : decode cL_law 371 = .ok (.iconst 2, 1) := by decide +kernel
theorem dL_law_372 : decode cL_law 372 = .ok (.iadd, 1) := by decide +kernel
theorem dL_law_373 : decode cL_law 373 = .ok (.iaload, 1) := by decide +kernel
theorem dL_law_374 : decode cL_law 374 = .ok (.ifCond .eq 7, 3) := by decide +kernel
theorem dL_law_377 : decode cL_law 377 = .ok (.iconst 1, 1) := by decide +kernel
theorem dL_law_378 : decode cL_law 378 = .ok (.goto 4, 3) := by decide +kernel
theorem dL_law_381 : decode cL_law 381 = .ok (.iconst 0, 1) := by decide +kernel
theorem dL_law_382 : decode cL_law 382 = .ok (.invokevirtual 58, 3) := by decide +kernel
theorem dL_law_385 : decode cL_law 385 = .ok (.if_icmp .eq 557, 3) := by decide +kernel
theorem dL_law_388 : decode cL_law 388 = .ok (.iconst 0, 1) := by decide +kernel
theorem dL_law_389 : decode cL_law 389 = .ok (.ireturn, 1) := by decide +kernel
theorem dL_law_390 : decode cL_law 390 = .ok (.aload_n 1, 1) := by decide +kernel
theorem dL_law_391 : decode cL_law 391 = .ok (.aload_n 0, 1) := by decide +kernel
theorem dL_law_392 : decode cL_law 392 = .ok (.iload 4, 2) := by decide +kernel
theorem dL_law_394 : decode cL_law 394 = .ok (.iconst 1, 1) := by decide +kernel
theorem dL_law_395 : decode cL_law 395 = .ok (.iadd, 1) := by decide +kernel
theorem dL_law_396 : decode cL_law 396 = .ok (.iaload, 1) := by decide +kernel
theorem dL_law_397 : decode cL_law 397 = .ok (.aload_n 0, 1) := by decide +kernel
theorem dL_law_398 : decode cL_law 398 = .ok (.iload 4, 2) := by decide +kernel
theorem dL_law_400 : decode cL_law 400 = .ok (.iconst 2, 1) := by decide +kernel
theorem dL_law_401 : decode cL_law 401 = .ok (.iadd, 1) := by decide +kernel
theorem dL_law_402 : decode cL_law 402 = .ok (.iaload, 1) := by decide +kernel
theorem dL_law_403 : decode cL_law 403 = .ok (.invokevirtual 59, 3) := by decide +kernel
theorem dL_law_406 : decode cL_law 406 = .ok (.aload_n 2, 1) := by decide +kernel
theorem dL_law_407 : decode cL_law 407 = .ok (.aload_n 0, 1) := by decide +kernel
theorem dL_law_408 : decode cL_law 408 = .ok (.iload 4, 2) := by decide +kernel
theorem dL_law_410 : decode cL_law 410 = .ok (.iconst 1, 1) := by decide +kernel
theorem dL_law_411 : decode cL_law 411 = .ok (.iadd, 1) := by decide +kernel
theorem dL_law_412 : decode cL_law 412 = .ok (.iaload, 1) := by decide +kernel
theorem dL_law_413 : decode cL_law 413 = .ok (.aload_n 0, 1) := by decide +kernel
theorem dL_law_414 : decode cL_law 414 = .ok (.iload 4, 2) := by decide +kernel
theorem dL_law_416 : decode cL_law 416 = .ok (.iconst 2, 1) := by decide +kernel
theorem dL_law_417 : decode cL_law 417 = .ok (.iadd, 1) := by decide +kernel
theorem dL_law_418 : decode cL_law 418 = .ok (.iaload, 1) := by decide +kernel
theorem dL_law_419 : decode cL_law 419 = .ok (.invokevirtual 62, 3) := by decide +kernel
theorem dL_law_422 : decode cL_law 422 = .ok (.if_icmp .eq 520, 3) := by decide +kernel
theorem dL_law_425 : decode cL_law 425 = .ok (.iconst 0, 1) := by decide +kernel
theorem dL_law_426 : decode cL_law 426 = .ok (.ireturn, 1) := by decide +kernel
theorem dL_law_427 : decode cL_law 427 = .ok (.aload_n 1, 1) := by decide +kernel
theorem dL_law_428 : decode cL_law 428 = .ok (.aload_n 0, 1) := by decide +kernel
theorem dL_law_429 : decode cL_law 429 = .ok (.iload 4, 2) := by decide +kernel
theorem dL_law_431 : decode cL_law 431 = .ok (.iconst 1, 1) := by decide +kernel
theorem dL_law_432 : decode cL_law 432 = .ok (.iadd, 1) := by decide +kernel
theorem dL_law_433 : decode cL_law 433 = .ok (.iaload, 1) := by decide +kernel
theorem dL_law_434 : decode cL_law 434 = .ok (.aload_n 0, 1) := by decide +kernel
theorem dL_law_435 : decode cL_law 435 = .ok (.iload 4, 2) := by decide +kernel
theorem dL_law_437 : decode cL_law 437 = .ok (.iconst 2, 1) := by decide +kernel
theorem dL_law_438 : decode cL_law 438 = .ok (.iadd, 1) := by decide +kernel
theorem dL_law_439 : decode cL_law 439 = .ok (.iaload, 1) := by decide +kernel
theorem dL_law_440 : decode cL_law 440 = .ok (.aload_n 0, 1) := by decide +kernel
theorem dL_law_441 : decode cL_law 441 = .ok (.iload 4, 2) := by decide +kernel
theorem dL_law_443 : decode cL_law 443 = .ok (.iconst 3, 1) := by decide +kernel
theorem dL_law_444 : decode cL_law 444 = .ok (.iadd, 1) := by decide +kernel
theorem dL_law_445 : decode cL_law 445 = .ok (.iaload, 1) := by decide +kernel
theorem dL_law_446 : decode cL_law 446 = .ok (.aload_n 0, 1) := by decide +kernel
theorem dL_law_447 : decode cL_law 447 = .ok (.iload 4, 2) := by decide +kernel
theorem dL_law_449 : decode cL_law 449 = .ok (.iconst 4, 1) := by decide +kernel
theorem dL_law_450 : decode cL_law 450 = .ok (.iadd, 1) := by decide +kernel
theorem dL_law_451 : decode cL_law 451 = .ok (.iaload, 1) := by decide +kernel
theorem dL_law_452 : decode cL_law 452 = .ok (.invokevirtual 63, 3) := by decide +kernel
theorem dL_law_455 : decode cL_law 455 = .ok (.aload_n 2, 1) := by decide +kernel
theorem dL_law_456 : decode cL_law 456 = .ok (.aload_n 0, 1) := by decide +kernel
theorem dL_law_457 : decode cL_law 457 = .ok (.iload 4, 2) := by decide +kernel
theorem dL_law_459 : decode cL_law 459 = .ok (.iconst 1, 1) := by decide +kernel
theorem dL_law_460 : decode cL_law 460 = .ok (.iadd, 1) := by decide +kernel
theorem dL_law_461 : decode cL_law 461 = .ok (.iaload, 1) := by decide +kernel
theorem dL_law_462 : decode cL_law 462 = .ok (.aload_n 0, 1) := by decide +kernel
theorem dL_law_463 : decode cL_law 463 = .ok (.iload 4, 2) := by decide +kernel
theorem dL_law_465 : decode cL_law 465 = .ok (.iconst 2, 1) := by decide +kernel
theorem dL_law_466 : decode cL_law 466 = .ok (.iadd, 1) := by decide +kernel
theorem dL_law_467 : decode cL_law 467 = .ok (.iaload, 1) := by decide +kernel
theorem dL_law_468 : decode cL_law 468 = .ok (.aload_n 0, 1) := by decide +kernel
theorem dL_law_469 : decode cL_law 469 = .ok (.iload 4, 2) := by decide +kernel
theorem dL_law_471 : decode cL_law 471 = .ok (.iconst 3, 1) := by decide +kernel
theorem dL_law_472 : decode cL_law 472 = .ok (.iadd, 1) := by decide +kernel
theorem dL_law_473 : decode cL_law 473 = .ok (.iaload, 1) := by decide +kernel
theorem dL_law_474 : decode cL_law 474 = .ok (.aload_n 0, 1) := by decide +kernel
theorem dL_law_475 : decode cL_law 475 = .ok (.iload 4, 2) := by decide +kernel
theorem dL_law_477 : decode cL_law 477 = .ok (.iconst 4, 1) := by decide +kernel
theorem dL_law_478 : decode cL_law 478 = .ok (.iadd, 1) := by decide +kernel
theorem dL_law_479 : decode cL_law 479 = .ok (.iaload, 1) := by decide +kernel
theorem dL_law_480 : decode cL_law 480 = .ok (.invokevirtual 66, 3) := by decide +kernel
theorem dL_law_483 : decode cL_law 483 = .ok (.if_icmp .eq 459, 3) := by decide +kernel
theorem dL_law_486 : decode cL_law 486 = .ok (.iconst 0, 1) := by decide +kernel
theorem dL_law_487 : decode cL_law 487 = .ok (.ireturn, 1) := by decide +kernel
theorem dL_law_488 : decode cL_law 488 = .ok (.aload_n 1, 1) := by decide +kernel
theorem dL_law_489 : decode cL_law 489 = .ok (.aload_n 0, 1) := by decide +kernel
theorem dL_law_490 : decode cL_law 490 = .ok (.iload 4, 2) := by decide +kernel
theorem dL_law_492 : decode cL_law 492 = .ok (.iconst 1, 1) := by decide +kernel
theorem dL_law_493 : decode cL_law 493 = .ok (.iadd, 1) := by decide +kernel
theorem dL_law_494 : decode cL_law 494 = .ok (.iaload, 1) := by decide +kernel
theorem dL_law_495 : decode cL_law 495 = .ok (.aload_n 0, 1) := by decide +kernel
theorem dL_law_496 : decode cL_law 496 = .ok (.iload 4, 2) := by decide +kernel
theorem dL_law_498 : decode cL_law 498 = .ok (.iconst 2, 1) := by decide +kernel
theorem dL_law_499 : decode cL_law 499 = .ok (.iadd, 1) := by decide +kernel
theorem dL_law_500 : decode cL_law 500 = .ok (.iaload, 1) := by decide +kernel
theorem dL_law_501 : decode cL_law 501 = .ok (.ifCond .eq 7, 3) := by decide +kernel
theorem dL_law_504 : decode cL_law 504 = .ok (.iconst 1, 1) := by decide +kernel
theorem dL_law_505 : decode cL_law 505 = .ok (.goto 4, 3) := by decide +kernel
theorem dL_law_508 : decode cL_law 508 = .ok (.iconst 0, 1) := by decide +kernel
theorem dL_law_509 : decode cL_law 509 = .ok (.invokevirtual 67, 3) := by decide +kernel
theorem dL_law_512 : decode cL_law 512 = .ok (.aload_n 2, 1) := by decide +kernel
theorem dL_law_513 : decode cL_law 513 = .ok (.aload_n 0, 1) := by decide +kernel
theorem dL_law_514 : decode cL_law 514 = .ok (.iload 4, 2) := by decide +kernel
theorem dL_law_516 : decode cL_law 516 = .ok (.iconst 1, 1) := by decide +kernel
theorem dL_law_517 : decode cL_law 517 = .ok (.iadd, 1) := by decide +kernel
theorem dL_law_518 : decode cL_law 518 = .ok (.iaload, 1) := by decide +kernel
theorem dL_law_519 : decode cL_law 519 = .ok (.aload_n 0, 1) := by decide +kernel
theorem dL_law_520 : decode cL_law 520 = .ok (.iload 4, 2) := by decide +kernel
theorem dL_law_522 : decode cL_law 522 = .ok (.iconst 2, 1) := by decide +kernel
theorem dL_law_523 : decode cL_law 523 = .ok (.iadd, 1) := by decide +kernel
theorem dL_law_524 : decode cL_law 524 = .ok (.iaload, 1) := by decide +kernel
theorem dL_law_525 : decode cL_law 525 = .ok (.ifCond .eq 7, 3) := by decide +kernel
theorem dL_law_528 : decode cL_law 528 = .ok (.iconst 1, 1) := by decide +kernel
theorem dL_law_529 : decode cL_law 529 = .ok (.goto 4, 3) := by decide +kernel
theorem dL_law_532 : decode cL_law 532 = .ok (.iconst 0, 1) := by decide +kernel
theorem dL_law_533 : decode cL_law 533 = .ok (.invokevirtual 70, 3) := by decide +kernel
theorem dL_law_536 : decode cL_law 536 = .ok (.if_icmp .eq 406, 3) := by decide +kernel
theorem dL_law_539 : decode cL_law 539 = .ok (.iconst 0, 1) := by decide +kernel
theorem dL_law_540 : decode cL_law 540 = .ok (.ireturn, 1) := by decide +kernel
theorem dL_law_541 : decode cL_law 541 = .ok (.aload_n 1, 1) := by decide +kernel
theorem dL_law_542 : decode cL_law 542 = .ok (.aload_n 0, 1) := by decide +kernel
theorem dL_law_543 : decode cL_law 543 = .ok (.iload 4, 2) := by decide +kernel
theorem dL_law_545 : decode cL_law 545 = .ok (.iconst 1, 1) := by decide +kernel
theorem dL_law_546 : decode cL_law 546 = .ok (.iadd, 1) := by decide +kernel
theorem dL_law_547 : decode cL_law 547 = .ok (.iaload, 1) := by decide +kernel
theorem dL_law_548 : decode cL_law 548 = .ok (.aload_n 0, 1) := by decide +kernel
theorem dL_law_549 : decode cL_law 549 = .ok (.iload 4, 2) := by decide +kernel
theorem dL_law_551 : decode cL_law 551 = .ok (.iconst 2, 1) := by decide +kernel
theorem dL_law_552 : decode cL_law 552 = .ok (.iadd, 1) := by decide +kernel
theorem dL_law_553 : decode cL_law 553 = .ok (.iaload, 1) := by decide +kernel
theorem dL_law_554 : decode cL_law 554 = .ok (.invokevirtual 71, 3) := by decide +kernel
theorem dL_law_557 : decode cL_law 557 = .ok (.aload_n 2, 1) := by decide +kernel
theorem dL_law_558 : decode cL_law 558 = .ok (.aload_n 0, 1) := by decide +kernel
theorem dL_law_559 : decode cL_law 559 = .ok (.iload 4, 2) := by decide +kernel
theorem dL_law_561 : decode cL_law 561 = .ok (.iconst 1, 1) := by decide +kernel
theorem dL_law_562 : decode cL_law 562 = .ok (.iadd, 1) := by decide +kernel
theorem dL_law_563 : decode cL_law 563 = .ok (.iaload, 1) := by decide +kernel
theorem dL_law_564 : decode cL_law 564 = .ok (.aload_n 0, 1) := by decide +kernel
theorem dL_law_565 : decode cL_law 565 = .ok (.iload 4, 2) := by decide +kernel
theorem dL_law_567 : decode cL_law 567 = .ok (.iconst 2, 1) := by decide +kernel
theorem dL_law_568 : decode cL_law 568 = .ok (.iadd, 1) := by decide +kernel
theorem dL_law_569 : decode cL_law 569 = .ok (.iaload, 1) := by decide +kernel
theorem dL_law_570 : decode cL_law 570 = .ok (.invokevirtual 74, 3) := by decide +kernel
theorem dL_law_573 : decode cL_law 573 = .ok (.if_icmp .eq 369, 3) := by decide +kernel
theorem dL_law_576 : decode cL_law 576 = .ok (.iconst 0, 1) := by decide +kernel
theorem dL_law_577 : decode cL_law 577 = .ok (.ireturn, 1) := by decide +kernel
theorem dL_law_578 : decode cL_law 578 = .ok (.aload_n 1, 1) := by decide +kernel
theorem dL_law_579 : decode cL_law 579 = .ok (.aload_n 0, 1) := by decide +kernel
theorem dL_law_580 : decode cL_law 580 = .ok (.iload 4, 2) := by decide +kernel
theorem dL_law_582 : decode cL_law 582 = .ok (.iconst 1, 1) := by decide +kernel
theorem dL_law_583 : decode cL_law 583 = .ok (.iadd, 1) := by decide +kernel
theorem dL_law_584 : decode cL_law 584 = .ok (.iaload, 1) := by decide +kernel
theorem dL_law_585 : decode cL_law 585 = .ok (.aload_n 0, 1) := by decide +kernel
theorem dL_law_586 : decode cL_law 586 = .ok (.iload 4, 2) := by decide +kernel
theorem dL_law_588 : decode cL_law 588 = .ok (.iconst 2, 1) := by decide +kernel
theorem dL_law_589 : decode cL_law 589 = .ok (.iadd, 1) := by decide +kernel
theorem dL_law_590 : decode cL_law 590 = .ok (.iaload, 1) := by decide +kernel
theorem dL_law_591 : decode cL_law 591 = .ok (.aload_n 3, 1) := by decide +kernel
theorem dL_law_592 : decode cL_law 592 = .ok (.invokestatic 75, 3) := by decide +kernel
theorem dL_law_595 : decode cL_law 595 = .ok (.istore 5, 2) := by decide +kernel
theorem dL_law_597 : decode cL_law 597 = .ok (.aload_n 2, 1) := by decide +kernel
theorem dL_law_598 : decode cL_law 598 = .ok (.aload_n 0, 1) := by decide +kernel
theorem dL_law_599 : decode cL_law 599 = .ok (.iload 4, 2) := by decide +kernel
theorem dL_law_601 : decode cL_law 601 = .ok (.iconst 1, 1) := by decide +kernel
theorem dL_law_602 : decode cL_law 602 = .ok (.iadd, 1) := by decide +kernel
theorem dL_law_603 : decode cL_law 603 = .ok (.iaload, 1) := by decide +kernel
theorem dL_law_604 : decode cL_law 604 = .ok (.aload_n 0, 1) := by decide +kernel
theorem dL_law_605 : decode cL_law 605 = .ok (.iload 4, 2) := by decide +kernel
theorem dL_law_607 : decode cL_law 607 = .ok (.iconst 2, 1) := by decide +kernel
theorem dL_law_608 : decode cL_law 608 = .ok (.iadd, 1) := by decide +kernel
theorem dL_law_609 : decode cL_law 609 = .ok (.iaload, 1) := by decide +kernel
theorem dL_law_610 : decode cL_law 610 = .ok (.invokevirtual 80, 3) := by decide +kernel
theorem dL_law_613 : decode cL_law 613 = .ok (.istore 6, 2) := by decide +kernel
theorem dL_law_615 : decode cL_law 615 = .ok (.aload_n 2, 1) := by decide +kernel
theorem dL_law_616 : decode cL_law 616 = .ok (.invokevirtual 81, 3) := by decide +kernel
theorem dL_law_619 : decode cL_law 619 = .ok (.iload 5, 2) := by decide +kernel
theorem dL_law_621 : decode cL_law 621 = .ok (.if_icmp .eq 5, 3) := by decide +kernel
theorem dL_law_624 : decode cL_law 624 = .ok (.iconst 0, 1) := by decide +kernel
theorem dL_law_625 : decode cL_law 625 = .ok (.ireturn, 1) := by decide +kernel
theorem dL_law_626 : decode cL_law 626 = .ok (.iload 5, 2) := by decide +kernel
theorem dL_law_628 : decode cL_law 628 = .ok (.ifCond .ne 15, 3) := by decide +kernel
theorem dL_law_631 : decode cL_law 631 = .ok (.aload_n 3, 1) := by decide +kernel
theorem dL_law_632 : decode cL_law 632 = .ok (.iconst 0, 1) := by decide +kernel
theorem dL_law_633 : decode cL_law 633 = .ok (.laload, 1) := by decide +kernel
theorem dL_law_634 : decode cL_law 634 = .ok (.iload 6, 2) := by decide +kernel
theorem dL_law_636 : decode cL_law 636 = .ok (.i2l, 1) := by decide +kernel
theorem dL_law_637 : decode cL_law 637 = .ok (.lcmp, 1) := by decide +kernel
theorem dL_law_638 : decode cL_law 638 = .ok (.ifCond .eq 5, 3) := by decide +kernel
theorem dL_law_641 : decode cL_law 641 = .ok (.iconst 0, 1) := by decide +kernel
theorem dL_law_642 : decode cL_law 642 = .ok (.ireturn, 1) := by decide +kernel
theorem dL_law_643 : decode cL_law 643 = .ok (.goto 299, 3) := by decide +kernel
theorem dL_law_646 : decode cL_law 646 = .ok (.aload_n 1, 1) := by decide +kernel
theorem dL_law_647 : decode cL_law 647 = .ok (.aload_n 0, 1) := by decide +kernel
theorem dL_law_648 : decode cL_law 648 = .ok (.iload 4, 2) := by decide +kernel
theorem dL_law_650 : decode cL_law 650 = .ok (.iconst 1, 1) := by decide +kernel
theorem dL_law_651 : decode cL_law 651 = .ok (.iadd, 1) := by decide +kernel
theorem dL_law_652 : decode cL_law 652 = .ok (.iaload, 1) := by decide +kernel
theorem dL_law_653 : decode cL_law 653 = .ok (.invokevirtual 85, 3) := by decide +kernel
theorem dL_law_656 : decode cL_law 656 = .ok (.aload_n 2, 1) := by decide +kernel
theorem dL_law_657 : decode cL_law 657 = .ok (.aload_n 0, 1) := by decide +kernel
theorem dL_law_658 : decode cL_law 658 = .ok (.iload 4, 2) := by decide +kernel
theorem dL_law_660 : decode cL_law 660 = .ok (.iconst 1, 1) := by decide +kernel
theorem dL_law_661 : decode cL_law 661 = .ok (.iadd, 1) := by decide +kernel
theorem dL_law_662 : decode cL_law 662 = .ok (.iaload, 1) := by decide +kernel
theorem dL_law_663 : decode cL_law 663 = .ok (.invokevirtual 88, 3) := by decide +kernel
theorem dL_law_666 : decode cL_law 666 = .ok (.if_icmp .eq 276, 3) := by decide +kernel
theorem dL_law_669 : decode cL_law 669 = .ok (.iconst 0, 1) := by decide +kernel
theorem dL_law_670 : decode cL_law 670 = .ok (.ireturn, 1) := by decide +kernel
theorem dL_law_671 : decode cL_law 671 = .ok (.aload_n 1, 1) := by decide +kernel
theorem dL_law_672 : decode cL_law 672 = .ok (.aload_n 0, 1) := by decide +kernel
theorem dL_law_673 : decode cL_law 673 = .ok (.iload 4, 2) := by decide +kernel
theorem dL_law_675 : decode cL_law 675 = .ok (.iconst 1, 1) := by decide +kernel
theorem dL_law_676 : decode cL_law 676 = .ok (.iadd, 1) := by decide +kernel
theorem dL_law_677 : decode cL_law 677 = .ok (.iaload, 1) := by decide +kernel
theorem dL_law_678 : decode cL_law 678 = .ok (.aload_n 0, 1) := by decide +kernel
theorem dL_law_679 : decode cL_law 679 = .ok (.iload 4, 2) := by decide +kernel
theorem dL_law_681 : decode cL_law 681 = .ok (.iconst 2, 1) := by decide +kernel
theorem dL_law_682 : decode cL_law 682 = .ok (.iadd, 1) := by decide +kernel
theorem dL_law_683 : decode cL_law 683 = .ok (.iaload, 1) := by decide +kernel
theorem dL_law_684 : decode cL_law 684 = .ok (.invokevirtual 89, 3) := by decide +kernel
theorem dL_law_687 : decode cL_law 687 = .ok (.aload_n 2, 1) := by decide +kernel
theorem dL_law_688 : decode cL_law 688 = .ok (.aload_n 0, 1) := by decide +kernel
theorem dL_law_689 : decode cL_law 689 = .ok (.iload 4, 2) := by decide +kernel
theorem dL_law_691 : decode cL_law 691 = .ok (.iconst 1, 1) := by decide +kernel
theorem dL_law_692 : decode cL_law 692 = .ok (.iadd, 1) := by decide +kernel
theorem dL_law_693 : decode cL_law 693 = .ok (.iaload, 1) := by decide +kernel
theorem dL_law_694 : decode cL_law 694 = .ok (.aload_n 0, 1) := by decide +kernel
theorem dL_law_695 : decode cL_law 695 = .ok (.iload 4, 2) := by decide +kernel
theorem dL_law_697 : decode cL_law 697 = .ok (.iconst 2, 1) := by decide +kernel
theorem dL_law_698 : decode cL_law 698 = .ok (.iadd, 1) := by decide +kernel
theorem dL_law_699 : decode cL_law 699 = .ok (.iaload, 1) := by decide +kernel
theorem dL_law_700 : decode cL_law 700 = .ok (.invokevirtual 92, 3) := by decide +kernel
theorem dL_law_703 : decode cL_law 703 = .ok (.if_icmp .eq 239, 3) := by decide +kernel
theorem dL_law_706 : decode cL_law 706 = .ok (.iconst 0, 1) := by decide +kernel
theorem dL_law_707 : decode cL_law 707 = .ok (.ireturn, 1) := by decide +kernel
theorem dL_law_708 : decode cL_law 708 = .ok (.aload_n 1, 1) := by decide +kernel
theorem dL_law_709 : decode cL_law 709 = .ok (.aload_n 0, 1) := by decide +kernel
theorem dL_law_710 : decode cL_law 710 = .ok (.iload 4, 2) := by decide +kernel
theorem dL_law_712 : decode cL_law 712 = .ok (.iconst 1, 1) := by decide +kernel
theorem dL_law_713 : decode cL_law 713 = .ok (.iadd, 1) := by decide +kernel
theorem dL_law_714 : decode cL_law 714 = .ok (.iaload, 1) := by decide +kernel
theorem dL_law_715 : decode cL_law 715 = .ok (.invokevirtual 93, 3) := by decide +kernel
theorem dL_law_718 : decode cL_law 718 = .ok (.aload_n 2, 1) := by decide +kernel
theorem dL_law_719 : decode cL_law 719 = .ok (.aload_n 0, 1) := by decide +kernel
theorem dL_law_720 : decode cL_law 720 = .ok (.iload 4, 2) := by decide +kernel
theorem dL_law_722 : decode cL_law 722 = .ok (.iconst 1, 1) := by decide +kernel
theorem dL_law_723 : decode cL_law 723 = .ok (.iadd, 1) := by decide +kernel
theorem dL_law_724 : decode cL_law 724 = .ok (.iaload, 1) := by decide +kernel
theorem dL_law_725 : decode cL_law 725 = .ok (.invokevirtual 96, 3) := by decide +kernel
theorem dL_law_728 : decode cL_law 728 = .ok (.if_icmp .eq 214, 3) := by decide +kernel
theorem dL_law_731 : decode cL_law 731 = .ok (.iconst 0, 1) := by decide +kernel
theorem dL_law_732 : decode cL_law 732 = .ok (.ireturn, 1) := by decide +kernel
theorem dL_law_733 : decode cL_law 733 = .ok (.aload_n 1, 1) := by decide +kernel
theorem dL_law_734 : decode cL_law 734 = .ok (.aload_n 0, 1) := by decide +kernel
theorem dL_law_735 : decode cL_law 735 = .ok (.iload 4, 2) := by decide +kernel
theorem dL_law_737 : decode cL_law 737 = .ok (.iconst 1, 1) := by decide +kernel
theorem dL_law_738 : decode cL_law 738 = .ok (.iadd, 1) := by decide +kernel
theorem dL_law_739 : decode cL_law 739 = .ok (.iaload, 1) := by decide +kernel
theorem dL_law_740 : decode cL_law 740 = .ok (.invokevirtual 97, 3) := by decide +kernel
theorem dL_law_743 : decode cL_law 743 = .ok (.aload_n 2, 1) := by decide +kernel
theorem dL_law_744 : decode cL_law 744 = .ok (.aload_n 0, 1) := by decide +kernel
theorem dL_law_745 : decode cL_law 745 = .ok (.iload 4, 2) := by decide +kernel
theorem dL_law_747 : decode cL_law 747 = .ok (.iconst 1, 1) := by decide +kernel
theorem dL_law_748 : decode cL_law 748 = .ok (.iadd, 1) := by decide +kernel
theorem dL_law_749 : decode cL_law 749 = .ok (.iaload, 1) := by decide +kernel
theorem dL_law_750 : decode cL_law 750 = .ok (.invokevirtual 100, 3) := by decide +kernel
theorem dL_law_753 : decode cL_law 753 = .ok (.if_icmp .eq 189, 3) := by decide +kernel
theorem dL_law_756 : decode cL_law 756 = .ok (.iconst 0, 1) := by decide +kernel
theorem dL_law_757 : decode cL_law 757 = .ok (.ireturn, 1) := by decide +kernel
theorem dL_law_758 : decode cL_law 758 = .ok (.aload_n 1, 1) := by decide +kernel
theorem dL_law_759 : decode cL_law 759 = .ok (.aload_n 0, 1) := by decide +kernel
theorem dL_law_760 : decode cL_law 760 = .ok (.iload 4, 2) := by decide +kernel
theorem dL_law_762 : decode cL_law 762 = .ok (.iconst 1, 1) := by decide +kernel
theorem dL_law_763 : decode cL_law 763 = .ok (.iadd, 1) := by decide +kernel
theorem dL_law_764 : decode cL_law 764 = .ok (.iaload, 1) := by decide +kernel
theorem dL_law_765 : decode cL_law 765 = .ok (.aload_n 0, 1) := by decide +kernel
theorem dL_law_766 : decode cL_law 766 = .ok (.iload 4, 2) := by decide +kernel
theorem dL_law_768 : decode cL_law 768 = .ok (.iconst 2, 1) := by decide +kernel
theorem dL_law_769 : decode cL_law 769 = .ok (.iadd, 1) := by decide +kernel
theorem dL_law_770 : decode cL_law 770 = .ok (.iaload, 1) := by decide +kernel
theorem dL_law_771 : decode cL_law 771 = .ok (.aload_n 0, 1) := by decide +kernel
theorem dL_law_772 : decode cL_law 772 = .ok (.iload 4, 2) := by decide +kernel
theorem dL_law_774 : decode cL_law 774 = .ok (.iconst 3, 1) := by decide +kernel
theorem dL_law_775 : decode cL_law 775 = .ok (.iadd, 1) := by decide +kernel
theorem dL_law_776 : decode cL_law 776 = .ok (.iaload, 1) := by decide +kernel
theorem dL_law_777 : decode cL_law 777 = .ok (.aload_n 3, 1) := by decide +kernel
theorem dL_law_778 : decode cL_law 778 = .ok (.invokestatic 101, 3) := by decide +kernel
theorem dL_law_781 : decode cL_law 781 = .ok (.istore 5, 2) := by decide +kernel
theorem dL_law_783 : decode cL_law 783 = .ok (.aload_n 2, 1) := by decide +kernel
theorem dL_law_784 : decode cL_law 784 = .ok (.aload_n 0, 1) := by decide +kernel
theorem dL_law_785 : decode cL_law 785 = .ok (.iload 4, 2) := by decide +kernel
theorem dL_law_787 : decode cL_law 787 = .ok (.iconst 1, 1) := by decide +kernel
theorem dL_law_788 : decode cL_law 788 = .ok (.iadd, 1) := by decide +kernel
theorem dL_law_789 : decode cL_law 789 = .ok (.iaload, 1) := by decide +kernel
theorem dL_law_790 : decode cL_law 790 = .ok (.aload_n 0, 1) := by decide +kernel
theorem dL_law_791 : decode cL_law 791 = .ok (.iload 4, 2) := by decide +kernel
theorem dL_law_793 : decode cL_law 793 = .ok (.iconst 2, 1) := by decide +kernel
theorem dL_law_794 : decode cL_law 794 = .ok (.iadd, 1) := by decide +kernel
theorem dL_law_795 : decode cL_law 795 = .ok (.iaload, 1) := by decide +kernel
theorem dL_law_796 : decode cL_law 796 = .ok (.aload_n 0, 1) := by decide +kernel
theorem dL_law_797 : decode cL_law 797 = .ok (.iload 4, 2) := by decide +kernel
theorem dL_law_799 : decode cL_law 799 = .ok (.iconst 3, 1) := by decide +kernel
theorem dL_law_800 : decode cL_law 800 = .ok (.iadd, 1) := by decide +kernel
theorem dL_law_801 : decode cL_law 801 = .ok (.iaload, 1) := by decide +kernel
theorem dL_law_802 : decode cL_law 802 = .ok (.invokevirtual 104, 3) := by decide +kernel
theorem dL_law_805 : decode cL_law 805 = .ok (.lstore 6, 2) := by decide +kernel
theorem dL_law_807 : decode cL_law 807 = .ok (.aload_n 2, 1) := by decide +kernel
theorem dL_law_808 : decode cL_law 808 = .ok (.invokevirtual 81, 3) := by decide +kernel
theorem dL_law_811 : decode cL_law 811 = .ok (.iload 5, 2) := by decide +kernel
theorem dL_law_813 : decode cL_law 813 = .ok (.if_icmp .eq 5, 3) := by decide +kernel
theorem dL_law_816 : decode cL_law 816 = .ok (.iconst 0, 1) := by decide +kernel
theorem dL_law_817 : decode cL_law 817 = .ok (.ireturn, 1) := by decide +kernel
theorem dL_law_818 : decode cL_law 818 = .ok (.iload 5, 2) := by decide +kernel
theorem dL_law_820 : decode cL_law 820 = .ok (.ifCond .ne 14, 3) := by decide +kernel
theorem dL_law_823 : decode cL_law 823 = .ok (.aload_n 3, 1) := by decide +kernel
theorem dL_law_824 : decode cL_law 824 = .ok (.iconst 0, 1) := by decide +kernel
theorem dL_law_825 : decode cL_law 825 = .ok (.laload, 1) := by decide +kernel
theorem dL_law_826 : decode cL_law 826 = .ok (.lload 6, 2) := by decide +kernel
theorem dL_law_828 : decode cL_law 828 = .ok (.lcmp, 1) := by decide +kernel
theorem dL_law_829 : decode cL_law 829 = .ok (.ifCond .eq 5, 3) := by decide +kernel
theorem dL_law_832 : decode cL_law 832 = .ok (.iconst 0, 1) := by decide +kernel
theorem dL_law_833 : decode cL_law 833 = .ok (.ireturn, 1) := by decide +kernel
theorem dL_law_834 : decode cL_law 834 = .ok (.goto 108, 3) := by decide +kernel
theorem dL_law_837 : decode cL_law 837 = .ok (.aload_n 1, 1) := by decide +kernel
theorem dL_law_838 : decode cL_law 838 = .ok (.aload_n 0, 1) := by decide +kernel
theorem dL_law_839 : decode cL_law 839 = .ok (.iload 4, 2) := by decide +kernel
theorem dL_law_841 : decode cL_law 841 = .ok (.iconst 1, 1) := by decide +kernel
theorem dL_law_842 : decode cL_law 842 = .ok (.iadd, 1) := by decide +kernel
theorem dL_law_843 : decode cL_law 843 = .ok (.iaload, 1) := by decide +kernel
theorem dL_law_844 : decode cL_law 844 = .ok (.aload_n 3, 1) := by decide +kernel
theorem dL_law_845 : decode cL_law 845 = .ok (.invokestatic 105, 3) := by decide +kernel
theorem dL_law_848 : decode cL_law 848 = .ok (.istore 5, 2) := by decide +kernel
theorem dL_law_850 : decode cL_law 850 = .ok (.aload_n 2, 1) := by decide +kernel
theorem dL_law_851 : decode cL_law 851 = .ok (.aload_n 0, 1) := by decide +kernel
theorem dL_law_852 : decode cL_law 852 = .ok (.iload 4, 2) := by decide +kernel
theorem dL_law_854 : decode cL_law 854 = .ok (.iconst 1, 1) := by decide +kernel
theorem dL_law_855 : decode cL_law 855 = .ok (.iadd, 1) := by decide +kernel
theorem dL_law_856 : decode cL_law 856 = .ok (.iaload, 1) := by decide +kernel
theorem dL_law_857 : decode cL_law 857 = .ok (.invokevirtual 108, 3) := by decide +kernel
theorem dL_law_860 : decode cL_law 860 = .ok (.lstore 6, 2) := by decide +kernel
theorem dL_law_862 : decode cL_law 862 = .ok (.aload_n 2, 1) := by decide +kernel
theorem dL_law_863 : decode cL_law 863 = .ok (.invokevirtual 81, 3) := by decide +kernel
theorem dL_law_866 : decode cL_law 866 = .ok (.iload 5, 2) := by decide +kernel
theorem dL_law_868 : decode cL_law 868 = .ok (.if_icmp .eq 5, 3) := by decide +kernel
theorem dL_law_871 : decode cL_law 871 = .ok (.iconst 0, 1) := by decide +kernel
theorem dL_law_872 : decode cL_law 872 = .ok (.ireturn, 1) := by decide +kernel
theorem dL_law_873 : decode cL_law 873 = .ok (.iload 5, 2) := by decide +kernel
theorem dL_law_875 : decode cL_law 875 = .ok (.ifCond .ne 14, 3) := by decide +kernel
theorem dL_law_878 : decode cL_law 878 = .ok (.aload_n 3, 1) := by decide +kernel
theorem dL_law_879 : decode cL_law 879 = .ok (.iconst 0, 1) := by decide +kernel
theorem dL_law_880 : decode cL_law 880 = .ok (.laload, 1) := by decide +kernel
theorem dL_law_881 : decode cL_law 881 = .ok (.lload 6, 2) := by decide +kernel
theorem dL_law_883 : decode cL_law 883 = .ok (.lcmp, 1) := by decide +kernel
theorem dL_law_884 : decode cL_law 884 = .ok (.ifCond .eq 5, 3) := by decide +kernel
theorem dL_law_887 : decode cL_law 887 = .ok (.iconst 0, 1) := by decide +kernel
theorem dL_law_888 : decode cL_law 888 = .ok (.ireturn, 1) := by decide +kernel
theorem dL_law_889 : decode cL_law 889 = .ok (.goto 53, 3) := by decide +kernel
theorem dL_law_892 : decode cL_law 892 = .ok (.aload_n 1, 1) := by decide +kernel
theorem dL_law_893 : decode cL_law 893 = .ok (.aload_n 0, 1) := by decide +kernel
theorem dL_law_894 : decode cL_law 894 = .ok (.iload 4, 2) := by decide +kernel
theorem dL_law_896 : decode cL_law 896 = .ok (.iconst 1, 1) := by decide +kernel
theorem dL_law_897 : decode cL_law 897 = .ok (.iadd, 1) := by decide +kernel
theorem dL_law_898 : decode cL_law 898 = .ok (.iaload, 1) := by decide +kernel
theorem dL_law_899 : decode cL_law 899 = .ok (.invokevirtual 109, 3) := by decide +kernel
theorem dL_law_902 : decode cL_law 902 = .ok (.aload_n 2, 1) := by decide +kernel
theorem dL_law_903 : decode cL_law 903 = .ok (.aload_n 0, 1) := by decide +kernel
theorem dL_law_904 : decode cL_law 904 = .ok (.iload 4, 2) := by decide +kernel
theorem dL_law_906 : decode cL_law 906 = .ok (.iconst 1, 1) := by decide +kernel
theorem dL_law_907 : decode cL_law 907 = .ok (.iadd, 1) := by decide +kernel
theorem dL_law_908 : decode cL_law 908 = .ok (.iaload, 1) := by decide +kernel
theorem dL_law_909 : decode cL_law 909 = .ok (.invokevirtual 112, 3) := by decide +kernel
theorem dL_law_912 : decode cL_law 912 = .ok (.if_icmp .eq 30, 3) := by decide +kernel
theorem dL_law_915 : decode cL_law 915 = .ok (.iconst 0, 1) := by decide +kernel
theorem dL_law_916 : decode cL_law 916 = .ok (.ireturn, 1) := by decide +kernel
theorem dL_law_917 : decode cL_law 917 = .ok (.aload_n 1, 1) := by decide +kernel
theorem dL_law_918 : decode cL_law 918 = .ok (.aload_n 0, 1) := by decide +kernel
theorem dL_law_919 : decode cL_law 919 = .ok (.iload 4, 2) := by decide +kernel
theorem dL_law_921 : decode cL_law 921 = .ok (.iconst 1, 1) := by decide +kernel
theorem dL_law_922 : decode cL_law 922 = .ok (.iadd, 1) := by decide +kernel
theorem dL_law_923 : decode cL_law 923 = .ok (.iaload, 1) := by decide +kernel
theorem dL_law_924 : decode cL_law 924 = .ok (.invokevirtual 113, 3) := by decide +kernel
theorem dL_law_927 : decode cL_law 927 = .ok (.aload_n 2, 1) := by decide +kernel
theorem dL_law_928 : decode cL_law 928 = .ok (.aload_n 0, 1) := by decide +kernel
theorem dL_law_929 : decode cL_law 929 = .ok (.iload 4, 2) := by decide +kernel
theorem dL_law_931 : decode cL_law 931 = .ok (.iconst 1, 1) := by decide +kernel
theorem dL_law_932 : decode cL_law 932 = .ok (.iadd, 1) := by decide +kernel
theorem dL_law_933 : decode cL_law 933 = .ok (.iaload, 1) := by decide +kernel
theorem dL_law_934 : decode cL_law 934 = .ok (.invokevirtual 116, 3) := by decide +kernel
theorem dL_law_937 : decode cL_law 937 = .ok (.if_icmp .eq 5, 3) := by decide +kernel
theorem dL_law_940 : decode cL_law 940 = .ok (.iconst 0, 1) := by decide +kernel
theorem dL_law_941 : decode cL_law 941 = .ok (.ireturn, 1) := by decide +kernel
theorem dL_law_942 : decode cL_law 942 = .ok (.iinc 4 5, 3) := by decide +kernel
theorem dL_law_945 : decode cL_law 945 = .ok (.goto (-922), 3) := by decide +kernel
theorem dL_law_948 : decode cL_law 948 = .ok (.iconst 1, 1) := by decide +kernel
theorem dL_law_949 : decode cL_law 949 = .ok (.ireturn, 1) := by decide +kernel
end
section
/-! abstract worlds: a heap is a list of cells, a reference is a place in it -/
abbrev aw_Cel : Type := (Nat × vp_A) ⊕ (Nat × List Value)
abbrev aw_H : Type := List aw_Cel
abbrev aw_L : Type := List (Option Value)
abbrev aw_Kt : Type := aw_L → List Value → aw_H → Prop
abbrev aw_M : Type := MethodName × ByteArray × Nat × Option FieldType
def aw_g {α : Type} : List α → Nat → Option α
  | [], _ => none
  | a :: _, 0 => some a
  | _ :: r, n + 1 => aw_g r n
def aw_s {α : Type} : List α → Nat → α → List α
  | [], _, _ => []
  | _ :: r, 0, x => x :: r
  | a :: r, n + 1, x => a :: aw_s r n x
theorem aw_g_eq {α : Type} : ∀ (l : List α) (i : Nat), aw_g l i = l[i]?
  | [], i => by simp [aw_g]
  | a :: r, 0 => by simp [aw_g]
  | a :: r, n + 1 => by simp [aw_g, aw_g_eq r n]
theorem aw_s_eq {α : Type} : ∀ (l : List α) (i : Nat) (x : α), aw_s l i x = l.set i x
  | [], i, x => by simp [aw_s]
  | a :: r, 0, x => by simp [aw_s]
  | a :: r, n + 1, x => by simp [aw_s, aw_s_eq r n x]
theorem aw_s_len {α : Type} (l : List α) (i : Nat) (x : α) : (aw_s l i x).length = l.length := by rw [aw_s_eq, List.length_set]
def aw_cv (ad : Nat → Nat) : Value → Value
  | .ref k => .ref (ad k)
  | v => v
theorem aw_cv_cat (ad : Nat → Nat) (v : Value) : (aw_cv ad v).category = v.category := by cases v <;> rfl
def aw_cb (ad : Nat → Nat) : ((Nat → Int32) ⊕ (Nat → Int64) ⊕ (Nat → UInt32) ⊕ (Nat → UInt64) ⊕ (Nat → Option Nat)) → ((Nat → Int32) ⊕ (Nat → Int64) ⊕ (Nat → UInt32) ⊕ (Nat → UInt64) ⊕ (Nat → Option Nat))
  | .inr (.inr (.inr (.inr f))) => .inr (.inr (.inr (.inr (fun i => (f i).map ad))))
  | x => x
def aw_ca (ad : Nat → Nat) (a : vp_A) : vp_A := (a.1, aw_cb ad a.2)
def aw_ce (ad : Nat → Nat) (cA : Nat → ClassId) : aw_Cel → va_E
  | .inl (t, a) => .inl (cA t, aw_ca ad a)
  | .inr (ci, fs) => .inr (ci, fs.map (aw_cv ad))
def aw_cn (ad : Nat → Nat) (cA : Nat → ClassId) : Nat → aw_H → va_W
  | _, [] => []
  | k, c :: r => (ad k, aw_ce ad cA c) :: aw_cn ad cA (k + 1) r
theorem aw_cn_get (ad : Nat → Nat) (cA : Nat → ClassId) : ∀ (C : aw_H) (k i : Nat), (aw_cn ad cA k C)[i]? = (aw_g C i).map (fun c => (ad (k + i), aw_ce ad cA c))
  | [], k, i => by simp [aw_cn, aw_g]
  | c :: r, k, 0 => by simp [aw_cn, aw_g]
  | c :: r, k, i + 1 => by
    simp only [aw_cn, aw_g, List.getElem?_cons_succ]
    rw [aw_cn_get ad cA r (k + 1) i, show k + 1 + i = k + (i + 1) by omega]
theorem aw_cn_set (ad : Nat → Nat) (cA : Nat → ClassId) : ∀ (C : aw_H) (k i : Nat) (c : aw_Cel), aw_cn ad cA k (aw_s C i c) = (aw_cn ad cA k C).set i (ad (k + i), aw_ce ad cA c)
  | [], k, i, c => by simp [aw_cn, aw_s]
  | a :: r, k, 0, c => by simp [aw_cn, aw_s]
  | a :: r, k, i + 1, c => by
    simp only [aw_cn, aw_s, List.set_cons_succ]
    rw [aw_cn_set ad cA r (k + 1) i, show k + 1 + i = k + (i + 1) by omega]
theorem aw_at {ad : Nat → Nat} {cA : Nat → ClassId} {C : aw_H} {i : Nat} {c : aw_Cel} (h : aw_g C i = some c) : (aw_cn ad cA 0 C)[i]? = some (ad i, aw_ce ad cA c) := by
  rw [aw_cn_get, h, Nat.zero_add]
  rfl
theorem aw_lt {α : Type} {l : List α} {i : Nat} {c : α} (h : aw_g l i = some c) : i < l.length := by
  rw [aw_g_eq] at h
  exact (List.getElem?_eq_some_iff.mp h).1
/-- which addresses a method may write -/
def aw_A (ad : Nat → Nat) (N sz : Nat) : Nat → Prop := fun q => (∃ k, k < N ∧ q = ad k) ∨ sz ≤ q
def aw_J (ad : Nat → Nat) (N : Nat) : Prop := ∀ i j : Nat, i < N → j < N → ad i = ad j → i = j
theorem aw_D {ad : Nat → Nat} {cA : Nat → ClassId} {C : aw_H} {N sz : Nat} (hJ : aw_J ad N) (hN : C.length = N) : va_D (aw_A ad N sz) (aw_cn ad cA 0 C) := by
  have key : ∀ (k : Nat) (q : Nat × va_E), (aw_cn ad cA 0 C)[k]? = some q → k < N ∧ q.1 = ad k := by
    intro k q h
    rw [aw_cn_get] at h
    cases hg : aw_g C k with
    | none => rw [hg] at h; cases h
    | some c =>
      rw [hg] at h
      have e := (Option.some.inj h).symm
      subst e
      exact ⟨by rw [← hN]; exact aw_lt hg, by simp⟩
  refine ⟨fun i j x y hi hj hxy => ?_, fun k q hk => ?_⟩
  · obtain ⟨a1, a2⟩ := key i x hi
    obtain ⟨b1, b2⟩ := key j y hj
    exact hJ i j a1 b1 (by rw [← a2, ← b2]; exact hxy)
  · obtain ⟨a1, a2⟩ := key k q hk
    exact Or.inl ⟨k, a1, a2⟩
abbrev aw_cl : List vw_C := [(RX0, TX0, 6), (RX1, TX1, 7), (RX2, TX2, 5), (RX3, TX3, 9), (RX4, TX4, 20)]
def aw_ty (cA : Nat → ClassId) : List (ClassId × FieldType) := [(cA 0, .int), (cA 1, .boolean), (cA 2, .long), (cA 3, .array .int)]
/-- the words that all methods are given -/
def aw_B : List Jvm.Cond := lw_tbl.filter goodWord
theorem aw_in {w : Jvm.Cond} (h : w ∈ lw_tbl) (g : goodWord w = true) : w ∈ aw_B := List.mem_filter.mpr ⟨h, g⟩
theorem aw_B_good : ∀ w ∈ aw_B, goodWord w = true := fun w h => (List.mem_filter.mp h).2
def aw_ws (M : aw_M) : List Jvm.Cond := Jvm.Cond.code M.1 M.2.1 M.2.2.1 M.2.2.2 :: aw_B
theorem aw_GI {M : aw_M} (h : Jvm.Cond.code M.1 M.2.1 M.2.2.1 M.2.2.2 ∈ aw_B) : GoodIn aw_B (aw_ws M) := by
  intro w hw
  rcases List.mem_cons.mp hw with e | e
  · rw [e]
    exact ⟨h, good_of_word (aw_B_good _ h)⟩
  · exact ⟨e, good_of_word (aw_B_good _ e)⟩
def aw_rm (d : Nat) : Room := { frames := d, cells := 0, slots := 0, locals := 60 * d }
abbrev aw_n1 : Jvm.Cond := .methodLinkNest RX1 46 yX3_isPlace "LabelPeople"
abbrev aw_n2 : Jvm.Cond := .methodLinkNest RX0 51 yX3_isLabel "LabelPeople"
def aw_K (D : va_G) (cA : Nat → ClassId) (U : State) : Prop := va_K D aw_cl (aw_ty cA) U ∧ va_Nw aw_n1 U ∧ va_Nw aw_n2 U
theorem aw_K.warm {D : va_G} {cA : Nat → ClassId} {s U : State} (hW : s.WarmedH U.vm) (h : aw_K D cA s) : aw_K D cA U := ⟨va_K.moved hW.alike h.1, va_Nw.warmM hW h.2.1, va_Nw.warmM hW h.2.2⟩
theorem aw_K.same {D : va_G} {cA : Nat → ClassId} {s U : State} (e : s.vm = U.vm) (h : aw_K D cA s) : aw_K D cA U := ⟨va_K.moved (by rw [← e]; exact Vm.Alike.refl _) h.1, va_Nw.same rfl e h.2.1, va_Nw.same rfl e h.2.2⟩
def aw_Q (Q : Option Value → aw_H → Prop) (D : va_G) (cA : Nat → ClassId) (ad : Nat → Nat) (N sz : Nat) : Array Value → State → Outcome → State → Prop := fun _ st oc t =>
  ∃ (v : Option Value) (C : aw_H), oc = .returned (v.map (aw_cv ad)) ∧ Q v C ∧ C.length = N ∧ va_P D aw_cl (aw_cn ad cA 0 C) t.heap ∧ va_F (aw_A ad N sz) st t
def aw_P (av : List Value) (C : aw_H) (D : va_G) (cA : Nat → ClassId) (ad : Nat → Nat) (sz : Nat) : Array Value → State → Prop := va_Pc (av.map (aw_cv ad)) (fun U => U.heap.size = sz ∧ va_P D aw_cl (aw_cn ad cA 0 C) U.heap ∧ aw_K D cA U)
/-- a method's contract at arguments and a world: it ends, with Q -/
def SMet (l : Launch) (M : aw_M) (d : Nat) (av : List Value) (C : aw_H) (Q : Option Value → aw_H → Prop) : Prop :=
  ∀ (D : va_G) (cA : Nat → ClassId) (ad : Nat → Nat) (N sz : Nat), C.length = N → aw_J ad N → Met l M.1 (aw_ws M) (aw_rm d) (aw_P av C D cA ad sz) (aw_Q Q D cA ad N sz) 0 0 (aw_A ad N sz)
theorem aw_blind (av : List Value) (C : aw_H) (D : va_G) (cA : Nat → ClassId) (ad : Nat → Nat) (sz : Nat) : FrameBlind (aw_P av C D cA ad sz) := by
  intro a U g mk h
  obtain ⟨q0, q1, qP, qK⟩ := h
  exact ⟨q0, q1, qP, aw_K.same rfl qK⟩
def aw_al (ad : Nat → Nat) : Nat → aw_L → List (Nat × Value)
  | _, [] => []
  | k, some v :: r => (k, aw_cv ad v) :: aw_al ad (k + 1) r
  | k, none :: r => aw_al ad (k + 1) r
theorem aw_al_mem (ad : Nat → Nat) : ∀ (L : aw_L) (k : Nat) (q : Nat × Value), q ∈ aw_al ad k L ↔ ∃ (i : Nat) (v : Value), aw_g L i = some (some v) ∧ q = (k + i, aw_cv ad v)
  | [], k, q => by simp [aw_al, aw_g]
  | some v :: r, k, q => by
    simp only [aw_al, List.mem_cons]
    rw [aw_al_mem ad r (k + 1) q]
    constructor
    · rintro (h | ⟨i, w, h1, h2⟩)
      · exact ⟨0, v, rfl, h⟩
      · exact ⟨i + 1, w, h1, by rw [h2, show k + 1 + i = k + (i + 1) by omega]⟩
    · rintro ⟨i, w, h1, h2⟩
      cases i with
      | zero =>
        cases h1
        exact Or.inl h2
      | succ i => exact Or.inr ⟨i, w, h1, by rw [h2, show k + 1 + i = k + (i + 1) by omega]⟩
  | none :: r, k, q => by
    simp only [aw_al]
    rw [aw_al_mem ad r (k + 1) q]
    constructor
    · rintro ⟨i, w, h1, h2⟩
      exact ⟨i + 1, w, h1, by rw [h2, show k + 1 + i = k + (i + 1) by omega]⟩
    · rintro ⟨i, w, h1, h2⟩
      cases i with
      | zero => cases h1
      | succ i => exact ⟨i, w, h1, by rw [h2, show k + 1 + i = k + (i + 1) by omega]⟩
def aw_kl : Option Value → Option Value
  | some (.long _) => none
  | some (.double _) => none
  | a => a
def aw_kz : Nat → Option Value → Option Value
  | 0, a => aw_kl a
  | _ + 1, a => a
def aw_l1 : aw_L → Nat → Value → aw_L
  | [], _, _ => []
  | _ :: r, 0, v => some v :: r
  | a :: r, n + 1, v => aw_kz n a :: aw_l1 r n v
def aw_hd : aw_L → aw_L
  | [] => []
  | _ :: r => none :: r
def aw_l2 : aw_L → Nat → Value → aw_L
  | [], _, _ => []
  | _ :: r, 0, v => some v :: aw_hd r
  | a :: r, n + 1, v => aw_kz n a :: aw_l2 r n v
theorem aw_kl_some {a : Option Value} {u : Value} (h : aw_kl a = some u) : a = some u ∧ u.category ≠ 2 := by
  cases a with
  | none => cases h
  | some w => cases w <;> simp [aw_kl] at h <;> subst h <;> simp [Value.category]
theorem aw_l1_get : ∀ (L : aw_L) (i : Nat) (v : Value) (j : Nat) (u : Value), aw_g (aw_l1 L i v) j = some (some u) → (j = i ∧ u = v) ∨ (j ≠ i ∧ aw_g L j = some (some u) ∧ (j + 1 = i → u.category ≠ 2))
  | [], i, v, j, u, h => by simp [aw_l1, aw_g] at h
  | a :: r, 0, v, j, u, h => by
    cases j with
    | zero =>
      simp [aw_l1, aw_g] at h
      exact Or.inl ⟨rfl, h.symm⟩
    | succ j => exact Or.inr ⟨by omega, h, by omega⟩
  | a :: r, n + 1, v, j, u, h => by
    cases j with
    | zero =>
      simp only [aw_l1, aw_g, Option.some.injEq] at h
      cases n with
      | zero =>
        obtain ⟨h1, h2⟩ := aw_kl_some h
        exact Or.inr ⟨by omega, by rw [h1]; rfl, fun _ => h2⟩
      | succ n =>
        refine Or.inr ⟨by omega, ?_, by omega⟩
        have h' : a = some u := h
        rw [h']
        rfl
    | succ j =>
      rcases aw_l1_get r n v j u h with ⟨h1, h2⟩ | ⟨h1, h2, h3⟩
      · exact Or.inl ⟨by omega, h2⟩
      · exact Or.inr ⟨by omega, h2, fun e => h3 (by omega)⟩
theorem aw_hd_get {r : aw_L} {j : Nat} {u : Value} (h : aw_g (aw_hd r) j = some (some u)) : j ≠ 0 ∧ aw_g r j = some (some u) := by
  cases r with
  | nil => cases j <;> cases h
  | cons a r =>
    cases j with
    | zero => cases h
    | succ j => exact ⟨by omega, h⟩
theorem aw_l2_get : ∀ (L : aw_L) (i : Nat) (v : Value) (j : Nat) (u : Value), aw_g (aw_l2 L i v) j = some (some u) → (j = i ∧ u = v) ∨ (j ≠ i ∧ j ≠ i + 1 ∧ aw_g L j = some (some u) ∧ (j + 1 = i → u.category ≠ 2))
  | [], i, v, j, u, h => by simp [aw_l2, aw_g] at h
  | a :: r, 0, v, j, u, h => by
    cases j with
    | zero =>
      simp [aw_l2, aw_g] at h
      exact Or.inl ⟨rfl, h.symm⟩
    | succ j =>
      obtain ⟨h1, h2⟩ := aw_hd_get (r := r) h
      exact Or.inr ⟨by omega, by omega, h2, by omega⟩
  | a :: r, n + 1, v, j, u, h => by
    cases j with
    | zero =>
      simp only [aw_l2, aw_g, Option.some.injEq] at h
      cases n with
      | zero =>
        obtain ⟨h1, h2⟩ := aw_kl_some h
        exact Or.inr ⟨by omega, by omega, by rw [h1]; rfl, fun _ => h2⟩
      | succ n =>
        refine Or.inr ⟨by omega, by omega, ?_, by omega⟩
        have h' : a = some u := h
        rw [h']
        rfl
    | succ j =>
      rcases aw_l2_get r n v j u h with ⟨h1, h2⟩ | ⟨h1, h2, h3, h4⟩
      · exact Or.inl ⟨by omega, h2⟩
      · exact Or.inr ⟨by omega, by omega, h3, fun e => h4 (by omega)⟩
theorem aw_st1 {ad : Nat → Nat} {ls : Array Slot} {nL : Nat} {L : aw_L} {i : Nat} {v : Value} (h : lv_has ls nL ((i, aw_cv ad v) :: (aw_al ad 0 L).filter (fun q => !(q.1 == i) && !(q.1 + 1 == i && q.2.category == 2)))) : lv_has ls nL (aw_al ad 0 (aw_l1 L i v)) := by
  refine ⟨h.1, h.2.1, fun q hq => h.2.2 q ?_⟩
  obtain ⟨j, u, h1, rfl⟩ := (aw_al_mem ad _ 0 q).mp hq
  rcases aw_l1_get L i v j u h1 with ⟨e1, e2⟩ | ⟨e1, e2, e3⟩
  · subst e1; subst e2
    simp
  · refine List.mem_cons_of_mem _ (List.mem_filter.mpr ⟨(aw_al_mem ad _ 0 _).mpr ⟨j, u, e2, rfl⟩, ?_⟩)
    rw [aw_cv_cat]
    by_cases e : j + 1 = i
    · simp [e1, e3 e]
    · simp [e1, e]
theorem aw_st2 {ad : Nat → Nat} {ls : Array Slot} {nL : Nat} {L : aw_L} {i : Nat} {v : Value} (h : lv_has ls nL ((i, aw_cv ad v) :: (aw_al ad 0 L).filter (fun q => !(q.1 == i) && (!(q.1 == i + 1) && !(q.1 + 1 == i && q.2.category == 2))))) : lv_has ls nL (aw_al ad 0 (aw_l2 L i v)) := by
  refine ⟨h.1, h.2.1, fun q hq => h.2.2 q ?_⟩
  obtain ⟨j, u, h1, rfl⟩ := (aw_al_mem ad _ 0 q).mp hq
  rcases aw_l2_get L i v j u h1 with ⟨e1, e2⟩ | ⟨e1, e0, e2, e3⟩
  · subst e1; subst e2
    simp
  · refine List.mem_cons_of_mem _ (List.mem_filter.mpr ⟨(aw_al_mem ad _ 0 _).mpr ⟨j, u, e2, rfl⟩, ?_⟩)
    rw [aw_cv_cat]
    by_cases e : j + 1 = i
    · simp [e1, e0, e3 e]
    · simp [e1, e0, e]
def aw_lg (L : aw_L) (i : Nat) : Option Value := match aw_g L i with
  | some (some v) => some v
  | _ => none
theorem aw_lg_at {ad : Nat → Nat} {ls : Array Slot} {nL : Nat} {L : aw_L} {i : Nat} {v : Value} (hl : lv_has ls nL (aw_al ad 0 L)) (h : aw_lg L i = some v) : ls[i]? = some (.val (aw_cv ad v)) := by
  unfold aw_lg at h
  split at h
  next w hw =>
    have e := Option.some.inj h
    subst e
    have := hl.2.2 (0 + i, aw_cv ad w) ((aw_al_mem ad _ 0 _).mpr ⟨i, w, hw, rfl⟩)
    simpa using this
  next => cases h
def aw_St (D : va_G) (cA : Nat → ClassId) (ad : Nat → Nat) (N : Nat) (s : State) (C : aw_H) (H : Heap) (locs : List Loc) : Prop := C.length = N ∧ va_P D aw_cl (aw_cn ad cA 0 C) H ∧ va_S (aw_A ad N s.heap.size) s.heap H locs
/-- how a method gives its answer back -/
def aw_R (r : Option FieldType) (v : Option Value) (i : Instr) : Prop := (∃ (x : Int32) (ty : FieldType), r = some ty ∧ v = some (.int x) ∧ i = .ireturn ∧ narrow ty (.int x) = .int x) ∨ (∃ x : Int64, r = some .long ∧ v = some (.long x) ∧ i = .lreturn) ∨ (r = none ∧ v = none ∧ i = .return_)
def aw_X (xl : Option (Nat × (Nat → Int32))) (ad : Nat → Nat) (N : Nat) (s : State) : Prop := ∀ q, xl = some q → va_X (ad 1000) q.1 q.2 s s.heap ∧ ad 1000 < s.heap.size ∧ (∀ k, k < N → ad k ≠ ad 1000) ∧ q.1 < 2 ^ 31
def aw_G (l : Launch) (M : aw_M) (xl : Option (Nat × (Nat → Int32))) (X : Nat → aw_Kt) (d kc ks : Nat) (Q : Option Value → aw_H → Prop) (p : Program) (e : Env) (R : Room) (s : State) (m : MethodId) (args : Array Value) (below : List Frame) (meth : Method) (c : Code) (D : va_G) (cA : Nat → ClassId) (ad : Nat → Nat) (N : Nat) (Z : State → Prop) : Prop :=
  (p.tables.exec = Jvm.exec ∧ c.code = M.2.1 ∧ c.maxLocals = M.2.2.1 ∧ s.vm.findClass M.1.cls = some m.cls ∧ (∀ w ∈ aw_B, w.before args s = true)) ∧ (d ≤ R.frames ∧ 60 * d ≤ R.locals ∧ kc ≤ R.cells ∧ ks ≤ R.slots) ∧ aw_K D cA s ∧ aw_J ad N ∧ aw_X xl ad N s ∧
  (∀ (v : Option Value) (C : aw_H) (H : Heap) (locs : List Loc) (pc : Nat) (ls : Array Slot) (i : Instr), aw_R M.2.2.2 v i → Q v C → aw_St D cA ad N s C H locs → decode M.2.1 pc = .ok (i, 1) → W p l e R s m args below meth c H locs kc ks Z (F0 m pc ls (v.toList.map (aw_cv ad)))) ∧
  ∀ (pc : Nat) (L : aw_L) (st : List Value) (C : aw_H) (H : Heap) (locs : List Loc) (ls : Array Slot), X pc L st C → aw_St D cA ad N s C H locs → lv_has ls M.2.2.1 (aw_al ad 0 L) → W p l e R s m args below meth c H locs kc ks Z (F0 m pc ls (st.map (aw_cv ad)))
/-- the machine at pc, with these locals, this stack and this world, comes to the method's end with Q -/
def SW (l : Launch) (M : aw_M) (xl : Option (Nat × (Nat → Int32))) (X : Nat → aw_Kt) (d kc ks : Nat) (Q : Option Value → aw_H → Prop) (pc : Nat) (L : aw_L) (st : List Value) (C : aw_H) : Prop :=
  ∀ (p : Program) (e : Env) (R : Room) (s : State) (m : MethodId) (args : Array Value) (below : List Frame) (meth : Method) (c : Code) (D : va_G) (cA : Nat → ClassId) (ad : Nat → Nat) (N : Nat) (Z : State → Prop), aw_G l M xl X d kc ks Q p e R s m args below meth c D cA ad N Z →
  ∀ (H : Heap) (locs : List Loc) (ls : Array Slot), aw_St D cA ad N s C H locs → lv_has ls M.2.2.1 (aw_al ad 0 L) → W p l e R s m args below meth c H locs kc ks Z (F0 m pc ls (st.map (aw_cv ad)))
def aw_Sn (l : Launch) (M : aw_M) (xl : Option (Nat × (Nat → Int32))) (X : Nat → aw_Kt) (d kc ks : Nat) (Q : Option Value → aw_H → Prop) (pc : Nat) (k : aw_Kt) : Prop := ∀ (L : aw_L) (st : List Value) (C : aw_H), k L st C → SW l M xl X d kc ks Q pc L st C
/-! taking values off the stack, cells out of the world -/
def p_i (st : List Value) (k : Int32 → List Value → Prop) : Prop := match st with
  | .int x :: r => k x r
  | _ => False
theorem e_i {st : List Value} {k : Int32 → List Value → Prop} (h : p_i st k) : ∃ x r, st = .int x :: r ∧ k x r := by
  unfold p_i at h
  split at h
  next x r => exact ⟨x, r, rfl, h⟩
  next => exact h.elim
def p_l (st : List Value) (k : Int64 → List Value → Prop) : Prop := match st with
  | .long x :: r => k x r
  | _ => False
theorem e_l {st : List Value} {k : Int64 → List Value → Prop} (h : p_l st k) : ∃ x r, st = .long x :: r ∧ k x r := by
  unfold p_l at h
  split at h
  next x r => exact ⟨x, r, rfl, h⟩
  next => exact h.elim
def p_a (st : List Value) (k : Nat → List Value → Prop) : Prop := match st with
  | .ref x :: r => k x r
  | _ => False
theorem e_a {st : List Value} {k : Nat → List Value → Prop} (h : p_a st k) : ∃ x r, st = .ref x :: r ∧ k x r := by
  unfold p_a at h
  split at h
  next x r => exact ⟨x, r, rfl, h⟩
  next => exact h.elim
def p_t (b : Bool) (k : Prop) : Prop := match b with
  | true => k
  | false => False
theorem e_t {b : Bool} {k : Prop} (h : p_t b k) : b = true ∧ k := by
  cases b with
  | true => exact ⟨rfl, h⟩
  | false => exact h.elim
def p_v (st : List Value) (k : Value → List Value → Prop) : Prop := match st with
  | .int x :: r => k (.int x) r
  | .ref x :: r => k (.ref x) r
  | _ => False
theorem e_v {st : List Value} {k : Value → List Value → Prop} (h : p_v st k) : ∃ x r, st = x :: r ∧ x.category = 1 ∧ k x r := by
  unfold p_v at h
  split at h
  next x r => exact ⟨.int x, r, rfl, rfl, h⟩
  next x r => exact ⟨.ref x, r, rfl, rfl, h⟩
  next => exact h.elim
def p_o (C : aw_H) (a ci : Nat) (k : List Value → Prop) : Prop := match aw_g C a with
  | some (.inr (c, fs)) => p_t (Nat.beq c ci) (k fs)
  | _ => False
theorem e_o {C : aw_H} {a ci : Nat} {k : List Value → Prop} (h : p_o C a ci k) : ∃ fs, aw_g C a = some (.inr (ci, fs)) ∧ k fs := by
  unfold p_o at h
  split at h
  next c fs hg =>
    obtain ⟨h1, h2⟩ := e_t h
    have := Nat.eq_of_beq_eq_true h1
    subst this
    exact ⟨fs, hg, h2⟩
  next => exact h.elim
def p_r (C : aw_H) (a t : Nat) (k : Nat → (Nat → Int32) → Prop) : Prop := match aw_g C a with
  | some (.inl (u, n, .inl f)) => p_t (Nat.beq u t && Nat.ble n 100000) (k n f)
  | _ => False
theorem e_r {C : aw_H} {a t : Nat} {k : Nat → (Nat → Int32) → Prop} (h : p_r C a t k) : ∃ n f, aw_g C a = some (.inl (t, n, .inl f)) ∧ n ≤ 100000 ∧ k n f := by
  unfold p_r at h
  split at h
  next u n f hg =>
    obtain ⟨h1, h2⟩ := e_t h
    rw [Bool.and_eq_true] at h1
    have := Nat.eq_of_beq_eq_true h1.1
    subst this
    exact ⟨n, f, hg, Nat.le_of_ble_eq_true h1.2, h2⟩
  next => exact h.elim
def p_rl (C : aw_H) (a : Nat) (k : Nat → (Nat → Int64) → Prop) : Prop := match aw_g C a with
  | some (.inl (u, n, .inr (.inl f))) => p_t (Nat.beq u 2 && Nat.ble n 100000) (k n f)
  | _ => False
theorem e_rl {C : aw_H} {a : Nat} {k : Nat → (Nat → Int64) → Prop} (h : p_rl C a k) : ∃ n f, aw_g C a = some (.inl (2, n, .inr (.inl f))) ∧ n ≤ 100000 ∧ k n f := by
  unfold p_rl at h
  split at h
  next u n f hg =>
    obtain ⟨h1, h2⟩ := e_t h
    rw [Bool.and_eq_true] at h1
    have := Nat.eq_of_beq_eq_true h1.1
    subst this
    exact ⟨n, f, hg, Nat.le_of_ble_eq_true h1.2, h2⟩
  next => exact h.elim
def p_ra (C : aw_H) (a : Nat) (k : Nat → (Nat → Option Nat) → Prop) : Prop := match aw_g C a with
  | some (.inl (u, n, .inr (.inr (.inr (.inr f))))) => p_t (Nat.beq u 3 && Nat.ble n 100000) (k n f)
  | _ => False
theorem e_ra {C : aw_H} {a : Nat} {k : Nat → (Nat → Option Nat) → Prop} (h : p_ra C a k) : ∃ n f, aw_g C a = some (.inl (3, n, .inr (.inr (.inr (.inr f))))) ∧ n ≤ 100000 ∧ k n f := by
  unfold p_ra at h
  split at h
  next u n f hg =>
    obtain ⟨h1, h2⟩ := e_t h
    rw [Bool.and_eq_true] at h1
    have := Nat.eq_of_beq_eq_true h1.1
    subst this
    exact ⟨n, f, hg, Nat.le_of_ble_eq_true h1.2, h2⟩
  next => exact h.elim
def p_f {α : Type} (o : Option α) (k : α → Prop) : Prop := match o with
  | some v => k v
  | none => False
theorem e_f {α : Type} {o : Option α} {k : α → Prop} (h : p_f o k) : ∃ v, o = some v ∧ k v := by
  cases o with
  | none => exact h.elim
  | some v => exact ⟨v, rfl, h⟩
def p_fi (o : Option Value) (k : Int32 → Prop) : Prop := match o with
  | some (.int v) => k v
  | _ => False
theorem e_fi {o : Option Value} {k : Int32 → Prop} (h : p_fi o k) : ∃ v, o = some (.int v) ∧ k v := by
  unfold p_fi at h
  split at h
  next v => exact ⟨v, rfl, h⟩
  next => exact h.elim
def p_fl (o : Option Value) (k : Int64 → Prop) : Prop := match o with
  | some (.long v) => k v
  | _ => False
theorem e_fl {o : Option Value} {k : Int64 → Prop} (h : p_fl o k) : ∃ v, o = some (.long v) ∧ k v := by
  unfold p_fl at h
  split at h
  next v => exact ⟨v, rfl, h⟩
  next => exact h.elim
def p_fa (o : Option Value) (k : Nat → Prop) : Prop := match o with
  | some (.ref v) => k v
  | _ => False
theorem e_fa {o : Option Value} {k : Nat → Prop} (h : p_fa o k) : ∃ v, o = some (.ref v) ∧ k v := by
  unfold p_fa at h
  split at h
  next v => exact ⟨v, rfl, h⟩
  next => exact h.elim
def aw_pop : Nat → List Value → List Value → Option (List Value × List Value)
  | 0, acc, st => some (acc, st)
  | n + 1, acc, v :: st => aw_pop n (v :: acc) st
  | _ + 1, _, [] => none
theorem aw_pop_eq : ∀ (n : Nat) (acc st as r : List Value), aw_pop n acc st = some (as, r) → as.length = acc.length + n ∧ acc.reverse ++ st = as.reverse ++ r
  | 0, acc, st, as, r, h => by
    cases h
    exact ⟨rfl, rfl⟩
  | n + 1, acc, v :: st, as, r, h => by
    obtain ⟨h1, h2⟩ := aw_pop_eq n (v :: acc) st as r h
    refine ⟨by rw [h1]; simp; omega, ?_⟩
    rw [← h2]
    simp
  | n + 1, acc, [], as, r, h => by cases h
def aw_cs : List Value → Nat
  | [] => 0
  | v :: r => v.category + aw_cs r
theorem aw_cs_eq (ad : Nat → Nat) : ∀ r : List Value, ((r.map (aw_cv ad)).map fun v => v.category).sum = aw_cs r
  | [] => rfl
  | v :: r => by
    simp only [List.map_cons, List.sum_cons, aw_cs]
    rw [aw_cs_eq ad r, aw_cv_cat]
end
section
/-! the instructions: what each asks and does (o_..), and that the machine does so (s_..) -/
section AWO
variable {l : Launch} {M : aw_M} {xl : Option (Nat × (Nat → Int32))} {X : Nat → aw_Kt} {d kc ks : Nat} {Q : Option Value → aw_H → Prop} {pc : Nat} {k kt kf : aw_Kt}
theorem s_exit {L : aw_L} {st : List Value} {C : aw_H} (h : X pc L st C) : SW l M xl X d kc ks Q pc L st C := fun p e R s m args below meth c D cA ad N Z G H locs ls hS hl => G.2.2.2.2.2.2 pc L st C H locs ls h hS hl
theorem s_stop : aw_Sn l M xl X d kc ks Q pc (SW l M xl X d kc ks Q pc) := fun _ _ _ h => h
def o_ic (v : Int32) (k : aw_Kt) : aw_Kt := fun L st C => k L (.int v :: st) C
theorem s_iconst {n : Int} {v : Int32} (hd : decode M.2.1 pc = .ok (.iconst n, 1)) (hv : Int32.ofInt n = v) (h : aw_Sn l M xl X d kc ks Q (pc + 1) k) : aw_Sn l M xl X d kc ks Q pc (o_ic v k) := by
  intro L st C hk p e R s m args below meth c D cA ad N Z G H locs ls hS hl
  exact lv_iconst G.1.1 G.1.2.1 hd hv (h _ _ _ hk _ _ _ _ _ _ _ _ _ _ _ _ _ _ G _ _ _ hS hl)
theorem s_bipush {n : Int} {v : Int32} (hd : decode M.2.1 pc = .ok (.bipush n, 2)) (hv : (Int8.ofInt n).toInt32 = v) (h : aw_Sn l M xl X d kc ks Q (pc + 2) k) : aw_Sn l M xl X d kc ks Q pc (o_ic v k) := by
  intro L st C hk p e R s m args below meth c D cA ad N Z G H locs ls hS hl
  exact lv_bipush G.1.1 G.1.2.1 hd hv (h _ _ _ hk _ _ _ _ _ _ _ _ _ _ _ _ _ _ G _ _ _ hS hl)
theorem s_sipush {n : Int} {v : Int32} (hd : decode M.2.1 pc = .ok (.sipush n, 3)) (hv : (Int16.ofInt n).toInt32 = v) (h : aw_Sn l M xl X d kc ks Q (pc + 3) k) : aw_Sn l M xl X d kc ks Q pc (o_ic v k) := by
  intro L st C hk p e R s m args below meth c D cA ad N Z G H locs ls hS hl
  exact lv_sipush G.1.1 G.1.2.1 hd hv (h _ _ _ hk _ _ _ _ _ _ _ _ _ _ _ _ _ _ G _ _ _ hS hl)
def o_lc (v : Int64) (k : aw_Kt) : aw_Kt := fun L st C => k L (.long v :: st) C
theorem s_lconst {n : Fin 2} {v : Int64} (hd : decode M.2.1 pc = .ok (.lconst n, 1)) (hv : Int64.ofNat (n : Nat) = v) (h : aw_Sn l M xl X d kc ks Q (pc + 1) k) : aw_Sn l M xl X d kc ks Q pc (o_lc v k) := by
  intro L st C hk p e R s m args below meth c D cA ad N Z G H locs ls hS hl
  exact lv_lconst G.1.1 G.1.2.1 hd hv (h _ _ _ hk _ _ _ _ _ _ _ _ _ _ _ _ _ _ G _ _ _ hS hl)
theorem s_ldc2 {ix : Nat} {v : Int64} (hd : decode M.2.1 pc = .ok (.ldc2_w ix, 3)) (hv : Jvm.Cond.constantLong M.1.cls ix v ∈ aw_B) (h : aw_Sn l M xl X d kc ks Q (pc + 3) k) : aw_Sn l M xl X d kc ks Q pc (o_lc v k) := by
  intro L st C hk p e R s m args below meth c D cA ad N Z G H locs ls hS hl
  exact lv_ldc2 G.1.1 G.1.2.1 G.1.2.2.2.1 (G.1.2.2.2.2 _ hv) hd (h _ _ _ hk _ _ _ _ _ _ _ _ _ _ _ _ _ _ G _ _ _ hS hl)
def o_il (i : Nat) (k : aw_Kt) : aw_Kt := fun L st C => p_fi (aw_lg L i) fun x => k L (.int x :: st) C
theorem s_iload_n {n : Fin 4} {i : Nat} (hd : decode M.2.1 pc = .ok (.iload_n n, 1)) (hi : (n : Nat) = i) (h : aw_Sn l M xl X d kc ks Q (pc + 1) k) : aw_Sn l M xl X d kc ks Q pc (o_il i k) := by
  intro L st C hk p e R s m args below meth c D cA ad N Z G H locs ls hS hl
  obtain ⟨x, hx, hk⟩ := e_fi hk
  exact lv_iload_n G.1.1 G.1.2.1 hd hi (aw_lg_at hl hx) (h _ _ _ hk _ _ _ _ _ _ _ _ _ _ _ _ _ _ G _ _ _ hS hl)
theorem s_iload {i : Nat} (hd : decode M.2.1 pc = .ok (.iload i, 2)) (h : aw_Sn l M xl X d kc ks Q (pc + 2) k) : aw_Sn l M xl X d kc ks Q pc (o_il i k) := by
  intro L st C hk p e R s m args below meth c D cA ad N Z G H locs ls hS hl
  obtain ⟨x, hx, hk⟩ := e_fi hk
  exact lv_iload G.1.1 G.1.2.1 hd (aw_lg_at hl hx) (h _ _ _ hk _ _ _ _ _ _ _ _ _ _ _ _ _ _ G _ _ _ hS hl)
def o_ll (i : Nat) (k : aw_Kt) : aw_Kt := fun L st C => p_fl (aw_lg L i) fun x => k L (.long x :: st) C
theorem s_lload_n {n : Fin 4} {i : Nat} (hd : decode M.2.1 pc = .ok (.lload_n n, 1)) (hi : (n : Nat) = i) (h : aw_Sn l M xl X d kc ks Q (pc + 1) k) : aw_Sn l M xl X d kc ks Q pc (o_ll i k) := by
  intro L st C hk p e R s m args below meth c D cA ad N Z G H locs ls hS hl
  obtain ⟨x, hx, hk⟩ := e_fl hk
  exact lv_lload_n G.1.1 G.1.2.1 hd hi (aw_lg_at hl hx) (h _ _ _ hk _ _ _ _ _ _ _ _ _ _ _ _ _ _ G _ _ _ hS hl)
theorem s_lload {i : Nat} (hd : decode M.2.1 pc = .ok (.lload i, 2)) (h : aw_Sn l M xl X d kc ks Q (pc + 2) k) : aw_Sn l M xl X d kc ks Q pc (o_ll i k) := by
  intro L st C hk p e R s m args below meth c D cA ad N Z G H locs ls hS hl
  obtain ⟨x, hx, hk⟩ := e_fl hk
  exact lv_lload G.1.1 G.1.2.1 hd (aw_lg_at hl hx) (h _ _ _ hk _ _ _ _ _ _ _ _ _ _ _ _ _ _ G _ _ _ hS hl)
def o_al (i : Nat) (k : aw_Kt) : aw_Kt := fun L st C => p_fa (aw_lg L i) fun x => k L (.ref x :: st) C
theorem s_aload_n {n : Fin 4} {i : Nat} (hd : decode M.2.1 pc = .ok (.aload_n n, 1)) (hi : (n : Nat) = i) (h : aw_Sn l M xl X d kc ks Q (pc + 1) k) : aw_Sn l M xl X d kc ks Q pc (o_al i k) := by
  intro L st C hk p e R s m args below meth c D cA ad N Z G H locs ls hS hl
  obtain ⟨x, hx, hk⟩ := e_fa hk
  exact lv_aload_n G.1.1 G.1.2.1 hd hi (aw_lg_at hl hx) (h _ _ _ hk _ _ _ _ _ _ _ _ _ _ _ _ _ _ G _ _ _ hS hl)
theorem s_aload {i : Nat} (hd : decode M.2.1 pc = .ok (.aload i, 2)) (h : aw_Sn l M xl X d kc ks Q (pc + 2) k) : aw_Sn l M xl X d kc ks Q pc (o_al i k) := by
  intro L st C hk p e R s m args below meth c D cA ad N Z G H locs ls hS hl
  obtain ⟨x, hx, hk⟩ := e_fa hk
  exact lv_aload G.1.1 G.1.2.1 hd (aw_lg_at hl hx) (h _ _ _ hk _ _ _ _ _ _ _ _ _ _ _ _ _ _ G _ _ _ hS hl)
def o_is (i : Nat) (k : aw_Kt) : aw_Kt := fun L st C => p_i st fun x r => k (aw_l1 L i (.int x)) r C
theorem s_istore_n {n : Fin 4} {i : Nat} (hd : decode M.2.1 pc = .ok (.istore_n n, 1)) (hi : (n : Nat) = i) (hn : i < M.2.2.1) (h : aw_Sn l M xl X d kc ks Q (pc + 1) k) : aw_Sn l M xl X d kc ks Q pc (o_is i k) := by
  intro L st C hk p e R s m args below meth c D cA ad N Z G H locs ls hS hl
  obtain ⟨x, r, rfl, hk⟩ := e_i hk
  exact lv_istore_n G.1.1 G.1.2.1 hd hi hl hn rfl (fun ls hl => h _ _ _ hk _ _ _ _ _ _ _ _ _ _ _ _ _ _ G _ _ _ hS (aw_st1 (v := .int x) hl))
theorem s_istore {i : Nat} (hd : decode M.2.1 pc = .ok (.istore i, 2)) (hn : i < M.2.2.1) (h : aw_Sn l M xl X d kc ks Q (pc + 2) k) : aw_Sn l M xl X d kc ks Q pc (o_is i k) := by
  intro L st C hk p e R s m args below meth c D cA ad N Z G H locs ls hS hl
  obtain ⟨x, r, rfl, hk⟩ := e_i hk
  exact lv_istore G.1.1 G.1.2.1 hd hl hn rfl (fun ls hl => h _ _ _ hk _ _ _ _ _ _ _ _ _ _ _ _ _ _ G _ _ _ hS (aw_st1 (v := .int x) hl))
def o_ls (i : Nat) (k : aw_Kt) : aw_Kt := fun L st C => p_l st fun x r => k (aw_l2 L i (.long x)) r C
theorem s_lstore_n {n : Fin 4} {i : Nat} (hd : decode M.2.1 pc = .ok (.lstore_n n, 1)) (hi : (n : Nat) = i) (hn : i + 1 < M.2.2.1) (h : aw_Sn l M xl X d kc ks Q (pc + 1) k) : aw_Sn l M xl X d kc ks Q pc (o_ls i k) := by
  intro L st C hk p e R s m args below meth c D cA ad N Z G H locs ls hS hl
  obtain ⟨x, r, rfl, hk⟩ := e_l hk
  exact lv_lstore_n G.1.1 G.1.2.1 hd hi hl hn rfl (fun ls hl => h _ _ _ hk _ _ _ _ _ _ _ _ _ _ _ _ _ _ G _ _ _ hS (aw_st2 (v := .long x) hl))
theorem s_lstore {i : Nat} (hd : decode M.2.1 pc = .ok (.lstore i, 2)) (hn : i + 1 < M.2.2.1) (h : aw_Sn l M xl X d kc ks Q (pc + 2) k) : aw_Sn l M xl X d kc ks Q pc (o_ls i k) := by
  intro L st C hk p e R s m args below meth c D cA ad N Z G H locs ls hS hl
  obtain ⟨x, r, rfl, hk⟩ := e_l hk
  exact lv_lstore G.1.1 G.1.2.1 hd hl hn rfl (fun ls hl => h _ _ _ hk _ _ _ _ _ _ _ _ _ _ _ _ _ _ G _ _ _ hS (aw_st2 (v := .long x) hl))
def o_as (i : Nat) (k : aw_Kt) : aw_Kt := fun L st C => p_a st fun x r => k (aw_l1 L i (.ref x)) r C
theorem s_astore_n {n : Fin 4} {i : Nat} (hd : decode M.2.1 pc = .ok (.astore_n n, 1)) (hi : (n : Nat) = i) (hn : i < M.2.2.1) (h : aw_Sn l M xl X d kc ks Q (pc + 1) k) : aw_Sn l M xl X d kc ks Q pc (o_as i k) := by
  intro L st C hk p e R s m args below meth c D cA ad N Z G H locs ls hS hl
  obtain ⟨x, r, rfl, hk⟩ := e_a hk
  exact lv_astore_n G.1.1 G.1.2.1 hd hi hl hn rfl (fun ls hl => h _ _ _ hk _ _ _ _ _ _ _ _ _ _ _ _ _ _ G _ _ _ hS (aw_st1 (v := .ref x) hl))
def o_ii (i : Nat) (n : Int32) (k : aw_Kt) : aw_Kt := fun L st C => p_fi (aw_lg L i) fun x => k (aw_l1 L i (.int (x + n))) st C
theorem aw_al_pos {ad : Nat → Nat} {L : aw_L} {i : Nat} {v : Value} (h : aw_lg L i = some v) : ∃ k : Nat, (aw_al ad 0 L)[k]? = some (i, aw_cv ad v) := by
  unfold aw_lg at h
  split at h
  next w hw =>
    have e := Option.some.inj h
    subst e
    have hm : (0 + i, aw_cv ad w) ∈ aw_al ad 0 L := (aw_al_mem ad _ 0 _).mpr ⟨i, w, hw, rfl⟩
    rw [Nat.zero_add] at hm
    exact List.mem_iff_getElem?.mp hm
  next => cases h
theorem s_iinc {i : Nat} {n : Int} {v : Int32} (hd : decode M.2.1 pc = .ok (.iinc i n, 3)) (hn : i < M.2.2.1) (hv : Int32.ofInt n = v) (h : aw_Sn l M xl X d kc ks Q (pc + 3) k) : aw_Sn l M xl X d kc ks Q pc (o_ii i v k) := by
  intro L st C hk p e R s m args below meth c D cA ad N Z G H locs ls hS hl
  obtain ⟨x, hx, hk⟩ := e_fi hk
  obtain ⟨q, hq⟩ := aw_al_pos (ad := ad) hx
  subst hv
  exact lv_iinc G.1.1 G.1.2.1 hd hl hq rfl hn rfl (fun ls hl => h _ _ _ hk _ _ _ _ _ _ _ _ _ _ _ _ _ _ G _ _ _ hS (aw_st1 (v := .int (x + Int32.ofInt n)) hl))
def o_ib (f : Int32 → Int32 → Int32) (k : aw_Kt) : aw_Kt := fun L st C => p_i st fun y r => p_i r fun x r => k L (.int (f x y) :: r) C
theorem s_iadd (hd : decode M.2.1 pc = .ok (.iadd, 1)) (h : aw_Sn l M xl X d kc ks Q (pc + 1) k) : aw_Sn l M xl X d kc ks Q pc (o_ib (· + ·) k) := by
  intro L st C hk p e R s m args below meth c D cA ad N Z G H locs ls hS hl
  obtain ⟨y, r, rfl, hk1⟩ := e_i hk
  obtain ⟨x, r, rfl, hk2⟩ := e_i hk1
  exact lv_iadd G.1.1 G.1.2.1 hd (h _ _ _ hk2 _ _ _ _ _ _ _ _ _ _ _ _ _ _ G _ _ _ hS hl)
theorem s_isub (hd : decode M.2.1 pc = .ok (.isub, 1)) (h : aw_Sn l M xl X d kc ks Q (pc + 1) k) : aw_Sn l M xl X d kc ks Q pc (o_ib (· - ·) k) := by
  intro L st C hk p e R s m args below meth c D cA ad N Z G H locs ls hS hl
  obtain ⟨y, r, rfl, hk1⟩ := e_i hk
  obtain ⟨x, r, rfl, hk2⟩ := e_i hk1
  exact lv_isub G.1.1 G.1.2.1 hd (h _ _ _ hk2 _ _ _ _ _ _ _ _ _ _ _ _ _ _ G _ _ _ hS hl)
theorem s_imul (hd : decode M.2.1 pc = .ok (.imul, 1)) (h : aw_Sn l M xl X d kc ks Q (pc + 1) k) : aw_Sn l M xl X d kc ks Q pc (o_ib (· * ·) k) := by
  intro L st C hk p e R s m args below meth c D cA ad N Z G H locs ls hS hl
  obtain ⟨y, r, rfl, hk1⟩ := e_i hk
  obtain ⟨x, r, rfl, hk2⟩ := e_i hk1
  exact lv_imul G.1.1 G.1.2.1 hd (h _ _ _ hk2 _ _ _ _ _ _ _ _ _ _ _ _ _ _ G _ _ _ hS hl)
theorem s_iand (hd : decode M.2.1 pc = .ok (.iand, 1)) (h : aw_Sn l M xl X d kc ks Q (pc + 1) k) : aw_Sn l M xl X d kc ks Q pc (o_ib (· &&& ·) k) := by
  intro L st C hk p e R s m args below meth c D cA ad N Z G H locs ls hS hl
  obtain ⟨y, r, rfl, hk1⟩ := e_i hk
  obtain ⟨x, r, rfl, hk2⟩ := e_i hk1
  exact lv_iand G.1.1 G.1.2.1 hd (h _ _ _ hk2 _ _ _ _ _ _ _ _ _ _ _ _ _ _ G _ _ _ hS hl)
theorem s_ior (hd : decode M.2.1 pc = .ok (.ior, 1)) (h : aw_Sn l M xl X d kc ks Q (pc + 1) k) : aw_Sn l M xl X d kc ks Q pc (o_ib (· ||| ·) k) := by
  intro L st C hk p e R s m args below meth c D cA ad N Z G H locs ls hS hl
  obtain ⟨y, r, rfl, hk1⟩ := e_i hk
  obtain ⟨x, r, rfl, hk2⟩ := e_i hk1
  exact lv_ior G.1.1 G.1.2.1 hd (h _ _ _ hk2 _ _ _ _ _ _ _ _ _ _ _ _ _ _ G _ _ _ hS hl)
theorem s_ixor (hd : decode M.2.1 pc = .ok (.ixor, 1)) (h : aw_Sn l M xl X d kc ks Q (pc + 1) k) : aw_Sn l M xl X d kc ks Q pc (o_ib (· ^^^ ·) k) := by
  intro L st C hk p e R s m args below meth c D cA ad N Z G H locs ls hS hl
  obtain ⟨y, r, rfl, hk1⟩ := e_i hk
  obtain ⟨x, r, rfl, hk2⟩ := e_i hk1
  exact lv_ixor G.1.1 G.1.2.1 hd (h _ _ _ hk2 _ _ _ _ _ _ _ _ _ _ _ _ _ _ G _ _ _ hS hl)
def o_dv (k : aw_Kt) : aw_Kt := fun L st C => p_i st fun y r => p_i r fun x r => (¬ y = 0) ∧ k L (.int (x / y) :: r) C
theorem s_idiv (hd : decode M.2.1 pc = .ok (.idiv, 1)) (h : aw_Sn l M xl X d kc ks Q (pc + 1) k) : aw_Sn l M xl X d kc ks Q pc (o_dv k) := by
  intro L st C hk p e R s m args below meth c D cA ad N Z G H locs ls hS hl
  obtain ⟨y, r, rfl, hk1⟩ := e_i hk
  obtain ⟨x, r, rfl, hy, hk2⟩ := e_i hk1
  exact lv_idiv G.1.1 G.1.2.1 hd hy (h _ _ _ hk2 _ _ _ _ _ _ _ _ _ _ _ _ _ _ G _ _ _ hS hl)
def o_rm (k : aw_Kt) : aw_Kt := fun L st C => p_i st fun y r => p_i r fun x r => (¬ y = 0) ∧ k L (.int (x - x / y * y) :: r) C
theorem s_irem (hd : decode M.2.1 pc = .ok (.irem, 1)) (h : aw_Sn l M xl X d kc ks Q (pc + 1) k) : aw_Sn l M xl X d kc ks Q pc (o_rm k) := by
  intro L st C hk p e R s m args below meth c D cA ad N Z G H locs ls hS hl
  obtain ⟨y, r, rfl, hk1⟩ := e_i hk
  obtain ⟨x, r, rfl, hy, hk2⟩ := e_i hk1
  exact lv_irem G.1.1 G.1.2.1 hd hy (h _ _ _ hk2 _ _ _ _ _ _ _ _ _ _ _ _ _ _ G _ _ _ hS hl)
def o_ng (k : aw_Kt) : aw_Kt := fun L st C => p_i st fun x r => k L (.int (-x) :: r) C
theorem s_ineg (hd : decode M.2.1 pc = .ok (.ineg, 1)) (h : aw_Sn l M xl X d kc ks Q (pc + 1) k) : aw_Sn l M xl X d kc ks Q pc (o_ng k) := by
  intro L st C hk p e R s m args below meth c D cA ad N Z G H locs ls hS hl
  obtain ⟨x, r, rfl, hk⟩ := e_i hk
  exact lv_ineg G.1.1 G.1.2.1 hd (h _ _ _ hk _ _ _ _ _ _ _ _ _ _ _ _ _ _ G _ _ _ hS hl)
def o_lb (f : Int64 → Int64 → Int64) (k : aw_Kt) : aw_Kt := fun L st C => p_l st fun y r => p_l r fun x r => k L (.long (f x y) :: r) C
theorem s_ladd (hd : decode M.2.1 pc = .ok (.ladd, 1)) (h : aw_Sn l M xl X d kc ks Q (pc + 1) k) : aw_Sn l M xl X d kc ks Q pc (o_lb (· + ·) k) := by
  intro L st C hk p e R s m args below meth c D cA ad N Z G H locs ls hS hl
  obtain ⟨y, r, rfl, hk1⟩ := e_l hk
  obtain ⟨x, r, rfl, hk2⟩ := e_l hk1
  exact lv_ladd G.1.1 G.1.2.1 hd (h _ _ _ hk2 _ _ _ _ _ _ _ _ _ _ _ _ _ _ G _ _ _ hS hl)
theorem s_lsub (hd : decode M.2.1 pc = .ok (.lsub, 1)) (h : aw_Sn l M xl X d kc ks Q (pc + 1) k) : aw_Sn l M xl X d kc ks Q pc (o_lb (· - ·) k) := by
  intro L st C hk p e R s m args below meth c D cA ad N Z G H locs ls hS hl
  obtain ⟨y, r, rfl, hk1⟩ := e_l hk
  obtain ⟨x, r, rfl, hk2⟩ := e_l hk1
  exact lv_lsub G.1.1 G.1.2.1 hd (h _ _ _ hk2 _ _ _ _ _ _ _ _ _ _ _ _ _ _ G _ _ _ hS hl)
theorem s_lmul (hd : decode M.2.1 pc = .ok (.lmul, 1)) (h : aw_Sn l M xl X d kc ks Q (pc + 1) k) : aw_Sn l M xl X d kc ks Q pc (o_lb (· * ·) k) := by
  intro L st C hk p e R s m args below meth c D cA ad N Z G H locs ls hS hl
  obtain ⟨y, r, rfl, hk1⟩ := e_l hk
  obtain ⟨x, r, rfl, hk2⟩ := e_l hk1
  exact lv_lmul G.1.1 G.1.2.1 hd (h _ _ _ hk2 _ _ _ _ _ _ _ _ _ _ _ _ _ _ G _ _ _ hS hl)
def o_ld (k : aw_Kt) : aw_Kt := fun L st C => p_l st fun y r => p_l r fun x r => (¬ y = 0) ∧ k L (.long (x / y) :: r) C
theorem s_ldiv (hd : decode M.2.1 pc = .ok (.ldiv, 1)) (h : aw_Sn l M xl X d kc ks Q (pc + 1) k) : aw_Sn l M xl X d kc ks Q pc (o_ld k) := by
  intro L st C hk p e R s m args below meth c D cA ad N Z G H locs ls hS hl
  obtain ⟨y, r, rfl, hk1⟩ := e_l hk
  obtain ⟨x, r, rfl, hy, hk2⟩ := e_l hk1
  exact lv_ldiv G.1.1 G.1.2.1 hd hy (h _ _ _ hk2 _ _ _ _ _ _ _ _ _ _ _ _ _ _ G _ _ _ hS hl)
def o_lr (k : aw_Kt) : aw_Kt := fun L st C => p_l st fun y r => p_l r fun x r => (¬ y = 0) ∧ k L (.long (x - x / y * y) :: r) C
theorem s_lrem (hd : decode M.2.1 pc = .ok (.lrem, 1)) (h : aw_Sn l M xl X d kc ks Q (pc + 1) k) : aw_Sn l M xl X d kc ks Q pc (o_lr k) := by
  intro L st C hk p e R s m args below meth c D cA ad N Z G H locs ls hS hl
  obtain ⟨y, r, rfl, hk1⟩ := e_l hk
  obtain ⟨x, r, rfl, hy, hk2⟩ := e_l hk1
  exact lv_lrem G.1.1 G.1.2.1 hd hy (h _ _ _ hk2 _ _ _ _ _ _ _ _ _ _ _ _ _ _ G _ _ _ hS hl)
def o_ln (k : aw_Kt) : aw_Kt := fun L st C => p_l st fun x r => k L (.long (-x) :: r) C
theorem s_lneg (hd : decode M.2.1 pc = .ok (.lneg, 1)) (h : aw_Sn l M xl X d kc ks Q (pc + 1) k) : aw_Sn l M xl X d kc ks Q pc (o_ln k) := by
  intro L st C hk p e R s m args below meth c D cA ad N Z G H locs ls hS hl
  obtain ⟨x, r, rfl, hk⟩ := e_l hk
  exact lv_lneg G.1.1 G.1.2.1 hd (h _ _ _ hk _ _ _ _ _ _ _ _ _ _ _ _ _ _ G _ _ _ hS hl)
def o_i2 (k : aw_Kt) : aw_Kt := fun L st C => p_i st fun x r => k L (.long x.toInt64 :: r) C
theorem s_i2l (hd : decode M.2.1 pc = .ok (.i2l, 1)) (h : aw_Sn l M xl X d kc ks Q (pc + 1) k) : aw_Sn l M xl X d kc ks Q pc (o_i2 k) := by
  intro L st C hk p e R s m args below meth c D cA ad N Z G H locs ls hS hl
  obtain ⟨x, r, rfl, hk⟩ := e_i hk
  exact lv_i2l G.1.1 G.1.2.1 hd rfl (h _ _ _ hk _ _ _ _ _ _ _ _ _ _ _ _ _ _ G _ _ _ hS hl)
def o_cm (k : aw_Kt) : aw_Kt := fun L st C => p_l st fun y r => p_l r fun x r => k L (.int (lg_cmp x y) :: r) C
theorem s_lcmp (hd : decode M.2.1 pc = .ok (.lcmp, 1)) (h : aw_Sn l M xl X d kc ks Q (pc + 1) k) : aw_Sn l M xl X d kc ks Q pc (o_cm k) := by
  intro L st C hk p e R s m args below meth c D cA ad N Z G H locs ls hS hl
  obtain ⟨y, r, rfl, hk1⟩ := e_l hk
  obtain ⟨x, r, rfl, hk2⟩ := e_l hk1
  exact W.lcmp G.1.1 G.1.2.1 hd (h _ _ _ hk2 _ _ _ _ _ _ _ _ _ _ _ _ _ _ G _ _ _ hS hl)
def o_dp (k : aw_Kt) : aw_Kt := fun L st C => p_v st fun x r => k L (x :: x :: r) C
theorem s_dup (hd : decode M.2.1 pc = .ok (.dup, 1)) (h : aw_Sn l M xl X d kc ks Q (pc + 1) k) : aw_Sn l M xl X d kc ks Q pc (o_dp k) := by
  intro L st C hk p e R s m args below meth c D cA ad N Z G H locs ls hS hl
  obtain ⟨x, r, rfl, hc, hk⟩ := e_v hk
  exact lv_dup G.1.1 G.1.2.1 hd (by rw [aw_cv_cat]; exact hc) (h _ _ _ hk _ _ _ _ _ _ _ _ _ _ _ _ _ _ G _ _ _ hS hl)
def o_px (k : aw_Kt) : aw_Kt := fun L st C => p_v st fun x r => k L r C
theorem s_pop (hd : decode M.2.1 pc = .ok (.pop, 1)) (h : aw_Sn l M xl X d kc ks Q (pc + 1) k) : aw_Sn l M xl X d kc ks Q pc (o_px k) := by
  intro L st C hk p e R s m args below meth c D cA ad N Z G H locs ls hS hl
  obtain ⟨x, r, rfl, hc, hk⟩ := e_v hk
  exact lv_pop G.1.1 G.1.2.1 hd (by rw [aw_cv_cat]; exact hc) (h _ _ _ hk _ _ _ _ _ _ _ _ _ _ _ _ _ _ G _ _ _ hS hl)
def o_d1 (k : aw_Kt) : aw_Kt := fun L st C => p_v st fun x r => p_v r fun y r => k L (x :: y :: x :: r) C
theorem s_dup_x1 (hd : decode M.2.1 pc = .ok (.dup_x1, 1)) (h : aw_Sn l M xl X d kc ks Q (pc + 1) k) : aw_Sn l M xl X d kc ks Q pc (o_d1 k) := by
  intro L st C hk p e R s m args below meth c D cA ad N Z G H locs ls hS hl
  obtain ⟨x, r, rfl, hc, hk1⟩ := e_v hk
  obtain ⟨y, r, rfl, hc2, hk2⟩ := e_v hk1
  exact lv_dup_x1 G.1.1 G.1.2.1 hd (by rw [aw_cv_cat]; exact hc) (by rw [aw_cv_cat]; exact hc2) (h _ _ _ hk2 _ _ _ _ _ _ _ _ _ _ _ _ _ _ G _ _ _ hS hl)
def o_d2 (k : aw_Kt) : aw_Kt := fun L st C => p_v st fun x r => p_v r fun y r => k L (x :: y :: x :: y :: r) C
theorem s_dup2 (hd : decode M.2.1 pc = .ok (.dup2, 1)) (h : aw_Sn l M xl X d kc ks Q (pc + 1) k) : aw_Sn l M xl X d kc ks Q pc (o_d2 k) := by
  intro L st C hk p e R s m args below meth c D cA ad N Z G H locs ls hS hl
  obtain ⟨x, r, rfl, hc, hk1⟩ := e_v hk
  obtain ⟨y, r, rfl, hc2, hk2⟩ := e_v hk1
  exact lv_dup2_11 G.1.1 G.1.2.1 hd (by rw [aw_cv_cat]; exact hc) (by rw [aw_cv_cat]; exact hc2) (h _ _ _ hk2 _ _ _ _ _ _ _ _ _ _ _ _ _ _ G _ _ _ hS hl)
theorem s_goto {off : Int} {tgt : Nat} (hd : decode M.2.1 pc = .ok (.goto off, 3)) (ht : (pc : Int) + off = (tgt : Int)) (h : aw_Sn l M xl X d kc ks Q tgt k) : aw_Sn l M xl X d kc ks Q pc k := by
  intro L st C hk p e R s m args below meth c D cA ad N Z G H locs ls hS hl
  exact lv_goto G.1.1 G.1.2.1 hd ht (h _ _ _ hk _ _ _ _ _ _ _ _ _ _ _ _ _ _ G _ _ _ hS hl)
/-- a branch: the first where the condition holds -/
def o_if (c : Int32 → Prop) (kt kf : aw_Kt) : aw_Kt := fun L st C => p_i st fun x r => (c x → kt L r C) ∧ (¬ c x → kf L r C)
def o_i3 (c : Int32 → Int32 → Prop) (kt kf : aw_Kt) : aw_Kt := fun L st C => p_i st fun y r => p_i r fun x r => (c x y → kt L r C) ∧ (¬ c x y → kf L r C)
theorem s_if_eq {off : Int} {tgt : Nat} (hd : decode M.2.1 pc = .ok (.ifCond .eq off, 3)) (ht : (pc : Int) + off = (tgt : Int)) (h1 : aw_Sn l M xl X d kc ks Q tgt kt) (h2 : aw_Sn l M xl X d kc ks Q (pc + 3) kf) : aw_Sn l M xl X d kc ks Q pc (o_if (fun x => x = 0) kt kf) := by
  intro L st C hk p e R s m args below meth c D cA ad N Z G H locs ls hS hl
  obtain ⟨x, r, rfl, hk⟩ := e_i hk
  exact lv_if_eq G.1.1 G.1.2.1 hd ht (fun q => h1 _ _ _ (hk.1 q) _ _ _ _ _ _ _ _ _ _ _ _ _ _ G _ _ _ hS hl) (fun q => h2 _ _ _ (hk.2 q) _ _ _ _ _ _ _ _ _ _ _ _ _ _ G _ _ _ hS hl)
theorem s_if_ne {off : Int} {tgt : Nat} (hd : decode M.2.1 pc = .ok (.ifCond .ne off, 3)) (ht : (pc : Int) + off = (tgt : Int)) (h1 : aw_Sn l M xl X d kc ks Q (pc + 3) kt) (h2 : aw_Sn l M xl X d kc ks Q tgt kf) : aw_Sn l M xl X d kc ks Q pc (o_if (fun x => x = 0) kt kf) := by
  intro L st C hk p e R s m args below meth c D cA ad N Z G H locs ls hS hl
  obtain ⟨x, r, rfl, hk⟩ := e_i hk
  exact lv_if_ne G.1.1 G.1.2.1 hd ht (fun q => h2 _ _ _ (hk.2 q) _ _ _ _ _ _ _ _ _ _ _ _ _ _ G _ _ _ hS hl) (fun q => h1 _ _ _ (hk.1 q) _ _ _ _ _ _ _ _ _ _ _ _ _ _ G _ _ _ hS hl)
theorem s_if_lt {off : Int} {tgt : Nat} (hd : decode M.2.1 pc = .ok (.ifCond .lt off, 3)) (ht : (pc : Int) + off = (tgt : Int)) (h1 : aw_Sn l M xl X d kc ks Q tgt kt) (h2 : aw_Sn l M xl X d kc ks Q (pc + 3) kf) : aw_Sn l M xl X d kc ks Q pc (o_if (fun x => x < 0) kt kf) := by
  intro L st C hk p e R s m args below meth c D cA ad N Z G H locs ls hS hl
  obtain ⟨x, r, rfl, hk⟩ := e_i hk
  exact lv_if_lt G.1.1 G.1.2.1 hd ht (fun q => h1 _ _ _ (hk.1 q) _ _ _ _ _ _ _ _ _ _ _ _ _ _ G _ _ _ hS hl) (fun q => h2 _ _ _ (hk.2 q) _ _ _ _ _ _ _ _ _ _ _ _ _ _ G _ _ _ hS hl)
theorem s_if_ge {off : Int} {tgt : Nat} (hd : decode M.2.1 pc = .ok (.ifCond .ge off, 3)) (ht : (pc : Int) + off = (tgt : Int)) (h1 : aw_Sn l M xl X d kc ks Q tgt kt) (h2 : aw_Sn l M xl X d kc ks Q (pc + 3) kf) : aw_Sn l M xl X d kc ks Q pc (o_if (fun x => 0 ≤ x) kt kf) := by
  intro L st C hk p e R s m args below meth c D cA ad N Z G H locs ls hS hl
  obtain ⟨x, r, rfl, hk⟩ := e_i hk
  exact lv_if_ge G.1.1 G.1.2.1 hd ht (fun q => h1 _ _ _ (hk.1 q) _ _ _ _ _ _ _ _ _ _ _ _ _ _ G _ _ _ hS hl) (fun q => h2 _ _ _ (hk.2 q) _ _ _ _ _ _ _ _ _ _ _ _ _ _ G _ _ _ hS hl)
theorem s_if_gt {off : Int} {tgt : Nat} (hd : decode M.2.1 pc = .ok (.ifCond .gt off, 3)) (ht : (pc : Int) + off = (tgt : Int)) (h1 : aw_Sn l M xl X d kc ks Q tgt kt) (h2 : aw_Sn l M xl X d kc ks Q (pc + 3) kf) : aw_Sn l M xl X d kc ks Q pc (o_if (fun x => 0 < x) kt kf) := by
  intro L st C hk p e R s m args below meth c D cA ad N Z G H locs ls hS hl
  obtain ⟨x, r, rfl, hk⟩ := e_i hk
  exact lv_if_gt G.1.1 G.1.2.1 hd ht (fun q => h1 _ _ _ (hk.1 q) _ _ _ _ _ _ _ _ _ _ _ _ _ _ G _ _ _ hS hl) (fun q => h2 _ _ _ (hk.2 q) _ _ _ _ _ _ _ _ _ _ _ _ _ _ G _ _ _ hS hl)
theorem s_if_le {off : Int} {tgt : Nat} (hd : decode M.2.1 pc = .ok (.ifCond .le off, 3)) (ht : (pc : Int) + off = (tgt : Int)) (h1 : aw_Sn l M xl X d kc ks Q tgt kt) (h2 : aw_Sn l M xl X d kc ks Q (pc + 3) kf) : aw_Sn l M xl X d kc ks Q pc (o_if (fun x => x ≤ 0) kt kf) := by
  intro L st C hk p e R s m args below meth c D cA ad N Z G H locs ls hS hl
  obtain ⟨x, r, rfl, hk⟩ := e_i hk
  exact lv_if_le G.1.1 G.1.2.1 hd ht (fun q => h1 _ _ _ (hk.1 q) _ _ _ _ _ _ _ _ _ _ _ _ _ _ G _ _ _ hS hl) (fun q => h2 _ _ _ (hk.2 q) _ _ _ _ _ _ _ _ _ _ _ _ _ _ G _ _ _ hS hl)
theorem s_icmp_eq {off : Int} {tgt : Nat} (hd : decode M.2.1 pc = .ok (.if_icmp .eq off, 3)) (ht : (pc : Int) + off = (tgt : Int)) (h1 : aw_Sn l M xl X d kc ks Q tgt kt) (h2 : aw_Sn l M xl X d kc ks Q (pc + 3) kf) : aw_Sn l M xl X d kc ks Q pc (o_i3 (fun x y => x = y) kt kf) := by
  intro L st C hk p e R s m args below meth c D cA ad N Z G H locs ls hS hl
  obtain ⟨y, r, rfl, hk1⟩ := e_i hk
  obtain ⟨x, r, rfl, hk2⟩ := e_i hk1
  exact lv_icmp_eq G.1.1 G.1.2.1 hd ht (fun q => h1 _ _ _ (hk2.1 q) _ _ _ _ _ _ _ _ _ _ _ _ _ _ G _ _ _ hS hl) (fun q => h2 _ _ _ (hk2.2 q) _ _ _ _ _ _ _ _ _ _ _ _ _ _ G _ _ _ hS hl)
theorem s_icmp_ne {off : Int} {tgt : Nat} (hd : decode M.2.1 pc = .ok (.if_icmp .ne off, 3)) (ht : (pc : Int) + off = (tgt : Int)) (h1 : aw_Sn l M xl X d kc ks Q (pc + 3) kt) (h2 : aw_Sn l M xl X d kc ks Q tgt kf) : aw_Sn l M xl X d kc ks Q pc (o_i3 (fun x y => x = y) kt kf) := by
  intro L st C hk p e R s m args below meth c D cA ad N Z G H locs ls hS hl
  obtain ⟨y, r, rfl, hk1⟩ := e_i hk
  obtain ⟨x, r, rfl, hk2⟩ := e_i hk1
  exact lv_icmp_ne G.1.1 G.1.2.1 hd ht (fun q => h2 _ _ _ (hk2.2 q) _ _ _ _ _ _ _ _ _ _ _ _ _ _ G _ _ _ hS hl) (fun q => h1 _ _ _ (hk2.1 q) _ _ _ _ _ _ _ _ _ _ _ _ _ _ G _ _ _ hS hl)
theorem s_icmp_lt {off : Int} {tgt : Nat} (hd : decode M.2.1 pc = .ok (.if_icmp .lt off, 3)) (ht : (pc : Int) + off = (tgt : Int)) (h1 : aw_Sn l M xl X d kc ks Q tgt kt) (h2 : aw_Sn l M xl X d kc ks Q (pc + 3) kf) : aw_Sn l M xl X d kc ks Q pc (o_i3 (fun x y => x < y) kt kf) := by
  intro L st C hk p e R s m args below meth c D cA ad N Z G H locs ls hS hl
  obtain ⟨y, r, rfl, hk1⟩ := e_i hk
  obtain ⟨x, r, rfl, hk2⟩ := e_i hk1
  exact lv_icmp_lt G.1.1 G.1.2.1 hd ht (fun q => h1 _ _ _ (hk2.1 q) _ _ _ _ _ _ _ _ _ _ _ _ _ _ G _ _ _ hS hl) (fun q => h2 _ _ _ (hk2.2 q) _ _ _ _ _ _ _ _ _ _ _ _ _ _ G _ _ _ hS hl)
theorem s_icmp_ge {off : Int} {tgt : Nat} (hd : decode M.2.1 pc = .ok (.if_icmp .ge off, 3)) (ht : (pc : Int) + off = (tgt : Int)) (h1 : aw_Sn l M xl X d kc ks Q tgt kt) (h2 : aw_Sn l M xl X d kc ks Q (pc + 3) kf) : aw_Sn l M xl X d kc ks Q pc (o_i3 (fun x y => y ≤ x) kt kf) := by
  intro L st C hk p e R s m args below meth c D cA ad N Z G H locs ls hS hl
  obtain ⟨y, r, rfl, hk1⟩ := e_i hk
  obtain ⟨x, r, rfl, hk2⟩ := e_i hk1
  exact lv_icmp_ge G.1.1 G.1.2.1 hd ht (fun q => h1 _ _ _ (hk2.1 q) _ _ _ _ _ _ _ _ _ _ _ _ _ _ G _ _ _ hS hl) (fun q => h2 _ _ _ (hk2.2 q) _ _ _ _ _ _ _ _ _ _ _ _ _ _ G _ _ _ hS hl)
theorem s_icmp_gt {off : Int} {tgt : Nat} (hd : decode M.2.1 pc = .ok (.if_icmp .gt off, 3)) (ht : (pc : Int) + off = (tgt : Int)) (h1 : aw_Sn l M xl X d kc ks Q tgt kt) (h2 : aw_Sn l M xl X d kc ks Q (pc + 3) kf) : aw_Sn l M xl X d kc ks Q pc (o_i3 (fun x y => y < x) kt kf) := by
  intro L st C hk p e R s m args below meth c D cA ad N Z G H locs ls hS hl
  obtain ⟨y, r, rfl, hk1⟩ := e_i hk
  obtain ⟨x, r, rfl, hk2⟩ := e_i hk1
  exact lv_icmp_gt G.1.1 G.1.2.1 hd ht (fun q => h1 _ _ _ (hk2.1 q) _ _ _ _ _ _ _ _ _ _ _ _ _ _ G _ _ _ hS hl) (fun q => h2 _ _ _ (hk2.2 q) _ _ _ _ _ _ _ _ _ _ _ _ _ _ G _ _ _ hS hl)
theorem s_icmp_le {off : Int} {tgt : Nat} (hd : decode M.2.1 pc = .ok (.if_icmp .le off, 3)) (ht : (pc : Int) + off = (tgt : Int)) (h1 : aw_Sn l M xl X d kc ks Q tgt kt) (h2 : aw_Sn l M xl X d kc ks Q (pc + 3) kf) : aw_Sn l M xl X d kc ks Q pc (o_i3 (fun x y => x ≤ y) kt kf) := by
  intro L st C hk p e R s m args below meth c D cA ad N Z G H locs ls hS hl
  obtain ⟨y, r, rfl, hk1⟩ := e_i hk
  obtain ⟨x, r, rfl, hk2⟩ := e_i hk1
  exact lv_icmp_le G.1.1 G.1.2.1 hd ht (fun q => h1 _ _ _ (hk2.1 q) _ _ _ _ _ _ _ _ _ _ _ _ _ _ G _ _ _ hS hl) (fun q => h2 _ _ _ (hk2.2 q) _ _ _ _ _ _ _ _ _ _ _ _ _ _ G _ _ _ hS hl)
end AWO
end
section
/-! cells, calls, ends -/
theorem aw_Pset {ad : Nat → Nat} {cA : Nat → ClassId} {C : aw_H} {D : va_G} {H : Heap} {i : Nat} {c : aw_Cel} {E : va_E} (h : va_P D aw_cl ((aw_cn ad cA 0 C).set i (ad i, E)) H) (e : E = aw_ce ad cA c) : va_P D aw_cl (aw_cn ad cA 0 (aw_s C i c)) H := by
  rw [aw_cn_set, Nat.zero_add, ← e]
  exact h
theorem aw_fmap {ad : Nat → Nat} {fs : List Value} {k : Nat} {v : Value} (h : aw_g fs k = some v) : (fs.map (aw_cv ad))[k]? = some (aw_cv ad v) := by
  rw [List.getElem?_map, ← aw_g_eq, h]
  rfl
theorem aw_fset {ad : Nat → Nat} {fs : List Value} {k : Nat} {v : Value} : (fs.map (aw_cv ad)).set k (aw_cv ad v) = (aw_s fs k v).map (aw_cv ad) := by
  rw [aw_s_eq, List.map_set]
def p_e (st : List Value) (k : Prop) : Prop := match st with
  | [] => k
  | _ => False
theorem e_e {st : List Value} {k : Prop} (h : p_e st k) : st = [] ∧ k := by
  cases st with
  | nil => exact ⟨rfl, h⟩
  | cons a r => exact h.elim
section AWH
variable {l : Launch} {M : aw_M} {xl : Option (Nat × (Nat → Int32))} {X : Nat → aw_Kt} {d kc ks : Nat} {Q : Option Value → aw_H → Prop} {pc : Nat} {k kt kf : aw_Kt}
def o_gf (ci kf : Nat) (k : aw_Kt) : aw_Kt := fun L st C => p_a st fun a r => p_o C a ci fun fs => p_f (aw_g fs kf) fun v => k L (v :: r) C
theorem s_getf {ix ci kf Nf : Nat} {Cn : String} {T : u_T} (hd : decode M.2.1 pc = .ok (.getfield ix, 3)) (hc : aw_cl[ci]? = some (Cn, T, Nf)) (hin : ∀ w ∈ u_ws Cn T Nf, w ∈ aw_B) (hk : kf < Nf) (hli : Jvm.Cond.fieldLink M.1.cls ix (T kf).1 (T kf).2.1 (T kf).2.2.1 ∈ aw_B) (h : aw_Sn l M xl X d kc ks Q (pc + 3) k) : aw_Sn l M xl X d kc ks Q pc (o_gf ci kf k) := by
  intro L st C hk0 p e R s m args below meth c D cA ad N Z G H locs ls hS hl
  obtain ⟨a, r, rfl, hk1⟩ := e_a hk0
  obtain ⟨fs, ha, hk2⟩ := e_o hk1
  obtain ⟨v, hv, hk3⟩ := e_f hk2
  exact va_get G.1.1 G.1.2.1 G.1.2.2.2.2 hin G.1.2.2.2.1 G.2.2.1.1 hS.2.1 a (aw_at ha) hc kf hk (G.1.2.2.2.2 _ hli) (fun _ h9 => h9) (aw_fmap hv) hd (h _ _ _ hk3 _ _ _ _ _ _ _ _ _ _ _ _ _ _ G _ _ _ hS hl)
def o_pi (ci kf : Nat) (k : aw_Kt) : aw_Kt := fun L st C => p_i st fun x r => p_a r fun a r => p_o C a ci fun fs => p_f (aw_g fs kf) fun _ => k L r (aw_s C a (.inr (ci, aw_s fs kf (.int x))))
theorem s_puti {ix ci kf Nf : Nat} {Cn : String} {T : u_T} {ty0 : Nat → FieldType} (hd : decode M.2.1 pc = .ok (.putfield ix, 3)) (hc : aw_cl[ci]? = some (Cn, T, Nf)) (hin : ∀ w ∈ u_ws Cn T Nf, w ∈ aw_B) (hty : ∀ k, k < Nf → parseFieldDescriptor (T k).2.2.1 = some (ty0 k)) (hnm : ∀ a, a < Nf → ∀ b, b < Nf → a ≠ b → (T a).2.1 ≠ (T b).2.1) (hk : kf < Nf) (hfin : (T kf).2.2.2 = false) (hde : parseFieldDescriptor (T kf).2.2.1 = some .int) (hli : Jvm.Cond.fieldLink M.1.cls ix (T kf).1 (T kf).2.1 (T kf).2.2.1 ∈ aw_B) (h : aw_Sn l M xl X d kc ks Q (pc + 3) k) : aw_Sn l M xl X d kc ks Q pc (o_pi ci kf k) := by
  intro L st C hk0 p e R s m args below meth c D cA ad N Z G H locs ls hS hl
  obtain ⟨x, r, rfl, hk1⟩ := e_i hk0
  obtain ⟨a, r, rfl, hk2⟩ := e_a hk1
  obtain ⟨fs, ha, hk3⟩ := e_o hk2
  obtain ⟨v, hv, hk4⟩ := e_f hk3
  refine va_put (v := .int x) (ty := .int) G.1.1 G.1.2.1 G.1.2.2.2.2 hin ty0 hty hnm G.1.2.2.2.1 G.2.2.1.1 hS.2.1 (aw_D G.2.2.2.1 hS.1) hS.2.2 a (aw_at ha) hc kf hk (G.1.2.2.2.2 _ hli) (fun _ h9 => h9) hfin hde rfl rfl (by rw [List.length_map]; exact aw_lt hv) hd (fun H1 locs1 hP hD hS1 => ?_)
  exact h _ _ _ hk4 _ _ _ _ _ _ _ _ _ _ _ _ _ _ G _ _ _ ⟨by rw [aw_s_len]; exact hS.1, aw_Pset hP (by show Sum.inr _ = Sum.inr _; rw [← aw_fset]; rfl), hS1⟩ hl
def o_pl (ci kf : Nat) (k : aw_Kt) : aw_Kt := fun L st C => p_l st fun x r => p_a r fun a r => p_o C a ci fun fs => p_f (aw_g fs kf) fun _ => k L r (aw_s C a (.inr (ci, aw_s fs kf (.long x))))
theorem s_putl {ix ci kf Nf : Nat} {Cn : String} {T : u_T} {ty0 : Nat → FieldType} (hd : decode M.2.1 pc = .ok (.putfield ix, 3)) (hc : aw_cl[ci]? = some (Cn, T, Nf)) (hin : ∀ w ∈ u_ws Cn T Nf, w ∈ aw_B) (hty : ∀ k, k < Nf → parseFieldDescriptor (T k).2.2.1 = some (ty0 k)) (hnm : ∀ a, a < Nf → ∀ b, b < Nf → a ≠ b → (T a).2.1 ≠ (T b).2.1) (hk : kf < Nf) (hfin : (T kf).2.2.2 = false) (hde : parseFieldDescriptor (T kf).2.2.1 = some .long) (hli : Jvm.Cond.fieldLink M.1.cls ix (T kf).1 (T kf).2.1 (T kf).2.2.1 ∈ aw_B) (h : aw_Sn l M xl X d kc ks Q (pc + 3) k) : aw_Sn l M xl X d kc ks Q pc (o_pl ci kf k) := by
  intro L st C hk0 p e R s m args below meth c D cA ad N Z G H locs ls hS hl
  obtain ⟨x, r, rfl, hk1⟩ := e_l hk0
  obtain ⟨a, r, rfl, hk2⟩ := e_a hk1
  obtain ⟨fs, ha, hk3⟩ := e_o hk2
  obtain ⟨v, hv, hk4⟩ := e_f hk3
  refine va_put (v := .long x) (ty := .long) G.1.1 G.1.2.1 G.1.2.2.2.2 hin ty0 hty hnm G.1.2.2.2.1 G.2.2.1.1 hS.2.1 (aw_D G.2.2.2.1 hS.1) hS.2.2 a (aw_at ha) hc kf hk (G.1.2.2.2.2 _ hli) (fun _ h9 => h9) hfin hde rfl rfl (by rw [List.length_map]; exact aw_lt hv) hd (fun H1 locs1 hP hD hS1 => ?_)
  exact h _ _ _ hk4 _ _ _ _ _ _ _ _ _ _ _ _ _ _ G _ _ _ ⟨by rw [aw_s_len]; exact hS.1, aw_Pset hP (by show Sum.inr _ = Sum.inr _; rw [← aw_fset]; rfl), hS1⟩ hl
/-- an int or boolean array is read: its place is in it -/
def o_ia (t : Nat) (k : aw_Kt) : aw_Kt := fun L st C => p_i st fun i r => p_a r fun a r => p_r C a t fun n f => ∃ j : Nat, i = nI j ∧ j < n ∧ k L (.int (f j) :: r) C
theorem s_iaload (hd : decode M.2.1 pc = .ok (.iaload, 1)) (h : aw_Sn l M xl X d kc ks Q (pc + 1) k) : aw_Sn l M xl X d kc ks Q pc (o_ia 0 k) := by
  intro L st C hk0 p e R s m args below meth c D cA ad N Z G H locs ls hS hl
  obtain ⟨i, r, rfl, hk1⟩ := e_i hk0
  obtain ⟨a, r, rfl, hk2⟩ := e_a hk1
  obtain ⟨n, f, ha, hn, j, rfl, hj, hk3⟩ := e_r hk2
  refine va_iald G.1.1 G.1.2.1 G.2.2.1.1 hS.2.1 a 0 (aw_at ha) rfl (vp_in_nI hj (by omega)) hd ?_
  rw [nI_clamp (by omega)]
  exact h _ _ _ hk3 _ _ _ _ _ _ _ _ _ _ _ _ _ _ G _ _ _ hS hl
theorem s_baload (hd : decode M.2.1 pc = .ok (.baload, 1)) (h : aw_Sn l M xl X d kc ks Q (pc + 1) k) : aw_Sn l M xl X d kc ks Q pc (o_ia 1 k) := by
  intro L st C hk0 p e R s m args below meth c D cA ad N Z G H locs ls hS hl
  obtain ⟨i, r, rfl, hk1⟩ := e_i hk0
  obtain ⟨a, r, rfl, hk2⟩ := e_a hk1
  obtain ⟨n, f, ha, hn, j, rfl, hj, hk3⟩ := e_r hk2
  refine va_zald G.1.1 G.1.2.1 G.2.2.1.1 hS.2.1 a 1 (aw_at ha) rfl (vp_in_nI hj (by omega)) hd ?_
  rw [nI_clamp (by omega)]
  exact h _ _ _ hk3 _ _ _ _ _ _ _ _ _ _ _ _ _ _ G _ _ _ hS hl
def o_xa (k : aw_Kt) : aw_Kt := fun L st C => p_i st fun x r => p_i r fun i r => p_a r fun a r => p_r C a 0 fun n f => ∃ j : Nat, i = nI j ∧ j < n ∧ k L r (aw_s C a (.inl (0, n, .inl (upd f j x))))
theorem s_iastore (hd : decode M.2.1 pc = .ok (.iastore, 1)) (h : aw_Sn l M xl X d kc ks Q (pc + 1) k) : aw_Sn l M xl X d kc ks Q pc (o_xa k) := by
  intro L st C hk0 p e R s m args below meth c D cA ad N Z G H locs ls hS hl
  obtain ⟨x, r, rfl, hk9⟩ := e_i hk0
  obtain ⟨i, r, rfl, hk1⟩ := e_i hk9
  obtain ⟨a, r, rfl, hk2⟩ := e_a hk1
  obtain ⟨n, f, ha, hn, j, rfl, hj, hk3⟩ := e_r hk2
  refine va_iast G.1.1 G.1.2.1 G.2.2.1.1 hS.2.1 (aw_D G.2.2.2.1 hS.1) hS.2.2 a 0 (aw_at ha) rfl (vp_in_nI hj (by omega)) hd (fun H1 locs1 hP hD hS1 => ?_)
  rw [nI_clamp (by omega)] at hP
  exact h _ _ _ hk3 _ _ _ _ _ _ _ _ _ _ _ _ _ _ G _ _ _ ⟨by rw [aw_s_len]; exact hS.1, aw_Pset hP rfl, hS1⟩ hl
theorem aw_nz {x : Int32} (h : x = 0 ∨ x = 1) : vp_nar .boolean x = x := by rcases h with rfl | rfl <;> decide +kernel
def o_zs (k : aw_Kt) : aw_Kt := fun L st C => p_i st fun x r => p_i r fun i r => p_a r fun a r => p_r C a 1 fun n f => ∃ j : Nat, i = nI j ∧ j < n ∧ (x = 0 ∨ x = 1) ∧ k L r (aw_s C a (.inl (1, n, .inl (upd f j x))))
theorem s_bastore (hd : decode M.2.1 pc = .ok (.bastore, 1)) (h : aw_Sn l M xl X d kc ks Q (pc + 1) k) : aw_Sn l M xl X d kc ks Q pc (o_zs k) := by
  intro L st C hk0 p e R s m args below meth c D cA ad N Z G H locs ls hS hl
  obtain ⟨x, r, rfl, hk9⟩ := e_i hk0
  obtain ⟨i, r, rfl, hk1⟩ := e_i hk9
  obtain ⟨a, r, rfl, hk2⟩ := e_a hk1
  obtain ⟨n, f, ha, hn, j, rfl, hj, hx, hk3⟩ := e_r hk2
  refine va_zast G.1.1 G.1.2.1 G.2.2.1.1 hS.2.1 (aw_D G.2.2.2.1 hS.1) hS.2.2 a 1 (aw_at ha) rfl (vp_in_nI hj (by omega)) hd (fun H1 locs1 hP hD hS1 => ?_)
  rw [nI_clamp (by omega), aw_nz hx] at hP
  exact h _ _ _ hk3 _ _ _ _ _ _ _ _ _ _ _ _ _ _ G _ _ _ ⟨by rw [aw_s_len]; exact hS.1, aw_Pset hP rfl, hS1⟩ hl
def o_ja (k : aw_Kt) : aw_Kt := fun L st C => p_i st fun i r => p_a r fun a r => p_rl C a fun n f => ∃ j : Nat, i = nI j ∧ j < n ∧ k L (.long (f j) :: r) C
theorem s_laload (hd : decode M.2.1 pc = .ok (.laload, 1)) (h : aw_Sn l M xl X d kc ks Q (pc + 1) k) : aw_Sn l M xl X d kc ks Q pc (o_ja k) := by
  intro L st C hk0 p e R s m args below meth c D cA ad N Z G H locs ls hS hl
  obtain ⟨i, r, rfl, hk1⟩ := e_i hk0
  obtain ⟨a, r, rfl, hk2⟩ := e_a hk1
  obtain ⟨n, f, ha, hn, j, rfl, hj, hk3⟩ := e_rl hk2
  refine va_lald G.1.1 G.1.2.1 G.2.2.1.1 hS.2.1 a 2 (aw_at ha) rfl (vp_in_nI hj (by omega)) hd ?_
  rw [nI_clamp (by omega)]
  exact h _ _ _ hk3 _ _ _ _ _ _ _ _ _ _ _ _ _ _ G _ _ _ hS hl
def o_aa (k : aw_Kt) : aw_Kt := fun L st C => p_i st fun i r => p_a r fun a r => p_ra C a fun n f => ∃ j : Nat, i = nI j ∧ j < n ∧ p_f (f j) fun b => k L (.ref b :: r) C
theorem s_aaload (hd : decode M.2.1 pc = .ok (.aaload, 1)) (h : aw_Sn l M xl X d kc ks Q (pc + 1) k) : aw_Sn l M xl X d kc ks Q pc (o_aa k) := by
  intro L st C hk0 p e R s m args below meth c D cA ad N Z G H locs ls hS hl
  obtain ⟨i, r, rfl, hk1⟩ := e_i hk0
  obtain ⟨a, r, rfl, hk2⟩ := e_a hk1
  obtain ⟨n, f, ha, hn, j, rfl, hj, hk3⟩ := e_ra hk2
  obtain ⟨b, hb, hk4⟩ := e_f hk3
  have hi := vp_in_nI hj (show n < 2 ^ 31 by omega)
  have hcl : (nI j).toNatClampNeg = j := nI_clamp (by omega)
  have hg : (fun i => (f i).map ad) (nI j).toNatClampNeg = some (ad b) := by
    show (f (nI j).toNatClampNeg).map ad = some (ad b)
    rw [hcl, hb]
    rfl
  refine W.aald (v := va_rf (some (ad b))) (ty := .array .int) G.1.1 G.1.2.1 (hS.2.1 a _ (aw_at ha)) ((G.2.2.1.1.2 3 _ rfl).1 n (fun j => va_rf ((f j).map ad))) rfl (fun q => by cases q) (by show ¬ (_ < 0 ∨ (arrV _ _ _).slots.size ≤ _); rw [arrV_size]; exact hi) (by show (arrV _ _ _).slots[_]? = _; rw [arrV_read _ _ (by rw [hcl]; exact hj)]; exact congrArg (fun x => some (va_rf x)) hg) rfl rfl hd ?_
  exact h _ _ _ hk4 _ _ _ _ _ _ _ _ _ _ _ _ _ _ G _ _ _ hS hl
def o_an (k : aw_Kt) : aw_Kt := fun L st C => p_a st fun a r => p_r C a 0 fun n f => k L (.int (nI n) :: r) C
theorem s_alen (hd : decode M.2.1 pc = .ok (.arraylength, 1)) (h : aw_Sn l M xl X d kc ks Q (pc + 1) k) : aw_Sn l M xl X d kc ks Q pc (o_an k) := by
  intro L st C hk0 p e R s m args below meth c D cA ad N Z G H locs ls hS hl
  obtain ⟨a, r, rfl, hk1⟩ := e_a hk0
  obtain ⟨n, f, ha, hn, hk2⟩ := e_r hk1
  exact va_alen (v := nI n) G.1.1 G.1.2.1 G.2.2.1.1 hS.2.1 a 0 (aw_at ha) (ty := .int) rfl rfl hd (h _ _ _ hk2 _ _ _ _ _ _ _ _ _ _ _ _ _ _ G _ _ _ hS hl)
/-- the script of the law -/
def o_sa (xl : Option (Nat × (Nat → Int32))) (k : aw_Kt) : aw_Kt := fun L st C => p_i st fun i r => p_a r fun a r => p_t (Nat.beq a 1000) (p_f xl fun q => ∃ j : Nat, i = nI j ∧ j < q.1 ∧ k L (.int (q.2 j) :: r) C)
theorem s_sld (hd : decode M.2.1 pc = .ok (.iaload, 1)) (h : aw_Sn l M xl X d kc ks Q (pc + 1) k) : aw_Sn l M xl X d kc ks Q pc (o_sa xl k) := by
  intro L st C hk0 p e R s m args below meth c D cA ad N Z G H locs ls hS hl
  obtain ⟨i, r, rfl, hk1⟩ := e_i hk0
  obtain ⟨a, r, rfl, hk2⟩ := e_a hk1
  obtain ⟨h1, hk3⟩ := e_t hk2
  have := Nat.eq_of_beq_eq_true h1
  subst this
  obtain ⟨q, hq, j, rfl, hj, hk4⟩ := e_f hk3
  obtain ⟨x1, x2, x3, x4⟩ := G.2.2.2.2.1 q hq
  have hbA : ¬ aw_A ad N s.heap.size (ad 1000) := fun z => by
    rcases z with ⟨k1, z1, z2⟩ | z
    · exact x3 k1 z1 z2.symm
    · omega
  refine va_sld G.1.1 G.1.2.1 x1 x2 hbA hS.2.2 (vp_in_nI hj x4) hd ?_
  rw [nI_clamp (by omega)]
  exact h _ _ _ hk4 _ _ _ _ _ _ _ _ _ _ _ _ _ _ G _ _ _ hS hl
def o_sn (xl : Option (Nat × (Nat → Int32))) (k : aw_Kt) : aw_Kt := fun L st C => p_a st fun a r => p_t (Nat.beq a 1000) (p_f xl fun q => k L (.int (nI q.1) :: r) C)
theorem s_slen (hd : decode M.2.1 pc = .ok (.arraylength, 1)) (h : aw_Sn l M xl X d kc ks Q (pc + 1) k) : aw_Sn l M xl X d kc ks Q pc (o_sn xl k) := by
  intro L st C hk0 p e R s m args below meth c D cA ad N Z G H locs ls hS hl
  obtain ⟨a, r, rfl, hk2⟩ := e_a hk0
  obtain ⟨h1, hk3⟩ := e_t hk2
  have := Nat.eq_of_beq_eq_true h1
  subst this
  obtain ⟨q, hq, hk4⟩ := e_f hk3
  obtain ⟨x1, x2, x3, x4⟩ := G.2.2.2.2.1 q hq
  have hbA : ¬ aw_A ad N s.heap.size (ad 1000) := fun z => by
    rcases z with ⟨k1, z1, z2⟩ | z
    · exact x3 k1 z1 z2.symm
    · omega
  exact va_slen G.1.1 G.1.2.1 x1 x2 hbA hS.2.2 hd (h _ _ _ hk4 _ _ _ _ _ _ _ _ _ _ _ _ _ _ G _ _ _ hS hl)
/-! ends -/
def o_ri (Q : Option Value → aw_H → Prop) : aw_Kt := fun _ st C => p_i st fun x r => p_e r (Q (some (.int x)) C)
theorem s_iret (hd : decode M.2.1 pc = .ok (.ireturn, 1)) (hr : M.2.2.2 = some .int) : aw_Sn l M xl X d kc ks Q pc (o_ri Q) := by
  intro L st C hk0 p e R s m args below meth c D cA ad N Z G H locs ls hS hl
  obtain ⟨x, r, rfl, hk1⟩ := e_i hk0
  obtain ⟨rfl, hk2⟩ := e_e hk1
  exact G.2.2.2.2.2.1 (some (.int x)) C H locs pc ls .ireturn (Or.inl ⟨x, .int, hr, rfl, rfl, rfl⟩) hk2 hS hd
def o_rz (Q : Option Value → aw_H → Prop) : aw_Kt := fun _ st C => p_i st fun x r => p_e r ((x = 0 ∨ x = 1) ∧ Q (some (.int x)) C)
theorem s_zret (hd : decode M.2.1 pc = .ok (.ireturn, 1)) (hr : M.2.2.2 = some .boolean) : aw_Sn l M xl X d kc ks Q pc (o_rz Q) := by
  intro L st C hk0 p e R s m args below meth c D cA ad N Z G H locs ls hS hl
  obtain ⟨x, r, rfl, hk1⟩ := e_i hk0
  obtain ⟨rfl, hx, hk2⟩ := e_e hk1
  exact G.2.2.2.2.2.1 (some (.int x)) C H locs pc ls .ireturn (Or.inl ⟨x, .boolean, hr, rfl, rfl, by rcases hx with rfl | rfl <;> decide +kernel⟩) hk2 hS hd
def o_rl (Q : Option Value → aw_H → Prop) : aw_Kt := fun _ st C => p_l st fun x r => p_e r (Q (some (.long x)) C)
theorem s_lret (hd : decode M.2.1 pc = .ok (.lreturn, 1)) (hr : M.2.2.2 = some .long) : aw_Sn l M xl X d kc ks Q pc (o_rl Q) := by
  intro L st C hk0 p e R s m args below meth c D cA ad N Z G H locs ls hS hl
  obtain ⟨x, r, rfl, hk1⟩ := e_l hk0
  obtain ⟨rfl, hk2⟩ := e_e hk1
  exact G.2.2.2.2.2.1 (some (.long x)) C H locs pc ls .lreturn (Or.inr (Or.inl ⟨x, hr, rfl, rfl⟩)) hk2 hS hd
def o_rv (Q : Option Value → aw_H → Prop) : aw_Kt := fun _ st C => p_e st (Q none C)
theorem s_vret (hd : decode M.2.1 pc = .ok (.return_, 1)) (hr : M.2.2.2 = none) : aw_Sn l M xl X d kc ks Q pc (o_rv Q) := by
  intro L st C hk0 p e R s m args below meth c D cA ad N Z G H locs ls hS hl
  obtain ⟨rfl, hk2⟩ := e_e hk0
  exact G.2.2.2.2.2.1 none C H locs pc ls .return_ (Or.inr (Or.inr ⟨hr, rfl, rfl⟩)) hk2 hS hd
/-! switches -/
def aw_sw (x : Int32) (L : aw_L) (r : List Value) (C : aw_H) (kd : aw_Kt) : Int → List aw_Kt → Prop
  | _, [] => True
  | lo, k :: ks => (x = Int32.ofInt lo → k L r C) ∧ aw_sw x L r C kd (lo + 1) ks
def o_ts (lo hi : Int) (ks : List aw_Kt) (kd : aw_Kt) : aw_Kt := fun L st C => p_i st fun x r => (x.toInt < lo ∨ hi < x.toInt → kd L r C) ∧ aw_sw x L r C kd lo ks
def aw_tw (l : Launch) (M : aw_M) (xl : Option (Nat × (Nat → Int32))) (X : Nat → aw_Kt) (d kc ks : Nat) (Q : Option Value → aw_H → Prop) (pc : Nat) : List Int → List aw_Kt → Prop
  | [], [] => True
  | o :: os, k :: ks9 => (∃ tgt : Nat, (pc : Int) + o = (tgt : Int) ∧ aw_Sn l M xl X d kc ks Q tgt k) ∧ aw_tw l M xl X d kc ks Q pc os ks9
  | _, _ => False
theorem aw_tw_get : ∀ (os : List Int) (ks9 : List aw_Kt) (lo : Int) (j : Nat) (o : Int) (x : Int32) (L : aw_L) (r : List Value) (C : aw_H) (kd : aw_Kt), aw_tw l M xl X d kc ks Q pc os ks9 → os[j]? = some o → aw_sw x L r C kd lo ks9 → x = Int32.ofInt (lo + j) → ∃ tgt : Nat, (pc : Int) + o = (tgt : Int) ∧ SW l M xl X d kc ks Q tgt L r C
  | [], _, lo, j, o, x, L, r, C, kd, _, h, _, _ => by simp at h
  | _ :: _, [], lo, j, o, x, L, r, C, kd, h, _, _, _ => h.elim
  | a :: os, k9 :: ks9, lo, j, o, x, L, r, C, kd, h1, h2, h3, h4 => by
    cases j with
    | zero =>
      simp at h2
      subst h2
      obtain ⟨tgt, e1, e2⟩ := h1.1
      exact ⟨tgt, e1, e2 _ _ _ (h3.1 (by rw [h4]; simp))⟩
    | succ j => exact aw_tw_get os ks9 (lo + 1) j o x L r C kd h1.2 (by simpa using h2) h3.2 (by rw [h4]; congr 1; push_cast; omega)
theorem s_tsw {dflt lo hi : Int} {offs : Array Int} {len td : Nat} {ks9 : List aw_Kt} (hd : decode M.2.1 pc = .ok (.tableswitch dflt lo hi offs, len)) (hlen : (offs.size : Int) = hi - lo + 1) (hlo : -1000 < lo ∧ hi < 1000) (htd : (pc : Int) + dflt = (td : Int)) (h1 : aw_Sn l M xl X d kc ks Q td kf) (h2 : aw_tw l M xl X d kc ks Q pc offs.toList ks9) : aw_Sn l M xl X d kc ks Q pc (o_ts lo hi ks9 kf) := by
  intro L st C hk0 p e R s m args below meth c D cA ad N Z G H locs ls hS hl
  obtain ⟨x, r, rfl, hk1, hk2⟩ := e_i hk0
  by_cases hx : x.toInt < lo ∨ hi < x.toInt
  · exact lv_tableOut G.1.1 G.1.2.1 hd hx htd (h1 _ _ _ (hk1 hx) _ _ _ _ _ _ _ _ _ _ _ _ _ _ G _ _ _ hS hl)
  · have hj : (x.toInt - lo).toNat < offs.size := by omega
    have hg : offs[(x.toInt - lo).toNat]? = some offs[(x.toInt - lo).toNat] := Array.getElem?_eq_getElem hj
    obtain ⟨tgt, e1, e2⟩ := aw_tw_get offs.toList ks9 lo (x.toInt - lo).toNat _ x L r C kf h2 (by rw [Array.getElem?_toList]; exact hg) hk2 (by
      rw [← Int32.toInt_inj, show lo + ((x.toInt - lo).toNat : Int) = x.toInt by omega]
      simp)
    exact lv_tableIn G.1.1 G.1.2.1 hd (by omega) (by omega) hg e1 (e2 _ _ _ _ _ _ _ _ _ _ _ _ _ _ G _ _ _ hS hl)
/-! calls -/
theorem aw_call {p : Program} {e : Env} {R : Room} {s : State} {m : MethodId} {args : Array Value} {below : List Frame} {meth : Method} {c : Code} {D : va_G} {cA : Nat → ClassId} {ad : Nat → Nat} {N : Nat} {Z : State → Prop} {H : Heap} {locs : List Loc} {ls : Array Slot} {Q' : Option Value → aw_H → Prop} {a : Array Value} {st0 rest : List Value}
    (hr : va_Run p l e R s m args below meth c H locs kc ks 0 0 (F0 m pc ls st0) rest (aw_Q Q' D cA ad N H.size a) (aw_A ad N H.size)) (hS : va_S (aw_A ad N s.heap.size) s.heap H locs)
    (kk : ∀ (v : Option Value) (C' : aw_H) (H1 : Heap) (locs1 : List Loc), Q' v C' → aw_St D cA ad N s C' H1 locs1 → W p l e R s m args below meth c H1 locs1 kc ks Z (F0 m (pc + 3) ls ((v.map (aw_cv ad)).toList ++ rest))) : W p l e R s m args below meth c H locs kc ks Z (F0 m pc ls st0) := by
  intro T hT X
  obtain ⟨v, st₀, t, T', L, h0, X', hL, e1, e2, ⟨v', C', hv, hq, hN, hP, hz, hk⟩, st⟩ := hr T hT X
  cases hv
  rw [h0] at hz hk
  have hA : ∀ q, aw_A ad N H.size q → aw_A ad N s.heap.size q := fun q z => by
    rcases z with z | z
    · exact Or.inl z
    · exact Or.inr (Nat.le_trans hS.1 z)
  obtain ⟨t2, a1, b1⟩ := kk v' C' T'.heap (locs ++ L) hq ⟨hN, by rw [e1]; exact hP, Nat.le_trans hS.1 (by rw [e1]; exact hz), fun q h1 h2 => by rw [e1, hk q (Nat.lt_of_lt_of_le h1 hS.1) (fun z => h2 (hA q z))]; exact hS.2.1 q h1 h2, fun q hq => by
      rcases List.mem_append.mp hq with h | h
      · exact hS.2.2 q h
      · exact hA _ (hL q h)⟩ T' rfl X'
  exact ⟨t2, st t2 a1, b1⟩
/-- what a call answers, and goes on with -/
def aw_cK (l : Launch) (M' : aw_M) (d : Nat) (av rest : List Value) (L : aw_L) (C : aw_H) (k : aw_Kt) : Prop := ∃ Qc : Option Value → aw_H → Prop, SMet l M' d av C Qc ∧ ∀ v C', Qc v C' → k L (v.toList ++ rest) C'
def o_cv (l : Launch) (d : Nat) (M' : aw_M) (ci n : Nat) (k : aw_Kt) : aw_Kt := fun L st C => match d with
  | 0 => False
  | d' + 1 => p_f (aw_pop n [] st) fun q => p_a q.2 fun b rest => p_o C b ci fun _ => p_t (Nat.ble (aw_cs rest) 8) (aw_cK l M' d' (.ref b :: q.1) rest L C k)
def o_cs (l : Launch) (d : Nat) (M' : aw_M) (n : Nat) (k : aw_Kt) : aw_Kt := fun L st C => match d with
  | 0 => False
  | d' + 1 => p_f (aw_pop n [] st) fun q => p_t (Nat.ble (aw_cs q.2) 8) (aw_cK l M' d' q.1 q.2 L C k)
theorem aw_tl (v : Option Value) (ad : Nat → Nat) (rest : List Value) : (v.map (aw_cv ad)).toList ++ rest.map (aw_cv ad) = (v.toList ++ rest).map (aw_cv ad) := by cases v <;> simp
theorem aw_stk {n : Nat} {st as r : List Value} (ad : Nat → Nat) (h : aw_pop n [] st = some (as, r)) : as.length = n ∧ st.map (aw_cv ad) = (as.map (aw_cv ad)).reverse ++ r.map (aw_cv ad) := by
  obtain ⟨h1, h2⟩ := aw_pop_eq n [] st as r h
  refine ⟨by simpa using h1, ?_⟩
  have h3 : st = as.reverse ++ r := by simpa using h2
  rw [h3]
  simp
theorem s_cv {M' : aw_M} {ix ci n Nf : Nat} {T : u_T} (hd : decode M.2.1 pc = .ok (.invokevirtual ix, 3)) (hc : aw_cl[ci]? = some (M'.1.cls, T, Nf)) (hm : M'.2.2.1 ≤ 41) (hli : Jvm.Cond.methodLink M.1.cls ix M'.1 ∈ aw_B) (hin : Jvm.Cond.instanceMethod M'.1 ∈ aw_B) (hse : Jvm.Cond.selects M'.1.cls M'.1 M'.1 ∈ aw_B) (hini : Jvm.Cond.initialized M'.1.cls ∈ aw_B) (hco : Jvm.Cond.code M'.1 M'.2.1 M'.2.2.1 M'.2.2.2 ∈ aw_B)
    (hde : M'.1.cls ≠ "java/lang/invoke/MethodHandle" ∧ M'.1.cls ≠ "java/lang/invoke/VarHandle" ∧ (parseMethodDescriptor M'.1.desc).map (fun d => d.parameters.length) = some n) (h : aw_Sn l M xl X d kc ks Q (pc + 3) k) : aw_Sn l M xl X d kc ks Q pc (o_cv l d M' ci n k) := by
  intro L st C hk0 p e R s m args below meth c D cA ad N Z G H locs ls hS hl
  cases d with
  | zero => exact hk0.elim
  | succ d' =>
    obtain ⟨⟨as, q2⟩, hq, hk1⟩ := e_f hk0
    obtain ⟨b, rest, hb, hk2⟩ := e_a hk1
    obtain ⟨fs, ha, hk3⟩ := e_o hk2
    obtain ⟨hsum, Qc, hM, hk4⟩ := e_t hk3
    dsimp only at hb hM
    subst hb
    obtain ⟨hn, hst⟩ := aw_stk ad hq
    have G0 := G
    obtain ⟨⟨hx, hbb, hml, hown, hts⟩, ⟨hf, hlo, hcl, hsl⟩, hK, hJ, -, -⟩ := G
    rw [hst]
    refine aw_call (Q' := Qc) (rest := rest.map (aw_cv ad)) (va_runV (C := M'.1.cls) (b := ad b) (As := as.map (aw_cv ad)) (n := n) (rm := aw_rm d') ⟨hx, hbb, hml, hown, hts⟩ (hM D cA ad N H.size hS.1 hJ) ⟨callB_of n hts (aw_GI hco) rfl rfl rfl (hts _ hini) (hts _ hli) hde ⟨hf, by show 8 + (_ + 11) + 60 * d' ≤ _; omega⟩, hts _ hin, hts _ hse⟩
      ⟨aw_blind _ _ _ _ _ _, va_recv hK.1 hS.2.1 hc (aw_at ha), fun U hU hW => ⟨rfl, by rw [hU], by rw [hU]; exact hS.2.1, aw_K.warm hW hK⟩⟩ rfl (by rw [List.length_map]; exact hn) hl.1 rfl (lv_room (by rw [aw_cs_eq]; exact Nat.le_of_ble_eq_true hsum)) hd ⟨hcl, hsl⟩) hS.2.2 (fun v C' H1 locs1 hq1 hS1 => ?_)
    rw [aw_tl]
    exact h _ _ _ (hk4 v C' hq1) _ _ _ _ _ _ _ _ _ _ _ _ _ _ G0 _ _ _ hS1 hl
theorem s_cs {M' : aw_M} {ix n : Nat} (hd : decode M.2.1 pc = .ok (.invokestatic ix, 3)) (hm : M'.2.2.1 ≤ 41) (hli : Jvm.Cond.methodLink M.1.cls ix M'.1 ∈ aw_B) (hst : Jvm.Cond.static M'.1 ∈ aw_B) (hini : Jvm.Cond.initialized M'.1.cls ∈ aw_B) (hco : Jvm.Cond.code M'.1 M'.2.1 M'.2.2.1 M'.2.2.2 ∈ aw_B)
    (hde : M'.1.cls ≠ "java/lang/invoke/MethodHandle" ∧ M'.1.cls ≠ "java/lang/invoke/VarHandle" ∧ (parseMethodDescriptor M'.1.desc).map (fun d => d.parameters.length) = some n) (h : aw_Sn l M xl X d kc ks Q (pc + 3) k) : aw_Sn l M xl X d kc ks Q pc (o_cs l d M' n k) := by
  intro L st C hk0 p e R s m args below meth c D cA ad N Z G H locs ls hS hl
  cases d with
  | zero => exact hk0.elim
  | succ d' =>
    obtain ⟨⟨as, rest⟩, hq, hk1⟩ := e_f hk0
    obtain ⟨hsum, Qc, hM, hk4⟩ := e_t hk1
    dsimp only at hM hsum
    obtain ⟨hn, hst0⟩ := aw_stk ad hq
    have G0 := G
    obtain ⟨⟨hx, hbb, hml, hown, hts⟩, ⟨hf, hlo, hcl, hsl⟩, hK, hJ, -, -⟩ := G
    rw [hst0]
    refine aw_call (Q' := Qc) (rest := rest.map (aw_cv ad)) (va_runS (As := as.map (aw_cv ad)) (n := n) (rm := aw_rm d') ⟨hx, hbb, hml, hown, hts⟩ (hM D cA ad N H.size hS.1 hJ) ⟨callB_of n hts (aw_GI hco) rfl rfl rfl (hts _ hini) (hts _ hli) hde ⟨hf, by show 8 + (_ + 11) + 60 * d' ≤ _; omega⟩, hts _ hst⟩
      ⟨aw_blind _ _ _ _ _ _, fun U hU hW => ⟨rfl, by rw [hU], by rw [hU]; exact hS.2.1, aw_K.warm hW hK⟩⟩ rfl (by rw [List.length_map]; exact hn) hl.1 rfl (lv_room (by rw [aw_cs_eq]; exact Nat.le_of_ble_eq_true hsum)) hd ⟨hcl, hsl⟩) hS.2.2 (fun v C' H1 locs1 hq1 hS1 => ?_)
    rw [aw_tl]
    exact h _ _ _ (hk4 v C' hq1) _ _ _ _ _ _ _ _ _ _ _ _ _ _ G0 _ _ _ hS1 hl
/-- a static method of the nest host -/
theorem s_cn {M' : aw_M} {ix n : Nat} (hd : decode M.2.1 pc = .ok (.invokestatic ix, 3)) (hm : M'.2.2.1 ≤ 41) (hli : Jvm.Cond.methodLinkNest M.1.cls ix M'.1 "LabelPeople" = aw_n1 ∨ Jvm.Cond.methodLinkNest M.1.cls ix M'.1 "LabelPeople" = aw_n2) (hst : Jvm.Cond.static M'.1 ∈ aw_B) (hini : Jvm.Cond.initialized M'.1.cls ∈ aw_B) (hco : Jvm.Cond.code M'.1 M'.2.1 M'.2.2.1 M'.2.2.2 ∈ aw_B)
    (hde : M'.1.cls ≠ "java/lang/invoke/MethodHandle" ∧ M'.1.cls ≠ "java/lang/invoke/VarHandle" ∧ (parseMethodDescriptor M'.1.desc).map (fun d => d.parameters.length) = some n) (h : aw_Sn l M xl X d kc ks Q (pc + 3) k) : aw_Sn l M xl X d kc ks Q pc (o_cs l d M' n k) := by
  intro L st C hk0 p e R s m args below meth c D cA ad N Z G H locs ls hS hl
  cases d with
  | zero => exact hk0.elim
  | succ d' =>
    obtain ⟨⟨as, rest⟩, hq, hk1⟩ := e_f hk0
    obtain ⟨hsum, Qc, hM, hk4⟩ := e_t hk1
    dsimp only at hM hsum
    obtain ⟨hn, hst0⟩ := aw_stk ad hq
    have G0 := G
    obtain ⟨⟨hx, hbb, hml, hown, hts⟩, ⟨hf, hlo, hcl, hsl⟩, hK, hJ, -, -⟩ := G
    have hnw : va_Nw (.methodLinkNest M.1.cls ix M'.1 "LabelPeople") s := by
      rcases hli with z | z
      · rw [z]; exact hK.2.1
      · rw [z]; exact hK.2.2
    rw [hst0]
    refine aw_call (Q' := Qc) (rest := rest.map (aw_cv ad)) (va_runSN (As := as.map (aw_cv ad)) (n := n) (rm := aw_rm d') ⟨hx, hbb, hml, hown, hts⟩ (hM D cA ad N H.size hS.1 hJ) ⟨va_cnB n hts (aw_GI hco) rfl rfl rfl hnw (hts _ hini) hde ⟨hf, by show 8 + (_ + 11) + 60 * d' ≤ _; omega⟩, hts _ hst, trivial⟩
      ⟨aw_blind _ _ _ _ _ _, fun U hU hW => ⟨rfl, by rw [hU], by rw [hU]; exact hS.2.1, aw_K.warm hW hK⟩⟩ rfl (by rw [List.length_map]; exact hn) hl.1 rfl (lv_room (by rw [aw_cs_eq]; exact Nat.le_of_ble_eq_true hsum)) hd ⟨hcl, hsl⟩) hS.2.2 (fun v C' H1 locs1 hq1 hS1 => ?_)
    rw [aw_tl]
    exact h _ _ _ (hk4 v C' hq1) _ _ _ _ _ _ _ _ _ _ _ _ _ _ G0 _ _ _ hS1 hl
end AWH
/-! a method's contract from the walk of its body -/
def aw_en : List Value → aw_L
  | [] => []
  | .long x :: r => some (.long x) :: none :: aw_en r
  | .double x :: r => some (.double x) :: none :: aw_en r
  | v :: r => some v :: aw_en r
theorem aw_en_mem (ad : Nat → Nat) : ∀ (av : List Value) (k n : Nat) (q : Nat × Value), q ∈ aw_al ad k (aw_en av ++ List.replicate n none) → q ∈ lv_args k (av.map (aw_cv ad))
  | [], k, n, q, h => by
    obtain ⟨i, v, h1, -⟩ := (aw_al_mem ad _ k q).mp h
    rw [aw_g_eq] at h1
    simp only [aw_en, List.nil_append, List.getElem?_replicate] at h1
    split at h1
    · cases h1
    · cases h1
  | v :: r, k, n, q, h => by
    cases v with
    | long x =>
      simp only [aw_en, List.cons_append, aw_al, List.mem_cons] at h
      rcases h with h | h
      · rw [h]; simp [lv_args]
      · exact List.mem_cons_of_mem _ (by simpa [aw_cv, Value.category] using aw_en_mem ad r (k + 1 + 1) n q h)
    | double x =>
      simp only [aw_en, List.cons_append, aw_al, List.mem_cons] at h
      rcases h with h | h
      · rw [h]; simp [lv_args]
      · exact List.mem_cons_of_mem _ (by simpa [aw_cv, Value.category] using aw_en_mem ad r (k + 1 + 1) n q h)
    | int x =>
      simp only [aw_en, List.cons_append, aw_al, List.mem_cons] at h
      rcases h with h | h
      · rw [h]; simp [lv_args]
      · exact List.mem_cons_of_mem _ (by simpa [aw_cv, Value.category] using aw_en_mem ad r (k + 1) n q h)
    | float x =>
      simp only [aw_en, List.cons_append, aw_al, List.mem_cons] at h
      rcases h with h | h
      · rw [h]; simp [lv_args]
      · exact List.mem_cons_of_mem _ (by simpa [aw_cv, Value.category] using aw_en_mem ad r (k + 1) n q h)
    | null =>
      simp only [aw_en, List.cons_append, aw_al, List.mem_cons] at h
      rcases h with h | h
      · rw [h]; simp [lv_args]
      · exact List.mem_cons_of_mem _ (by simpa [aw_cv, Value.category] using aw_en_mem ad r (k + 1) n q h)
    | ref x =>
      simp only [aw_en, List.cons_append, aw_al, List.mem_cons] at h
      rcases h with h | h
      · rw [h]; simp [lv_args]
      · exact List.mem_cons_of_mem _ (by simpa [aw_cv, Value.category] using aw_en_mem ad r (k + 1) n q h)
    | retAddr x =>
      simp only [aw_en, List.cons_append, aw_al, List.mem_cons] at h
      rcases h with h | h
      · rw [h]; simp [lv_args]
      · exact List.mem_cons_of_mem _ (by simpa [aw_cv, Value.category] using aw_en_mem ad r (k + 1) n q h)
theorem aw_sl_len (ad : Nat → Nat) : ∀ av : List Value, (lg_sl (av.map (aw_cv ad))).length = aw_cs av
  | [] => rfl
  | v :: r => by
    have h := aw_sl_len ad r
    simp only [lg_sl, List.map_cons, List.flatMap_cons, List.length_append, aw_cs] at h ⊢
    rw [h, aw_cv_cat]
    rcases lv_cat v with q | q <;> simp [q]
theorem SMet_ofF {l : Launch} {M : aw_M} {d : Nat} {av : List Value} {C : aw_H} {Q : Option Value → aw_H → Prop} (n : Nat) (hy : plainFor M.1 = true) (hn : aw_cs av ≤ M.2.2.1) (h : SW l M none (fun _ _ _ _ => False) d 0 0 Q 0 (aw_en av ++ List.replicate n none) [] C) : SMet l M d av C Q := by
  intro D cA ad N sz hN hJ
  refine va_MetF (cc := M.2.1) (maxL := M.2.2.1) (ret := M.2.2.2) hy rfl ?_
  intro p e s m args below meth c s₁ B hml hv
  obtain ⟨rfl, hsz, hP, hK⟩ := hv
  have hx := B.exec
  have hb := B.bytes
  have hr := B.returns
  have hts := atoms_spec (ws := aw_ws M) B.pre
  have hown : s.vm.findClass M.1.cls = some m.cls := findClass_of_methodNamed B.named
  have hlocks := B.notSynchronized
  subst hsz
  have hl := lv_entry (av.map (aw_cv ad)) (n := M.2.2.1) (by rw [aw_sl_len]; exact hn)
  rw [lg_entry_eq]
  generalize (lg_sl (av.map (aw_cv ad)) ++ List.replicate (M.2.2.1 - (lg_sl (av.map (aw_cv ad))).length) Slot.unset).toArray = ls at hl ⊢
  refine h p e (aw_rm d) s m _ below meth c D cA ad N _ ⟨⟨hx, hb, hml, hown, fun w hw => hts w (List.mem_cons_of_mem _ hw)⟩, ⟨Nat.le_refl _, Nat.le_refl _, Nat.le_refl _, Nat.le_refl _⟩, hK, hJ, (fun q hq => by cases hq), ?_, fun _ _ _ _ _ _ _ h => h.elim⟩ s.heap [] ls ⟨hN, hP, va_S.rf⟩ ⟨hl.1, hl.2.1, fun q hq => hl.2.2 q (aw_en_mem ad av 0 n q hq)⟩
  intro v C2 H locs pc ls2 i hR hq hS hd
  rcases hR with ⟨x, ty, r1, rfl, rfl, r2⟩ | ⟨x, r1, rfl, rfl⟩ | ⟨r1, rfl, rfl⟩
  · exact W.zret hx hb (hr.trans r1) r2 (fun t ht hW => ⟨some (.int x), C2, rfl, hq, hS.1, by rw [ht]; exact hS.2.1, hS.2.2.F ht⟩) hS.2.2.2.2 hd
  · exact W.lret hx hb (hr.trans r1) (fun t ht hW => ⟨some (.long x), C2, rfl, hq, hS.1, by rw [ht]; exact hS.2.1, hS.2.2.F ht⟩) hS.2.2.2.2 hd
  · exact W.vret hx hb (hr.trans r1) (fun t ht hW => ⟨none, C2, rfl, hq, hS.1, by rw [ht]; exact hS.2.1, hS.2.2.F ht⟩) hS.2.2.2.2 hd
theorem SMet_of {l : Launch} {M : aw_M} {d : Nat} {av : List Value} {C : aw_H} {Q : Option Value → aw_H → Prop} (n : Nat) (hy : plainName M.1.cls = true) (hn : aw_cs av ≤ M.2.2.1) (h : SW l M none (fun _ _ _ _ => False) d 0 0 Q 0 (aw_en av ++ List.replicate n none) [] C) : SMet l M d av C Q := SMet_ofF n (plainFor_of_name hy) hn h
end
section
/-! System.arraycopy of ints from the beginning on -/
section AWC
variable {l : Launch} {M : aw_M} {xl : Option (Nat × (Nat → Int32))} {X : Nat → aw_Kt} {d kc ks : Nat} {Q : Option Value → aw_H → Prop} {pc : Nat} {k : aw_Kt}
def o_cp (d : Nat) (k : aw_Kt) : aw_Kt := fun L st C => match d with
  | 0 => False
  | _ + 1 => p_i st fun n r => p_i r fun dp r => p_a r fun a r => p_i r fun sp r => p_a r fun b r => p_e r (p_r C b 0 fun n0 f => p_r C a 0 fun n1 g => ∃ j : Nat, n = nI j ∧ dp = nI 0 ∧ sp = nI 0 ∧ j ≤ n0 ∧ j ≤ n1 ∧ k L [] (aw_s C a (.inl (0, n1, .inl (va_cpy f g 0 0 j)))))
theorem s_copy {ix : Nat} (hd : decode M.2.1 pc = .ok (.invokestatic ix, 3)) (hli : Jvm.Cond.methodLink M.1.cls ix arraycopyName ∈ aw_B) (hna : Jvm.Cond.native arraycopyName ∈ aw_B) (hst : Jvm.Cond.static arraycopyName ∈ aw_B) (hini : Jvm.Cond.initialized "java/lang/System" ∈ aw_B) (h : aw_Sn l M xl X d kc ks Q (pc + 3) k) : aw_Sn l M xl X d kc ks Q pc (o_cp d k) := by
  intro L st C hk0 p e R s m args below meth c D cA ad N Z G H locs ls hS hl
  cases d with
  | zero => exact hk0.elim
  | succ d' =>
    obtain ⟨n, r1, rfl, hk1⟩ := e_i hk0
    obtain ⟨dp, r2, rfl, hk2⟩ := e_i hk1
    obtain ⟨a, r3, rfl, hk3⟩ := e_a hk2
    obtain ⟨sp, r4, rfl, hk4⟩ := e_i hk3
    obtain ⟨b, r5, rfl, hk5⟩ := e_a hk4
    obtain ⟨rfl, hk6⟩ := e_e hk5
    obtain ⟨n0, f, hb0, hn0, hk7⟩ := e_r hk6
    obtain ⟨n1, g, ha0, hn1, j, rfl, rfl, rfl, hj0, hj1, hk8⟩ := e_r hk7
    have hf := G.2.1.1
    have hlo := G.2.1.2.1
    have z0 : (nI 0).toNatClampNeg = 0 := nI_clamp (by omega)
    have zj : (nI j).toNatClampNeg = j := nI_clamp (by omega)
    refine va_copyi (ls := ls) (rest := []) (n0 := n0) (n1 := n1) (f := f) (g := g) (ty := .int) G.1.1 G.1.2.1 (G.1.2.2.1.trans hl.1.symm) G.1.2.2.2.1 (G.1.2.2.2.2 _ hli) (G.1.2.2.2.2 _ hna) (G.1.2.2.2.2 _ hst) (G.1.2.2.2.2 _ hini) G.2.2.1.1 hS.2.1 (aw_D G.2.2.2.1 hS.1) hS.2.2 b a 0 0 (aw_at hb0) (aw_at ha0) rfl rfl rfl (nI_pos (by omega)) (nI_pos (by omega)) (nI_pos (by omega)) (by rw [z0, zj]; omega) (by rw [z0, zj]; omega) (fun _ _ => rfl) (by omega) (Nat.le_trans (show _ ≤ 60 * 1 by decide) (Nat.le_trans (Nat.mul_le_mul_left 60 (by omega)) hlo)) hd (fun H1 locs1 hP hD hS1 => ?_)
    rw [z0, zj] at hP
    exact h _ _ _ hk8 _ _ _ _ _ _ _ _ _ _ _ _ _ _ G _ _ _ ⟨by rw [aw_s_len]; exact hS.1, aw_Pset hP rfl, hS1⟩ hl
end AWC
end
section
/-! methods, and the words that their instructions use -/
abbrev m_J7_fill_53178 : aw_M := (yJ7_fill_53178, cJ7_fill_53178, 4, none)
abbrev m_J9_floorMod_7cf53 : aw_M := (yJ9_floorMod_7cf53, cJ9_floorMod_7cf53, 3, some .int)
abbrev m_L_law : aw_M := (yL_law, cL_law, 8, some .boolean)
abbrev m_X0_commonDivisor : aw_M := (yX0_commonDivisor, cX0_commonDivisor, 11, some .long)
abbrev m_X0_countLabels : aw_M := (yX0_countLabels, cX0_countLabels, 5, none)
abbrev m_X0_denominator : aw_M := (yX0_denominator, cX0_denominator, 1, some .long)
abbrev m_X0_likePairs : aw_M := (yX0_likePairs, cX0_likePairs, 6, some .int)
abbrev m_X0_measureAll : aw_M := (yX0_measureAll, cX0_measureAll, 10, none)
abbrev m_X0_measureTwo : aw_M := (yX0_measureTwo, cX0_measureTwo, 8, none)
abbrev m_X0_numerator : aw_M := (yX0_numerator, cX0_numerator, 1, some .long)
abbrev m_X0_rowCount : aw_M := (yX0_rowCount, cX0_rowCount, 1, some .int)
abbrev m_X0_secondCount : aw_M := (yX0_secondCount, cX0_secondCount, 1, some .int)
abbrev m_X0_setFraction : aw_M := (yX0_setFraction, cX0_setFraction, 7, none)
abbrev m_X0_startCounts : aw_M := (yX0_startCounts, cX0_startCounts, 1, none)
abbrev m_X0_sumOfProducts : aw_M := (yX0_sumOfProducts, cX0_sumOfProducts, 5, some .long)
abbrev m_X1_addRule : aw_M := (yX1_addRule, cX1_addRule, 5, some .int)
abbrev m_X1_hasRule : aw_M := (yX1_hasRule, cX1_hasRule, 2, some .boolean)
abbrev m_X1_isOn : aw_M := (yX1_isOn, cX1_isOn, 2, some .boolean)
abbrev m_X1_replace : aw_M := (yX1_replace, cX1_replace, 4, some .int)
abbrev m_X1_setOn : aw_M := (yX1_setOn, cX1_setOn, 3, none)
abbrev m_X1_size : aw_M := (yX1_size, cX1_size, 1, some .int)
abbrev m_X1_wordOn : aw_M := (yX1_wordOn, cX1_wordOn, 7, some .int)
abbrev m_X2_addRow : aw_M := (yX2_addRow, cX2_addRow, 5, some .int)
abbrev m_X2_countKnown : aw_M := (yX2_countKnown, cX2_countKnown, 3, some .int)
abbrev m_X2_countWrong : aw_M := (yX2_countWrong, cX2_countWrong, 5, none)
abbrev m_X2_feature : aw_M := (yX2_feature, cX2_feature, 3, some .int)
abbrev m_X2_give : aw_M := (yX2_give, cX2_give, 4, none)
abbrev m_X2_given : aw_M := (yX2_given, cX2_given, 3, some .int)
abbrev m_X2_givenBy : aw_M := (yX2_givenBy, cX2_givenBy, 4, some .int)
abbrev m_X2_givenOn : aw_M := (yX2_givenOn, cX2_givenOn, 4, some .int)
abbrev m_X2_hasRow : aw_M := (yX2_hasRow, cX2_hasRow, 2, some .boolean)
abbrev m_X2_known : aw_M := (yX2_known, cX2_known, 2, some .int)
abbrev m_X2_setKnown : aw_M := (yX2_setKnown, cX2_setKnown, 4, none)
abbrev m_X2_size : aw_M := (yX2_size, cX2_size, 1, some .int)
abbrev m_X2_wrongOf : aw_M := (yX2_wrongOf, cX2_wrongOf, 2, some .int)
abbrev m_X3_about : aw_M := (yX3_about, cX3_about, 2, some .int)
abbrev m_X3_abstains : aw_M := (yX3_abstains, cX3_abstains, 4, some .int)
abbrev m_X3_agree : aw_M := (yX3_agree, cX3_agree, 4, some .long)
abbrev m_X3_all : aw_M := (yX3_all, cX3_all, 2, some .long)
abbrev m_X3_bound : aw_M := (yX3_bound, cX3_bound, 3, some .int)
abbrev m_X3_countBarred : aw_M := (yX3_countBarred, cX3_countBarred, 3, some .int)
abbrev m_X3_countDecided : aw_M := (yX3_countDecided, cX3_countDecided, 3, some .int)
abbrev m_X3_countDisputed : aw_M := (yX3_countDisputed, cX3_countDisputed, 3, some .int)
abbrev m_X3_countLabellings : aw_M := (yX3_countLabellings, cX3_countLabellings, 3, some .int)
abbrev m_X3_countVotes : aw_M := (yX3_countVotes, cX3_countVotes, 4, none)
abbrev m_X3_decide : aw_M := (yX3_decide, cX3_decide, 3, some .int)
abbrev m_X3_decided : aw_M := (yX3_decided, cX3_decided, 2, some .int)
abbrev m_X3_earnedTrust : aw_M := (yX3_earnedTrust, cX3_earnedTrust, 6, some .int)
abbrev m_X3_expert : aw_M := (yX3_expert, cX3_expert, 4, some .int)
abbrev m_X3_expertOn : aw_M := (yX3_expertOn, cX3_expertOn, 4, some .int)
abbrev m_X3_gold : aw_M := (yX3_gold, cX3_gold, 4, some .int)
abbrev m_X3_isBarred : aw_M := (yX3_isBarred, cX3_isBarred, 2, some .boolean)
abbrev m_X3_isDisputed : aw_M := (yX3_isDisputed, cX3_isDisputed, 5, some .boolean)
abbrev m_X3_isFeature : aw_M := (yX3_isFeature, cX3_isFeature, 1, some .boolean)
abbrev m_X3_isLabel : aw_M := (yX3_isLabel, cX3_isLabel, 1, some .boolean)
abbrev m_X3_isPerson : aw_M := (yX3_isPerson, cX3_isPerson, 1, some .boolean)
abbrev m_X3_isPlace : aw_M := (yX3_isPlace, cX3_isPlace, 1, some .boolean)
abbrev m_X3_label : aw_M := (yX3_label, cX3_label, 4, some .int)
abbrev m_X3_leadInTally : aw_M := (yX3_leadInTally, cX3_leadInTally, 4, some .int)
abbrev m_X3_learn : aw_M := (yX3_learn, cX3_learn, 3, some .int)
abbrev m_X3_learnRound : aw_M := (yX3_learnRound, cX3_learnRound, 3, some .boolean)
abbrev m_X3_next : aw_M := (yX3_next, cX3_next, 8, some .int)
abbrev m_X3_partOfAgreement : aw_M := (yX3_partOfAgreement, cX3_partOfAgreement, 2, some .long)
abbrev m_X3_person : aw_M := (yX3_person, cX3_person, 3, some .int)
abbrev m_X3_row : aw_M := (yX3_row, cX3_row, 5, some .int)
abbrev m_X3_rule : aw_M := (yX3_rule, cX3_rule, 5, some .int)
abbrev m_X3_said : aw_M := (yX3_said, cX3_said, 3, some .int)
abbrev m_X3_says : aw_M := (yX3_says, cX3_says, 4, some .int)
abbrev m_X3_table : aw_M := (yX3_table, cX3_table, 3, some .int)
abbrev m_X3_turn : aw_M := (yX3_turn, cX3_turn, 4, some .int)
abbrev m_X3_votes : aw_M := (yX3_votes, cX3_votes, 3, some .int)
abbrev m_X3_winnerInTally : aw_M := (yX3_winnerInTally, cX3_winnerInTally, 4, some .int)
abbrev m_X4_about : aw_M := (yX4_about, cX4_about, 4, some .int)
abbrev m_X4_abstains : aw_M := (yX4_abstains, cX4_abstains, 4, some .int)
abbrev m_X4_agree : aw_M := (yX4_agree, cX4_agree, 18, some .long)
abbrev m_X4_all : aw_M := (yX4_all, cX4_all, 14, some .long)
abbrev m_X4_bound : aw_M := (yX4_bound, cX4_bound, 3, some .int)
abbrev m_X4_countOf : aw_M := (yX4_countOf, cX4_countOf, 5, some .int)
abbrev m_X4_cut : aw_M := (yX4_cut, cX4_cut, 12, some .long)
abbrev m_X4_decided : aw_M := (yX4_decided, cX4_decided, 2, some .int)
abbrev m_X4_decidedOf : aw_M := (yX4_decidedOf, cX4_decidedOf, 3, some .int)
abbrev m_X4_expert : aw_M := (yX4_expert, cX4_expert, 4, some .int)
abbrev m_X4_gold : aw_M := (yX4_gold, cX4_gold, 4, some .int)
abbrev m_X4_in : aw_M := (yX4_in, cX4_in, 3, some .boolean)
abbrev m_X4_isBarred : aw_M := (yX4_isBarred, cX4_isBarred, 2, some .boolean)
abbrev m_X4_isPerson : aw_M := (yX4_isPerson, cX4_isPerson, 1, some .boolean)
abbrev m_X4_isRow : aw_M := (yX4_isRow, cX4_isRow, 2, some .boolean)
abbrev m_X4_isUnlike : aw_M := (yX4_isUnlike, cX4_isUnlike, 7, some .boolean)
abbrev m_X4_label : aw_M := (yX4_label, cX4_label, 4, some .int)
abbrev m_X4_labelled : aw_M := (yX4_labelled, cX4_labelled, 4, some .int)
abbrev m_X4_labellings : aw_M := (yX4_labellings, cX4_labellings, 4, some .int)
abbrev m_X4_learn : aw_M := (yX4_learn, cX4_learn, 8, some .int)
abbrev m_X4_next : aw_M := (yX4_next, cX4_next, 8, some .int)
abbrev m_X4_person : aw_M := (yX4_person, cX4_person, 3, some .int)
abbrev m_X4_row : aw_M := (yX4_row, cX4_row, 5, some .int)
abbrev m_X4_rule : aw_M := (yX4_rule, cX4_rule, 5, some .int)
abbrev m_X4_said : aw_M := (yX4_said, cX4_said, 3, some .int)
abbrev m_X4_says : aw_M := (yX4_says, cX4_says, 4, some .int)
abbrev m_X4_saysOf : aw_M := (yX4_saysOf, cX4_saysOf, 7, some .int)
abbrev m_X4_table : aw_M := (yX4_table, cX4_table, 4, some .int)
abbrev m_X4_thrown : aw_M := (yX4_thrown, cX4_thrown, 1, some .int)
abbrev m_X4_turn : aw_M := (yX4_turn, cX4_turn, 4, some .int)
abbrev m_X4_votes : aw_M := (yX4_votes, cX4_votes, 3, some .int)
abbrev m_X4_votesOf : aw_M := (yX4_votesOf, cX4_votesOf, 5, some .int)
abbrev m_X4_weigh : aw_M := (yX4_weigh, cX4_weigh, 4, none)
abbrev m_X4_wrong : aw_M := (yX4_wrong, cX4_wrong, 4, some .int)
theorem u_X0 : ∀ w ∈ u_ws RX0 TX0 6, w ∈ aw_B := fun w h => aw_in ((by decide +kernel : ∀ w ∈ u_ws RX0 TX0 6, w ∈ lw_tbl) w h) ((by decide +kernel : ∀ w ∈ u_ws RX0 TX0 6, goodWord w = true) w h)
theorem u_X1 : ∀ w ∈ u_ws RX1 TX1 7, w ∈ aw_B := fun w h => aw_in ((by decide +kernel : ∀ w ∈ u_ws RX1 TX1 7, w ∈ lw_tbl) w h) ((by decide +kernel : ∀ w ∈ u_ws RX1 TX1 7, goodWord w = true) w h)
theorem u_X2 : ∀ w ∈ u_ws RX2 TX2 5, w ∈ aw_B := fun w h => aw_in ((by decide +kernel : ∀ w ∈ u_ws RX2 TX2 5, w ∈ lw_tbl) w h) ((by decide +kernel : ∀ w ∈ u_ws RX2 TX2 5, goodWord w = true) w h)
theorem u_X3 : ∀ w ∈ u_ws RX3 TX3 9, w ∈ aw_B := fun w h => aw_in ((by decide +kernel : ∀ w ∈ u_ws RX3 TX3 9, w ∈ lw_tbl) w h) ((by decide +kernel : ∀ w ∈ u_ws RX3 TX3 9, goodWord w = true) w h)
theorem u_X4 : ∀ w ∈ u_ws RX4 TX4 20, w ∈ aw_B := fun w h => aw_in ((by decide +kernel : ∀ w ∈ u_ws RX4 TX4 20, w ∈ lw_tbl) w h) ((by decide +kernel : ∀ w ∈ u_ws RX4 TX4 20, goodWord w = true) w h)
theorem wc_J7_fill_53178 : Jvm.Cond.code yJ7_fill_53178 cJ7_fill_53178 4 none ∈ aw_B := aw_in (by decide +kernel) (by decide +kernel)
theorem wt_J7_fill_53178 : Jvm.Cond.static yJ7_fill_53178 ∈ aw_B := aw_in (by decide +kernel) (by decide +kernel)
theorem wd_J7_fill_53178 : yJ7_fill_53178.cls ≠ "java/lang/invoke/MethodHandle" ∧ yJ7_fill_53178.cls ≠ "java/lang/invoke/VarHandle" ∧ (parseMethodDescriptor yJ7_fill_53178.desc).map (fun d => d.parameters.length) = some 2 := by decide +kernel
theorem wc_J9_floorMod_7cf53 : Jvm.Cond.code yJ9_floorMod_7cf53 cJ9_floorMod_7cf53 3 (some .int) ∈ aw_B := aw_in (by decide +kernel) (by decide +kernel)
theorem wt_J9_floorMod_7cf53 : Jvm.Cond.static yJ9_floorMod_7cf53 ∈ aw_B := aw_in (by decide +kernel) (by decide +kernel)
theorem wd_J9_floorMod_7cf53 : yJ9_floorMod_7cf53.cls ≠ "java/lang/invoke/MethodHandle" ∧ yJ9_floorMod_7cf53.cls ≠ "java/lang/invoke/VarHandle" ∧ (parseMethodDescriptor yJ9_floorMod_7cf53.desc).map (fun d => d.parameters.length) = some 2 := by decide +kernel
theorem wc_X0_commonDivisor : Jvm.Cond.code yX0_commonDivisor cX0_commonDivisor 11 (some .long) ∈ aw_B := aw_in (by decide +kernel) (by decide +kernel)
theorem wt_X0_commonDivisor : Jvm.Cond.static yX0_commonDivisor ∈ aw_B := aw_in (by decide +kernel) (by decide +kernel)
theorem wd_X0_commonDivisor : yX0_commonDivisor.cls ≠ "java/lang/invoke/MethodHandle" ∧ yX0_commonDivisor.cls ≠ "java/lang/invoke/VarHandle" ∧ (parseMethodDescriptor yX0_commonDivisor.desc).map (fun d => d.parameters.length) = some 2 := by decide +kernel
theorem wc_X0_countLabels : Jvm.Cond.code yX0_countLabels cX0_countLabels 5 none ∈ aw_B := aw_in (by decide +kernel) (by decide +kernel)
theorem wi_X0_countLabels : Jvm.Cond.instanceMethod yX0_countLabels ∈ aw_B := aw_in (by decide +kernel) (by decide +kernel)
theorem ws_X0_countLabels : Jvm.Cond.selects RX0 yX0_countLabels yX0_countLabels ∈ aw_B := aw_in (by decide +kernel) (by decide +kernel)
theorem wd_X0_countLabels : yX0_countLabels.cls ≠ "java/lang/invoke/MethodHandle" ∧ yX0_countLabels.cls ≠ "java/lang/invoke/VarHandle" ∧ (parseMethodDescriptor yX0_countLabels.desc).map (fun d => d.parameters.length) = some 2 := by decide +kernel
theorem wc_X0_denominator : Jvm.Cond.code yX0_denominator cX0_denominator 1 (some .long) ∈ aw_B := aw_in (by decide +kernel) (by decide +kernel)
theorem wi_X0_denominator : Jvm.Cond.instanceMethod yX0_denominator ∈ aw_B := aw_in (by decide +kernel) (by decide +kernel)
theorem ws_X0_denominator : Jvm.Cond.selects RX0 yX0_denominator yX0_denominator ∈ aw_B := aw_in (by decide +kernel) (by decide +kernel)
theorem wd_X0_denominator : yX0_denominator.cls ≠ "java/lang/invoke/MethodHandle" ∧ yX0_denominator.cls ≠ "java/lang/invoke/VarHandle" ∧ (parseMethodDescriptor yX0_denominator.desc).map (fun d => d.parameters.length) = some 0 := by decide +kernel
theorem wc_X0_likePairs : Jvm.Cond.code yX0_likePairs cX0_likePairs 6 (some .int) ∈ aw_B := aw_in (by decide +kernel) (by decide +kernel)
theorem wt_X0_likePairs : Jvm.Cond.static yX0_likePairs ∈ aw_B := aw_in (by decide +kernel) (by decide +kernel)
theorem wd_X0_likePairs : yX0_likePairs.cls ≠ "java/lang/invoke/MethodHandle" ∧ yX0_likePairs.cls ≠ "java/lang/invoke/VarHandle" ∧ (parseMethodDescriptor yX0_likePairs.desc).map (fun d => d.parameters.length) = some 2 := by decide +kernel
theorem wc_X0_measureAll : Jvm.Cond.code yX0_measureAll cX0_measureAll 10 none ∈ aw_B := aw_in (by decide +kernel) (by decide +kernel)
theorem wi_X0_measureAll : Jvm.Cond.instanceMethod yX0_measureAll ∈ aw_B := aw_in (by decide +kernel) (by decide +kernel)
theorem ws_X0_measureAll : Jvm.Cond.selects RX0 yX0_measureAll yX0_measureAll ∈ aw_B := aw_in (by decide +kernel) (by decide +kernel)
theorem wd_X0_measureAll : yX0_measureAll.cls ≠ "java/lang/invoke/MethodHandle" ∧ yX0_measureAll.cls ≠ "java/lang/invoke/VarHandle" ∧ (parseMethodDescriptor yX0_measureAll.desc).map (fun d => d.parameters.length) = some 1 := by decide +kernel
theorem wc_X0_measureTwo : Jvm.Cond.code yX0_measureTwo cX0_measureTwo 8 none ∈ aw_B := aw_in (by decide +kernel) (by decide +kernel)
theorem wi_X0_measureTwo : Jvm.Cond.instanceMethod yX0_measureTwo ∈ aw_B := aw_in (by decide +kernel) (by decide +kernel)
theorem ws_X0_measureTwo : Jvm.Cond.selects RX0 yX0_measureTwo yX0_measureTwo ∈ aw_B := aw_in (by decide +kernel) (by decide +kernel)
theorem wd_X0_measureTwo : yX0_measureTwo.cls ≠ "java/lang/invoke/MethodHandle" ∧ yX0_measureTwo.cls ≠ "java/lang/invoke/VarHandle" ∧ (parseMethodDescriptor yX0_measureTwo.desc).map (fun d => d.parameters.length) = some 3 := by decide +kernel
theorem wc_X0_numerator : Jvm.Cond.code yX0_numerator cX0_numerator 1 (some .long) ∈ aw_B := aw_in (by decide +kernel) (by decide +kernel)
theorem wi_X0_numerator : Jvm.Cond.instanceMethod yX0_numerator ∈ aw_B := aw_in (by decide +kernel) (by decide +kernel)
theorem ws_X0_numerator : Jvm.Cond.selects RX0 yX0_numerator yX0_numerator ∈ aw_B := aw_in (by decide +kernel) (by decide +kernel)
theorem wd_X0_numerator : yX0_numerator.cls ≠ "java/lang/invoke/MethodHandle" ∧ yX0_numerator.cls ≠ "java/lang/invoke/VarHandle" ∧ (parseMethodDescriptor yX0_numerator.desc).map (fun d => d.parameters.length) = some 0 := by decide +kernel
theorem wc_X0_rowCount : Jvm.Cond.code yX0_rowCount cX0_rowCount 1 (some .int) ∈ aw_B := aw_in (by decide +kernel) (by decide +kernel)
theorem wi_X0_rowCount : Jvm.Cond.instanceMethod yX0_rowCount ∈ aw_B := aw_in (by decide +kernel) (by decide +kernel)
theorem ws_X0_rowCount : Jvm.Cond.selects RX0 yX0_rowCount yX0_rowCount ∈ aw_B := aw_in (by decide +kernel) (by decide +kernel)
theorem wd_X0_rowCount : yX0_rowCount.cls ≠ "java/lang/invoke/MethodHandle" ∧ yX0_rowCount.cls ≠ "java/lang/invoke/VarHandle" ∧ (parseMethodDescriptor yX0_rowCount.desc).map (fun d => d.parameters.length) = some 0 := by decide +kernel
theorem wc_X0_secondCount : Jvm.Cond.code yX0_secondCount cX0_secondCount 1 (some .int) ∈ aw_B := aw_in (by decide +kernel) (by decide +kernel)
theorem wi_X0_secondCount : Jvm.Cond.instanceMethod yX0_secondCount ∈ aw_B := aw_in (by decide +kernel) (by decide +kernel)
theorem ws_X0_secondCount : Jvm.Cond.selects RX0 yX0_secondCount yX0_secondCount ∈ aw_B := aw_in (by decide +kernel) (by decide +kernel)
theorem wd_X0_secondCount : yX0_secondCount.cls ≠ "java/lang/invoke/MethodHandle" ∧ yX0_secondCount.cls ≠ "java/lang/invoke/VarHandle" ∧ (parseMethodDescriptor yX0_secondCount.desc).map (fun d => d.parameters.length) = some 0 := by decide +kernel
theorem wc_X0_setFraction : Jvm.Cond.code yX0_setFraction cX0_setFraction 7 none ∈ aw_B := aw_in (by decide +kernel) (by decide +kernel)
theorem wi_X0_setFraction : Jvm.Cond.instanceMethod yX0_setFraction ∈ aw_B := aw_in (by decide +kernel) (by decide +kernel)
theorem ws_X0_setFraction : Jvm.Cond.selects RX0 yX0_setFraction yX0_setFraction ∈ aw_B := aw_in (by decide +kernel) (by decide +kernel)
theorem wd_X0_setFraction : yX0_setFraction.cls ≠ "java/lang/invoke/MethodHandle" ∧ yX0_setFraction.cls ≠ "java/lang/invoke/VarHandle" ∧ (parseMethodDescriptor yX0_setFraction.desc).map (fun d => d.parameters.length) = some 2 := by decide +kernel
theorem wc_X0_startCounts : Jvm.Cond.code yX0_startCounts cX0_startCounts 1 none ∈ aw_B := aw_in (by decide +kernel) (by decide +kernel)
theorem wi_X0_startCounts : Jvm.Cond.instanceMethod yX0_startCounts ∈ aw_B := aw_in (by decide +kernel) (by decide +kernel)
theorem ws_X0_startCounts : Jvm.Cond.selects RX0 yX0_startCounts yX0_startCounts ∈ aw_B := aw_in (by decide +kernel) (by decide +kernel)
theorem wd_X0_startCounts : yX0_startCounts.cls ≠ "java/lang/invoke/MethodHandle" ∧ yX0_startCounts.cls ≠ "java/lang/invoke/VarHandle" ∧ (parseMethodDescriptor yX0_startCounts.desc).map (fun d => d.parameters.length) = some 0 := by decide +kernel
theorem wc_X0_sumOfProducts : Jvm.Cond.code yX0_sumOfProducts cX0_sumOfProducts 5 (some .long) ∈ aw_B := aw_in (by decide +kernel) (by decide +kernel)
theorem wt_X0_sumOfProducts : Jvm.Cond.static yX0_sumOfProducts ∈ aw_B := aw_in (by decide +kernel) (by decide +kernel)
theorem wd_X0_sumOfProducts : yX0_sumOfProducts.cls ≠ "java/lang/invoke/MethodHandle" ∧ yX0_sumOfProducts.cls ≠ "java/lang/invoke/VarHandle" ∧ (parseMethodDescriptor yX0_sumOfProducts.desc).map (fun d => d.parameters.length) = some 2 := by decide +kernel
theorem wc_X1_addRule : Jvm.Cond.code yX1_addRule cX1_addRule 5 (some .int) ∈ aw_B := aw_in (by decide +kernel) (by decide +kernel)
theorem wi_X1_addRule : Jvm.Cond.instanceMethod yX1_addRule ∈ aw_B := aw_in (by decide +kernel) (by decide +kernel)
theorem ws_X1_addRule : Jvm.Cond.selects RX1 yX1_addRule yX1_addRule ∈ aw_B := aw_in (by decide +kernel) (by decide +kernel)
theorem wd_X1_addRule : yX1_addRule.cls ≠ "java/lang/invoke/MethodHandle" ∧ yX1_addRule.cls ≠ "java/lang/invoke/VarHandle" ∧ (parseMethodDescriptor yX1_addRule.desc).map (fun d => d.parameters.length) = some 4 := by decide +kernel
theorem wc_X1_hasRule : Jvm.Cond.code yX1_hasRule cX1_hasRule 2 (some .boolean) ∈ aw_B := aw_in (by decide +kernel) (by decide +kernel)
theorem wi_X1_hasRule : Jvm.Cond.instanceMethod yX1_hasRule ∈ aw_B := aw_in (by decide +kernel) (by decide +kernel)
theorem ws_X1_hasRule : Jvm.Cond.selects RX1 yX1_hasRule yX1_hasRule ∈ aw_B := aw_in (by decide +kernel) (by decide +kernel)
theorem wd_X1_hasRule : yX1_hasRule.cls ≠ "java/lang/invoke/MethodHandle" ∧ yX1_hasRule.cls ≠ "java/lang/invoke/VarHandle" ∧ (parseMethodDescriptor yX1_hasRule.desc).map (fun d => d.parameters.length) = some 1 := by decide +kernel
theorem wc_X1_isOn : Jvm.Cond.code yX1_isOn cX1_isOn 2 (some .boolean) ∈ aw_B := aw_in (by decide +kernel) (by decide +kernel)
theorem wi_X1_isOn : Jvm.Cond.instanceMethod yX1_isOn ∈ aw_B := aw_in (by decide +kernel) (by decide +kernel)
theorem ws_X1_isOn : Jvm.Cond.selects RX1 yX1_isOn yX1_isOn ∈ aw_B := aw_in (by decide +kernel) (by decide +kernel)
theorem wd_X1_isOn : yX1_isOn.cls ≠ "java/lang/invoke/MethodHandle" ∧ yX1_isOn.cls ≠ "java/lang/invoke/VarHandle" ∧ (parseMethodDescriptor yX1_isOn.desc).map (fun d => d.parameters.length) = some 1 := by decide +kernel
theorem wc_X1_replace : Jvm.Cond.code yX1_replace cX1_replace 4 (some .int) ∈ aw_B := aw_in (by decide +kernel) (by decide +kernel)
theorem wi_X1_replace : Jvm.Cond.instanceMethod yX1_replace ∈ aw_B := aw_in (by decide +kernel) (by decide +kernel)
theorem ws_X1_replace : Jvm.Cond.selects RX1 yX1_replace yX1_replace ∈ aw_B := aw_in (by decide +kernel) (by decide +kernel)
theorem wd_X1_replace : yX1_replace.cls ≠ "java/lang/invoke/MethodHandle" ∧ yX1_replace.cls ≠ "java/lang/invoke/VarHandle" ∧ (parseMethodDescriptor yX1_replace.desc).map (fun d => d.parameters.length) = some 2 := by decide +kernel
theorem wc_X1_setOn : Jvm.Cond.code yX1_setOn cX1_setOn 3 none ∈ aw_B := aw_in (by decide +kernel) (by decide +kernel)
theorem wi_X1_setOn : Jvm.Cond.instanceMethod yX1_setOn ∈ aw_B := aw_in (by decide +kernel) (by decide +kernel)
theorem ws_X1_setOn : Jvm.Cond.selects RX1 yX1_setOn yX1_setOn ∈ aw_B := aw_in (by decide +kernel) (by decide +kernel)
theorem wd_X1_setOn : yX1_setOn.cls ≠ "java/lang/invoke/MethodHandle" ∧ yX1_setOn.cls ≠ "java/lang/invoke/VarHandle" ∧ (parseMethodDescriptor yX1_setOn.desc).map (fun d => d.parameters.length) = some 2 := by decide +kernel
theorem wc_X1_size : Jvm.Cond.code yX1_size cX1_size 1 (some .int) ∈ aw_B := aw_in (by decide +kernel) (by decide +kernel)
theorem wi_X1_size : Jvm.Cond.instanceMethod yX1_size ∈ aw_B := aw_in (by decide +kernel) (by decide +kernel)
theorem ws_X1_size : Jvm.Cond.selects RX1 yX1_size yX1_size ∈ aw_B := aw_in (by decide +kernel) (by decide +kernel)
theorem wd_X1_size : yX1_size.cls ≠ "java/lang/invoke/MethodHandle" ∧ yX1_size.cls ≠ "java/lang/invoke/VarHandle" ∧ (parseMethodDescriptor yX1_size.desc).map (fun d => d.parameters.length) = some 0 := by decide +kernel
theorem wc_X1_wordOn : Jvm.Cond.code yX1_wordOn cX1_wordOn 7 (some .int) ∈ aw_B := aw_in (by decide +kernel) (by decide +kernel)
theorem wi_X1_wordOn : Jvm.Cond.instanceMethod yX1_wordOn ∈ aw_B := aw_in (by decide +kernel) (by decide +kernel)
theorem ws_X1_wordOn : Jvm.Cond.selects RX1 yX1_wordOn yX1_wordOn ∈ aw_B := aw_in (by decide +kernel) (by decide +kernel)
theorem wd_X1_wordOn : yX1_wordOn.cls ≠ "java/lang/invoke/MethodHandle" ∧ yX1_wordOn.cls ≠ "java/lang/invoke/VarHandle" ∧ (parseMethodDescriptor yX1_wordOn.desc).map (fun d => d.parameters.length) = some 3 := by decide +kernel
theorem wc_X2_addRow : Jvm.Cond.code yX2_addRow cX2_addRow 5 (some .int) ∈ aw_B := aw_in (by decide +kernel) (by decide +kernel)
theorem wi_X2_addRow : Jvm.Cond.instanceMethod yX2_addRow ∈ aw_B := aw_in (by decide +kernel) (by decide +kernel)
theorem ws_X2_addRow : Jvm.Cond.selects RX2 yX2_addRow yX2_addRow ∈ aw_B := aw_in (by decide +kernel) (by decide +kernel)
theorem wd_X2_addRow : yX2_addRow.cls ≠ "java/lang/invoke/MethodHandle" ∧ yX2_addRow.cls ≠ "java/lang/invoke/VarHandle" ∧ (parseMethodDescriptor yX2_addRow.desc).map (fun d => d.parameters.length) = some 4 := by decide +kernel
theorem wc_X2_countKnown : Jvm.Cond.code yX2_countKnown cX2_countKnown 3 (some .int) ∈ aw_B := aw_in (by decide +kernel) (by decide +kernel)
theorem wi_X2_countKnown : Jvm.Cond.instanceMethod yX2_countKnown ∈ aw_B := aw_in (by decide +kernel) (by decide +kernel)
theorem ws_X2_countKnown : Jvm.Cond.selects RX2 yX2_countKnown yX2_countKnown ∈ aw_B := aw_in (by decide +kernel) (by decide +kernel)
theorem wd_X2_countKnown : yX2_countKnown.cls ≠ "java/lang/invoke/MethodHandle" ∧ yX2_countKnown.cls ≠ "java/lang/invoke/VarHandle" ∧ (parseMethodDescriptor yX2_countKnown.desc).map (fun d => d.parameters.length) = some 0 := by decide +kernel
theorem wc_X2_countWrong : Jvm.Cond.code yX2_countWrong cX2_countWrong 5 none ∈ aw_B := aw_in (by decide +kernel) (by decide +kernel)
theorem wi_X2_countWrong : Jvm.Cond.instanceMethod yX2_countWrong ∈ aw_B := aw_in (by decide +kernel) (by decide +kernel)
theorem ws_X2_countWrong : Jvm.Cond.selects RX2 yX2_countWrong yX2_countWrong ∈ aw_B := aw_in (by decide +kernel) (by decide +kernel)
theorem wd_X2_countWrong : yX2_countWrong.cls ≠ "java/lang/invoke/MethodHandle" ∧ yX2_countWrong.cls ≠ "java/lang/invoke/VarHandle" ∧ (parseMethodDescriptor yX2_countWrong.desc).map (fun d => d.parameters.length) = some 1 := by decide +kernel
theorem wc_X2_feature : Jvm.Cond.code yX2_feature cX2_feature 3 (some .int) ∈ aw_B := aw_in (by decide +kernel) (by decide +kernel)
theorem wi_X2_feature : Jvm.Cond.instanceMethod yX2_feature ∈ aw_B := aw_in (by decide +kernel) (by decide +kernel)
theorem ws_X2_feature : Jvm.Cond.selects RX2 yX2_feature yX2_feature ∈ aw_B := aw_in (by decide +kernel) (by decide +kernel)
theorem wd_X2_feature : yX2_feature.cls ≠ "java/lang/invoke/MethodHandle" ∧ yX2_feature.cls ≠ "java/lang/invoke/VarHandle" ∧ (parseMethodDescriptor yX2_feature.desc).map (fun d => d.parameters.length) = some 2 := by decide +kernel
theorem wc_X2_give : Jvm.Cond.code yX2_give cX2_give 4 none ∈ aw_B := aw_in (by decide +kernel) (by decide +kernel)
theorem wi_X2_give : Jvm.Cond.instanceMethod yX2_give ∈ aw_B := aw_in (by decide +kernel) (by decide +kernel)
theorem ws_X2_give : Jvm.Cond.selects RX2 yX2_give yX2_give ∈ aw_B := aw_in (by decide +kernel) (by decide +kernel)
theorem wd_X2_give : yX2_give.cls ≠ "java/lang/invoke/MethodHandle" ∧ yX2_give.cls ≠ "java/lang/invoke/VarHandle" ∧ (parseMethodDescriptor yX2_give.desc).map (fun d => d.parameters.length) = some 3 := by decide +kernel
theorem wc_X2_given : Jvm.Cond.code yX2_given cX2_given 3 (some .int) ∈ aw_B := aw_in (by decide +kernel) (by decide +kernel)
theorem wi_X2_given : Jvm.Cond.instanceMethod yX2_given ∈ aw_B := aw_in (by decide +kernel) (by decide +kernel)
theorem ws_X2_given : Jvm.Cond.selects RX2 yX2_given yX2_given ∈ aw_B := aw_in (by decide +kernel) (by decide +kernel)
theorem wd_X2_given : yX2_given.cls ≠ "java/lang/invoke/MethodHandle" ∧ yX2_given.cls ≠ "java/lang/invoke/VarHandle" ∧ (parseMethodDescriptor yX2_given.desc).map (fun d => d.parameters.length) = some 2 := by decide +kernel
theorem wc_X2_givenBy : Jvm.Cond.code yX2_givenBy cX2_givenBy 4 (some .int) ∈ aw_B := aw_in (by decide +kernel) (by decide +kernel)
theorem wi_X2_givenBy : Jvm.Cond.instanceMethod yX2_givenBy ∈ aw_B := aw_in (by decide +kernel) (by decide +kernel)
theorem ws_X2_givenBy : Jvm.Cond.selects RX2 yX2_givenBy yX2_givenBy ∈ aw_B := aw_in (by decide +kernel) (by decide +kernel)
theorem wd_X2_givenBy : yX2_givenBy.cls ≠ "java/lang/invoke/MethodHandle" ∧ yX2_givenBy.cls ≠ "java/lang/invoke/VarHandle" ∧ (parseMethodDescriptor yX2_givenBy.desc).map (fun d => d.parameters.length) = some 1 := by decide +kernel
theorem wc_X2_givenOn : Jvm.Cond.code yX2_givenOn cX2_givenOn 4 (some .int) ∈ aw_B := aw_in (by decide +kernel) (by decide +kernel)
theorem wi_X2_givenOn : Jvm.Cond.instanceMethod yX2_givenOn ∈ aw_B := aw_in (by decide +kernel) (by decide +kernel)
theorem ws_X2_givenOn : Jvm.Cond.selects RX2 yX2_givenOn yX2_givenOn ∈ aw_B := aw_in (by decide +kernel) (by decide +kernel)
theorem wd_X2_givenOn : yX2_givenOn.cls ≠ "java/lang/invoke/MethodHandle" ∧ yX2_givenOn.cls ≠ "java/lang/invoke/VarHandle" ∧ (parseMethodDescriptor yX2_givenOn.desc).map (fun d => d.parameters.length) = some 1 := by decide +kernel
theorem wc_X2_hasRow : Jvm.Cond.code yX2_hasRow cX2_hasRow 2 (some .boolean) ∈ aw_B := aw_in (by decide +kernel) (by decide +kernel)
theorem wi_X2_hasRow : Jvm.Cond.instanceMethod yX2_hasRow ∈ aw_B := aw_in (by decide +kernel) (by decide +kernel)
theorem ws_X2_hasRow : Jvm.Cond.selects RX2 yX2_hasRow yX2_hasRow ∈ aw_B := aw_in (by decide +kernel) (by decide +kernel)
theorem wd_X2_hasRow : yX2_hasRow.cls ≠ "java/lang/invoke/MethodHandle" ∧ yX2_hasRow.cls ≠ "java/lang/invoke/VarHandle" ∧ (parseMethodDescriptor yX2_hasRow.desc).map (fun d => d.parameters.length) = some 1 := by decide +kernel
theorem wc_X2_known : Jvm.Cond.code yX2_known cX2_known 2 (some .int) ∈ aw_B := aw_in (by decide +kernel) (by decide +kernel)
theorem wi_X2_known : Jvm.Cond.instanceMethod yX2_known ∈ aw_B := aw_in (by decide +kernel) (by decide +kernel)
theorem ws_X2_known : Jvm.Cond.selects RX2 yX2_known yX2_known ∈ aw_B := aw_in (by decide +kernel) (by decide +kernel)
theorem wd_X2_known : yX2_known.cls ≠ "java/lang/invoke/MethodHandle" ∧ yX2_known.cls ≠ "java/lang/invoke/VarHandle" ∧ (parseMethodDescriptor yX2_known.desc).map (fun d => d.parameters.length) = some 1 := by decide +kernel
theorem wc_X2_setKnown : Jvm.Cond.code yX2_setKnown cX2_setKnown 4 none ∈ aw_B := aw_in (by decide +kernel) (by decide +kernel)
theorem wi_X2_setKnown : Jvm.Cond.instanceMethod yX2_setKnown ∈ aw_B := aw_in (by decide +kernel) (by decide +kernel)
theorem ws_X2_setKnown : Jvm.Cond.selects RX2 yX2_setKnown yX2_setKnown ∈ aw_B := aw_in (by decide +kernel) (by decide +kernel)
theorem wd_X2_setKnown : yX2_setKnown.cls ≠ "java/lang/invoke/MethodHandle" ∧ yX2_setKnown.cls ≠ "java/lang/invoke/VarHandle" ∧ (parseMethodDescriptor yX2_setKnown.desc).map (fun d => d.parameters.length) = some 2 := by decide +kernel
theorem wc_X2_size : Jvm.Cond.code yX2_size cX2_size 1 (some .int) ∈ aw_B := aw_in (by decide +kernel) (by decide +kernel)
theorem wi_X2_size : Jvm.Cond.instanceMethod yX2_size ∈ aw_B := aw_in (by decide +kernel) (by decide +kernel)
theorem ws_X2_size : Jvm.Cond.selects RX2 yX2_size yX2_size ∈ aw_B := aw_in (by decide +kernel) (by decide +kernel)
theorem wd_X2_size : yX2_size.cls ≠ "java/lang/invoke/MethodHandle" ∧ yX2_size.cls ≠ "java/lang/invoke/VarHandle" ∧ (parseMethodDescriptor yX2_size.desc).map (fun d => d.parameters.length) = some 0 := by decide +kernel
theorem wc_X2_wrongOf : Jvm.Cond.code yX2_wrongOf cX2_wrongOf 2 (some .int) ∈ aw_B := aw_in (by decide +kernel) (by decide +kernel)
theorem wi_X2_wrongOf : Jvm.Cond.instanceMethod yX2_wrongOf ∈ aw_B := aw_in (by decide +kernel) (by decide +kernel)
theorem ws_X2_wrongOf : Jvm.Cond.selects RX2 yX2_wrongOf yX2_wrongOf ∈ aw_B := aw_in (by decide +kernel) (by decide +kernel)
theorem wd_X2_wrongOf : yX2_wrongOf.cls ≠ "java/lang/invoke/MethodHandle" ∧ yX2_wrongOf.cls ≠ "java/lang/invoke/VarHandle" ∧ (parseMethodDescriptor yX2_wrongOf.desc).map (fun d => d.parameters.length) = some 1 := by decide +kernel
theorem wc_X3_about : Jvm.Cond.code yX3_about cX3_about 2 (some .int) ∈ aw_B := aw_in (by decide +kernel) (by decide +kernel)
theorem wi_X3_about : Jvm.Cond.instanceMethod yX3_about ∈ aw_B := aw_in (by decide +kernel) (by decide +kernel)
theorem ws_X3_about : Jvm.Cond.selects RX3 yX3_about yX3_about ∈ aw_B := aw_in (by decide +kernel) (by decide +kernel)
theorem wd_X3_about : yX3_about.cls ≠ "java/lang/invoke/MethodHandle" ∧ yX3_about.cls ≠ "java/lang/invoke/VarHandle" ∧ (parseMethodDescriptor yX3_about.desc).map (fun d => d.parameters.length) = some 1 := by decide +kernel
theorem wc_X3_abstains : Jvm.Cond.code yX3_abstains cX3_abstains 4 (some .int) ∈ aw_B := aw_in (by decide +kernel) (by decide +kernel)
theorem wi_X3_abstains : Jvm.Cond.instanceMethod yX3_abstains ∈ aw_B := aw_in (by decide +kernel) (by decide +kernel)
theorem ws_X3_abstains : Jvm.Cond.selects RX3 yX3_abstains yX3_abstains ∈ aw_B := aw_in (by decide +kernel) (by decide +kernel)
theorem wd_X3_abstains : yX3_abstains.cls ≠ "java/lang/invoke/MethodHandle" ∧ yX3_abstains.cls ≠ "java/lang/invoke/VarHandle" ∧ (parseMethodDescriptor yX3_abstains.desc).map (fun d => d.parameters.length) = some 1 := by decide +kernel
theorem wc_X3_bound : Jvm.Cond.code yX3_bound cX3_bound 3 (some .int) ∈ aw_B := aw_in (by decide +kernel) (by decide +kernel)
theorem wi_X3_bound : Jvm.Cond.instanceMethod yX3_bound ∈ aw_B := aw_in (by decide +kernel) (by decide +kernel)
theorem ws_X3_bound : Jvm.Cond.selects RX3 yX3_bound yX3_bound ∈ aw_B := aw_in (by decide +kernel) (by decide +kernel)
theorem wd_X3_bound : yX3_bound.cls ≠ "java/lang/invoke/MethodHandle" ∧ yX3_bound.cls ≠ "java/lang/invoke/VarHandle" ∧ (parseMethodDescriptor yX3_bound.desc).map (fun d => d.parameters.length) = some 1 := by decide +kernel
theorem wc_X3_countBarred : Jvm.Cond.code yX3_countBarred cX3_countBarred 3 (some .int) ∈ aw_B := aw_in (by decide +kernel) (by decide +kernel)
theorem wi_X3_countBarred : Jvm.Cond.instanceMethod yX3_countBarred ∈ aw_B := aw_in (by decide +kernel) (by decide +kernel)
theorem ws_X3_countBarred : Jvm.Cond.selects RX3 yX3_countBarred yX3_countBarred ∈ aw_B := aw_in (by decide +kernel) (by decide +kernel)
theorem wd_X3_countBarred : yX3_countBarred.cls ≠ "java/lang/invoke/MethodHandle" ∧ yX3_countBarred.cls ≠ "java/lang/invoke/VarHandle" ∧ (parseMethodDescriptor yX3_countBarred.desc).map (fun d => d.parameters.length) = some 0 := by decide +kernel
theorem wc_X3_countDecided : Jvm.Cond.code yX3_countDecided cX3_countDecided 3 (some .int) ∈ aw_B := aw_in (by decide +kernel) (by decide +kernel)
theorem wi_X3_countDecided : Jvm.Cond.instanceMethod yX3_countDecided ∈ aw_B := aw_in (by decide +kernel) (by decide +kernel)
theorem ws_X3_countDecided : Jvm.Cond.selects RX3 yX3_countDecided yX3_countDecided ∈ aw_B := aw_in (by decide +kernel) (by decide +kernel)
theorem wd_X3_countDecided : yX3_countDecided.cls ≠ "java/lang/invoke/MethodHandle" ∧ yX3_countDecided.cls ≠ "java/lang/invoke/VarHandle" ∧ (parseMethodDescriptor yX3_countDecided.desc).map (fun d => d.parameters.length) = some 0 := by decide +kernel
theorem wc_X3_countDisputed : Jvm.Cond.code yX3_countDisputed cX3_countDisputed 3 (some .int) ∈ aw_B := aw_in (by decide +kernel) (by decide +kernel)
theorem wi_X3_countDisputed : Jvm.Cond.instanceMethod yX3_countDisputed ∈ aw_B := aw_in (by decide +kernel) (by decide +kernel)
theorem ws_X3_countDisputed : Jvm.Cond.selects RX3 yX3_countDisputed yX3_countDisputed ∈ aw_B := aw_in (by decide +kernel) (by decide +kernel)
theorem wd_X3_countDisputed : yX3_countDisputed.cls ≠ "java/lang/invoke/MethodHandle" ∧ yX3_countDisputed.cls ≠ "java/lang/invoke/VarHandle" ∧ (parseMethodDescriptor yX3_countDisputed.desc).map (fun d => d.parameters.length) = some 0 := by decide +kernel
theorem wc_X3_countLabellings : Jvm.Cond.code yX3_countLabellings cX3_countLabellings 3 (some .int) ∈ aw_B := aw_in (by decide +kernel) (by decide +kernel)
theorem wi_X3_countLabellings : Jvm.Cond.instanceMethod yX3_countLabellings ∈ aw_B := aw_in (by decide +kernel) (by decide +kernel)
theorem ws_X3_countLabellings : Jvm.Cond.selects RX3 yX3_countLabellings yX3_countLabellings ∈ aw_B := aw_in (by decide +kernel) (by decide +kernel)
theorem wd_X3_countLabellings : yX3_countLabellings.cls ≠ "java/lang/invoke/MethodHandle" ∧ yX3_countLabellings.cls ≠ "java/lang/invoke/VarHandle" ∧ (parseMethodDescriptor yX3_countLabellings.desc).map (fun d => d.parameters.length) = some 0 := by decide +kernel
theorem wc_X3_countVotes : Jvm.Cond.code yX3_countVotes cX3_countVotes 4 none ∈ aw_B := aw_in (by decide +kernel) (by decide +kernel)
theorem wi_X3_countVotes : Jvm.Cond.instanceMethod yX3_countVotes ∈ aw_B := aw_in (by decide +kernel) (by decide +kernel)
theorem ws_X3_countVotes : Jvm.Cond.selects RX3 yX3_countVotes yX3_countVotes ∈ aw_B := aw_in (by decide +kernel) (by decide +kernel)
theorem wd_X3_countVotes : yX3_countVotes.cls ≠ "java/lang/invoke/MethodHandle" ∧ yX3_countVotes.cls ≠ "java/lang/invoke/VarHandle" ∧ (parseMethodDescriptor yX3_countVotes.desc).map (fun d => d.parameters.length) = some 1 := by decide +kernel
theorem wc_X3_decide : Jvm.Cond.code yX3_decide cX3_decide 3 (some .int) ∈ aw_B := aw_in (by decide +kernel) (by decide +kernel)
theorem wi_X3_decide : Jvm.Cond.instanceMethod yX3_decide ∈ aw_B := aw_in (by decide +kernel) (by decide +kernel)
theorem ws_X3_decide : Jvm.Cond.selects RX3 yX3_decide yX3_decide ∈ aw_B := aw_in (by decide +kernel) (by decide +kernel)
theorem wd_X3_decide : yX3_decide.cls ≠ "java/lang/invoke/MethodHandle" ∧ yX3_decide.cls ≠ "java/lang/invoke/VarHandle" ∧ (parseMethodDescriptor yX3_decide.desc).map (fun d => d.parameters.length) = some 1 := by decide +kernel
theorem wc_X3_decided : Jvm.Cond.code yX3_decided cX3_decided 2 (some .int) ∈ aw_B := aw_in (by decide +kernel) (by decide +kernel)
theorem wi_X3_decided : Jvm.Cond.instanceMethod yX3_decided ∈ aw_B := aw_in (by decide +kernel) (by decide +kernel)
theorem ws_X3_decided : Jvm.Cond.selects RX3 yX3_decided yX3_decided ∈ aw_B := aw_in (by decide +kernel) (by decide +kernel)
theorem wd_X3_decided : yX3_decided.cls ≠ "java/lang/invoke/MethodHandle" ∧ yX3_decided.cls ≠ "java/lang/invoke/VarHandle" ∧ (parseMethodDescriptor yX3_decided.desc).map (fun d => d.parameters.length) = some 1 := by decide +kernel
theorem wc_X3_earnedTrust : Jvm.Cond.code yX3_earnedTrust cX3_earnedTrust 6 (some .int) ∈ aw_B := aw_in (by decide +kernel) (by decide +kernel)
theorem wi_X3_earnedTrust : Jvm.Cond.instanceMethod yX3_earnedTrust ∈ aw_B := aw_in (by decide +kernel) (by decide +kernel)
theorem ws_X3_earnedTrust : Jvm.Cond.selects RX3 yX3_earnedTrust yX3_earnedTrust ∈ aw_B := aw_in (by decide +kernel) (by decide +kernel)
theorem wd_X3_earnedTrust : yX3_earnedTrust.cls ≠ "java/lang/invoke/MethodHandle" ∧ yX3_earnedTrust.cls ≠ "java/lang/invoke/VarHandle" ∧ (parseMethodDescriptor yX3_earnedTrust.desc).map (fun d => d.parameters.length) = some 1 := by decide +kernel
theorem wc_X3_expert : Jvm.Cond.code yX3_expert cX3_expert 4 (some .int) ∈ aw_B := aw_in (by decide +kernel) (by decide +kernel)
theorem wi_X3_expert : Jvm.Cond.instanceMethod yX3_expert ∈ aw_B := aw_in (by decide +kernel) (by decide +kernel)
theorem ws_X3_expert : Jvm.Cond.selects RX3 yX3_expert yX3_expert ∈ aw_B := aw_in (by decide +kernel) (by decide +kernel)
theorem wd_X3_expert : yX3_expert.cls ≠ "java/lang/invoke/MethodHandle" ∧ yX3_expert.cls ≠ "java/lang/invoke/VarHandle" ∧ (parseMethodDescriptor yX3_expert.desc).map (fun d => d.parameters.length) = some 2 := by decide +kernel
theorem wc_X3_expertOn : Jvm.Cond.code yX3_expertOn cX3_expertOn 4 (some .int) ∈ aw_B := aw_in (by decide +kernel) (by decide +kernel)
theorem wi_X3_expertOn : Jvm.Cond.instanceMethod yX3_expertOn ∈ aw_B := aw_in (by decide +kernel) (by decide +kernel)
theorem ws_X3_expertOn : Jvm.Cond.selects RX3 yX3_expertOn yX3_expertOn ∈ aw_B := aw_in (by decide +kernel) (by decide +kernel)
theorem wd_X3_expertOn : yX3_expertOn.cls ≠ "java/lang/invoke/MethodHandle" ∧ yX3_expertOn.cls ≠ "java/lang/invoke/VarHandle" ∧ (parseMethodDescriptor yX3_expertOn.desc).map (fun d => d.parameters.length) = some 1 := by decide +kernel
theorem wc_X3_gold : Jvm.Cond.code yX3_gold cX3_gold 4 (some .int) ∈ aw_B := aw_in (by decide +kernel) (by decide +kernel)
theorem wi_X3_gold : Jvm.Cond.instanceMethod yX3_gold ∈ aw_B := aw_in (by decide +kernel) (by decide +kernel)
theorem ws_X3_gold : Jvm.Cond.selects RX3 yX3_gold yX3_gold ∈ aw_B := aw_in (by decide +kernel) (by decide +kernel)
theorem wd_X3_gold : yX3_gold.cls ≠ "java/lang/invoke/MethodHandle" ∧ yX3_gold.cls ≠ "java/lang/invoke/VarHandle" ∧ (parseMethodDescriptor yX3_gold.desc).map (fun d => d.parameters.length) = some 2 := by decide +kernel
theorem wc_X3_isBarred : Jvm.Cond.code yX3_isBarred cX3_isBarred 2 (some .boolean) ∈ aw_B := aw_in (by decide +kernel) (by decide +kernel)
theorem wi_X3_isBarred : Jvm.Cond.instanceMethod yX3_isBarred ∈ aw_B := aw_in (by decide +kernel) (by decide +kernel)
theorem ws_X3_isBarred : Jvm.Cond.selects RX3 yX3_isBarred yX3_isBarred ∈ aw_B := aw_in (by decide +kernel) (by decide +kernel)
theorem wd_X3_isBarred : yX3_isBarred.cls ≠ "java/lang/invoke/MethodHandle" ∧ yX3_isBarred.cls ≠ "java/lang/invoke/VarHandle" ∧ (parseMethodDescriptor yX3_isBarred.desc).map (fun d => d.parameters.length) = some 1 := by decide +kernel
theorem wc_X3_isDisputed : Jvm.Cond.code yX3_isDisputed cX3_isDisputed 5 (some .boolean) ∈ aw_B := aw_in (by decide +kernel) (by decide +kernel)
theorem wi_X3_isDisputed : Jvm.Cond.instanceMethod yX3_isDisputed ∈ aw_B := aw_in (by decide +kernel) (by decide +kernel)
theorem ws_X3_isDisputed : Jvm.Cond.selects RX3 yX3_isDisputed yX3_isDisputed ∈ aw_B := aw_in (by decide +kernel) (by decide +kernel)
theorem wd_X3_isDisputed : yX3_isDisputed.cls ≠ "java/lang/invoke/MethodHandle" ∧ yX3_isDisputed.cls ≠ "java/lang/invoke/VarHandle" ∧ (parseMethodDescriptor yX3_isDisputed.desc).map (fun d => d.parameters.length) = some 1 := by decide +kernel
theorem wc_X3_isFeature : Jvm.Cond.code yX3_isFeature cX3_isFeature 1 (some .boolean) ∈ aw_B := aw_in (by decide +kernel) (by decide +kernel)
theorem wt_X3_isFeature : Jvm.Cond.static yX3_isFeature ∈ aw_B := aw_in (by decide +kernel) (by decide +kernel)
theorem wd_X3_isFeature : yX3_isFeature.cls ≠ "java/lang/invoke/MethodHandle" ∧ yX3_isFeature.cls ≠ "java/lang/invoke/VarHandle" ∧ (parseMethodDescriptor yX3_isFeature.desc).map (fun d => d.parameters.length) = some 1 := by decide +kernel
theorem wc_X3_isLabel : Jvm.Cond.code yX3_isLabel cX3_isLabel 1 (some .boolean) ∈ aw_B := aw_in (by decide +kernel) (by decide +kernel)
theorem wt_X3_isLabel : Jvm.Cond.static yX3_isLabel ∈ aw_B := aw_in (by decide +kernel) (by decide +kernel)
theorem wd_X3_isLabel : yX3_isLabel.cls ≠ "java/lang/invoke/MethodHandle" ∧ yX3_isLabel.cls ≠ "java/lang/invoke/VarHandle" ∧ (parseMethodDescriptor yX3_isLabel.desc).map (fun d => d.parameters.length) = some 1 := by decide +kernel
theorem wc_X3_isPerson : Jvm.Cond.code yX3_isPerson cX3_isPerson 1 (some .boolean) ∈ aw_B := aw_in (by decide +kernel) (by decide +kernel)
theorem wt_X3_isPerson : Jvm.Cond.static yX3_isPerson ∈ aw_B := aw_in (by decide +kernel) (by decide +kernel)
theorem wd_X3_isPerson : yX3_isPerson.cls ≠ "java/lang/invoke/MethodHandle" ∧ yX3_isPerson.cls ≠ "java/lang/invoke/VarHandle" ∧ (parseMethodDescriptor yX3_isPerson.desc).map (fun d => d.parameters.length) = some 1 := by decide +kernel
theorem wc_X3_isPlace : Jvm.Cond.code yX3_isPlace cX3_isPlace 1 (some .boolean) ∈ aw_B := aw_in (by decide +kernel) (by decide +kernel)
theorem wt_X3_isPlace : Jvm.Cond.static yX3_isPlace ∈ aw_B := aw_in (by decide +kernel) (by decide +kernel)
theorem wd_X3_isPlace : yX3_isPlace.cls ≠ "java/lang/invoke/MethodHandle" ∧ yX3_isPlace.cls ≠ "java/lang/invoke/VarHandle" ∧ (parseMethodDescriptor yX3_isPlace.desc).map (fun d => d.parameters.length) = some 1 := by decide +kernel
theorem wc_X3_label : Jvm.Cond.code yX3_label cX3_label 4 (some .int) ∈ aw_B := aw_in (by decide +kernel) (by decide +kernel)
theorem wi_X3_label : Jvm.Cond.instanceMethod yX3_label ∈ aw_B := aw_in (by decide +kernel) (by decide +kernel)
theorem ws_X3_label : Jvm.Cond.selects RX3 yX3_label yX3_label ∈ aw_B := aw_in (by decide +kernel) (by decide +kernel)
theorem wd_X3_label : yX3_label.cls ≠ "java/lang/invoke/MethodHandle" ∧ yX3_label.cls ≠ "java/lang/invoke/VarHandle" ∧ (parseMethodDescriptor yX3_label.desc).map (fun d => d.parameters.length) = some 3 := by decide +kernel
theorem wc_X3_leadInTally : Jvm.Cond.code yX3_leadInTally cX3_leadInTally 4 (some .int) ∈ aw_B := aw_in (by decide +kernel) (by decide +kernel)
theorem wi_X3_leadInTally : Jvm.Cond.instanceMethod yX3_leadInTally ∈ aw_B := aw_in (by decide +kernel) (by decide +kernel)
theorem ws_X3_leadInTally : Jvm.Cond.selects RX3 yX3_leadInTally yX3_leadInTally ∈ aw_B := aw_in (by decide +kernel) (by decide +kernel)
theorem wd_X3_leadInTally : yX3_leadInTally.cls ≠ "java/lang/invoke/MethodHandle" ∧ yX3_leadInTally.cls ≠ "java/lang/invoke/VarHandle" ∧ (parseMethodDescriptor yX3_leadInTally.desc).map (fun d => d.parameters.length) = some 0 := by decide +kernel
theorem wc_X3_learn : Jvm.Cond.code yX3_learn cX3_learn 3 (some .int) ∈ aw_B := aw_in (by decide +kernel) (by decide +kernel)
theorem wi_X3_learn : Jvm.Cond.instanceMethod yX3_learn ∈ aw_B := aw_in (by decide +kernel) (by decide +kernel)
theorem ws_X3_learn : Jvm.Cond.selects RX3 yX3_learn yX3_learn ∈ aw_B := aw_in (by decide +kernel) (by decide +kernel)
theorem wd_X3_learn : yX3_learn.cls ≠ "java/lang/invoke/MethodHandle" ∧ yX3_learn.cls ≠ "java/lang/invoke/VarHandle" ∧ (parseMethodDescriptor yX3_learn.desc).map (fun d => d.parameters.length) = some 1 := by decide +kernel
theorem wc_X3_learnRound : Jvm.Cond.code yX3_learnRound cX3_learnRound 3 (some .boolean) ∈ aw_B := aw_in (by decide +kernel) (by decide +kernel)
theorem wi_X3_learnRound : Jvm.Cond.instanceMethod yX3_learnRound ∈ aw_B := aw_in (by decide +kernel) (by decide +kernel)
theorem ws_X3_learnRound : Jvm.Cond.selects RX3 yX3_learnRound yX3_learnRound ∈ aw_B := aw_in (by decide +kernel) (by decide +kernel)
theorem wd_X3_learnRound : yX3_learnRound.cls ≠ "java/lang/invoke/MethodHandle" ∧ yX3_learnRound.cls ≠ "java/lang/invoke/VarHandle" ∧ (parseMethodDescriptor yX3_learnRound.desc).map (fun d => d.parameters.length) = some 0 := by decide +kernel
theorem wc_X3_next : Jvm.Cond.code yX3_next cX3_next 8 (some .int) ∈ aw_B := aw_in (by decide +kernel) (by decide +kernel)
theorem wi_X3_next : Jvm.Cond.instanceMethod yX3_next ∈ aw_B := aw_in (by decide +kernel) (by decide +kernel)
theorem ws_X3_next : Jvm.Cond.selects RX3 yX3_next yX3_next ∈ aw_B := aw_in (by decide +kernel) (by decide +kernel)
theorem wd_X3_next : yX3_next.cls ≠ "java/lang/invoke/MethodHandle" ∧ yX3_next.cls ≠ "java/lang/invoke/VarHandle" ∧ (parseMethodDescriptor yX3_next.desc).map (fun d => d.parameters.length) = some 1 := by decide +kernel
theorem wc_X3_partOfAgreement : Jvm.Cond.code yX3_partOfAgreement cX3_partOfAgreement 2 (some .long) ∈ aw_B := aw_in (by decide +kernel) (by decide +kernel)
theorem wi_X3_partOfAgreement : Jvm.Cond.instanceMethod yX3_partOfAgreement ∈ aw_B := aw_in (by decide +kernel) (by decide +kernel)
theorem ws_X3_partOfAgreement : Jvm.Cond.selects RX3 yX3_partOfAgreement yX3_partOfAgreement ∈ aw_B := aw_in (by decide +kernel) (by decide +kernel)
theorem wd_X3_partOfAgreement : yX3_partOfAgreement.cls ≠ "java/lang/invoke/MethodHandle" ∧ yX3_partOfAgreement.cls ≠ "java/lang/invoke/VarHandle" ∧ (parseMethodDescriptor yX3_partOfAgreement.desc).map (fun d => d.parameters.length) = some 1 := by decide +kernel
theorem wc_X3_person : Jvm.Cond.code yX3_person cX3_person 3 (some .int) ∈ aw_B := aw_in (by decide +kernel) (by decide +kernel)
theorem wi_X3_person : Jvm.Cond.instanceMethod yX3_person ∈ aw_B := aw_in (by decide +kernel) (by decide +kernel)
theorem ws_X3_person : Jvm.Cond.selects RX3 yX3_person yX3_person ∈ aw_B := aw_in (by decide +kernel) (by decide +kernel)
theorem wd_X3_person : yX3_person.cls ≠ "java/lang/invoke/MethodHandle" ∧ yX3_person.cls ≠ "java/lang/invoke/VarHandle" ∧ (parseMethodDescriptor yX3_person.desc).map (fun d => d.parameters.length) = some 2 := by decide +kernel
theorem wc_X3_row : Jvm.Cond.code yX3_row cX3_row 5 (some .int) ∈ aw_B := aw_in (by decide +kernel) (by decide +kernel)
theorem wi_X3_row : Jvm.Cond.instanceMethod yX3_row ∈ aw_B := aw_in (by decide +kernel) (by decide +kernel)
theorem ws_X3_row : Jvm.Cond.selects RX3 yX3_row yX3_row ∈ aw_B := aw_in (by decide +kernel) (by decide +kernel)
theorem wd_X3_row : yX3_row.cls ≠ "java/lang/invoke/MethodHandle" ∧ yX3_row.cls ≠ "java/lang/invoke/VarHandle" ∧ (parseMethodDescriptor yX3_row.desc).map (fun d => d.parameters.length) = some 4 := by decide +kernel
theorem wc_X3_rule : Jvm.Cond.code yX3_rule cX3_rule 5 (some .int) ∈ aw_B := aw_in (by decide +kernel) (by decide +kernel)
theorem wi_X3_rule : Jvm.Cond.instanceMethod yX3_rule ∈ aw_B := aw_in (by decide +kernel) (by decide +kernel)
theorem ws_X3_rule : Jvm.Cond.selects RX3 yX3_rule yX3_rule ∈ aw_B := aw_in (by decide +kernel) (by decide +kernel)
theorem wd_X3_rule : yX3_rule.cls ≠ "java/lang/invoke/MethodHandle" ∧ yX3_rule.cls ≠ "java/lang/invoke/VarHandle" ∧ (parseMethodDescriptor yX3_rule.desc).map (fun d => d.parameters.length) = some 4 := by decide +kernel
theorem wc_X3_said : Jvm.Cond.code yX3_said cX3_said 3 (some .int) ∈ aw_B := aw_in (by decide +kernel) (by decide +kernel)
theorem wi_X3_said : Jvm.Cond.instanceMethod yX3_said ∈ aw_B := aw_in (by decide +kernel) (by decide +kernel)
theorem ws_X3_said : Jvm.Cond.selects RX3 yX3_said yX3_said ∈ aw_B := aw_in (by decide +kernel) (by decide +kernel)
theorem wd_X3_said : yX3_said.cls ≠ "java/lang/invoke/MethodHandle" ∧ yX3_said.cls ≠ "java/lang/invoke/VarHandle" ∧ (parseMethodDescriptor yX3_said.desc).map (fun d => d.parameters.length) = some 2 := by decide +kernel
theorem wc_X3_table : Jvm.Cond.code yX3_table cX3_table 3 (some .int) ∈ aw_B := aw_in (by decide +kernel) (by decide +kernel)
theorem wi_X3_table : Jvm.Cond.instanceMethod yX3_table ∈ aw_B := aw_in (by decide +kernel) (by decide +kernel)
theorem ws_X3_table : Jvm.Cond.selects RX3 yX3_table yX3_table ∈ aw_B := aw_in (by decide +kernel) (by decide +kernel)
theorem wd_X3_table : yX3_table.cls ≠ "java/lang/invoke/MethodHandle" ∧ yX3_table.cls ≠ "java/lang/invoke/VarHandle" ∧ (parseMethodDescriptor yX3_table.desc).map (fun d => d.parameters.length) = some 2 := by decide +kernel
theorem wc_X3_turn : Jvm.Cond.code yX3_turn cX3_turn 4 (some .int) ∈ aw_B := aw_in (by decide +kernel) (by decide +kernel)
theorem wi_X3_turn : Jvm.Cond.instanceMethod yX3_turn ∈ aw_B := aw_in (by decide +kernel) (by decide +kernel)
theorem ws_X3_turn : Jvm.Cond.selects RX3 yX3_turn yX3_turn ∈ aw_B := aw_in (by decide +kernel) (by decide +kernel)
theorem wd_X3_turn : yX3_turn.cls ≠ "java/lang/invoke/MethodHandle" ∧ yX3_turn.cls ≠ "java/lang/invoke/VarHandle" ∧ (parseMethodDescriptor yX3_turn.desc).map (fun d => d.parameters.length) = some 2 := by decide +kernel
theorem wc_X3_votes : Jvm.Cond.code yX3_votes cX3_votes 3 (some .int) ∈ aw_B := aw_in (by decide +kernel) (by decide +kernel)
theorem wi_X3_votes : Jvm.Cond.instanceMethod yX3_votes ∈ aw_B := aw_in (by decide +kernel) (by decide +kernel)
theorem ws_X3_votes : Jvm.Cond.selects RX3 yX3_votes yX3_votes ∈ aw_B := aw_in (by decide +kernel) (by decide +kernel)
theorem wd_X3_votes : yX3_votes.cls ≠ "java/lang/invoke/MethodHandle" ∧ yX3_votes.cls ≠ "java/lang/invoke/VarHandle" ∧ (parseMethodDescriptor yX3_votes.desc).map (fun d => d.parameters.length) = some 2 := by decide +kernel
theorem wc_X3_winnerInTally : Jvm.Cond.code yX3_winnerInTally cX3_winnerInTally 4 (some .int) ∈ aw_B := aw_in (by decide +kernel) (by decide +kernel)
theorem wi_X3_winnerInTally : Jvm.Cond.instanceMethod yX3_winnerInTally ∈ aw_B := aw_in (by decide +kernel) (by decide +kernel)
theorem ws_X3_winnerInTally : Jvm.Cond.selects RX3 yX3_winnerInTally yX3_winnerInTally ∈ aw_B := aw_in (by decide +kernel) (by decide +kernel)
theorem wd_X3_winnerInTally : yX3_winnerInTally.cls ≠ "java/lang/invoke/MethodHandle" ∧ yX3_winnerInTally.cls ≠ "java/lang/invoke/VarHandle" ∧ (parseMethodDescriptor yX3_winnerInTally.desc).map (fun d => d.parameters.length) = some 0 := by decide +kernel
theorem wc_X4_about : Jvm.Cond.code yX4_about cX4_about 4 (some .int) ∈ aw_B := aw_in (by decide +kernel) (by decide +kernel)
theorem wi_X4_about : Jvm.Cond.instanceMethod yX4_about ∈ aw_B := aw_in (by decide +kernel) (by decide +kernel)
theorem ws_X4_about : Jvm.Cond.selects RX4 yX4_about yX4_about ∈ aw_B := aw_in (by decide +kernel) (by decide +kernel)
theorem wd_X4_about : yX4_about.cls ≠ "java/lang/invoke/MethodHandle" ∧ yX4_about.cls ≠ "java/lang/invoke/VarHandle" ∧ (parseMethodDescriptor yX4_about.desc).map (fun d => d.parameters.length) = some 1 := by decide +kernel
theorem wc_X4_abstains : Jvm.Cond.code yX4_abstains cX4_abstains 4 (some .int) ∈ aw_B := aw_in (by decide +kernel) (by decide +kernel)
theorem wi_X4_abstains : Jvm.Cond.instanceMethod yX4_abstains ∈ aw_B := aw_in (by decide +kernel) (by decide +kernel)
theorem ws_X4_abstains : Jvm.Cond.selects RX4 yX4_abstains yX4_abstains ∈ aw_B := aw_in (by decide +kernel) (by decide +kernel)
theorem wd_X4_abstains : yX4_abstains.cls ≠ "java/lang/invoke/MethodHandle" ∧ yX4_abstains.cls ≠ "java/lang/invoke/VarHandle" ∧ (parseMethodDescriptor yX4_abstains.desc).map (fun d => d.parameters.length) = some 1 := by decide +kernel
theorem wc_X4_bound : Jvm.Cond.code yX4_bound cX4_bound 3 (some .int) ∈ aw_B := aw_in (by decide +kernel) (by decide +kernel)
theorem wi_X4_bound : Jvm.Cond.instanceMethod yX4_bound ∈ aw_B := aw_in (by decide +kernel) (by decide +kernel)
theorem ws_X4_bound : Jvm.Cond.selects RX4 yX4_bound yX4_bound ∈ aw_B := aw_in (by decide +kernel) (by decide +kernel)
theorem wd_X4_bound : yX4_bound.cls ≠ "java/lang/invoke/MethodHandle" ∧ yX4_bound.cls ≠ "java/lang/invoke/VarHandle" ∧ (parseMethodDescriptor yX4_bound.desc).map (fun d => d.parameters.length) = some 1 := by decide +kernel
theorem wc_X4_countOf : Jvm.Cond.code yX4_countOf cX4_countOf 5 (some .int) ∈ aw_B := aw_in (by decide +kernel) (by decide +kernel)
theorem wi_X4_countOf : Jvm.Cond.instanceMethod yX4_countOf ∈ aw_B := aw_in (by decide +kernel) (by decide +kernel)
theorem ws_X4_countOf : Jvm.Cond.selects RX4 yX4_countOf yX4_countOf ∈ aw_B := aw_in (by decide +kernel) (by decide +kernel)
theorem wd_X4_countOf : yX4_countOf.cls ≠ "java/lang/invoke/MethodHandle" ∧ yX4_countOf.cls ≠ "java/lang/invoke/VarHandle" ∧ (parseMethodDescriptor yX4_countOf.desc).map (fun d => d.parameters.length) = some 2 := by decide +kernel
theorem wc_X4_cut : Jvm.Cond.code yX4_cut cX4_cut 12 (some .long) ∈ aw_B := aw_in (by decide +kernel) (by decide +kernel)
theorem wi_X4_cut : Jvm.Cond.instanceMethod yX4_cut ∈ aw_B := aw_in (by decide +kernel) (by decide +kernel)
theorem ws_X4_cut : Jvm.Cond.selects RX4 yX4_cut yX4_cut ∈ aw_B := aw_in (by decide +kernel) (by decide +kernel)
theorem wd_X4_cut : yX4_cut.cls ≠ "java/lang/invoke/MethodHandle" ∧ yX4_cut.cls ≠ "java/lang/invoke/VarHandle" ∧ (parseMethodDescriptor yX4_cut.desc).map (fun d => d.parameters.length) = some 3 := by decide +kernel
theorem wc_X4_decided : Jvm.Cond.code yX4_decided cX4_decided 2 (some .int) ∈ aw_B := aw_in (by decide +kernel) (by decide +kernel)
theorem wi_X4_decided : Jvm.Cond.instanceMethod yX4_decided ∈ aw_B := aw_in (by decide +kernel) (by decide +kernel)
theorem ws_X4_decided : Jvm.Cond.selects RX4 yX4_decided yX4_decided ∈ aw_B := aw_in (by decide +kernel) (by decide +kernel)
theorem wd_X4_decided : yX4_decided.cls ≠ "java/lang/invoke/MethodHandle" ∧ yX4_decided.cls ≠ "java/lang/invoke/VarHandle" ∧ (parseMethodDescriptor yX4_decided.desc).map (fun d => d.parameters.length) = some 1 := by decide +kernel
theorem wc_X4_decidedOf : Jvm.Cond.code yX4_decidedOf cX4_decidedOf 3 (some .int) ∈ aw_B := aw_in (by decide +kernel) (by decide +kernel)
theorem wi_X4_decidedOf : Jvm.Cond.instanceMethod yX4_decidedOf ∈ aw_B := aw_in (by decide +kernel) (by decide +kernel)
theorem ws_X4_decidedOf : Jvm.Cond.selects RX4 yX4_decidedOf yX4_decidedOf ∈ aw_B := aw_in (by decide +kernel) (by decide +kernel)
theorem wd_X4_decidedOf : yX4_decidedOf.cls ≠ "java/lang/invoke/MethodHandle" ∧ yX4_decidedOf.cls ≠ "java/lang/invoke/VarHandle" ∧ (parseMethodDescriptor yX4_decidedOf.desc).map (fun d => d.parameters.length) = some 1 := by decide +kernel
theorem wc_X4_expert : Jvm.Cond.code yX4_expert cX4_expert 4 (some .int) ∈ aw_B := aw_in (by decide +kernel) (by decide +kernel)
theorem wi_X4_expert : Jvm.Cond.instanceMethod yX4_expert ∈ aw_B := aw_in (by decide +kernel) (by decide +kernel)
theorem ws_X4_expert : Jvm.Cond.selects RX4 yX4_expert yX4_expert ∈ aw_B := aw_in (by decide +kernel) (by decide +kernel)
theorem wd_X4_expert : yX4_expert.cls ≠ "java/lang/invoke/MethodHandle" ∧ yX4_expert.cls ≠ "java/lang/invoke/VarHandle" ∧ (parseMethodDescriptor yX4_expert.desc).map (fun d => d.parameters.length) = some 2 := by decide +kernel
theorem wc_X4_gold : Jvm.Cond.code yX4_gold cX4_gold 4 (some .int) ∈ aw_B := aw_in (by decide +kernel) (by decide +kernel)
theorem wi_X4_gold : Jvm.Cond.instanceMethod yX4_gold ∈ aw_B := aw_in (by decide +kernel) (by decide +kernel)
theorem ws_X4_gold : Jvm.Cond.selects RX4 yX4_gold yX4_gold ∈ aw_B := aw_in (by decide +kernel) (by decide +kernel)
theorem wd_X4_gold : yX4_gold.cls ≠ "java/lang/invoke/MethodHandle" ∧ yX4_gold.cls ≠ "java/lang/invoke/VarHandle" ∧ (parseMethodDescriptor yX4_gold.desc).map (fun d => d.parameters.length) = some 2 := by decide +kernel
theorem wc_X4_in : Jvm.Cond.code yX4_in cX4_in 3 (some .boolean) ∈ aw_B := aw_in (by decide +kernel) (by decide +kernel)
theorem wt_X4_in : Jvm.Cond.static yX4_in ∈ aw_B := aw_in (by decide +kernel) (by decide +kernel)
theorem wd_X4_in : yX4_in.cls ≠ "java/lang/invoke/MethodHandle" ∧ yX4_in.cls ≠ "java/lang/invoke/VarHandle" ∧ (parseMethodDescriptor yX4_in.desc).map (fun d => d.parameters.length) = some 3 := by decide +kernel
theorem wc_X4_isBarred : Jvm.Cond.code yX4_isBarred cX4_isBarred 2 (some .boolean) ∈ aw_B := aw_in (by decide +kernel) (by decide +kernel)
theorem wi_X4_isBarred : Jvm.Cond.instanceMethod yX4_isBarred ∈ aw_B := aw_in (by decide +kernel) (by decide +kernel)
theorem ws_X4_isBarred : Jvm.Cond.selects RX4 yX4_isBarred yX4_isBarred ∈ aw_B := aw_in (by decide +kernel) (by decide +kernel)
theorem wd_X4_isBarred : yX4_isBarred.cls ≠ "java/lang/invoke/MethodHandle" ∧ yX4_isBarred.cls ≠ "java/lang/invoke/VarHandle" ∧ (parseMethodDescriptor yX4_isBarred.desc).map (fun d => d.parameters.length) = some 1 := by decide +kernel
theorem wc_X4_isPerson : Jvm.Cond.code yX4_isPerson cX4_isPerson 1 (some .boolean) ∈ aw_B := aw_in (by decide +kernel) (by decide +kernel)
theorem wt_X4_isPerson : Jvm.Cond.static yX4_isPerson ∈ aw_B := aw_in (by decide +kernel) (by decide +kernel)
theorem wd_X4_isPerson : yX4_isPerson.cls ≠ "java/lang/invoke/MethodHandle" ∧ yX4_isPerson.cls ≠ "java/lang/invoke/VarHandle" ∧ (parseMethodDescriptor yX4_isPerson.desc).map (fun d => d.parameters.length) = some 1 := by decide +kernel
theorem wc_X4_isRow : Jvm.Cond.code yX4_isRow cX4_isRow 2 (some .boolean) ∈ aw_B := aw_in (by decide +kernel) (by decide +kernel)
theorem wi_X4_isRow : Jvm.Cond.instanceMethod yX4_isRow ∈ aw_B := aw_in (by decide +kernel) (by decide +kernel)
theorem ws_X4_isRow : Jvm.Cond.selects RX4 yX4_isRow yX4_isRow ∈ aw_B := aw_in (by decide +kernel) (by decide +kernel)
theorem wd_X4_isRow : yX4_isRow.cls ≠ "java/lang/invoke/MethodHandle" ∧ yX4_isRow.cls ≠ "java/lang/invoke/VarHandle" ∧ (parseMethodDescriptor yX4_isRow.desc).map (fun d => d.parameters.length) = some 1 := by decide +kernel
theorem wc_X4_isUnlike : Jvm.Cond.code yX4_isUnlike cX4_isUnlike 7 (some .boolean) ∈ aw_B := aw_in (by decide +kernel) (by decide +kernel)
theorem wi_X4_isUnlike : Jvm.Cond.instanceMethod yX4_isUnlike ∈ aw_B := aw_in (by decide +kernel) (by decide +kernel)
theorem ws_X4_isUnlike : Jvm.Cond.selects RX4 yX4_isUnlike yX4_isUnlike ∈ aw_B := aw_in (by decide +kernel) (by decide +kernel)
theorem wd_X4_isUnlike : yX4_isUnlike.cls ≠ "java/lang/invoke/MethodHandle" ∧ yX4_isUnlike.cls ≠ "java/lang/invoke/VarHandle" ∧ (parseMethodDescriptor yX4_isUnlike.desc).map (fun d => d.parameters.length) = some 1 := by decide +kernel
theorem wc_X4_label : Jvm.Cond.code yX4_label cX4_label 4 (some .int) ∈ aw_B := aw_in (by decide +kernel) (by decide +kernel)
theorem wi_X4_label : Jvm.Cond.instanceMethod yX4_label ∈ aw_B := aw_in (by decide +kernel) (by decide +kernel)
theorem ws_X4_label : Jvm.Cond.selects RX4 yX4_label yX4_label ∈ aw_B := aw_in (by decide +kernel) (by decide +kernel)
theorem wd_X4_label : yX4_label.cls ≠ "java/lang/invoke/MethodHandle" ∧ yX4_label.cls ≠ "java/lang/invoke/VarHandle" ∧ (parseMethodDescriptor yX4_label.desc).map (fun d => d.parameters.length) = some 3 := by decide +kernel
theorem wc_X4_labelled : Jvm.Cond.code yX4_labelled cX4_labelled 4 (some .int) ∈ aw_B := aw_in (by decide +kernel) (by decide +kernel)
theorem wi_X4_labelled : Jvm.Cond.instanceMethod yX4_labelled ∈ aw_B := aw_in (by decide +kernel) (by decide +kernel)
theorem ws_X4_labelled : Jvm.Cond.selects RX4 yX4_labelled yX4_labelled ∈ aw_B := aw_in (by decide +kernel) (by decide +kernel)
theorem wd_X4_labelled : yX4_labelled.cls ≠ "java/lang/invoke/MethodHandle" ∧ yX4_labelled.cls ≠ "java/lang/invoke/VarHandle" ∧ (parseMethodDescriptor yX4_labelled.desc).map (fun d => d.parameters.length) = some 1 := by decide +kernel
theorem wc_X4_labellings : Jvm.Cond.code yX4_labellings cX4_labellings 4 (some .int) ∈ aw_B := aw_in (by decide +kernel) (by decide +kernel)
theorem wi_X4_labellings : Jvm.Cond.instanceMethod yX4_labellings ∈ aw_B := aw_in (by decide +kernel) (by decide +kernel)
theorem ws_X4_labellings : Jvm.Cond.selects RX4 yX4_labellings yX4_labellings ∈ aw_B := aw_in (by decide +kernel) (by decide +kernel)
theorem wd_X4_labellings : yX4_labellings.cls ≠ "java/lang/invoke/MethodHandle" ∧ yX4_labellings.cls ≠ "java/lang/invoke/VarHandle" ∧ (parseMethodDescriptor yX4_labellings.desc).map (fun d => d.parameters.length) = some 1 := by decide +kernel
theorem wc_X4_learn : Jvm.Cond.code yX4_learn cX4_learn 8 (some .int) ∈ aw_B := aw_in (by decide +kernel) (by decide +kernel)
theorem wi_X4_learn : Jvm.Cond.instanceMethod yX4_learn ∈ aw_B := aw_in (by decide +kernel) (by decide +kernel)
theorem ws_X4_learn : Jvm.Cond.selects RX4 yX4_learn yX4_learn ∈ aw_B := aw_in (by decide +kernel) (by decide +kernel)
theorem wd_X4_learn : yX4_learn.cls ≠ "java/lang/invoke/MethodHandle" ∧ yX4_learn.cls ≠ "java/lang/invoke/VarHandle" ∧ (parseMethodDescriptor yX4_learn.desc).map (fun d => d.parameters.length) = some 1 := by decide +kernel
theorem wc_X4_next : Jvm.Cond.code yX4_next cX4_next 8 (some .int) ∈ aw_B := aw_in (by decide +kernel) (by decide +kernel)
theorem wi_X4_next : Jvm.Cond.instanceMethod yX4_next ∈ aw_B := aw_in (by decide +kernel) (by decide +kernel)
theorem ws_X4_next : Jvm.Cond.selects RX4 yX4_next yX4_next ∈ aw_B := aw_in (by decide +kernel) (by decide +kernel)
theorem wd_X4_next : yX4_next.cls ≠ "java/lang/invoke/MethodHandle" ∧ yX4_next.cls ≠ "java/lang/invoke/VarHandle" ∧ (parseMethodDescriptor yX4_next.desc).map (fun d => d.parameters.length) = some 1 := by decide +kernel
theorem wc_X4_person : Jvm.Cond.code yX4_person cX4_person 3 (some .int) ∈ aw_B := aw_in (by decide +kernel) (by decide +kernel)
theorem wi_X4_person : Jvm.Cond.instanceMethod yX4_person ∈ aw_B := aw_in (by decide +kernel) (by decide +kernel)
theorem ws_X4_person : Jvm.Cond.selects RX4 yX4_person yX4_person ∈ aw_B := aw_in (by decide +kernel) (by decide +kernel)
theorem wd_X4_person : yX4_person.cls ≠ "java/lang/invoke/MethodHandle" ∧ yX4_person.cls ≠ "java/lang/invoke/VarHandle" ∧ (parseMethodDescriptor yX4_person.desc).map (fun d => d.parameters.length) = some 2 := by decide +kernel
theorem wc_X4_row : Jvm.Cond.code yX4_row cX4_row 5 (some .int) ∈ aw_B := aw_in (by decide +kernel) (by decide +kernel)
theorem wi_X4_row : Jvm.Cond.instanceMethod yX4_row ∈ aw_B := aw_in (by decide +kernel) (by decide +kernel)
theorem ws_X4_row : Jvm.Cond.selects RX4 yX4_row yX4_row ∈ aw_B := aw_in (by decide +kernel) (by decide +kernel)
theorem wd_X4_row : yX4_row.cls ≠ "java/lang/invoke/MethodHandle" ∧ yX4_row.cls ≠ "java/lang/invoke/VarHandle" ∧ (parseMethodDescriptor yX4_row.desc).map (fun d => d.parameters.length) = some 4 := by decide +kernel
theorem wc_X4_rule : Jvm.Cond.code yX4_rule cX4_rule 5 (some .int) ∈ aw_B := aw_in (by decide +kernel) (by decide +kernel)
theorem wi_X4_rule : Jvm.Cond.instanceMethod yX4_rule ∈ aw_B := aw_in (by decide +kernel) (by decide +kernel)
theorem ws_X4_rule : Jvm.Cond.selects RX4 yX4_rule yX4_rule ∈ aw_B := aw_in (by decide +kernel) (by decide +kernel)
theorem wd_X4_rule : yX4_rule.cls ≠ "java/lang/invoke/MethodHandle" ∧ yX4_rule.cls ≠ "java/lang/invoke/VarHandle" ∧ (parseMethodDescriptor yX4_rule.desc).map (fun d => d.parameters.length) = some 4 := by decide +kernel
theorem wc_X4_said : Jvm.Cond.code yX4_said cX4_said 3 (some .int) ∈ aw_B := aw_in (by decide +kernel) (by decide +kernel)
theorem wi_X4_said : Jvm.Cond.instanceMethod yX4_said ∈ aw_B := aw_in (by decide +kernel) (by decide +kernel)
theorem ws_X4_said : Jvm.Cond.selects RX4 yX4_said yX4_said ∈ aw_B := aw_in (by decide +kernel) (by decide +kernel)
theorem wd_X4_said : yX4_said.cls ≠ "java/lang/invoke/MethodHandle" ∧ yX4_said.cls ≠ "java/lang/invoke/VarHandle" ∧ (parseMethodDescriptor yX4_said.desc).map (fun d => d.parameters.length) = some 2 := by decide +kernel
theorem wc_X4_saysOf : Jvm.Cond.code yX4_saysOf cX4_saysOf 7 (some .int) ∈ aw_B := aw_in (by decide +kernel) (by decide +kernel)
theorem wi_X4_saysOf : Jvm.Cond.instanceMethod yX4_saysOf ∈ aw_B := aw_in (by decide +kernel) (by decide +kernel)
theorem ws_X4_saysOf : Jvm.Cond.selects RX4 yX4_saysOf yX4_saysOf ∈ aw_B := aw_in (by decide +kernel) (by decide +kernel)
theorem wd_X4_saysOf : yX4_saysOf.cls ≠ "java/lang/invoke/MethodHandle" ∧ yX4_saysOf.cls ≠ "java/lang/invoke/VarHandle" ∧ (parseMethodDescriptor yX4_saysOf.desc).map (fun d => d.parameters.length) = some 2 := by decide +kernel
theorem wc_X4_table : Jvm.Cond.code yX4_table cX4_table 4 (some .int) ∈ aw_B := aw_in (by decide +kernel) (by decide +kernel)
theorem wi_X4_table : Jvm.Cond.instanceMethod yX4_table ∈ aw_B := aw_in (by decide +kernel) (by decide +kernel)
theorem ws_X4_table : Jvm.Cond.selects RX4 yX4_table yX4_table ∈ aw_B := aw_in (by decide +kernel) (by decide +kernel)
theorem wd_X4_table : yX4_table.cls ≠ "java/lang/invoke/MethodHandle" ∧ yX4_table.cls ≠ "java/lang/invoke/VarHandle" ∧ (parseMethodDescriptor yX4_table.desc).map (fun d => d.parameters.length) = some 2 := by decide +kernel
theorem wc_X4_turn : Jvm.Cond.code yX4_turn cX4_turn 4 (some .int) ∈ aw_B := aw_in (by decide +kernel) (by decide +kernel)
theorem wi_X4_turn : Jvm.Cond.instanceMethod yX4_turn ∈ aw_B := aw_in (by decide +kernel) (by decide +kernel)
theorem ws_X4_turn : Jvm.Cond.selects RX4 yX4_turn yX4_turn ∈ aw_B := aw_in (by decide +kernel) (by decide +kernel)
theorem wd_X4_turn : yX4_turn.cls ≠ "java/lang/invoke/MethodHandle" ∧ yX4_turn.cls ≠ "java/lang/invoke/VarHandle" ∧ (parseMethodDescriptor yX4_turn.desc).map (fun d => d.parameters.length) = some 2 := by decide +kernel
theorem wc_X4_votes : Jvm.Cond.code yX4_votes cX4_votes 3 (some .int) ∈ aw_B := aw_in (by decide +kernel) (by decide +kernel)
theorem wi_X4_votes : Jvm.Cond.instanceMethod yX4_votes ∈ aw_B := aw_in (by decide +kernel) (by decide +kernel)
theorem ws_X4_votes : Jvm.Cond.selects RX4 yX4_votes yX4_votes ∈ aw_B := aw_in (by decide +kernel) (by decide +kernel)
theorem wd_X4_votes : yX4_votes.cls ≠ "java/lang/invoke/MethodHandle" ∧ yX4_votes.cls ≠ "java/lang/invoke/VarHandle" ∧ (parseMethodDescriptor yX4_votes.desc).map (fun d => d.parameters.length) = some 2 := by decide +kernel
theorem wc_X4_votesOf : Jvm.Cond.code yX4_votesOf cX4_votesOf 5 (some .int) ∈ aw_B := aw_in (by decide +kernel) (by decide +kernel)
theorem wi_X4_votesOf : Jvm.Cond.instanceMethod yX4_votesOf ∈ aw_B := aw_in (by decide +kernel) (by decide +kernel)
theorem ws_X4_votesOf : Jvm.Cond.selects RX4 yX4_votesOf yX4_votesOf ∈ aw_B := aw_in (by decide +kernel) (by decide +kernel)
theorem wd_X4_votesOf : yX4_votesOf.cls ≠ "java/lang/invoke/MethodHandle" ∧ yX4_votesOf.cls ≠ "java/lang/invoke/VarHandle" ∧ (parseMethodDescriptor yX4_votesOf.desc).map (fun d => d.parameters.length) = some 2 := by decide +kernel
theorem wc_X4_weigh : Jvm.Cond.code yX4_weigh cX4_weigh 4 none ∈ aw_B := aw_in (by decide +kernel) (by decide +kernel)
theorem wi_X4_weigh : Jvm.Cond.instanceMethod yX4_weigh ∈ aw_B := aw_in (by decide +kernel) (by decide +kernel)
theorem ws_X4_weigh : Jvm.Cond.selects RX4 yX4_weigh yX4_weigh ∈ aw_B := aw_in (by decide +kernel) (by decide +kernel)
theorem wd_X4_weigh : yX4_weigh.cls ≠ "java/lang/invoke/MethodHandle" ∧ yX4_weigh.cls ≠ "java/lang/invoke/VarHandle" ∧ (parseMethodDescriptor yX4_weigh.desc).map (fun d => d.parameters.length) = some 1 := by decide +kernel
theorem wc_X4_wrong : Jvm.Cond.code yX4_wrong cX4_wrong 4 (some .int) ∈ aw_B := aw_in (by decide +kernel) (by decide +kernel)
theorem wi_X4_wrong : Jvm.Cond.instanceMethod yX4_wrong ∈ aw_B := aw_in (by decide +kernel) (by decide +kernel)
theorem ws_X4_wrong : Jvm.Cond.selects RX4 yX4_wrong yX4_wrong ∈ aw_B := aw_in (by decide +kernel) (by decide +kernel)
theorem wd_X4_wrong : yX4_wrong.cls ≠ "java/lang/invoke/MethodHandle" ∧ yX4_wrong.cls ≠ "java/lang/invoke/VarHandle" ∧ (parseMethodDescriptor yX4_wrong.desc).map (fun d => d.parameters.length) = some 1 := by decide +kernel
theorem w_0 : Jvm.Cond.fieldLink RX0 18 "LabelPeople$Agreement" "top" "J" ∈ aw_B := aw_in (by decide +kernel) (by decide +kernel)
theorem w_1 : Jvm.Cond.fieldLink RX0 22 "LabelPeople$Agreement" "bottom" "J" ∈ aw_B := aw_in (by decide +kernel) (by decide +kernel)
theorem w_2 : Jvm.Cond.fieldLink RX0 25 "LabelPeople$Agreement" "rowCount" "I" ∈ aw_B := aw_in (by decide +kernel) (by decide +kernel)
theorem w_3 : Jvm.Cond.fieldLink RX0 29 "LabelPeople$Agreement" "secondCount" "I" ∈ aw_B := aw_in (by decide +kernel) (by decide +kernel)
theorem w_4 : Jvm.Cond.fieldLink RX0 9 "LabelPeople$Agreement" "oneGave" "[I" ∈ aw_B := aw_in (by decide +kernel) (by decide +kernel)
theorem w_5 : Jvm.Cond.fieldLink RX0 15 "LabelPeople$Agreement" "otherGave" "[I" ∈ aw_B := aw_in (by decide +kernel) (by decide +kernel)
theorem w_6 : Jvm.Cond.initialized RX0 ∈ aw_B := aw_in (by decide +kernel) (by decide +kernel)
theorem w_7 : Jvm.Cond.methodLink RX0 59 yX0_setFraction ∈ aw_B := aw_in (by decide +kernel) (by decide +kernel)
theorem w_8 : Jvm.Cond.methodLink RX0 55 yX0_sumOfProducts ∈ aw_B := aw_in (by decide +kernel) (by decide +kernel)
theorem w_9 : Jvm.Cond.initialized RX2 ∈ aw_B := aw_in (by decide +kernel) (by decide +kernel)
theorem w_10 : Jvm.Cond.initialized RX3 ∈ aw_B := aw_in (by decide +kernel) (by decide +kernel)
theorem w_11 : Jvm.Cond.methodLink RX0 47 yX2_given ∈ aw_B := aw_in (by decide +kernel) (by decide +kernel)
theorem w_12 : Jvm.Cond.methodLink RX0 41 yX2_size ∈ aw_B := aw_in (by decide +kernel) (by decide +kernel)
theorem w_13 : Jvm.Cond.initialized RJ7 ∈ aw_B := aw_in (by decide +kernel) (by decide +kernel)
theorem w_14 : Jvm.Cond.methodLink RX0 35 yJ7_fill_53178 ∈ aw_B := aw_in (by decide +kernel) (by decide +kernel)
theorem w_15 : Jvm.Cond.methodLink RX0 32 yX0_startCounts ∈ aw_B := aw_in (by decide +kernel) (by decide +kernel)
theorem w_16 : Jvm.Cond.constantLong RX0 67 840 ∈ aw_B := aw_in (by decide +kernel) (by decide +kernel)
theorem w_17 : Jvm.Cond.methodLink RX0 73 yX0_countLabels ∈ aw_B := aw_in (by decide +kernel) (by decide +kernel)
theorem w_18 : Jvm.Cond.methodLink RX0 69 yX0_likePairs ∈ aw_B := aw_in (by decide +kernel) (by decide +kernel)
theorem w_19 : Jvm.Cond.methodLink RX0 63 yX2_givenOn ∈ aw_B := aw_in (by decide +kernel) (by decide +kernel)
theorem w_20 : Jvm.Cond.methodLink RX0 77 yX0_commonDivisor ∈ aw_B := aw_in (by decide +kernel) (by decide +kernel)
theorem w_21 : Jvm.Cond.fieldLink RX1 31 "LabelPeople$RuleBook" "size" "I" ∈ aw_B := aw_in (by decide +kernel) (by decide +kernel)
theorem w_22 : Jvm.Cond.fieldLink RX1 9 "LabelPeople$RuleBook" "kinds" "[I" ∈ aw_B := aw_in (by decide +kernel) (by decide +kernel)
theorem w_23 : Jvm.Cond.fieldLink RX1 15 "LabelPeople$RuleBook" "firsts" "[I" ∈ aw_B := aw_in (by decide +kernel) (by decide +kernel)
theorem w_24 : Jvm.Cond.fieldLink RX1 18 "LabelPeople$RuleBook" "seconds" "[I" ∈ aw_B := aw_in (by decide +kernel) (by decide +kernel)
theorem w_25 : Jvm.Cond.fieldLink RX1 21 "LabelPeople$RuleBook" "constants" "[I" ∈ aw_B := aw_in (by decide +kernel) (by decide +kernel)
theorem w_26 : Jvm.Cond.fieldLink RX1 24 "LabelPeople$RuleBook" "on" "[Z" ∈ aw_B := aw_in (by decide +kernel) (by decide +kernel)
theorem w_27 : Jvm.Cond.fieldLink RX1 28 "LabelPeople$RuleBook" "places" "[I" ∈ aw_B := aw_in (by decide +kernel) (by decide +kernel)
theorem w_28 : Jvm.Cond.initialized RJ9 ∈ aw_B := aw_in (by decide +kernel) (by decide +kernel)
theorem w_29 : Jvm.Cond.methodLink RX1 41 yJ9_floorMod_7cf53 ∈ aw_B := aw_in (by decide +kernel) (by decide +kernel)
theorem w_30 : Jvm.Cond.methodLink RX1 35 yX2_feature ∈ aw_B := aw_in (by decide +kernel) (by decide +kernel)
theorem w_31 : Jvm.Cond.fieldLink RX2 32 "LabelPeople$Sheet" "size" "I" ∈ aw_B := aw_in (by decide +kernel) (by decide +kernel)
theorem w_32 : Jvm.Cond.fieldLink RX2 11 "LabelPeople$Sheet" "features" "[[I" ∈ aw_B := aw_in (by decide +kernel) (by decide +kernel)
theorem w_33 : Jvm.Cond.fieldLink RX2 16 "LabelPeople$Sheet" "given" "[[I" ∈ aw_B := aw_in (by decide +kernel) (by decide +kernel)
theorem w_34 : Jvm.Cond.methodLink RX2 36 yX2_countWrong ∈ aw_B := aw_in (by decide +kernel) (by decide +kernel)
theorem w_35 : Jvm.Cond.fieldLink RX2 25 "LabelPeople$Sheet" "known" "[I" ∈ aw_B := aw_in (by decide +kernel) (by decide +kernel)
theorem w_36 : Jvm.Cond.fieldLink RX2 29 "LabelPeople$Sheet" "wrong" "[I" ∈ aw_B := aw_in (by decide +kernel) (by decide +kernel)
theorem w_37 : Jvm.Cond.fieldLink RX3 10 "LabelPeople" "sheet" "LLabelPeople$Sheet;" ∈ aw_B := aw_in (by decide +kernel) (by decide +kernel)
theorem w_38 : Jvm.Cond.methodLink RX3 57 yX2_addRow ∈ aw_B := aw_in (by decide +kernel) (by decide +kernel)
theorem w_39 : Jvm.Cond.methodLink RX3 75 yX2_give ∈ aw_B := aw_in (by decide +kernel) (by decide +kernel)
theorem w_40 : Jvm.Cond.methodLink RX3 71 yX2_given ∈ aw_B := aw_in (by decide +kernel) (by decide +kernel)
theorem w_41 : Jvm.Cond.methodLink RX3 68 yX3_isLabel ∈ aw_B := aw_in (by decide +kernel) (by decide +kernel)
theorem w_42 : Jvm.Cond.methodLink RX3 65 yX2_hasRow ∈ aw_B := aw_in (by decide +kernel) (by decide +kernel)
theorem w_43 : Jvm.Cond.methodLink RX3 61 yX3_isPerson ∈ aw_B := aw_in (by decide +kernel) (by decide +kernel)
theorem w_44 : Jvm.Cond.methodLink RX3 83 yX2_setKnown ∈ aw_B := aw_in (by decide +kernel) (by decide +kernel)
theorem w_45 : Jvm.Cond.methodLink RX3 79 yX2_known ∈ aw_B := aw_in (by decide +kernel) (by decide +kernel)
theorem w_46 : Jvm.Cond.fieldLink RX3 44 "LabelPeople" "barredFrom" "I" ∈ aw_B := aw_in (by decide +kernel) (by decide +kernel)
theorem w_47 : Jvm.Cond.fieldLink RX3 30 "LabelPeople" "experts" "[Z" ∈ aw_B := aw_in (by decide +kernel) (by decide +kernel)
theorem w_48 : Jvm.Cond.methodLink RX3 93 yX2_givenBy ∈ aw_B := aw_in (by decide +kernel) (by decide +kernel)
theorem w_49 : Jvm.Cond.methodLink RX3 90 yX3_isBarred ∈ aw_B := aw_in (by decide +kernel) (by decide +kernel)
theorem w_50 : Jvm.Cond.methodLink RX3 87 yX2_wrongOf ∈ aw_B := aw_in (by decide +kernel) (by decide +kernel)
theorem w_51 : Jvm.Cond.fieldLink RX3 34 "LabelPeople" "trust" "[I" ∈ aw_B := aw_in (by decide +kernel) (by decide +kernel)
theorem w_52 : Jvm.Cond.fieldLink RX3 19 "LabelPeople" "book" "LLabelPeople$RuleBook;" ∈ aw_B := aw_in (by decide +kernel) (by decide +kernel)
theorem w_53 : Jvm.Cond.initialized RX1 ∈ aw_B := aw_in (by decide +kernel) (by decide +kernel)
theorem w_54 : Jvm.Cond.methodLink RX3 99 yX1_addRule ∈ aw_B := aw_in (by decide +kernel) (by decide +kernel)
theorem w_55 : Jvm.Cond.methodLink RX3 96 yX3_isFeature ∈ aw_B := aw_in (by decide +kernel) (by decide +kernel)
theorem w_56 : Jvm.Cond.methodLink RX3 108 yX1_setOn ∈ aw_B := aw_in (by decide +kernel) (by decide +kernel)
theorem w_57 : Jvm.Cond.methodLink RX3 105 yX1_isOn ∈ aw_B := aw_in (by decide +kernel) (by decide +kernel)
theorem w_58 : Jvm.Cond.methodLink RX3 102 yX1_hasRule ∈ aw_B := aw_in (by decide +kernel) (by decide +kernel)
theorem w_59 : Jvm.Cond.methodLink RX3 115 yX1_replace ∈ aw_B := aw_in (by decide +kernel) (by decide +kernel)
theorem w_60 : Jvm.Cond.methodLink RX3 112 yX3_isPlace ∈ aw_B := aw_in (by decide +kernel) (by decide +kernel)
theorem w_61 : Jvm.Cond.methodLink RX3 125 yX1_wordOn ∈ aw_B := aw_in (by decide +kernel) (by decide +kernel)
theorem w_62 : Jvm.Cond.methodLink RX3 139 yX2_size ∈ aw_B := aw_in (by decide +kernel) (by decide +kernel)
theorem w_63 : Jvm.Cond.fieldLink RX3 48 "LabelPeople" "tally" "[I" ∈ aw_B := aw_in (by decide +kernel) (by decide +kernel)
theorem w_64 : Jvm.Cond.methodLink RX3 143 yX3_countVotes ∈ aw_B := aw_in (by decide +kernel) (by decide +kernel)
theorem w_65 : Jvm.Cond.methodLink RX3 147 yX3_decide ∈ aw_B := aw_in (by decide +kernel) (by decide +kernel)
theorem w_66 : Jvm.Cond.methodLink RX3 150 yX3_learnRound ∈ aw_B := aw_in (by decide +kernel) (by decide +kernel)
theorem w_67 : Jvm.Cond.methodLink RX3 38 yJ7_fill_53178 ∈ aw_B := aw_in (by decide +kernel) (by decide +kernel)
theorem w_68 : Jvm.Cond.fieldLink RX3 26 "LabelPeople" "agreement" "LLabelPeople$Agreement;" ∈ aw_B := aw_in (by decide +kernel) (by decide +kernel)
theorem w_69 : Jvm.Cond.methodLink RX3 162 yX3_partOfAgreement ∈ aw_B := aw_in (by decide +kernel) (by decide +kernel)
theorem w_70 : Jvm.Cond.methodLink RX3 158 yX0_measureTwo ∈ aw_B := aw_in (by decide +kernel) (by decide +kernel)
theorem w_71 : Jvm.Cond.methodLink RX3 166 yX0_measureAll ∈ aw_B := aw_in (by decide +kernel) (by decide +kernel)
theorem w_72 : Jvm.Cond.methodLink RX3 173 yX2_givenOn ∈ aw_B := aw_in (by decide +kernel) (by decide +kernel)
theorem w_73 : Jvm.Cond.methodLink RX3 170 yX3_leadInTally ∈ aw_B := aw_in (by decide +kernel) (by decide +kernel)
theorem w_74 : Jvm.Cond.methodLink RX3 189 yX3_countDisputed ∈ aw_B := aw_in (by decide +kernel) (by decide +kernel)
theorem w_75 : Jvm.Cond.methodLink RX3 186 yX3_countBarred ∈ aw_B := aw_in (by decide +kernel) (by decide +kernel)
theorem w_76 : Jvm.Cond.methodLink RX3 183 yX2_countKnown ∈ aw_B := aw_in (by decide +kernel) (by decide +kernel)
theorem w_77 : Jvm.Cond.methodLink RX3 180 yX3_countDecided ∈ aw_B := aw_in (by decide +kernel) (by decide +kernel)
theorem w_78 : Jvm.Cond.methodLink RX3 179 yX1_size ∈ aw_B := aw_in (by decide +kernel) (by decide +kernel)
theorem w_79 : Jvm.Cond.methodLink RX3 176 yX3_countLabellings ∈ aw_B := aw_in (by decide +kernel) (by decide +kernel)
theorem w_80 : Jvm.Cond.methodLink RX3 195 yX3_expertOn ∈ aw_B := aw_in (by decide +kernel) (by decide +kernel)
theorem w_81 : Jvm.Cond.methodLink RX3 192 yX3_winnerInTally ∈ aw_B := aw_in (by decide +kernel) (by decide +kernel)
theorem w_82 : Jvm.Cond.fieldLink RX3 54 "LabelPeople" "freshTrust" "[I" ∈ aw_B := aw_in (by decide +kernel) (by decide +kernel)
theorem w_83 : Jvm.Cond.methodLink RX3 201 arraycopyName ∈ aw_B := aw_in (by decide +kernel) (by decide +kernel)
theorem w_84 : Jvm.Cond.native arraycopyName ∈ aw_B := aw_in (by decide +kernel) (by decide +kernel)
theorem w_85 : Jvm.Cond.static arraycopyName ∈ aw_B := aw_in (by decide +kernel) (by decide +kernel)
theorem w_86 : Jvm.Cond.initialized "java/lang/System" ∈ aw_B := aw_in (by decide +kernel) (by decide +kernel)
theorem w_87 : Jvm.Cond.methodLink RX3 198 yX3_earnedTrust ∈ aw_B := aw_in (by decide +kernel) (by decide +kernel)
theorem w_88 : Jvm.Cond.fieldLink RX3 51 "LabelPeople" "decisions" "[I" ∈ aw_B := aw_in (by decide +kernel) (by decide +kernel)
theorem w_89 : Jvm.Cond.methodLink RX3 213 yX0_denominator ∈ aw_B := aw_in (by decide +kernel) (by decide +kernel)
theorem w_90 : Jvm.Cond.methodLink RX3 219 yX0_numerator ∈ aw_B := aw_in (by decide +kernel) (by decide +kernel)
theorem w_91 : Jvm.Cond.methodLink RX3 210 yX0_secondCount ∈ aw_B := aw_in (by decide +kernel) (by decide +kernel)
theorem w_92 : Jvm.Cond.methodLink RX3 207 yX0_rowCount ∈ aw_B := aw_in (by decide +kernel) (by decide +kernel)
theorem w_93 : Jvm.Cond.methodLink RX3 222 yX3_isDisputed ∈ aw_B := aw_in (by decide +kernel) (by decide +kernel)
theorem w_94 : Jvm.Cond.fieldLink RX4 1 "LabelPeopleModel" "thrown" "I" ∈ aw_B := aw_in (by decide +kernel) (by decide +kernel)
theorem w_95 : Jvm.Cond.fieldLink RX4 57 "LabelPeopleModel" "rows" "I" ∈ aw_B := aw_in (by decide +kernel) (by decide +kernel)
theorem w_96 : Jvm.Cond.initialized RX4 ∈ aw_B := aw_in (by decide +kernel) (by decide +kernel)
theorem w_97 : Jvm.Cond.methodLink RX4 60 yX4_in ∈ aw_B := aw_in (by decide +kernel) (by decide +kernel)
theorem w_98 : Jvm.Cond.fieldLink RX4 13 "LabelPeopleModel" "features" "[I" ∈ aw_B := aw_in (by decide +kernel) (by decide +kernel)
theorem w_99 : Jvm.Cond.fieldLink RX4 20 "LabelPeopleModel" "goldAt" "[I" ∈ aw_B := aw_in (by decide +kernel) (by decide +kernel)
theorem w_100 : Jvm.Cond.fieldLink RX4 17 "LabelPeopleModel" "saidAt" "[I" ∈ aw_B := aw_in (by decide +kernel) (by decide +kernel)
theorem w_101 : Jvm.Cond.methodLink RX4 68 yX4_isRow ∈ aw_B := aw_in (by decide +kernel) (by decide +kernel)
theorem w_102 : Jvm.Cond.methodLink RX4 64 yX4_isPerson ∈ aw_B := aw_in (by decide +kernel) (by decide +kernel)
theorem w_103 : Jvm.Cond.fieldLink RX4 23 "LabelPeopleModel" "bound" "I" ∈ aw_B := aw_in (by decide +kernel) (by decide +kernel)
theorem w_104 : Jvm.Cond.fieldLink RX4 26 "LabelPeopleModel" "isExpert" "[Z" ∈ aw_B := aw_in (by decide +kernel) (by decide +kernel)
theorem w_105 : Jvm.Cond.methodLink RX4 71 yX4_wrong ∈ aw_B := aw_in (by decide +kernel) (by decide +kernel)
theorem w_106 : Jvm.Cond.methodLink RX4 78 yX4_labelled ∈ aw_B := aw_in (by decide +kernel) (by decide +kernel)
theorem w_107 : Jvm.Cond.methodLink RX4 75 yX4_isBarred ∈ aw_B := aw_in (by decide +kernel) (by decide +kernel)
theorem w_108 : Jvm.Cond.fieldLink RX4 30 "LabelPeopleModel" "trust" "[I" ∈ aw_B := aw_in (by decide +kernel) (by decide +kernel)
theorem w_109 : Jvm.Cond.fieldLink RX4 36 "LabelPeopleModel" "kindOf" "[I" ∈ aw_B := aw_in (by decide +kernel) (by decide +kernel)
theorem w_110 : Jvm.Cond.fieldLink RX4 81 "LabelPeopleModel" "rules" "I" ∈ aw_B := aw_in (by decide +kernel) (by decide +kernel)
theorem w_111 : Jvm.Cond.fieldLink RX4 39 "LabelPeopleModel" "is" "[I" ∈ aw_B := aw_in (by decide +kernel) (by decide +kernel)
theorem w_112 : Jvm.Cond.fieldLink RX4 42 "LabelPeopleModel" "js" "[I" ∈ aw_B := aw_in (by decide +kernel) (by decide +kernel)
theorem w_113 : Jvm.Cond.fieldLink RX4 45 "LabelPeopleModel" "cs" "[I" ∈ aw_B := aw_in (by decide +kernel) (by decide +kernel)
theorem w_114 : Jvm.Cond.fieldLink RX4 48 "LabelPeopleModel" "isOn" "[Z" ∈ aw_B := aw_in (by decide +kernel) (by decide +kernel)
theorem w_115 : Jvm.Cond.fieldLink RX4 51 "LabelPeopleModel" "places" "[I" ∈ aw_B := aw_in (by decide +kernel) (by decide +kernel)
theorem w_116 : Jvm.Cond.methodLink RX4 84 yX4_saysOf ∈ aw_B := aw_in (by decide +kernel) (by decide +kernel)
theorem w_117 : Jvm.Cond.methodLink RX4 88 yX4_votesOf ∈ aw_B := aw_in (by decide +kernel) (by decide +kernel)
theorem w_118 : Jvm.Cond.fieldLink RX4 94 "LabelPeopleModel" "second" "I" ∈ aw_B := aw_in (by decide +kernel) (by decide +kernel)
theorem w_119 : Jvm.Cond.fieldLink RX4 91 "LabelPeopleModel" "most" "I" ∈ aw_B := aw_in (by decide +kernel) (by decide +kernel)
theorem w_120 : Jvm.Cond.fieldLink RX4 97 "LabelPeopleModel" "best" "I" ∈ aw_B := aw_in (by decide +kernel) (by decide +kernel)
theorem w_121 : Jvm.Cond.methodLink RX4 100 yX4_weigh ∈ aw_B := aw_in (by decide +kernel) (by decide +kernel)
theorem w_122 : Jvm.Cond.methodLink RX4 104 yX4_decidedOf ∈ aw_B := aw_in (by decide +kernel) (by decide +kernel)
theorem w_123 : Jvm.Cond.fieldLink RX4 33 "LabelPeopleModel" "nextTrust" "[I" ∈ aw_B := aw_in (by decide +kernel) (by decide +kernel)
theorem w_124 : Jvm.Cond.fieldLink RX4 54 "LabelPeopleModel" "decision" "[I" ∈ aw_B := aw_in (by decide +kernel) (by decide +kernel)
theorem w_125 : Jvm.Cond.methodLink RX4 107 yX4_cut ∈ aw_B := aw_in (by decide +kernel) (by decide +kernel)
theorem w_126 : Jvm.Cond.constantLong RX4 117 840 ∈ aw_B := aw_in (by decide +kernel) (by decide +kernel)
theorem w_127 : Jvm.Cond.methodLink RX4 114 yX4_countOf ∈ aw_B := aw_in (by decide +kernel) (by decide +kernel)
theorem w_128 : Jvm.Cond.methodLink RX4 111 yX4_labellings ∈ aw_B := aw_in (by decide +kernel) (by decide +kernel)
theorem w_129 : Jvm.Cond.methodLink RX4 119 yX4_isUnlike ∈ aw_B := aw_in (by decide +kernel) (by decide +kernel)
theorem w_130 : Jvm.Cond.methodLink RL 116 yX4_about ∈ aw_B := aw_in (by decide +kernel) (by decide +kernel)
theorem w_131 : Jvm.Cond.methodLink RL 113 yX3_about ∈ aw_B := aw_in (by decide +kernel) (by decide +kernel)
theorem w_132 : Jvm.Cond.methodLink RL 112 yX4_next ∈ aw_B := aw_in (by decide +kernel) (by decide +kernel)
theorem w_133 : Jvm.Cond.methodLink RL 109 yX3_next ∈ aw_B := aw_in (by decide +kernel) (by decide +kernel)
theorem w_134 : Jvm.Cond.methodLink RL 100 yX4_learn ∈ aw_B := aw_in (by decide +kernel) (by decide +kernel)
theorem w_135 : Jvm.Cond.methodLink RL 97 yX3_learn ∈ aw_B := aw_in (by decide +kernel) (by decide +kernel)
theorem w_136 : Jvm.Cond.methodLink RL 96 yX4_decided ∈ aw_B := aw_in (by decide +kernel) (by decide +kernel)
theorem w_137 : Jvm.Cond.methodLink RL 93 yX3_decided ∈ aw_B := aw_in (by decide +kernel) (by decide +kernel)
theorem w_138 : Jvm.Cond.methodLink RL 92 yX4_votes ∈ aw_B := aw_in (by decide +kernel) (by decide +kernel)
theorem w_139 : Jvm.Cond.methodLink RL 89 yX3_votes ∈ aw_B := aw_in (by decide +kernel) (by decide +kernel)
theorem w_140 : Jvm.Cond.methodLink RL 88 yX4_abstains ∈ aw_B := aw_in (by decide +kernel) (by decide +kernel)
theorem w_141 : Jvm.Cond.methodLink RL 85 yX3_abstains ∈ aw_B := aw_in (by decide +kernel) (by decide +kernel)
theorem w_142 : Jvm.Cond.methodLink RL 74 yX4_table ∈ aw_B := aw_in (by decide +kernel) (by decide +kernel)
theorem w_143 : Jvm.Cond.methodLink RL 71 yX3_table ∈ aw_B := aw_in (by decide +kernel) (by decide +kernel)
theorem w_144 : Jvm.Cond.methodLink RL 70 yX4_turn ∈ aw_B := aw_in (by decide +kernel) (by decide +kernel)
theorem w_145 : Jvm.Cond.methodLink RL 67 yX3_turn ∈ aw_B := aw_in (by decide +kernel) (by decide +kernel)
theorem w_146 : Jvm.Cond.methodLink RL 66 yX4_rule ∈ aw_B := aw_in (by decide +kernel) (by decide +kernel)
theorem w_147 : Jvm.Cond.methodLink RL 63 yX3_rule ∈ aw_B := aw_in (by decide +kernel) (by decide +kernel)
theorem w_148 : Jvm.Cond.methodLink RL 62 yX4_person ∈ aw_B := aw_in (by decide +kernel) (by decide +kernel)
theorem w_149 : Jvm.Cond.methodLink RL 59 yX3_person ∈ aw_B := aw_in (by decide +kernel) (by decide +kernel)
theorem w_150 : Jvm.Cond.methodLink RL 58 yX4_expert ∈ aw_B := aw_in (by decide +kernel) (by decide +kernel)
theorem w_151 : Jvm.Cond.methodLink RL 54 yX3_expert ∈ aw_B := aw_in (by decide +kernel) (by decide +kernel)
theorem w_152 : Jvm.Cond.methodLink RL 53 yX4_bound ∈ aw_B := aw_in (by decide +kernel) (by decide +kernel)
theorem w_153 : Jvm.Cond.methodLink RL 49 yX3_bound ∈ aw_B := aw_in (by decide +kernel) (by decide +kernel)
theorem w_154 : Jvm.Cond.methodLink RL 48 yX4_gold ∈ aw_B := aw_in (by decide +kernel) (by decide +kernel)
theorem w_155 : Jvm.Cond.methodLink RL 45 yX3_gold ∈ aw_B := aw_in (by decide +kernel) (by decide +kernel)
theorem w_156 : Jvm.Cond.methodLink RL 44 yX4_said ∈ aw_B := aw_in (by decide +kernel) (by decide +kernel)
theorem w_157 : Jvm.Cond.methodLink RL 41 yX3_said ∈ aw_B := aw_in (by decide +kernel) (by decide +kernel)
theorem w_158 : Jvm.Cond.methodLink RL 40 yX4_label ∈ aw_B := aw_in (by decide +kernel) (by decide +kernel)
theorem w_159 : Jvm.Cond.methodLink RL 36 yX3_label ∈ aw_B := aw_in (by decide +kernel) (by decide +kernel)
theorem w_160 : Jvm.Cond.methodLink RL 35 yX4_row ∈ aw_B := aw_in (by decide +kernel) (by decide +kernel)
theorem w_161 : Jvm.Cond.methodLink RL 31 yX3_row ∈ aw_B := aw_in (by decide +kernel) (by decide +kernel)
end
section
/-! X0_numerator -/
def k_X0_numerator_0 (l : Launch) (X : Nat → aw_Kt) (d : Nat) (Q : Option Value → aw_H → Prop) : aw_Kt := o_al 0 (o_gf 0 2 (o_rl Q))
theorem t_X0_numerator_0 {l : Launch} {X : Nat → aw_Kt} {d : Nat} {Q : Option Value → aw_H → Prop} : aw_Sn l m_X0_numerator none X d 0 0 Q 0 (k_X0_numerator_0 l X d Q) := by
  unfold k_X0_numerator_0
  exact s_aload_n dX0_numerator_0 rfl (s_getf dX0_numerator_1 rfl u_X0 (by decide) w_0 (s_lret dX0_numerator_4 rfl))
/-! X0_denominator -/
def k_X0_denominator_0 (l : Launch) (X : Nat → aw_Kt) (d : Nat) (Q : Option Value → aw_H → Prop) : aw_Kt := o_al 0 (o_gf 0 3 (o_rl Q))
theorem t_X0_denominator_0 {l : Launch} {X : Nat → aw_Kt} {d : Nat} {Q : Option Value → aw_H → Prop} : aw_Sn l m_X0_denominator none X d 0 0 Q 0 (k_X0_denominator_0 l X d Q) := by
  unfold k_X0_denominator_0
  exact s_aload_n dX0_denominator_0 rfl (s_getf dX0_denominator_1 rfl u_X0 (by decide) w_1 (s_lret dX0_denominator_4 rfl))
/-! X0_rowCount -/
def k_X0_rowCount_0 (l : Launch) (X : Nat → aw_Kt) (d : Nat) (Q : Option Value → aw_H → Prop) : aw_Kt := o_al 0 (o_gf 0 4 (o_ri Q))
theorem t_X0_rowCount_0 {l : Launch} {X : Nat → aw_Kt} {d : Nat} {Q : Option Value → aw_H → Prop} : aw_Sn l m_X0_rowCount none X d 0 0 Q 0 (k_X0_rowCount_0 l X d Q) := by
  unfold k_X0_rowCount_0
  exact s_aload_n dX0_rowCount_0 rfl (s_getf dX0_rowCount_1 rfl u_X0 (by decide) w_2 (s_iret dX0_rowCount_4 rfl))
/-! X0_secondCount -/
def k_X0_secondCount_0 (l : Launch) (X : Nat → aw_Kt) (d : Nat) (Q : Option Value → aw_H → Prop) : aw_Kt := o_al 0 (o_gf 0 5 (o_ri Q))
theorem t_X0_secondCount_0 {l : Launch} {X : Nat → aw_Kt} {d : Nat} {Q : Option Value → aw_H → Prop} : aw_Sn l m_X0_secondCount none X d 0 0 Q 0 (k_X0_secondCount_0 l X d Q) := by
  unfold k_X0_secondCount_0
  exact s_aload_n dX0_secondCount_0 rfl (s_getf dX0_secondCount_1 rfl u_X0 (by decide) w_3 (s_iret dX0_secondCount_4 rfl))
/-! X0_measureTwo -/
def k_X0_measureTwo_120 (l : Launch) (X : Nat → aw_Kt) (d : Nat) (Q : Option Value → aw_H → Prop) : aw_Kt := o_al 0 (o_gf 0 4 (o_i2 (o_ls 4 (o_al 0 (o_gf 0 0 (o_al 0 (o_gf 0 1 (o_cs l d m_X0_sumOfProducts 2 (o_ls 6 (o_al 0 (o_ll 4 (o_al 0 (o_gf 0 5 (o_i2 (o_lb (fun x y => x * y) (o_ll 6 (o_lb (fun x y => x - y) (o_ll 4 (o_ll 4 (o_lb (fun x y => x * y) (o_ll 6 (o_lb (fun x y => x - y) (o_cv l d m_X0_setFraction 0 2 (o_rv Q))))))))))))))))))))))))
theorem t_X0_measureTwo_120 {l : Launch} {X : Nat → aw_Kt} {d : Nat} {Q : Option Value → aw_H → Prop} : aw_Sn l m_X0_measureTwo none X d 0 0 Q 120 (k_X0_measureTwo_120 l X d Q) := by
  unfold k_X0_measureTwo_120
  exact s_aload_n dX0_measureTwo_120 rfl (s_getf dX0_measureTwo_121 rfl u_X0 (by decide) w_2 (s_i2l dX0_measureTwo_124 (s_lstore dX0_measureTwo_125 (by decide) (s_aload_n dX0_measureTwo_127 rfl (s_getf dX0_measureTwo_128 rfl u_X0 (by decide) w_4 (s_aload_n dX0_measureTwo_131 rfl (s_getf dX0_measureTwo_132 rfl u_X0 (by decide) w_5 (s_cs dX0_measureTwo_135 (by decide) w_8 wt_X0_sumOfProducts w_6 wc_X0_sumOfProducts wd_X0_sumOfProducts (s_lstore dX0_measureTwo_138 (by decide) (s_aload_n dX0_measureTwo_140 rfl (s_lload dX0_measureTwo_141 (s_aload_n dX0_measureTwo_143 rfl (s_getf dX0_measureTwo_144 rfl u_X0 (by decide) w_3 (s_i2l dX0_measureTwo_147 (s_lmul dX0_measureTwo_148 (s_lload dX0_measureTwo_149 (s_lsub dX0_measureTwo_151 (s_lload dX0_measureTwo_152 (s_lload dX0_measureTwo_154 (s_lmul dX0_measureTwo_156 (s_lload dX0_measureTwo_157 (s_lsub dX0_measureTwo_159 (s_cv dX0_measureTwo_160 rfl (by decide) w_7 wi_X0_setFraction ws_X0_setFraction w_6 wc_X0_setFraction wd_X0_setFraction (s_vret dX0_measureTwo_163 rfl))))))))))))))))))))))))
def k_X0_measureTwo_114 (l : Launch) (X : Nat → aw_Kt) (d : Nat) (Q : Option Value → aw_H → Prop) : aw_Kt := o_ii 4 1 (SW l m_X0_measureTwo none X d 0 0 Q 15)
theorem t_X0_measureTwo_114 {l : Launch} {X : Nat → aw_Kt} {d : Nat} {Q : Option Value → aw_H → Prop} : aw_Sn l m_X0_measureTwo none X d 0 0 Q 114 (k_X0_measureTwo_114 l X d Q) := by
  unfold k_X0_measureTwo_114
  exact s_iinc dX0_measureTwo_114 (by decide) (by decide) (s_goto dX0_measureTwo_117 (by decide) s_stop)
def k_X0_measureTwo_110 (l : Launch) (X : Nat → aw_Kt) (d : Nat) (Q : Option Value → aw_H → Prop) : aw_Kt := o_ib (fun x y => x + y) (o_pi 0 5 (k_X0_measureTwo_114 l X d Q))
theorem t_X0_measureTwo_110 {l : Launch} {X : Nat → aw_Kt} {d : Nat} {Q : Option Value → aw_H → Prop} : aw_Sn l m_X0_measureTwo none X d 0 0 Q 110 (k_X0_measureTwo_110 l X d Q) := by
  unfold k_X0_measureTwo_110
  exact s_iadd dX0_measureTwo_110 (s_puti dX0_measureTwo_111 rfl u_X0 tyX0_ok nmX0 (by decide) rfl (by decide +kernel) w_3 t_X0_measureTwo_114)
def k_X0_measureTwo_109 (l : Launch) (X : Nat → aw_Kt) (d : Nat) (Q : Option Value → aw_H → Prop) : aw_Kt := o_ic 0 (k_X0_measureTwo_110 l X d Q)
theorem t_X0_measureTwo_109 {l : Launch} {X : Nat → aw_Kt} {d : Nat} {Q : Option Value → aw_H → Prop} : aw_Sn l m_X0_measureTwo none X d 0 0 Q 109 (k_X0_measureTwo_109 l X d Q) := by
  unfold k_X0_measureTwo_109
  exact s_iconst dX0_measureTwo_109 (by decide) t_X0_measureTwo_110
def k_X0_measureTwo_61 (l : Launch) (X : Nat → aw_Kt) (d : Nat) (Q : Option Value → aw_H → Prop) : aw_Kt := o_al 0 (o_gf 0 0 (o_il 5 (o_d2 (o_ia 0 (o_ic 1 (o_ib (fun x y => x + y) (o_xa (o_al 0 (o_gf 0 1 (o_il 6 (o_d2 (o_ia 0 (o_ic 1 (o_ib (fun x y => x + y) (o_xa (o_al 0 (o_dp (o_gf 0 4 (o_ic 1 (o_ib (fun x y => x + y) (o_pi 0 4 (o_al 0 (o_dp (o_gf 0 5 (o_il 5 (o_il 6 (o_i3 (fun x y => x = y) (o_ic 1 (k_X0_measureTwo_110 l X d Q)) (k_X0_measureTwo_109 l X d Q))))))))))))))))))))))))))))
theorem t_X0_measureTwo_61 {l : Launch} {X : Nat → aw_Kt} {d : Nat} {Q : Option Value → aw_H → Prop} : aw_Sn l m_X0_measureTwo none X d 0 0 Q 61 (k_X0_measureTwo_61 l X d Q) := by
  unfold k_X0_measureTwo_61
  exact s_aload_n dX0_measureTwo_61 rfl (s_getf dX0_measureTwo_62 rfl u_X0 (by decide) w_4 (s_iload dX0_measureTwo_65 (s_dup2 dX0_measureTwo_67 (s_iaload dX0_measureTwo_68 (s_iconst dX0_measureTwo_69 (by decide) (s_iadd dX0_measureTwo_70 (s_iastore dX0_measureTwo_71 (s_aload_n dX0_measureTwo_72 rfl (s_getf dX0_measureTwo_73 rfl u_X0 (by decide) w_5 (s_iload dX0_measureTwo_76 (s_dup2 dX0_measureTwo_78 (s_iaload dX0_measureTwo_79 (s_iconst dX0_measureTwo_80 (by decide) (s_iadd dX0_measureTwo_81 (s_iastore dX0_measureTwo_82 (s_aload_n dX0_measureTwo_83 rfl (s_dup dX0_measureTwo_84 (s_getf dX0_measureTwo_85 rfl u_X0 (by decide) w_2 (s_iconst dX0_measureTwo_88 (by decide) (s_iadd dX0_measureTwo_89 (s_puti dX0_measureTwo_90 rfl u_X0 tyX0_ok nmX0 (by decide) rfl (by decide +kernel) w_2 (s_aload_n dX0_measureTwo_93 rfl (s_dup dX0_measureTwo_94 (s_getf dX0_measureTwo_95 rfl u_X0 (by decide) w_3 (s_iload dX0_measureTwo_98 (s_iload dX0_measureTwo_100 (s_icmp_ne dX0_measureTwo_102 (by decide) (s_iconst dX0_measureTwo_105 (by decide) (s_goto dX0_measureTwo_106 (by decide) t_X0_measureTwo_110)) t_X0_measureTwo_109)))))))))))))))))))))))))))
def k_X0_measureTwo_15 (l : Launch) (X : Nat → aw_Kt) (d : Nat) (Q : Option Value → aw_H → Prop) : aw_Kt := o_il 4 (o_al 1 (o_cv l d m_X2_size 2 0 (o_i3 (fun x y => y ≤ x) (k_X0_measureTwo_120 l X d Q) (o_al 1 (o_il 2 (o_il 4 (o_cv l d m_X2_given 2 2 (o_is 5 (o_al 1 (o_il 3 (o_il 4 (o_cv l d m_X2_given 2 2 (o_is 6 (o_il 5 (o_cs l d m_X3_isLabel 1 (o_if (fun x => x = 0) (k_X0_measureTwo_114 l X d Q) (o_il 6 (o_cs l d m_X3_isLabel 1 (o_if (fun x => x = 0) (k_X0_measureTwo_114 l X d Q) (k_X0_measureTwo_61 l X d Q))))))))))))))))))))
theorem t_X0_measureTwo_15 {l : Launch} {X : Nat → aw_Kt} {d : Nat} {Q : Option Value → aw_H → Prop} : aw_Sn l m_X0_measureTwo none X d 0 0 Q 15 (k_X0_measureTwo_15 l X d Q) := by
  unfold k_X0_measureTwo_15
  exact s_iload dX0_measureTwo_15 (s_aload_n dX0_measureTwo_17 rfl (s_cv dX0_measureTwo_18 rfl (by decide) w_12 wi_X2_size ws_X2_size w_9 wc_X2_size wd_X2_size (s_icmp_ge dX0_measureTwo_21 (by decide) t_X0_measureTwo_120 (s_aload_n dX0_measureTwo_24 rfl (s_iload_n dX0_measureTwo_25 rfl (s_iload dX0_measureTwo_26 (s_cv dX0_measureTwo_28 rfl (by decide) w_11 wi_X2_given ws_X2_given w_9 wc_X2_given wd_X2_given (s_istore dX0_measureTwo_31 (by decide) (s_aload_n dX0_measureTwo_33 rfl (s_iload_n dX0_measureTwo_34 rfl (s_iload dX0_measureTwo_35 (s_cv dX0_measureTwo_37 rfl (by decide) w_11 wi_X2_given ws_X2_given w_9 wc_X2_given wd_X2_given (s_istore dX0_measureTwo_40 (by decide) (s_iload dX0_measureTwo_42 (s_cn dX0_measureTwo_44 (by decide) (Or.inr rfl) wt_X3_isLabel w_10 wc_X3_isLabel wd_X3_isLabel (s_if_eq dX0_measureTwo_47 (by decide) t_X0_measureTwo_114 (s_iload dX0_measureTwo_50 (s_cn dX0_measureTwo_52 (by decide) (Or.inr rfl) wt_X3_isLabel w_10 wc_X3_isLabel wd_X3_isLabel (s_if_ne dX0_measureTwo_55 (by decide) (s_goto dX0_measureTwo_58 (by decide) t_X0_measureTwo_114) t_X0_measureTwo_61)))))))))))))))))))
def k_X0_measureTwo_0 (l : Launch) (X : Nat → aw_Kt) (d : Nat) (Q : Option Value → aw_H → Prop) : aw_Kt := o_al 0 (o_cv l d m_X0_startCounts 0 0 (o_al 0 (o_gf 0 1 (o_ic 0 (o_cs l d m_J7_fill_53178 2 (o_ic 0 (o_is 4 (SW l m_X0_measureTwo none X d 0 0 Q 15))))))))
theorem t_X0_measureTwo_0 {l : Launch} {X : Nat → aw_Kt} {d : Nat} {Q : Option Value → aw_H → Prop} : aw_Sn l m_X0_measureTwo none X d 0 0 Q 0 (k_X0_measureTwo_0 l X d Q) := by
  unfold k_X0_measureTwo_0
  exact s_aload_n dX0_measureTwo_0 rfl (s_cv dX0_measureTwo_1 rfl (by decide) w_15 wi_X0_startCounts ws_X0_startCounts w_6 wc_X0_startCounts wd_X0_startCounts (s_aload_n dX0_measureTwo_4 rfl (s_getf dX0_measureTwo_5 rfl u_X0 (by decide) w_5 (s_iconst dX0_measureTwo_8 (by decide) (s_cs dX0_measureTwo_9 (by decide) w_14 wt_J7_fill_53178 w_13 wc_J7_fill_53178 wd_J7_fill_53178 (s_iconst dX0_measureTwo_12 (by decide) (s_istore dX0_measureTwo_13 (by decide) s_stop)))))))
/-! X0_measureAll -/
def k_X0_measureAll_98 (l : Launch) (X : Nat → aw_Kt) (d : Nat) (Q : Option Value → aw_H → Prop) : aw_Kt := o_lc 840 (o_al 0 (o_gf 0 4 (o_i2 (o_lb (fun x y => x * y) (o_ls 4 (o_al 0 (o_gf 0 5 (o_i2 (o_al 0 (o_gf 0 5 (o_i2 (o_lb (fun x y => x * y) (o_ls 6 (o_al 0 (o_gf 0 0 (o_al 0 (o_gf 0 0 (o_cs l d m_X0_sumOfProducts 2 (o_ls 8 (o_al 0 (o_ll 2 (o_ll 6 (o_lb (fun x y => x * y) (o_ll 8 (o_ll 4 (o_lb (fun x y => x * y) (o_lb (fun x y => x - y) (o_ll 4 (o_ll 6 (o_ll 8 (o_lb (fun x y => x - y) (o_lb (fun x y => x * y) (o_cv l d m_X0_setFraction 0 2 (o_rv Q))))))))))))))))))))))))))))))))))
theorem t_X0_measureAll_98 {l : Launch} {X : Nat → aw_Kt} {d : Nat} {Q : Option Value → aw_H → Prop} : aw_Sn l m_X0_measureAll none X d 0 0 Q 98 (k_X0_measureAll_98 l X d Q) := by
  unfold k_X0_measureAll_98
  exact s_ldc2 dX0_measureAll_98 w_16 (s_aload_n dX0_measureAll_101 rfl (s_getf dX0_measureAll_102 rfl u_X0 (by decide) w_2 (s_i2l dX0_measureAll_105 (s_lmul dX0_measureAll_106 (s_lstore dX0_measureAll_107 (by decide) (s_aload_n dX0_measureAll_109 rfl (s_getf dX0_measureAll_110 rfl u_X0 (by decide) w_3 (s_i2l dX0_measureAll_113 (s_aload_n dX0_measureAll_114 rfl (s_getf dX0_measureAll_115 rfl u_X0 (by decide) w_3 (s_i2l dX0_measureAll_118 (s_lmul dX0_measureAll_119 (s_lstore dX0_measureAll_120 (by decide) (s_aload_n dX0_measureAll_122 rfl (s_getf dX0_measureAll_123 rfl u_X0 (by decide) w_4 (s_aload_n dX0_measureAll_126 rfl (s_getf dX0_measureAll_127 rfl u_X0 (by decide) w_4 (s_cs dX0_measureAll_130 (by decide) w_8 wt_X0_sumOfProducts w_6 wc_X0_sumOfProducts wd_X0_sumOfProducts (s_lstore dX0_measureAll_133 (by decide) (s_aload_n dX0_measureAll_135 rfl (s_lload_n dX0_measureAll_136 rfl (s_lload dX0_measureAll_137 (s_lmul dX0_measureAll_139 (s_lload dX0_measureAll_140 (s_lload dX0_measureAll_142 (s_lmul dX0_measureAll_144 (s_lsub dX0_measureAll_145 (s_lload dX0_measureAll_146 (s_lload dX0_measureAll_148 (s_lload dX0_measureAll_150 (s_lsub dX0_measureAll_152 (s_lmul dX0_measureAll_153 (s_cv dX0_measureAll_154 rfl (by decide) w_7 wi_X0_setFraction ws_X0_setFraction w_6 wc_X0_setFraction wd_X0_setFraction (s_vret dX0_measureAll_157 rfl))))))))))))))))))))))))))))))))))
def k_X0_measureAll_92 (l : Launch) (X : Nat → aw_Kt) (d : Nat) (Q : Option Value → aw_H → Prop) : aw_Kt := o_ii 4 1 (SW l m_X0_measureAll none X d 0 0 Q 9)
theorem t_X0_measureAll_92 {l : Launch} {X : Nat → aw_Kt} {d : Nat} {Q : Option Value → aw_H → Prop} : aw_Sn l m_X0_measureAll none X d 0 0 Q 92 (k_X0_measureAll_92 l X d Q) := by
  unfold k_X0_measureAll_92
  exact s_iinc dX0_measureAll_92 (by decide) (by decide) (s_goto dX0_measureAll_95 (by decide) s_stop)
def k_X0_measureAll_35 (l : Launch) (X : Nat → aw_Kt) (d : Nat) (Q : Option Value → aw_H → Prop) : aw_Kt := o_al 0 (o_dp (o_gf 0 4 (o_ic 1 (o_ib (fun x y => x + y) (o_pi 0 4 (o_al 0 (o_dp (o_gf 0 5 (o_il 5 (o_ib (fun x y => x + y) (o_pi 0 5 (o_il 5 (o_il 5 (o_ic 1 (o_ib (fun x y => x - y) (o_ib (fun x y => x * y) (o_ic 2 (o_dv (o_i2 (o_ls 6 (o_ll 2 (o_lc 840 (o_al 1 (o_il 4 (o_cs l d m_X0_likePairs 2 (o_i2 (o_lb (fun x y => x * y) (o_ll 6 (o_ld (o_lb (fun x y => x + y) (o_ls 2 (o_al 0 (o_al 1 (o_il 4 (o_cv l d m_X0_countLabels 0 2 (k_X0_measureAll_92 l X d Q))))))))))))))))))))))))))))))))))))
theorem t_X0_measureAll_35 {l : Launch} {X : Nat → aw_Kt} {d : Nat} {Q : Option Value → aw_H → Prop} : aw_Sn l m_X0_measureAll none X d 0 0 Q 35 (k_X0_measureAll_35 l X d Q) := by
  unfold k_X0_measureAll_35
  exact s_aload_n dX0_measureAll_35 rfl (s_dup dX0_measureAll_36 (s_getf dX0_measureAll_37 rfl u_X0 (by decide) w_2 (s_iconst dX0_measureAll_40 (by decide) (s_iadd dX0_measureAll_41 (s_puti dX0_measureAll_42 rfl u_X0 tyX0_ok nmX0 (by decide) rfl (by decide +kernel) w_2 (s_aload_n dX0_measureAll_45 rfl (s_dup dX0_measureAll_46 (s_getf dX0_measureAll_47 rfl u_X0 (by decide) w_3 (s_iload dX0_measureAll_50 (s_iadd dX0_measureAll_52 (s_puti dX0_measureAll_53 rfl u_X0 tyX0_ok nmX0 (by decide) rfl (by decide +kernel) w_3 (s_iload dX0_measureAll_56 (s_iload dX0_measureAll_58 (s_iconst dX0_measureAll_60 (by decide) (s_isub dX0_measureAll_61 (s_imul dX0_measureAll_62 (s_iconst dX0_measureAll_63 (by decide) (s_idiv dX0_measureAll_64 (s_i2l dX0_measureAll_65 (s_lstore dX0_measureAll_66 (by decide) (s_lload_n dX0_measureAll_68 rfl (s_ldc2 dX0_measureAll_69 w_16 (s_aload_n dX0_measureAll_72 rfl (s_iload dX0_measureAll_73 (s_cs dX0_measureAll_75 (by decide) w_18 wt_X0_likePairs w_6 wc_X0_likePairs wd_X0_likePairs (s_i2l dX0_measureAll_78 (s_lmul dX0_measureAll_79 (s_lload dX0_measureAll_80 (s_ldiv dX0_measureAll_82 (s_ladd dX0_measureAll_83 (s_lstore_n dX0_measureAll_84 rfl (by decide) (s_aload_n dX0_measureAll_85 rfl (s_aload_n dX0_measureAll_86 rfl (s_iload dX0_measureAll_87 (s_cv dX0_measureAll_89 rfl (by decide) w_17 wi_X0_countLabels ws_X0_countLabels w_6 wc_X0_countLabels wd_X0_countLabels t_X0_measureAll_92)))))))))))))))))))))))))))))))))))
def k_X0_measureAll_9 (l : Launch) (X : Nat → aw_Kt) (d : Nat) (Q : Option Value → aw_H → Prop) : aw_Kt := o_il 4 (o_al 1 (o_cv l d m_X2_size 2 0 (o_i3 (fun x y => y ≤ x) (k_X0_measureAll_98 l X d Q) (o_al 1 (o_il 4 (o_cv l d m_X2_givenOn 2 1 (o_is 5 (o_il 5 (o_ic 2 (o_i3 (fun x y => y ≤ x) (k_X0_measureAll_35 l X d Q) (k_X0_measureAll_92 l X d Q)))))))))))
theorem t_X0_measureAll_9 {l : Launch} {X : Nat → aw_Kt} {d : Nat} {Q : Option Value → aw_H → Prop} : aw_Sn l m_X0_measureAll none X d 0 0 Q 9 (k_X0_measureAll_9 l X d Q) := by
  unfold k_X0_measureAll_9
  exact s_iload dX0_measureAll_9 (s_aload_n dX0_measureAll_11 rfl (s_cv dX0_measureAll_12 rfl (by decide) w_12 wi_X2_size ws_X2_size w_9 wc_X2_size wd_X2_size (s_icmp_ge dX0_measureAll_15 (by decide) t_X0_measureAll_98 (s_aload_n dX0_measureAll_18 rfl (s_iload dX0_measureAll_19 (s_cv dX0_measureAll_21 rfl (by decide) w_19 wi_X2_givenOn ws_X2_givenOn w_9 wc_X2_givenOn wd_X2_givenOn (s_istore dX0_measureAll_24 (by decide) (s_iload dX0_measureAll_26 (s_iconst dX0_measureAll_28 (by decide) (s_icmp_ge dX0_measureAll_29 (by decide) t_X0_measureAll_35 (s_goto dX0_measureAll_32 (by decide) t_X0_measureAll_92)))))))))))
def k_X0_measureAll_0 (l : Launch) (X : Nat → aw_Kt) (d : Nat) (Q : Option Value → aw_H → Prop) : aw_Kt := o_al 0 (o_cv l d m_X0_startCounts 0 0 (o_lc 0 (o_ls 2 (o_ic 0 (o_is 4 (SW l m_X0_measureAll none X d 0 0 Q 9))))))
theorem t_X0_measureAll_0 {l : Launch} {X : Nat → aw_Kt} {d : Nat} {Q : Option Value → aw_H → Prop} : aw_Sn l m_X0_measureAll none X d 0 0 Q 0 (k_X0_measureAll_0 l X d Q) := by
  unfold k_X0_measureAll_0
  exact s_aload_n dX0_measureAll_0 rfl (s_cv dX0_measureAll_1 rfl (by decide) w_15 wi_X0_startCounts ws_X0_startCounts w_6 wc_X0_startCounts wd_X0_startCounts (s_lconst dX0_measureAll_4 (by decide) (s_lstore_n dX0_measureAll_5 rfl (by decide) (s_iconst dX0_measureAll_6 (by decide) (s_istore dX0_measureAll_7 (by decide) s_stop)))))
/-! X0_startCounts -/
def k_X0_startCounts_0 (l : Launch) (X : Nat → aw_Kt) (d : Nat) (Q : Option Value → aw_H → Prop) : aw_Kt := o_al 0 (o_gf 0 0 (o_ic 0 (o_cs l d m_J7_fill_53178 2 (o_al 0 (o_ic 0 (o_pi 0 4 (o_al 0 (o_ic 0 (o_pi 0 5 (o_rv Q))))))))))
theorem t_X0_startCounts_0 {l : Launch} {X : Nat → aw_Kt} {d : Nat} {Q : Option Value → aw_H → Prop} : aw_Sn l m_X0_startCounts none X d 0 0 Q 0 (k_X0_startCounts_0 l X d Q) := by
  unfold k_X0_startCounts_0
  exact s_aload_n dX0_startCounts_0 rfl (s_getf dX0_startCounts_1 rfl u_X0 (by decide) w_4 (s_iconst dX0_startCounts_4 (by decide) (s_cs dX0_startCounts_5 (by decide) w_14 wt_J7_fill_53178 w_13 wc_J7_fill_53178 wd_J7_fill_53178 (s_aload_n dX0_startCounts_8 rfl (s_iconst dX0_startCounts_9 (by decide) (s_puti dX0_startCounts_10 rfl u_X0 tyX0_ok nmX0 (by decide) rfl (by decide +kernel) w_2 (s_aload_n dX0_startCounts_13 rfl (s_iconst dX0_startCounts_14 (by decide) (s_puti dX0_startCounts_15 rfl u_X0 tyX0_ok nmX0 (by decide) rfl (by decide +kernel) w_3 (s_vret dX0_startCounts_18 rfl))))))))))
/-! X0_countLabels -/
def k_X0_countLabels_41 (l : Launch) (X : Nat → aw_Kt) (d : Nat) (Q : Option Value → aw_H → Prop) : aw_Kt := o_rv Q
theorem t_X0_countLabels_41 {l : Launch} {X : Nat → aw_Kt} {d : Nat} {Q : Option Value → aw_H → Prop} : aw_Sn l m_X0_countLabels none X d 0 0 Q 41 (k_X0_countLabels_41 l X d Q) := by
  unfold k_X0_countLabels_41
  exact s_vret dX0_countLabels_41 rfl
def k_X0_countLabels_35 (l : Launch) (X : Nat → aw_Kt) (d : Nat) (Q : Option Value → aw_H → Prop) : aw_Kt := o_ii 3 1 (SW l m_X0_countLabels none X d 0 0 Q 2)
theorem t_X0_countLabels_35 {l : Launch} {X : Nat → aw_Kt} {d : Nat} {Q : Option Value → aw_H → Prop} : aw_Sn l m_X0_countLabels none X d 0 0 Q 35 (k_X0_countLabels_35 l X d Q) := by
  unfold k_X0_countLabels_35
  exact s_iinc dX0_countLabels_35 (by decide) (by decide) (s_goto dX0_countLabels_38 (by decide) s_stop)
def k_X0_countLabels_2 (l : Launch) (X : Nat → aw_Kt) (d : Nat) (Q : Option Value → aw_H → Prop) : aw_Kt := o_il 3 (o_ic 8 (o_i3 (fun x y => y ≤ x) (k_X0_countLabels_41 l X d Q) (o_al 1 (o_il 3 (o_il 2 (o_cv l d m_X2_given 2 2 (o_is 4 (o_il 4 (o_cs l d m_X3_isLabel 1 (o_if (fun x => x = 0) (k_X0_countLabels_35 l X d Q) (o_al 0 (o_gf 0 0 (o_il 4 (o_d2 (o_ia 0 (o_ic 1 (o_ib (fun x y => x + y) (o_xa (k_X0_countLabels_35 l X d Q)))))))))))))))))))
theorem t_X0_countLabels_2 {l : Launch} {X : Nat → aw_Kt} {d : Nat} {Q : Option Value → aw_H → Prop} : aw_Sn l m_X0_countLabels none X d 0 0 Q 2 (k_X0_countLabels_2 l X d Q) := by
  unfold k_X0_countLabels_2
  exact s_iload_n dX0_countLabels_2 rfl (s_bipush dX0_countLabels_3 (by decide) (s_icmp_ge dX0_countLabels_5 (by decide) t_X0_countLabels_41 (s_aload_n dX0_countLabels_8 rfl (s_iload_n dX0_countLabels_9 rfl (s_iload_n dX0_countLabels_10 rfl (s_cv dX0_countLabels_11 rfl (by decide) w_11 wi_X2_given ws_X2_given w_9 wc_X2_given wd_X2_given (s_istore dX0_countLabels_14 (by decide) (s_iload dX0_countLabels_16 (s_cn dX0_countLabels_18 (by decide) (Or.inr rfl) wt_X3_isLabel w_10 wc_X3_isLabel wd_X3_isLabel (s_if_eq dX0_countLabels_21 (by decide) t_X0_countLabels_35 (s_aload_n dX0_countLabels_24 rfl (s_getf dX0_countLabels_25 rfl u_X0 (by decide) w_4 (s_iload dX0_countLabels_28 (s_dup2 dX0_countLabels_30 (s_iaload dX0_countLabels_31 (s_iconst dX0_countLabels_32 (by decide) (s_iadd dX0_countLabels_33 (s_iastore dX0_countLabels_34 t_X0_countLabels_35))))))))))))))))))
def k_X0_countLabels_0 (l : Launch) (X : Nat → aw_Kt) (d : Nat) (Q : Option Value → aw_H → Prop) : aw_Kt := o_ic 0 (o_is 3 (SW l m_X0_countLabels none X d 0 0 Q 2))
theorem t_X0_countLabels_0 {l : Launch} {X : Nat → aw_Kt} {d : Nat} {Q : Option Value → aw_H → Prop} : aw_Sn l m_X0_countLabels none X d 0 0 Q 0 (k_X0_countLabels_0 l X d Q) := by
  unfold k_X0_countLabels_0
  exact s_iconst dX0_countLabels_0 (by decide) (s_istore_n dX0_countLabels_1 rfl (by decide) s_stop)
/-! X0_likePairs -/
def k_X0_likePairs_60 (l : Launch) (X : Nat → aw_Kt) (d : Nat) (Q : Option Value → aw_H → Prop) : aw_Kt := o_il 2 (o_ri Q)
theorem t_X0_likePairs_60 {l : Launch} {X : Nat → aw_Kt} {d : Nat} {Q : Option Value → aw_H → Prop} : aw_Sn l m_X0_likePairs none X d 0 0 Q 60 (k_X0_likePairs_60 l X d Q) := by
  unfold k_X0_likePairs_60
  exact s_iload_n dX0_likePairs_60 rfl (s_iret dX0_likePairs_61 rfl)
def k_X0_likePairs_54 (l : Launch) (X : Nat → aw_Kt) (d : Nat) (Q : Option Value → aw_H → Prop) : aw_Kt := o_ii 3 1 (SW l m_X0_likePairs none X d 0 0 Q 4)
theorem t_X0_likePairs_54 {l : Launch} {X : Nat → aw_Kt} {d : Nat} {Q : Option Value → aw_H → Prop} : aw_Sn l m_X0_likePairs none X d 0 0 Q 54 (k_X0_likePairs_54 l X d Q) := by
  unfold k_X0_likePairs_54
  exact s_iinc dX0_likePairs_54 (by decide) (by decide) (s_goto dX0_likePairs_57 (by decide) s_stop)
def k_X0_likePairs_48 (l : Launch) (X : Nat → aw_Kt) (d : Nat) (Q : Option Value → aw_H → Prop) : aw_Kt := o_ii 5 1 (SW l m_X0_likePairs none X d 0 0 Q 21)
theorem t_X0_likePairs_48 {l : Launch} {X : Nat → aw_Kt} {d : Nat} {Q : Option Value → aw_H → Prop} : aw_Sn l m_X0_likePairs none X d 0 0 Q 48 (k_X0_likePairs_48 l X d Q) := by
  unfold k_X0_likePairs_48
  exact s_iinc dX0_likePairs_48 (by decide) (by decide) (s_goto dX0_likePairs_51 (by decide) s_stop)
def k_X0_likePairs_21 (l : Launch) (X : Nat → aw_Kt) (d : Nat) (Q : Option Value → aw_H → Prop) : aw_Kt := o_il 5 (o_il 3 (o_i3 (fun x y => y ≤ x) (k_X0_likePairs_54 l X d Q) (o_il 4 (o_ic (-1) (o_i3 (fun x y => x = y) (k_X0_likePairs_48 l X d Q) (o_il 4 (o_al 0 (o_il 5 (o_il 1 (o_cv l d m_X2_given 2 2 (o_i3 (fun x y => x = y) (o_ii 2 1 (k_X0_likePairs_48 l X d Q)) (k_X0_likePairs_48 l X d Q))))))))))))
theorem t_X0_likePairs_21 {l : Launch} {X : Nat → aw_Kt} {d : Nat} {Q : Option Value → aw_H → Prop} : aw_Sn l m_X0_likePairs none X d 0 0 Q 21 (k_X0_likePairs_21 l X d Q) := by
  unfold k_X0_likePairs_21
  exact s_iload dX0_likePairs_21 (s_iload_n dX0_likePairs_23 rfl (s_icmp_ge dX0_likePairs_24 (by decide) t_X0_likePairs_54 (s_iload dX0_likePairs_27 (s_iconst dX0_likePairs_29 (by decide) (s_icmp_eq dX0_likePairs_30 (by decide) t_X0_likePairs_48 (s_iload dX0_likePairs_33 (s_aload_n dX0_likePairs_35 rfl (s_iload dX0_likePairs_36 (s_iload_n dX0_likePairs_38 rfl (s_cv dX0_likePairs_39 rfl (by decide) w_11 wi_X2_given ws_X2_given w_9 wc_X2_given wd_X2_given (s_icmp_ne dX0_likePairs_42 (by decide) (s_iinc dX0_likePairs_45 (by decide) (by decide) t_X0_likePairs_48) t_X0_likePairs_48)))))))))))
def k_X0_likePairs_4 (l : Launch) (X : Nat → aw_Kt) (d : Nat) (Q : Option Value → aw_H → Prop) : aw_Kt := o_il 3 (o_ic 8 (o_i3 (fun x y => y ≤ x) (k_X0_likePairs_60 l X d Q) (o_al 0 (o_il 3 (o_il 1 (o_cv l d m_X2_given 2 2 (o_is 4 (o_ic 0 (o_is 5 (SW l m_X0_likePairs none X d 0 0 Q 21))))))))))
theorem t_X0_likePairs_4 {l : Launch} {X : Nat → aw_Kt} {d : Nat} {Q : Option Value → aw_H → Prop} : aw_Sn l m_X0_likePairs none X d 0 0 Q 4 (k_X0_likePairs_4 l X d Q) := by
  unfold k_X0_likePairs_4
  exact s_iload_n dX0_likePairs_4 rfl (s_bipush dX0_likePairs_5 (by decide) (s_icmp_ge dX0_likePairs_7 (by decide) t_X0_likePairs_60 (s_aload_n dX0_likePairs_10 rfl (s_iload_n dX0_likePairs_11 rfl (s_iload_n dX0_likePairs_12 rfl (s_cv dX0_likePairs_13 rfl (by decide) w_11 wi_X2_given ws_X2_given w_9 wc_X2_given wd_X2_given (s_istore dX0_likePairs_16 (by decide) (s_iconst dX0_likePairs_18 (by decide) (s_istore dX0_likePairs_19 (by decide) s_stop)))))))))
def k_X0_likePairs_0 (l : Launch) (X : Nat → aw_Kt) (d : Nat) (Q : Option Value → aw_H → Prop) : aw_Kt := o_ic 0 (o_is 2 (o_ic 0 (o_is 3 (SW l m_X0_likePairs none X d 0 0 Q 4))))
theorem t_X0_likePairs_0 {l : Launch} {X : Nat → aw_Kt} {d : Nat} {Q : Option Value → aw_H → Prop} : aw_Sn l m_X0_likePairs none X d 0 0 Q 0 (k_X0_likePairs_0 l X d Q) := by
  unfold k_X0_likePairs_0
  exact s_iconst dX0_likePairs_0 (by decide) (s_istore_n dX0_likePairs_1 rfl (by decide) (s_iconst dX0_likePairs_2 (by decide) (s_istore_n dX0_likePairs_3 rfl (by decide) s_stop)))
/-! X0_sumOfProducts -/
def k_X0_sumOfProducts_31 (l : Launch) (X : Nat → aw_Kt) (d : Nat) (Q : Option Value → aw_H → Prop) : aw_Kt := o_ll 2 (o_rl Q)
theorem t_X0_sumOfProducts_31 {l : Launch} {X : Nat → aw_Kt} {d : Nat} {Q : Option Value → aw_H → Prop} : aw_Sn l m_X0_sumOfProducts none X d 0 0 Q 31 (k_X0_sumOfProducts_31 l X d Q) := by
  unfold k_X0_sumOfProducts_31
  exact s_lload_n dX0_sumOfProducts_31 rfl (s_lret dX0_sumOfProducts_32 rfl)
def k_X0_sumOfProducts_5 (l : Launch) (X : Nat → aw_Kt) (d : Nat) (Q : Option Value → aw_H → Prop) : aw_Kt := o_il 4 (o_ic 5 (o_i3 (fun x y => y ≤ x) (k_X0_sumOfProducts_31 l X d Q) (o_ll 2 (o_al 0 (o_il 4 (o_ia 0 (o_i2 (o_al 1 (o_il 4 (o_ia 0 (o_i2 (o_lb (fun x y => x * y) (o_lb (fun x y => x + y) (o_ls 2 (o_ii 4 1 (SW l m_X0_sumOfProducts none X d 0 0 Q 5))))))))))))))))
theorem t_X0_sumOfProducts_5 {l : Launch} {X : Nat → aw_Kt} {d : Nat} {Q : Option Value → aw_H → Prop} : aw_Sn l m_X0_sumOfProducts none X d 0 0 Q 5 (k_X0_sumOfProducts_5 l X d Q) := by
  unfold k_X0_sumOfProducts_5
  exact s_iload dX0_sumOfProducts_5 (s_iconst dX0_sumOfProducts_7 (by decide) (s_icmp_ge dX0_sumOfProducts_8 (by decide) t_X0_sumOfProducts_31 (s_lload_n dX0_sumOfProducts_11 rfl (s_aload_n dX0_sumOfProducts_12 rfl (s_iload dX0_sumOfProducts_13 (s_iaload dX0_sumOfProducts_15 (s_i2l dX0_sumOfProducts_16 (s_aload_n dX0_sumOfProducts_17 rfl (s_iload dX0_sumOfProducts_18 (s_iaload dX0_sumOfProducts_20 (s_i2l dX0_sumOfProducts_21 (s_lmul dX0_sumOfProducts_22 (s_ladd dX0_sumOfProducts_23 (s_lstore_n dX0_sumOfProducts_24 rfl (by decide) (s_iinc dX0_sumOfProducts_25 (by decide) (by decide) (s_goto dX0_sumOfProducts_28 (by decide) s_stop))))))))))))))))
def k_X0_sumOfProducts_0 (l : Launch) (X : Nat → aw_Kt) (d : Nat) (Q : Option Value → aw_H → Prop) : aw_Kt := o_lc 0 (o_ls 2 (o_ic 0 (o_is 4 (SW l m_X0_sumOfProducts none X d 0 0 Q 5))))
theorem t_X0_sumOfProducts_0 {l : Launch} {X : Nat → aw_Kt} {d : Nat} {Q : Option Value → aw_H → Prop} : aw_Sn l m_X0_sumOfProducts none X d 0 0 Q 0 (k_X0_sumOfProducts_0 l X d Q) := by
  unfold k_X0_sumOfProducts_0
  exact s_lconst dX0_sumOfProducts_0 (by decide) (s_lstore_n dX0_sumOfProducts_1 rfl (by decide) (s_iconst dX0_sumOfProducts_2 (by decide) (s_istore dX0_sumOfProducts_3 (by decide) s_stop)))
/-! X0_setFraction -/
def k_X0_setFraction_28 (l : Launch) (X : Nat → aw_Kt) (d : Nat) (Q : Option Value → aw_H → Prop) : aw_Kt := o_al 0 (o_ll 1 (o_ll 5 (o_ld (o_pl 0 2 (o_al 0 (o_ll 3 (o_ll 5 (o_ld (o_pl 0 3 (o_rv Q))))))))))
theorem t_X0_setFraction_28 {l : Launch} {X : Nat → aw_Kt} {d : Nat} {Q : Option Value → aw_H → Prop} : aw_Sn l m_X0_setFraction none X d 0 0 Q 28 (k_X0_setFraction_28 l X d Q) := by
  unfold k_X0_setFraction_28
  exact s_aload_n dX0_setFraction_28 rfl (s_lload_n dX0_setFraction_29 rfl (s_lload dX0_setFraction_30 (s_ldiv dX0_setFraction_32 (s_putl dX0_setFraction_33 rfl u_X0 tyX0_ok nmX0 (by decide) rfl (by decide +kernel) w_0 (s_aload_n dX0_setFraction_36 rfl (s_lload_n dX0_setFraction_37 rfl (s_lload dX0_setFraction_38 (s_ldiv dX0_setFraction_40 (s_putl dX0_setFraction_41 rfl u_X0 tyX0_ok nmX0 (by decide) rfl (by decide +kernel) w_1 (s_vret dX0_setFraction_44 rfl))))))))))
def k_X0_setFraction_12 (l : Launch) (X : Nat → aw_Kt) (d : Nat) (Q : Option Value → aw_H → Prop) : aw_Kt := o_ll 3 (o_cs l d m_X0_commonDivisor 2 (o_ls 5 (o_ll 5 (o_lc 0 (o_cm (o_if (fun x => x = 0) (o_lc 1 (o_ls 5 (k_X0_setFraction_28 l X d Q))) (k_X0_setFraction_28 l X d Q)))))))
theorem t_X0_setFraction_12 {l : Launch} {X : Nat → aw_Kt} {d : Nat} {Q : Option Value → aw_H → Prop} : aw_Sn l m_X0_setFraction none X d 0 0 Q 12 (k_X0_setFraction_12 l X d Q) := by
  unfold k_X0_setFraction_12
  exact s_lload_n dX0_setFraction_12 rfl (s_cs dX0_setFraction_13 (by decide) w_20 wt_X0_commonDivisor w_6 wc_X0_commonDivisor wd_X0_commonDivisor (s_lstore dX0_setFraction_16 (by decide) (s_lload dX0_setFraction_18 (s_lconst dX0_setFraction_20 (by decide) (s_lcmp dX0_setFraction_21 (s_if_ne dX0_setFraction_22 (by decide) (s_lconst dX0_setFraction_25 (by decide) (s_lstore dX0_setFraction_26 (by decide) t_X0_setFraction_28)) t_X0_setFraction_28))))))
def k_X0_setFraction_11 (l : Launch) (X : Nat → aw_Kt) (d : Nat) (Q : Option Value → aw_H → Prop) : aw_Kt := o_ll 1 (k_X0_setFraction_12 l X d Q)
theorem t_X0_setFraction_11 {l : Launch} {X : Nat → aw_Kt} {d : Nat} {Q : Option Value → aw_H → Prop} : aw_Sn l m_X0_setFraction none X d 0 0 Q 11 (k_X0_setFraction_11 l X d Q) := by
  unfold k_X0_setFraction_11
  exact s_lload_n dX0_setFraction_11 rfl t_X0_setFraction_12
def k_X0_setFraction_0 (l : Launch) (X : Nat → aw_Kt) (d : Nat) (Q : Option Value → aw_H → Prop) : aw_Kt := o_ll 1 (o_lc 0 (o_cm (o_if (fun x => 0 ≤ x) (k_X0_setFraction_11 l X d Q) (o_ll 1 (o_ln (k_X0_setFraction_12 l X d Q))))))
theorem t_X0_setFraction_0 {l : Launch} {X : Nat → aw_Kt} {d : Nat} {Q : Option Value → aw_H → Prop} : aw_Sn l m_X0_setFraction none X d 0 0 Q 0 (k_X0_setFraction_0 l X d Q) := by
  unfold k_X0_setFraction_0
  exact s_lload_n dX0_setFraction_0 rfl (s_lconst dX0_setFraction_1 (by decide) (s_lcmp dX0_setFraction_2 (s_if_ge dX0_setFraction_3 (by decide) t_X0_setFraction_11 (s_lload_n dX0_setFraction_6 rfl (s_lneg dX0_setFraction_7 (s_goto dX0_setFraction_8 (by decide) t_X0_setFraction_12))))))
/-! X0_commonDivisor -/
def k_X0_commonDivisor_45 (l : Launch) (X : Nat → aw_Kt) (d : Nat) (Q : Option Value → aw_H → Prop) : aw_Kt := o_ll 4 (o_rl Q)
theorem t_X0_commonDivisor_45 {l : Launch} {X : Nat → aw_Kt} {d : Nat} {Q : Option Value → aw_H → Prop} : aw_Sn l m_X0_commonDivisor none X d 0 0 Q 45 (k_X0_commonDivisor_45 l X d Q) := by
  unfold k_X0_commonDivisor_45
  exact s_lload dX0_commonDivisor_45 (s_lret dX0_commonDivisor_47 rfl)
def k_X0_commonDivisor_9 (l : Launch) (X : Nat → aw_Kt) (d : Nat) (Q : Option Value → aw_H → Prop) : aw_Kt := o_il 8 (o_ic 200 (o_i3 (fun x y => y ≤ x) (k_X0_commonDivisor_45 l X d Q) (o_ll 6 (o_lc 0 (o_cm (o_if (fun x => x = 0) (k_X0_commonDivisor_45 l X d Q) (o_ll 4 (o_ll 6 (o_lr (o_ls 9 (o_ll 6 (o_ls 4 (o_ll 9 (o_ls 6 (o_ii 8 1 (SW l m_X0_commonDivisor none X d 0 0 Q 9))))))))))))))))
theorem t_X0_commonDivisor_9 {l : Launch} {X : Nat → aw_Kt} {d : Nat} {Q : Option Value → aw_H → Prop} : aw_Sn l m_X0_commonDivisor none X d 0 0 Q 9 (k_X0_commonDivisor_9 l X d Q) := by
  unfold k_X0_commonDivisor_9
  exact s_iload dX0_commonDivisor_9 (s_sipush dX0_commonDivisor_11 (by decide) (s_icmp_ge dX0_commonDivisor_14 (by decide) t_X0_commonDivisor_45 (s_lload dX0_commonDivisor_17 (s_lconst dX0_commonDivisor_19 (by decide) (s_lcmp dX0_commonDivisor_20 (s_if_eq dX0_commonDivisor_21 (by decide) t_X0_commonDivisor_45 (s_lload dX0_commonDivisor_24 (s_lload dX0_commonDivisor_26 (s_lrem dX0_commonDivisor_28 (s_lstore dX0_commonDivisor_29 (by decide) (s_lload dX0_commonDivisor_31 (s_lstore dX0_commonDivisor_33 (by decide) (s_lload dX0_commonDivisor_35 (s_lstore dX0_commonDivisor_37 (by decide) (s_iinc dX0_commonDivisor_39 (by decide) (by decide) (s_goto dX0_commonDivisor_42 (by decide) s_stop))))))))))))))))
def k_X0_commonDivisor_0 (l : Launch) (X : Nat → aw_Kt) (d : Nat) (Q : Option Value → aw_H → Prop) : aw_Kt := o_ll 0 (o_ls 4 (o_ll 2 (o_ls 6 (o_ic 0 (o_is 8 (SW l m_X0_commonDivisor none X d 0 0 Q 9))))))
theorem t_X0_commonDivisor_0 {l : Launch} {X : Nat → aw_Kt} {d : Nat} {Q : Option Value → aw_H → Prop} : aw_Sn l m_X0_commonDivisor none X d 0 0 Q 0 (k_X0_commonDivisor_0 l X d Q) := by
  unfold k_X0_commonDivisor_0
  exact s_lload_n dX0_commonDivisor_0 rfl (s_lstore dX0_commonDivisor_1 (by decide) (s_lload_n dX0_commonDivisor_3 rfl (s_lstore dX0_commonDivisor_4 (by decide) (s_iconst dX0_commonDivisor_6 (by decide) (s_istore dX0_commonDivisor_7 (by decide) s_stop)))))
/-! X1_size -/
def k_X1_size_0 (l : Launch) (X : Nat → aw_Kt) (d : Nat) (Q : Option Value → aw_H → Prop) : aw_Kt := o_al 0 (o_gf 1 6 (o_ri Q))
theorem t_X1_size_0 {l : Launch} {X : Nat → aw_Kt} {d : Nat} {Q : Option Value → aw_H → Prop} : aw_Sn l m_X1_size none X d 0 0 Q 0 (k_X1_size_0 l X d Q) := by
  unfold k_X1_size_0
  exact s_aload_n dX1_size_0 rfl (s_getf dX1_size_1 rfl u_X1 (by decide) w_21 (s_iret dX1_size_4 rfl))
/-! X1_hasRule -/
def k_X1_hasRule_17 (l : Launch) (X : Nat → aw_Kt) (d : Nat) (Q : Option Value → aw_H → Prop) : aw_Kt := o_rz Q
theorem t_X1_hasRule_17 {l : Launch} {X : Nat → aw_Kt} {d : Nat} {Q : Option Value → aw_H → Prop} : aw_Sn l m_X1_hasRule none X d 0 0 Q 17 (k_X1_hasRule_17 l X d Q) := by
  unfold k_X1_hasRule_17
  exact s_zret dX1_hasRule_17 rfl
def k_X1_hasRule_16 (l : Launch) (X : Nat → aw_Kt) (d : Nat) (Q : Option Value → aw_H → Prop) : aw_Kt := o_ic 0 (k_X1_hasRule_17 l X d Q)
theorem t_X1_hasRule_16 {l : Launch} {X : Nat → aw_Kt} {d : Nat} {Q : Option Value → aw_H → Prop} : aw_Sn l m_X1_hasRule none X d 0 0 Q 16 (k_X1_hasRule_16 l X d Q) := by
  unfold k_X1_hasRule_16
  exact s_iconst dX1_hasRule_16 (by decide) t_X1_hasRule_17
def k_X1_hasRule_0 (l : Launch) (X : Nat → aw_Kt) (d : Nat) (Q : Option Value → aw_H → Prop) : aw_Kt := o_il 1 (o_if (fun x => x < 0) (k_X1_hasRule_16 l X d Q) (o_il 1 (o_al 0 (o_gf 1 6 (o_i3 (fun x y => y ≤ x) (k_X1_hasRule_16 l X d Q) (o_ic 1 (k_X1_hasRule_17 l X d Q)))))))
theorem t_X1_hasRule_0 {l : Launch} {X : Nat → aw_Kt} {d : Nat} {Q : Option Value → aw_H → Prop} : aw_Sn l m_X1_hasRule none X d 0 0 Q 0 (k_X1_hasRule_0 l X d Q) := by
  unfold k_X1_hasRule_0
  exact s_iload_n dX1_hasRule_0 rfl (s_if_lt dX1_hasRule_1 (by decide) t_X1_hasRule_16 (s_iload_n dX1_hasRule_4 rfl (s_aload_n dX1_hasRule_5 rfl (s_getf dX1_hasRule_6 rfl u_X1 (by decide) w_21 (s_icmp_ge dX1_hasRule_9 (by decide) t_X1_hasRule_16 (s_iconst dX1_hasRule_12 (by decide) (s_goto dX1_hasRule_13 (by decide) t_X1_hasRule_17)))))))
/-! X1_addRule -/
def k_X1_addRule_12 (l : Launch) (X : Nat → aw_Kt) (d : Nat) (Q : Option Value → aw_H → Prop) : aw_Kt := o_al 0 (o_gf 1 0 (o_al 0 (o_gf 1 6 (o_il 1 (o_xa (o_al 0 (o_gf 1 1 (o_al 0 (o_gf 1 6 (o_il 2 (o_xa (o_al 0 (o_gf 1 2 (o_al 0 (o_gf 1 6 (o_il 3 (o_xa (o_al 0 (o_gf 1 3 (o_al 0 (o_gf 1 6 (o_il 4 (o_xa (o_al 0 (o_gf 1 4 (o_al 0 (o_gf 1 6 (o_ic 1 (o_zs (o_al 0 (o_dp (o_gf 1 6 (o_d1 (o_ic 1 (o_ib (fun x y => x + y) (o_pi 1 6 (o_ri Q)))))))))))))))))))))))))))))))))))))
theorem t_X1_addRule_12 {l : Launch} {X : Nat → aw_Kt} {d : Nat} {Q : Option Value → aw_H → Prop} : aw_Sn l m_X1_addRule none X d 0 0 Q 12 (k_X1_addRule_12 l X d Q) := by
  unfold k_X1_addRule_12
  exact s_aload_n dX1_addRule_12 rfl (s_getf dX1_addRule_13 rfl u_X1 (by decide) w_22 (s_aload_n dX1_addRule_16 rfl (s_getf dX1_addRule_17 rfl u_X1 (by decide) w_21 (s_iload_n dX1_addRule_20 rfl (s_iastore dX1_addRule_21 (s_aload_n dX1_addRule_22 rfl (s_getf dX1_addRule_23 rfl u_X1 (by decide) w_23 (s_aload_n dX1_addRule_26 rfl (s_getf dX1_addRule_27 rfl u_X1 (by decide) w_21 (s_iload_n dX1_addRule_30 rfl (s_iastore dX1_addRule_31 (s_aload_n dX1_addRule_32 rfl (s_getf dX1_addRule_33 rfl u_X1 (by decide) w_24 (s_aload_n dX1_addRule_36 rfl (s_getf dX1_addRule_37 rfl u_X1 (by decide) w_21 (s_iload_n dX1_addRule_40 rfl (s_iastore dX1_addRule_41 (s_aload_n dX1_addRule_42 rfl (s_getf dX1_addRule_43 rfl u_X1 (by decide) w_25 (s_aload_n dX1_addRule_46 rfl (s_getf dX1_addRule_47 rfl u_X1 (by decide) w_21 (s_iload dX1_addRule_50 (s_iastore dX1_addRule_52 (s_aload_n dX1_addRule_53 rfl (s_getf dX1_addRule_54 rfl u_X1 (by decide) w_26 (s_aload_n dX1_addRule_57 rfl (s_getf dX1_addRule_58 rfl u_X1 (by decide) w_21 (s_iconst dX1_addRule_61 (by decide) (s_bastore dX1_addRule_62 (s_aload_n dX1_addRule_63 rfl (s_dup dX1_addRule_64 (s_getf dX1_addRule_65 rfl u_X1 (by decide) w_21 (s_dup_x1 dX1_addRule_68 (s_iconst dX1_addRule_69 (by decide) (s_iadd dX1_addRule_70 (s_puti dX1_addRule_71 rfl u_X1 tyX1_ok nmX1 (by decide) rfl (by decide +kernel) w_21 (s_iret dX1_addRule_74 rfl)))))))))))))))))))))))))))))))))))))
def k_X1_addRule_0 (l : Launch) (X : Nat → aw_Kt) (d : Nat) (Q : Option Value → aw_H → Prop) : aw_Kt := o_al 0 (o_gf 1 6 (o_ic 6 (o_i3 (fun x y => x < y) (k_X1_addRule_12 l X d Q) (o_ic (-104) (o_ri Q)))))
theorem t_X1_addRule_0 {l : Launch} {X : Nat → aw_Kt} {d : Nat} {Q : Option Value → aw_H → Prop} : aw_Sn l m_X1_addRule none X d 0 0 Q 0 (k_X1_addRule_0 l X d Q) := by
  unfold k_X1_addRule_0
  exact s_aload_n dX1_addRule_0 rfl (s_getf dX1_addRule_1 rfl u_X1 (by decide) w_21 (s_bipush dX1_addRule_4 (by decide) (s_icmp_lt dX1_addRule_6 (by decide) t_X1_addRule_12 (s_bipush dX1_addRule_9 (by decide) (s_iret dX1_addRule_11 rfl)))))
/-! X1_isOn -/
def k_X1_isOn_0 (l : Launch) (X : Nat → aw_Kt) (d : Nat) (Q : Option Value → aw_H → Prop) : aw_Kt := o_al 0 (o_gf 1 4 (o_il 1 (o_ia 1 (o_rz Q))))
theorem t_X1_isOn_0 {l : Launch} {X : Nat → aw_Kt} {d : Nat} {Q : Option Value → aw_H → Prop} : aw_Sn l m_X1_isOn none X d 0 0 Q 0 (k_X1_isOn_0 l X d Q) := by
  unfold k_X1_isOn_0
  exact s_aload_n dX1_isOn_0 rfl (s_getf dX1_isOn_1 rfl u_X1 (by decide) w_26 (s_iload_n dX1_isOn_4 rfl (s_baload dX1_isOn_5 (s_zret dX1_isOn_6 rfl))))
/-! X1_setOn -/
def k_X1_setOn_0 (l : Launch) (X : Nat → aw_Kt) (d : Nat) (Q : Option Value → aw_H → Prop) : aw_Kt := o_al 0 (o_gf 1 4 (o_il 1 (o_il 2 (o_zs (o_rv Q)))))
theorem t_X1_setOn_0 {l : Launch} {X : Nat → aw_Kt} {d : Nat} {Q : Option Value → aw_H → Prop} : aw_Sn l m_X1_setOn none X d 0 0 Q 0 (k_X1_setOn_0 l X d Q) := by
  unfold k_X1_setOn_0
  exact s_aload_n dX1_setOn_0 rfl (s_getf dX1_setOn_1 rfl u_X1 (by decide) w_26 (s_iload_n dX1_setOn_4 rfl (s_iload_n dX1_setOn_5 rfl (s_bastore dX1_setOn_6 (s_vret dX1_setOn_7 rfl)))))
/-! X1_replace -/
def k_X1_replace_0 (l : Launch) (X : Nat → aw_Kt) (d : Nat) (Q : Option Value → aw_H → Prop) : aw_Kt := o_al 0 (o_gf 1 5 (o_il 1 (o_ia 0 (o_is 3 (o_al 0 (o_gf 1 5 (o_il 1 (o_il 2 (o_xa (o_il 3 (o_ri Q)))))))))))
theorem t_X1_replace_0 {l : Launch} {X : Nat → aw_Kt} {d : Nat} {Q : Option Value → aw_H → Prop} : aw_Sn l m_X1_replace none X d 0 0 Q 0 (k_X1_replace_0 l X d Q) := by
  unfold k_X1_replace_0
  exact s_aload_n dX1_replace_0 rfl (s_getf dX1_replace_1 rfl u_X1 (by decide) w_27 (s_iload_n dX1_replace_4 rfl (s_iaload dX1_replace_5 (s_istore_n dX1_replace_6 rfl (by decide) (s_aload_n dX1_replace_7 rfl (s_getf dX1_replace_8 rfl u_X1 (by decide) w_27 (s_iload_n dX1_replace_11 rfl (s_iload_n dX1_replace_12 rfl (s_iastore dX1_replace_13 (s_iload_n dX1_replace_14 rfl (s_iret dX1_replace_15 rfl)))))))))))
/-! X1_wordOn -/
def k_X1_wordOn_152 (l : Launch) (X : Nat → aw_Kt) (d : Nat) (Q : Option Value → aw_H → Prop) : aw_Kt := o_ri Q
theorem t_X1_wordOn_152 {l : Launch} {X : Nat → aw_Kt} {d : Nat} {Q : Option Value → aw_H → Prop} : aw_Sn l m_X1_wordOn none X d 0 0 Q 152 (k_X1_wordOn_152 l X d Q) := by
  unfold k_X1_wordOn_152
  exact s_iret dX1_wordOn_152 rfl
def k_X1_wordOn_151 (l : Launch) (X : Nat → aw_Kt) (d : Nat) (Q : Option Value → aw_H → Prop) : aw_Kt := o_ic 1 (k_X1_wordOn_152 l X d Q)
theorem t_X1_wordOn_151 {l : Launch} {X : Nat → aw_Kt} {d : Nat} {Q : Option Value → aw_H → Prop} : aw_Sn l m_X1_wordOn none X d 0 0 Q 151 (k_X1_wordOn_151 l X d Q) := by
  unfold k_X1_wordOn_151
  exact s_iconst dX1_wordOn_151 (by decide) t_X1_wordOn_152
def k_X1_wordOn_136 (l : Launch) (X : Nat → aw_Kt) (d : Nat) (Q : Option Value → aw_H → Prop) : aw_Kt := o_il 4 (o_al 0 (o_gf 1 3 (o_il 1 (o_ia 0 (o_i3 (fun x y => y ≤ x) (k_X1_wordOn_151 l X d Q) (o_ic 0 (k_X1_wordOn_152 l X d Q)))))))
theorem t_X1_wordOn_136 {l : Launch} {X : Nat → aw_Kt} {d : Nat} {Q : Option Value → aw_H → Prop} : aw_Sn l m_X1_wordOn none X d 0 0 Q 136 (k_X1_wordOn_136 l X d Q) := by
  unfold k_X1_wordOn_136
  exact s_iload dX1_wordOn_136 (s_aload_n dX1_wordOn_138 rfl (s_getf dX1_wordOn_139 rfl u_X1 (by decide) w_25 (s_iload_n dX1_wordOn_142 rfl (s_iaload dX1_wordOn_143 (s_icmp_ge dX1_wordOn_144 (by decide) t_X1_wordOn_151 (s_iconst dX1_wordOn_147 (by decide) (s_goto dX1_wordOn_148 (by decide) t_X1_wordOn_152)))))))
def k_X1_wordOn_135 (l : Launch) (X : Nat → aw_Kt) (d : Nat) (Q : Option Value → aw_H → Prop) : aw_Kt := o_ri Q
theorem t_X1_wordOn_135 {l : Launch} {X : Nat → aw_Kt} {d : Nat} {Q : Option Value → aw_H → Prop} : aw_Sn l m_X1_wordOn none X d 0 0 Q 135 (k_X1_wordOn_135 l X d Q) := by
  unfold k_X1_wordOn_135
  exact s_iret dX1_wordOn_135 rfl
def k_X1_wordOn_133 (l : Launch) (X : Nat → aw_Kt) (d : Nat) (Q : Option Value → aw_H → Prop) : aw_Kt := o_ic (-3) (k_X1_wordOn_135 l X d Q)
theorem t_X1_wordOn_133 {l : Launch} {X : Nat → aw_Kt} {d : Nat} {Q : Option Value → aw_H → Prop} : aw_Sn l m_X1_wordOn none X d 0 0 Q 133 (k_X1_wordOn_133 l X d Q) := by
  unfold k_X1_wordOn_133
  exact s_bipush dX1_wordOn_133 (by decide) t_X1_wordOn_135
def k_X1_wordOn_100 (l : Launch) (X : Nat → aw_Kt) (d : Nat) (Q : Option Value → aw_H → Prop) : aw_Kt := o_il 4 (o_al 0 (o_gf 1 3 (o_il 1 (o_ia 0 (o_ib (fun x y => x + y) (o_is 6 (o_il 6 (o_cs l d m_X3_isPlace 1 (o_if (fun x => x = 0) (k_X1_wordOn_133 l X d Q) (o_al 0 (o_gf 1 5 (o_il 6 (o_ia 0 (o_ic 5 (o_cs l d m_J9_floorMod_7cf53 2 (k_X1_wordOn_135 l X d Q))))))))))))))))
theorem t_X1_wordOn_100 {l : Launch} {X : Nat → aw_Kt} {d : Nat} {Q : Option Value → aw_H → Prop} : aw_Sn l m_X1_wordOn none X d 0 0 Q 100 (k_X1_wordOn_100 l X d Q) := by
  unfold k_X1_wordOn_100
  exact s_iload dX1_wordOn_100 (s_aload_n dX1_wordOn_102 rfl (s_getf dX1_wordOn_103 rfl u_X1 (by decide) w_25 (s_iload_n dX1_wordOn_106 rfl (s_iaload dX1_wordOn_107 (s_iadd dX1_wordOn_108 (s_istore dX1_wordOn_109 (by decide) (s_iload dX1_wordOn_111 (s_cn dX1_wordOn_113 (by decide) (Or.inl rfl) wt_X3_isPlace w_10 wc_X3_isPlace wd_X3_isPlace (s_if_eq dX1_wordOn_116 (by decide) t_X1_wordOn_133 (s_aload_n dX1_wordOn_119 rfl (s_getf dX1_wordOn_120 rfl u_X1 (by decide) w_27 (s_iload dX1_wordOn_123 (s_iaload dX1_wordOn_125 (s_iconst dX1_wordOn_126 (by decide) (s_cs dX1_wordOn_127 (by decide) w_29 wt_J9_floorMod_7cf53 w_28 wc_J9_floorMod_7cf53 wd_J9_floorMod_7cf53 (s_goto dX1_wordOn_130 (by decide) t_X1_wordOn_135))))))))))))))))
def k_X1_wordOn_99 (l : Launch) (X : Nat → aw_Kt) (d : Nat) (Q : Option Value → aw_H → Prop) : aw_Kt := o_ri Q
theorem t_X1_wordOn_99 {l : Launch} {X : Nat → aw_Kt} {d : Nat} {Q : Option Value → aw_H → Prop} : aw_Sn l m_X1_wordOn none X d 0 0 Q 99 (k_X1_wordOn_99 l X d Q) := by
  unfold k_X1_wordOn_99
  exact s_iret dX1_wordOn_99 rfl
def k_X1_wordOn_90 (l : Launch) (X : Nat → aw_Kt) (d : Nat) (Q : Option Value → aw_H → Prop) : aw_Kt := o_il 4 (o_il 5 (o_rm (o_ic 5 (o_cs l d m_J9_floorMod_7cf53 2 (k_X1_wordOn_99 l X d Q)))))
theorem t_X1_wordOn_90 {l : Launch} {X : Nat → aw_Kt} {d : Nat} {Q : Option Value → aw_H → Prop} : aw_Sn l m_X1_wordOn none X d 0 0 Q 90 (k_X1_wordOn_90 l X d Q) := by
  unfold k_X1_wordOn_90
  exact s_iload dX1_wordOn_90 (s_iload dX1_wordOn_92 (s_irem dX1_wordOn_94 (s_iconst dX1_wordOn_95 (by decide) (s_cs dX1_wordOn_96 (by decide) w_29 wt_J9_floorMod_7cf53 w_28 wc_J9_floorMod_7cf53 wd_J9_floorMod_7cf53 t_X1_wordOn_99))))
def k_X1_wordOn_80 (l : Launch) (X : Nat → aw_Kt) (d : Nat) (Q : Option Value → aw_H → Prop) : aw_Kt := o_il 5 (o_if (fun x => x = 0) (o_ic (-2) (k_X1_wordOn_99 l X d Q)) (k_X1_wordOn_90 l X d Q))
theorem t_X1_wordOn_80 {l : Launch} {X : Nat → aw_Kt} {d : Nat} {Q : Option Value → aw_H → Prop} : aw_Sn l m_X1_wordOn none X d 0 0 Q 80 (k_X1_wordOn_80 l X d Q) := by
  unfold k_X1_wordOn_80
  exact s_iload dX1_wordOn_80 (s_if_ne dX1_wordOn_82 (by decide) (s_bipush dX1_wordOn_85 (by decide) (s_goto dX1_wordOn_87 (by decide) t_X1_wordOn_99)) t_X1_wordOn_90)
def k_X1_wordOn_79 (l : Launch) (X : Nat → aw_Kt) (d : Nat) (Q : Option Value → aw_H → Prop) : aw_Kt := o_ri Q
theorem t_X1_wordOn_79 {l : Launch} {X : Nat → aw_Kt} {d : Nat} {Q : Option Value → aw_H → Prop} : aw_Sn l m_X1_wordOn none X d 0 0 Q 79 (k_X1_wordOn_79 l X d Q) := by
  unfold k_X1_wordOn_79
  exact s_iret dX1_wordOn_79 rfl
def k_X1_wordOn_70 (l : Launch) (X : Nat → aw_Kt) (d : Nat) (Q : Option Value → aw_H → Prop) : aw_Kt := o_il 4 (o_il 5 (o_dv (o_ic 5 (o_cs l d m_J9_floorMod_7cf53 2 (k_X1_wordOn_79 l X d Q)))))
theorem t_X1_wordOn_70 {l : Launch} {X : Nat → aw_Kt} {d : Nat} {Q : Option Value → aw_H → Prop} : aw_Sn l m_X1_wordOn none X d 0 0 Q 70 (k_X1_wordOn_70 l X d Q) := by
  unfold k_X1_wordOn_70
  exact s_iload dX1_wordOn_70 (s_iload dX1_wordOn_72 (s_idiv dX1_wordOn_74 (s_iconst dX1_wordOn_75 (by decide) (s_cs dX1_wordOn_76 (by decide) w_29 wt_J9_floorMod_7cf53 w_28 wc_J9_floorMod_7cf53 wd_J9_floorMod_7cf53 t_X1_wordOn_79))))
def k_X1_wordOn_60 (l : Launch) (X : Nat → aw_Kt) (d : Nat) (Q : Option Value → aw_H → Prop) : aw_Kt := o_il 5 (o_if (fun x => x = 0) (o_ic (-2) (k_X1_wordOn_79 l X d Q)) (k_X1_wordOn_70 l X d Q))
theorem t_X1_wordOn_60 {l : Launch} {X : Nat → aw_Kt} {d : Nat} {Q : Option Value → aw_H → Prop} : aw_Sn l m_X1_wordOn none X d 0 0 Q 60 (k_X1_wordOn_60 l X d Q) := by
  unfold k_X1_wordOn_60
  exact s_iload dX1_wordOn_60 (s_if_ne dX1_wordOn_62 (by decide) (s_bipush dX1_wordOn_65 (by decide) (s_goto dX1_wordOn_67 (by decide) t_X1_wordOn_79)) t_X1_wordOn_70)
def k_X1_wordOn_0 (l : Launch) (X : Nat → aw_Kt) (d : Nat) (Q : Option Value → aw_H → Prop) : aw_Kt := o_al 2 (o_al 0 (o_gf 1 1 (o_il 1 (o_ia 0 (o_il 3 (o_cv l d m_X2_feature 2 2 (o_is 4 (o_al 2 (o_al 0 (o_gf 1 2 (o_il 1 (o_ia 0 (o_il 3 (o_cv l d m_X2_feature 2 2 (o_is 5 (o_al 0 (o_gf 1 0 (o_il 1 (o_ia 0 (o_ts 0 2 [(k_X1_wordOn_60 l X d Q), (k_X1_wordOn_80 l X d Q), (k_X1_wordOn_100 l X d Q)] (k_X1_wordOn_136 l X d Q)))))))))))))))))))))
theorem t_X1_wordOn_0 {l : Launch} {X : Nat → aw_Kt} {d : Nat} {Q : Option Value → aw_H → Prop} : aw_Sn l m_X1_wordOn none X d 0 0 Q 0 (k_X1_wordOn_0 l X d Q) := by
  unfold k_X1_wordOn_0
  exact s_aload_n dX1_wordOn_0 rfl (s_aload_n dX1_wordOn_1 rfl (s_getf dX1_wordOn_2 rfl u_X1 (by decide) w_23 (s_iload_n dX1_wordOn_5 rfl (s_iaload dX1_wordOn_6 (s_iload_n dX1_wordOn_7 rfl (s_cv dX1_wordOn_8 rfl (by decide) w_30 wi_X2_feature ws_X2_feature w_9 wc_X2_feature wd_X2_feature (s_istore dX1_wordOn_11 (by decide) (s_aload_n dX1_wordOn_13 rfl (s_aload_n dX1_wordOn_14 rfl (s_getf dX1_wordOn_15 rfl u_X1 (by decide) w_24 (s_iload_n dX1_wordOn_18 rfl (s_iaload dX1_wordOn_19 (s_iload_n dX1_wordOn_20 rfl (s_cv dX1_wordOn_21 rfl (by decide) w_30 wi_X2_feature ws_X2_feature w_9 wc_X2_feature wd_X2_feature (s_istore dX1_wordOn_24 (by decide) (s_aload_n dX1_wordOn_26 rfl (s_getf dX1_wordOn_27 rfl u_X1 (by decide) w_22 (s_iload_n dX1_wordOn_30 rfl (s_iaload dX1_wordOn_31 (s_tsw dX1_wordOn_32 (by decide) (by decide) (by decide) t_X1_wordOn_136 ⟨⟨60, by decide, t_X1_wordOn_60⟩, ⟨⟨80, by decide, t_X1_wordOn_80⟩, ⟨⟨100, by decide, t_X1_wordOn_100⟩, trivial⟩⟩⟩))))))))))))))))))))
/-! X2_size -/
def k_X2_size_0 (l : Launch) (X : Nat → aw_Kt) (d : Nat) (Q : Option Value → aw_H → Prop) : aw_Kt := o_al 0 (o_gf 2 4 (o_ri Q))
theorem t_X2_size_0 {l : Launch} {X : Nat → aw_Kt} {d : Nat} {Q : Option Value → aw_H → Prop} : aw_Sn l m_X2_size none X d 0 0 Q 0 (k_X2_size_0 l X d Q) := by
  unfold k_X2_size_0
  exact s_aload_n dX2_size_0 rfl (s_getf dX2_size_1 rfl u_X2 (by decide) w_31 (s_iret dX2_size_4 rfl))
/-! X2_hasRow -/
def k_X2_hasRow_17 (l : Launch) (X : Nat → aw_Kt) (d : Nat) (Q : Option Value → aw_H → Prop) : aw_Kt := o_rz Q
theorem t_X2_hasRow_17 {l : Launch} {X : Nat → aw_Kt} {d : Nat} {Q : Option Value → aw_H → Prop} : aw_Sn l m_X2_hasRow none X d 0 0 Q 17 (k_X2_hasRow_17 l X d Q) := by
  unfold k_X2_hasRow_17
  exact s_zret dX2_hasRow_17 rfl
def k_X2_hasRow_16 (l : Launch) (X : Nat → aw_Kt) (d : Nat) (Q : Option Value → aw_H → Prop) : aw_Kt := o_ic 0 (k_X2_hasRow_17 l X d Q)
theorem t_X2_hasRow_16 {l : Launch} {X : Nat → aw_Kt} {d : Nat} {Q : Option Value → aw_H → Prop} : aw_Sn l m_X2_hasRow none X d 0 0 Q 16 (k_X2_hasRow_16 l X d Q) := by
  unfold k_X2_hasRow_16
  exact s_iconst dX2_hasRow_16 (by decide) t_X2_hasRow_17
def k_X2_hasRow_0 (l : Launch) (X : Nat → aw_Kt) (d : Nat) (Q : Option Value → aw_H → Prop) : aw_Kt := o_il 1 (o_if (fun x => x < 0) (k_X2_hasRow_16 l X d Q) (o_il 1 (o_al 0 (o_gf 2 4 (o_i3 (fun x y => y ≤ x) (k_X2_hasRow_16 l X d Q) (o_ic 1 (k_X2_hasRow_17 l X d Q)))))))
theorem t_X2_hasRow_0 {l : Launch} {X : Nat → aw_Kt} {d : Nat} {Q : Option Value → aw_H → Prop} : aw_Sn l m_X2_hasRow none X d 0 0 Q 0 (k_X2_hasRow_0 l X d Q) := by
  unfold k_X2_hasRow_0
  exact s_iload_n dX2_hasRow_0 rfl (s_if_lt dX2_hasRow_1 (by decide) t_X2_hasRow_16 (s_iload_n dX2_hasRow_4 rfl (s_aload_n dX2_hasRow_5 rfl (s_getf dX2_hasRow_6 rfl u_X2 (by decide) w_31 (s_icmp_ge dX2_hasRow_9 (by decide) t_X2_hasRow_16 (s_iconst dX2_hasRow_12 (by decide) (s_goto dX2_hasRow_13 (by decide) t_X2_hasRow_17)))))))
/-! X2_addRow -/
def k_X2_addRow_12 (l : Launch) (X : Nat → aw_Kt) (d : Nat) (Q : Option Value → aw_H → Prop) : aw_Kt := o_al 0 (o_gf 2 0 (o_ic 0 (o_aa (o_al 0 (o_gf 2 4 (o_il 1 (o_xa (o_al 0 (o_gf 2 0 (o_ic 1 (o_aa (o_al 0 (o_gf 2 4 (o_il 2 (o_xa (o_al 0 (o_gf 2 0 (o_ic 2 (o_aa (o_al 0 (o_gf 2 4 (o_il 3 (o_xa (o_al 0 (o_gf 2 0 (o_ic 3 (o_aa (o_al 0 (o_gf 2 4 (o_il 4 (o_xa (o_al 0 (o_dp (o_gf 2 4 (o_d1 (o_ic 1 (o_ib (fun x y => x + y) (o_pi 2 4 (o_ri Q)))))))))))))))))))))))))))))))))))))))
theorem t_X2_addRow_12 {l : Launch} {X : Nat → aw_Kt} {d : Nat} {Q : Option Value → aw_H → Prop} : aw_Sn l m_X2_addRow none X d 0 0 Q 12 (k_X2_addRow_12 l X d Q) := by
  unfold k_X2_addRow_12
  exact s_aload_n dX2_addRow_12 rfl (s_getf dX2_addRow_13 rfl u_X2 (by decide) w_32 (s_iconst dX2_addRow_16 (by decide) (s_aaload dX2_addRow_17 (s_aload_n dX2_addRow_18 rfl (s_getf dX2_addRow_19 rfl u_X2 (by decide) w_31 (s_iload_n dX2_addRow_22 rfl (s_iastore dX2_addRow_23 (s_aload_n dX2_addRow_24 rfl (s_getf dX2_addRow_25 rfl u_X2 (by decide) w_32 (s_iconst dX2_addRow_28 (by decide) (s_aaload dX2_addRow_29 (s_aload_n dX2_addRow_30 rfl (s_getf dX2_addRow_31 rfl u_X2 (by decide) w_31 (s_iload_n dX2_addRow_34 rfl (s_iastore dX2_addRow_35 (s_aload_n dX2_addRow_36 rfl (s_getf dX2_addRow_37 rfl u_X2 (by decide) w_32 (s_iconst dX2_addRow_40 (by decide) (s_aaload dX2_addRow_41 (s_aload_n dX2_addRow_42 rfl (s_getf dX2_addRow_43 rfl u_X2 (by decide) w_31 (s_iload_n dX2_addRow_46 rfl (s_iastore dX2_addRow_47 (s_aload_n dX2_addRow_48 rfl (s_getf dX2_addRow_49 rfl u_X2 (by decide) w_32 (s_iconst dX2_addRow_52 (by decide) (s_aaload dX2_addRow_53 (s_aload_n dX2_addRow_54 rfl (s_getf dX2_addRow_55 rfl u_X2 (by decide) w_31 (s_iload dX2_addRow_58 (s_iastore dX2_addRow_60 (s_aload_n dX2_addRow_61 rfl (s_dup dX2_addRow_62 (s_getf dX2_addRow_63 rfl u_X2 (by decide) w_31 (s_dup_x1 dX2_addRow_66 (s_iconst dX2_addRow_67 (by decide) (s_iadd dX2_addRow_68 (s_puti dX2_addRow_69 rfl u_X2 tyX2_ok nmX2 (by decide) rfl (by decide +kernel) w_31 (s_iret dX2_addRow_72 rfl)))))))))))))))))))))))))))))))))))))))
def k_X2_addRow_0 (l : Launch) (X : Nat → aw_Kt) (d : Nat) (Q : Option Value → aw_H → Prop) : aw_Kt := o_al 0 (o_gf 2 4 (o_ic 40 (o_i3 (fun x y => x < y) (k_X2_addRow_12 l X d Q) (o_ic (-104) (o_ri Q)))))
theorem t_X2_addRow_0 {l : Launch} {X : Nat → aw_Kt} {d : Nat} {Q : Option Value → aw_H → Prop} : aw_Sn l m_X2_addRow none X d 0 0 Q 0 (k_X2_addRow_0 l X d Q) := by
  unfold k_X2_addRow_0
  exact s_aload_n dX2_addRow_0 rfl (s_getf dX2_addRow_1 rfl u_X2 (by decide) w_31 (s_bipush dX2_addRow_4 (by decide) (s_icmp_lt dX2_addRow_6 (by decide) t_X2_addRow_12 (s_bipush dX2_addRow_9 (by decide) (s_iret dX2_addRow_11 rfl)))))
/-! X2_feature -/
def k_X2_feature_0 (l : Launch) (X : Nat → aw_Kt) (d : Nat) (Q : Option Value → aw_H → Prop) : aw_Kt := o_al 0 (o_gf 2 0 (o_il 1 (o_aa (o_il 2 (o_ia 0 (o_ri Q))))))
theorem t_X2_feature_0 {l : Launch} {X : Nat → aw_Kt} {d : Nat} {Q : Option Value → aw_H → Prop} : aw_Sn l m_X2_feature none X d 0 0 Q 0 (k_X2_feature_0 l X d Q) := by
  unfold k_X2_feature_0
  exact s_aload_n dX2_feature_0 rfl (s_getf dX2_feature_1 rfl u_X2 (by decide) w_32 (s_iload_n dX2_feature_4 rfl (s_aaload dX2_feature_5 (s_iload_n dX2_feature_6 rfl (s_iaload dX2_feature_7 (s_iret dX2_feature_8 rfl))))))
/-! X2_given -/
def k_X2_given_0 (l : Launch) (X : Nat → aw_Kt) (d : Nat) (Q : Option Value → aw_H → Prop) : aw_Kt := o_al 0 (o_gf 2 1 (o_il 1 (o_aa (o_il 2 (o_ia 0 (o_ri Q))))))
theorem t_X2_given_0 {l : Launch} {X : Nat → aw_Kt} {d : Nat} {Q : Option Value → aw_H → Prop} : aw_Sn l m_X2_given none X d 0 0 Q 0 (k_X2_given_0 l X d Q) := by
  unfold k_X2_given_0
  exact s_aload_n dX2_given_0 rfl (s_getf dX2_given_1 rfl u_X2 (by decide) w_33 (s_iload_n dX2_given_4 rfl (s_aaload dX2_given_5 (s_iload_n dX2_given_6 rfl (s_iaload dX2_given_7 (s_iret dX2_given_8 rfl))))))
/-! X2_give -/
def k_X2_give_0 (l : Launch) (X : Nat → aw_Kt) (d : Nat) (Q : Option Value → aw_H → Prop) : aw_Kt := o_al 0 (o_gf 2 1 (o_il 1 (o_aa (o_il 2 (o_il 3 (o_xa (o_al 0 (o_il 1 (o_cv l d m_X2_countWrong 2 1 (o_rv Q))))))))))
theorem t_X2_give_0 {l : Launch} {X : Nat → aw_Kt} {d : Nat} {Q : Option Value → aw_H → Prop} : aw_Sn l m_X2_give none X d 0 0 Q 0 (k_X2_give_0 l X d Q) := by
  unfold k_X2_give_0
  exact s_aload_n dX2_give_0 rfl (s_getf dX2_give_1 rfl u_X2 (by decide) w_33 (s_iload_n dX2_give_4 rfl (s_aaload dX2_give_5 (s_iload_n dX2_give_6 rfl (s_iload_n dX2_give_7 rfl (s_iastore dX2_give_8 (s_aload_n dX2_give_9 rfl (s_iload_n dX2_give_10 rfl (s_cv dX2_give_11 rfl (by decide) w_34 wi_X2_countWrong ws_X2_countWrong w_9 wc_X2_countWrong wd_X2_countWrong (s_vret dX2_give_14 rfl))))))))))
/-! X2_known -/
def k_X2_known_0 (l : Launch) (X : Nat → aw_Kt) (d : Nat) (Q : Option Value → aw_H → Prop) : aw_Kt := o_al 0 (o_gf 2 2 (o_il 1 (o_ia 0 (o_ri Q))))
theorem t_X2_known_0 {l : Launch} {X : Nat → aw_Kt} {d : Nat} {Q : Option Value → aw_H → Prop} : aw_Sn l m_X2_known none X d 0 0 Q 0 (k_X2_known_0 l X d Q) := by
  unfold k_X2_known_0
  exact s_aload_n dX2_known_0 rfl (s_getf dX2_known_1 rfl u_X2 (by decide) w_35 (s_iload_n dX2_known_4 rfl (s_iaload dX2_known_5 (s_iret dX2_known_6 rfl))))
/-! X2_setKnown -/
def k_X2_setKnown_26 (l : Launch) (X : Nat → aw_Kt) (d : Nat) (Q : Option Value → aw_H → Prop) : aw_Kt := o_rv Q
theorem t_X2_setKnown_26 {l : Launch} {X : Nat → aw_Kt} {d : Nat} {Q : Option Value → aw_H → Prop} : aw_Sn l m_X2_setKnown none X d 0 0 Q 26 (k_X2_setKnown_26 l X d Q) := by
  unfold k_X2_setKnown_26
  exact s_vret dX2_setKnown_26 rfl
def k_X2_setKnown_9 (l : Launch) (X : Nat → aw_Kt) (d : Nat) (Q : Option Value → aw_H → Prop) : aw_Kt := o_il 3 (o_ic 8 (o_i3 (fun x y => y ≤ x) (k_X2_setKnown_26 l X d Q) (o_al 0 (o_il 3 (o_cv l d m_X2_countWrong 2 1 (o_ii 3 1 (SW l m_X2_setKnown none X d 0 0 Q 9)))))))
theorem t_X2_setKnown_9 {l : Launch} {X : Nat → aw_Kt} {d : Nat} {Q : Option Value → aw_H → Prop} : aw_Sn l m_X2_setKnown none X d 0 0 Q 9 (k_X2_setKnown_9 l X d Q) := by
  unfold k_X2_setKnown_9
  exact s_iload_n dX2_setKnown_9 rfl (s_bipush dX2_setKnown_10 (by decide) (s_icmp_ge dX2_setKnown_12 (by decide) t_X2_setKnown_26 (s_aload_n dX2_setKnown_15 rfl (s_iload_n dX2_setKnown_16 rfl (s_cv dX2_setKnown_17 rfl (by decide) w_34 wi_X2_countWrong ws_X2_countWrong w_9 wc_X2_countWrong wd_X2_countWrong (s_iinc dX2_setKnown_20 (by decide) (by decide) (s_goto dX2_setKnown_23 (by decide) s_stop)))))))
def k_X2_setKnown_0 (l : Launch) (X : Nat → aw_Kt) (d : Nat) (Q : Option Value → aw_H → Prop) : aw_Kt := o_al 0 (o_gf 2 2 (o_il 1 (o_il 2 (o_xa (o_ic 0 (o_is 3 (SW l m_X2_setKnown none X d 0 0 Q 9)))))))
theorem t_X2_setKnown_0 {l : Launch} {X : Nat → aw_Kt} {d : Nat} {Q : Option Value → aw_H → Prop} : aw_Sn l m_X2_setKnown none X d 0 0 Q 0 (k_X2_setKnown_0 l X d Q) := by
  unfold k_X2_setKnown_0
  exact s_aload_n dX2_setKnown_0 rfl (s_getf dX2_setKnown_1 rfl u_X2 (by decide) w_35 (s_iload_n dX2_setKnown_4 rfl (s_iload_n dX2_setKnown_5 rfl (s_iastore dX2_setKnown_6 (s_iconst dX2_setKnown_7 (by decide) (s_istore_n dX2_setKnown_8 rfl (by decide) s_stop))))))
/-! X2_wrongOf -/
def k_X2_wrongOf_0 (l : Launch) (X : Nat → aw_Kt) (d : Nat) (Q : Option Value → aw_H → Prop) : aw_Kt := o_al 0 (o_gf 2 3 (o_il 1 (o_ia 0 (o_ri Q))))
theorem t_X2_wrongOf_0 {l : Launch} {X : Nat → aw_Kt} {d : Nat} {Q : Option Value → aw_H → Prop} : aw_Sn l m_X2_wrongOf none X d 0 0 Q 0 (k_X2_wrongOf_0 l X d Q) := by
  unfold k_X2_wrongOf_0
  exact s_aload_n dX2_wrongOf_0 rfl (s_getf dX2_wrongOf_1 rfl u_X2 (by decide) w_36 (s_iload_n dX2_wrongOf_4 rfl (s_iaload dX2_wrongOf_5 (s_iret dX2_wrongOf_6 rfl))))
/-! X2_givenBy -/
def k_X2_givenBy_33 (l : Launch) (X : Nat → aw_Kt) (d : Nat) (Q : Option Value → aw_H → Prop) : aw_Kt := o_il 2 (o_ri Q)
theorem t_X2_givenBy_33 {l : Launch} {X : Nat → aw_Kt} {d : Nat} {Q : Option Value → aw_H → Prop} : aw_Sn l m_X2_givenBy none X d 0 0 Q 33 (k_X2_givenBy_33 l X d Q) := by
  unfold k_X2_givenBy_33
  exact s_iload_n dX2_givenBy_33 rfl (s_iret dX2_givenBy_34 rfl)
def k_X2_givenBy_27 (l : Launch) (X : Nat → aw_Kt) (d : Nat) (Q : Option Value → aw_H → Prop) : aw_Kt := o_ii 3 1 (SW l m_X2_givenBy none X d 0 0 Q 4)
theorem t_X2_givenBy_27 {l : Launch} {X : Nat → aw_Kt} {d : Nat} {Q : Option Value → aw_H → Prop} : aw_Sn l m_X2_givenBy none X d 0 0 Q 27 (k_X2_givenBy_27 l X d Q) := by
  unfold k_X2_givenBy_27
  exact s_iinc dX2_givenBy_27 (by decide) (by decide) (s_goto dX2_givenBy_30 (by decide) s_stop)
def k_X2_givenBy_4 (l : Launch) (X : Nat → aw_Kt) (d : Nat) (Q : Option Value → aw_H → Prop) : aw_Kt := o_il 3 (o_al 0 (o_gf 2 4 (o_i3 (fun x y => y ≤ x) (k_X2_givenBy_33 l X d Q) (o_al 0 (o_gf 2 1 (o_il 1 (o_aa (o_il 3 (o_ia 0 (o_ic (-1) (o_i3 (fun x y => x = y) (k_X2_givenBy_27 l X d Q) (o_ii 2 1 (k_X2_givenBy_27 l X d Q)))))))))))))
theorem t_X2_givenBy_4 {l : Launch} {X : Nat → aw_Kt} {d : Nat} {Q : Option Value → aw_H → Prop} : aw_Sn l m_X2_givenBy none X d 0 0 Q 4 (k_X2_givenBy_4 l X d Q) := by
  unfold k_X2_givenBy_4
  exact s_iload_n dX2_givenBy_4 rfl (s_aload_n dX2_givenBy_5 rfl (s_getf dX2_givenBy_6 rfl u_X2 (by decide) w_31 (s_icmp_ge dX2_givenBy_9 (by decide) t_X2_givenBy_33 (s_aload_n dX2_givenBy_12 rfl (s_getf dX2_givenBy_13 rfl u_X2 (by decide) w_33 (s_iload_n dX2_givenBy_16 rfl (s_aaload dX2_givenBy_17 (s_iload_n dX2_givenBy_18 rfl (s_iaload dX2_givenBy_19 (s_iconst dX2_givenBy_20 (by decide) (s_icmp_eq dX2_givenBy_21 (by decide) t_X2_givenBy_27 (s_iinc dX2_givenBy_24 (by decide) (by decide) t_X2_givenBy_27))))))))))))
def k_X2_givenBy_0 (l : Launch) (X : Nat → aw_Kt) (d : Nat) (Q : Option Value → aw_H → Prop) : aw_Kt := o_ic 0 (o_is 2 (o_ic 0 (o_is 3 (SW l m_X2_givenBy none X d 0 0 Q 4))))
theorem t_X2_givenBy_0 {l : Launch} {X : Nat → aw_Kt} {d : Nat} {Q : Option Value → aw_H → Prop} : aw_Sn l m_X2_givenBy none X d 0 0 Q 0 (k_X2_givenBy_0 l X d Q) := by
  unfold k_X2_givenBy_0
  exact s_iconst dX2_givenBy_0 (by decide) (s_istore_n dX2_givenBy_1 rfl (by decide) (s_iconst dX2_givenBy_2 (by decide) (s_istore_n dX2_givenBy_3 rfl (by decide) s_stop)))
/-! X2_givenOn -/
def k_X2_givenOn_31 (l : Launch) (X : Nat → aw_Kt) (d : Nat) (Q : Option Value → aw_H → Prop) : aw_Kt := o_il 2 (o_ri Q)
theorem t_X2_givenOn_31 {l : Launch} {X : Nat → aw_Kt} {d : Nat} {Q : Option Value → aw_H → Prop} : aw_Sn l m_X2_givenOn none X d 0 0 Q 31 (k_X2_givenOn_31 l X d Q) := by
  unfold k_X2_givenOn_31
  exact s_iload_n dX2_givenOn_31 rfl (s_iret dX2_givenOn_32 rfl)
def k_X2_givenOn_25 (l : Launch) (X : Nat → aw_Kt) (d : Nat) (Q : Option Value → aw_H → Prop) : aw_Kt := o_ii 3 1 (SW l m_X2_givenOn none X d 0 0 Q 4)
theorem t_X2_givenOn_25 {l : Launch} {X : Nat → aw_Kt} {d : Nat} {Q : Option Value → aw_H → Prop} : aw_Sn l m_X2_givenOn none X d 0 0 Q 25 (k_X2_givenOn_25 l X d Q) := by
  unfold k_X2_givenOn_25
  exact s_iinc dX2_givenOn_25 (by decide) (by decide) (s_goto dX2_givenOn_28 (by decide) s_stop)
def k_X2_givenOn_4 (l : Launch) (X : Nat → aw_Kt) (d : Nat) (Q : Option Value → aw_H → Prop) : aw_Kt := o_il 3 (o_ic 8 (o_i3 (fun x y => y ≤ x) (k_X2_givenOn_31 l X d Q) (o_al 0 (o_gf 2 1 (o_il 3 (o_aa (o_il 1 (o_ia 0 (o_ic (-1) (o_i3 (fun x y => x = y) (k_X2_givenOn_25 l X d Q) (o_ii 2 1 (k_X2_givenOn_25 l X d Q))))))))))))
theorem t_X2_givenOn_4 {l : Launch} {X : Nat → aw_Kt} {d : Nat} {Q : Option Value → aw_H → Prop} : aw_Sn l m_X2_givenOn none X d 0 0 Q 4 (k_X2_givenOn_4 l X d Q) := by
  unfold k_X2_givenOn_4
  exact s_iload_n dX2_givenOn_4 rfl (s_bipush dX2_givenOn_5 (by decide) (s_icmp_ge dX2_givenOn_7 (by decide) t_X2_givenOn_31 (s_aload_n dX2_givenOn_10 rfl (s_getf dX2_givenOn_11 rfl u_X2 (by decide) w_33 (s_iload_n dX2_givenOn_14 rfl (s_aaload dX2_givenOn_15 (s_iload_n dX2_givenOn_16 rfl (s_iaload dX2_givenOn_17 (s_iconst dX2_givenOn_18 (by decide) (s_icmp_eq dX2_givenOn_19 (by decide) t_X2_givenOn_25 (s_iinc dX2_givenOn_22 (by decide) (by decide) t_X2_givenOn_25)))))))))))
def k_X2_givenOn_0 (l : Launch) (X : Nat → aw_Kt) (d : Nat) (Q : Option Value → aw_H → Prop) : aw_Kt := o_ic 0 (o_is 2 (o_ic 0 (o_is 3 (SW l m_X2_givenOn none X d 0 0 Q 4))))
theorem t_X2_givenOn_0 {l : Launch} {X : Nat → aw_Kt} {d : Nat} {Q : Option Value → aw_H → Prop} : aw_Sn l m_X2_givenOn none X d 0 0 Q 0 (k_X2_givenOn_0 l X d Q) := by
  unfold k_X2_givenOn_0
  exact s_iconst dX2_givenOn_0 (by decide) (s_istore_n dX2_givenOn_1 rfl (by decide) (s_iconst dX2_givenOn_2 (by decide) (s_istore_n dX2_givenOn_3 rfl (by decide) s_stop)))
/-! X2_countKnown -/
def k_X2_countKnown_31 (l : Launch) (X : Nat → aw_Kt) (d : Nat) (Q : Option Value → aw_H → Prop) : aw_Kt := o_il 1 (o_ri Q)
theorem t_X2_countKnown_31 {l : Launch} {X : Nat → aw_Kt} {d : Nat} {Q : Option Value → aw_H → Prop} : aw_Sn l m_X2_countKnown none X d 0 0 Q 31 (k_X2_countKnown_31 l X d Q) := by
  unfold k_X2_countKnown_31
  exact s_iload_n dX2_countKnown_31 rfl (s_iret dX2_countKnown_32 rfl)
def k_X2_countKnown_25 (l : Launch) (X : Nat → aw_Kt) (d : Nat) (Q : Option Value → aw_H → Prop) : aw_Kt := o_ii 2 1 (SW l m_X2_countKnown none X d 0 0 Q 4)
theorem t_X2_countKnown_25 {l : Launch} {X : Nat → aw_Kt} {d : Nat} {Q : Option Value → aw_H → Prop} : aw_Sn l m_X2_countKnown none X d 0 0 Q 25 (k_X2_countKnown_25 l X d Q) := by
  unfold k_X2_countKnown_25
  exact s_iinc dX2_countKnown_25 (by decide) (by decide) (s_goto dX2_countKnown_28 (by decide) s_stop)
def k_X2_countKnown_4 (l : Launch) (X : Nat → aw_Kt) (d : Nat) (Q : Option Value → aw_H → Prop) : aw_Kt := o_il 2 (o_al 0 (o_gf 2 4 (o_i3 (fun x y => y ≤ x) (k_X2_countKnown_31 l X d Q) (o_al 0 (o_gf 2 2 (o_il 2 (o_ia 0 (o_ic (-1) (o_i3 (fun x y => x = y) (k_X2_countKnown_25 l X d Q) (o_ii 1 1 (k_X2_countKnown_25 l X d Q)))))))))))
theorem t_X2_countKnown_4 {l : Launch} {X : Nat → aw_Kt} {d : Nat} {Q : Option Value → aw_H → Prop} : aw_Sn l m_X2_countKnown none X d 0 0 Q 4 (k_X2_countKnown_4 l X d Q) := by
  unfold k_X2_countKnown_4
  exact s_iload_n dX2_countKnown_4 rfl (s_aload_n dX2_countKnown_5 rfl (s_getf dX2_countKnown_6 rfl u_X2 (by decide) w_31 (s_icmp_ge dX2_countKnown_9 (by decide) t_X2_countKnown_31 (s_aload_n dX2_countKnown_12 rfl (s_getf dX2_countKnown_13 rfl u_X2 (by decide) w_35 (s_iload_n dX2_countKnown_16 rfl (s_iaload dX2_countKnown_17 (s_iconst dX2_countKnown_18 (by decide) (s_icmp_eq dX2_countKnown_19 (by decide) t_X2_countKnown_25 (s_iinc dX2_countKnown_22 (by decide) (by decide) t_X2_countKnown_25))))))))))
def k_X2_countKnown_0 (l : Launch) (X : Nat → aw_Kt) (d : Nat) (Q : Option Value → aw_H → Prop) : aw_Kt := o_ic 0 (o_is 1 (o_ic 0 (o_is 2 (SW l m_X2_countKnown none X d 0 0 Q 4))))
theorem t_X2_countKnown_0 {l : Launch} {X : Nat → aw_Kt} {d : Nat} {Q : Option Value → aw_H → Prop} : aw_Sn l m_X2_countKnown none X d 0 0 Q 0 (k_X2_countKnown_0 l X d Q) := by
  unfold k_X2_countKnown_0
  exact s_iconst dX2_countKnown_0 (by decide) (s_istore_n dX2_countKnown_1 rfl (by decide) (s_iconst dX2_countKnown_2 (by decide) (s_istore_n dX2_countKnown_3 rfl (by decide) s_stop)))
/-! X2_countWrong -/
def k_X2_countWrong_58 (l : Launch) (X : Nat → aw_Kt) (d : Nat) (Q : Option Value → aw_H → Prop) : aw_Kt := o_al 0 (o_gf 2 3 (o_il 1 (o_il 2 (o_xa (o_rv Q)))))
theorem t_X2_countWrong_58 {l : Launch} {X : Nat → aw_Kt} {d : Nat} {Q : Option Value → aw_H → Prop} : aw_Sn l m_X2_countWrong none X d 0 0 Q 58 (k_X2_countWrong_58 l X d Q) := by
  unfold k_X2_countWrong_58
  exact s_aload_n dX2_countWrong_58 rfl (s_getf dX2_countWrong_59 rfl u_X2 (by decide) w_36 (s_iload_n dX2_countWrong_62 rfl (s_iload_n dX2_countWrong_63 rfl (s_iastore dX2_countWrong_64 (s_vret dX2_countWrong_65 rfl)))))
def k_X2_countWrong_52 (l : Launch) (X : Nat → aw_Kt) (d : Nat) (Q : Option Value → aw_H → Prop) : aw_Kt := o_ii 3 1 (SW l m_X2_countWrong none X d 0 0 Q 4)
theorem t_X2_countWrong_52 {l : Launch} {X : Nat → aw_Kt} {d : Nat} {Q : Option Value → aw_H → Prop} : aw_Sn l m_X2_countWrong none X d 0 0 Q 52 (k_X2_countWrong_52 l X d Q) := by
  unfold k_X2_countWrong_52
  exact s_iinc dX2_countWrong_52 (by decide) (by decide) (s_goto dX2_countWrong_55 (by decide) s_stop)
def k_X2_countWrong_4 (l : Launch) (X : Nat → aw_Kt) (d : Nat) (Q : Option Value → aw_H → Prop) : aw_Kt := o_il 3 (o_al 0 (o_gf 2 4 (o_i3 (fun x y => y ≤ x) (k_X2_countWrong_58 l X d Q) (o_al 0 (o_gf 2 1 (o_il 1 (o_aa (o_il 3 (o_ia 0 (o_is 4 (o_il 4 (o_ic (-1) (o_i3 (fun x y => x = y) (k_X2_countWrong_52 l X d Q) (o_al 0 (o_gf 2 2 (o_il 3 (o_ia 0 (o_ic (-1) (o_i3 (fun x y => x = y) (k_X2_countWrong_52 l X d Q) (o_il 4 (o_al 0 (o_gf 2 2 (o_il 3 (o_ia 0 (o_i3 (fun x y => x = y) (k_X2_countWrong_52 l X d Q) (o_ii 2 1 (k_X2_countWrong_52 l X d Q)))))))))))))))))))))))))))
theorem t_X2_countWrong_4 {l : Launch} {X : Nat → aw_Kt} {d : Nat} {Q : Option Value → aw_H → Prop} : aw_Sn l m_X2_countWrong none X d 0 0 Q 4 (k_X2_countWrong_4 l X d Q) := by
  unfold k_X2_countWrong_4
  exact s_iload_n dX2_countWrong_4 rfl (s_aload_n dX2_countWrong_5 rfl (s_getf dX2_countWrong_6 rfl u_X2 (by decide) w_31 (s_icmp_ge dX2_countWrong_9 (by decide) t_X2_countWrong_58 (s_aload_n dX2_countWrong_12 rfl (s_getf dX2_countWrong_13 rfl u_X2 (by decide) w_33 (s_iload_n dX2_countWrong_16 rfl (s_aaload dX2_countWrong_17 (s_iload_n dX2_countWrong_18 rfl (s_iaload dX2_countWrong_19 (s_istore dX2_countWrong_20 (by decide) (s_iload dX2_countWrong_22 (s_iconst dX2_countWrong_24 (by decide) (s_icmp_eq dX2_countWrong_25 (by decide) t_X2_countWrong_52 (s_aload_n dX2_countWrong_28 rfl (s_getf dX2_countWrong_29 rfl u_X2 (by decide) w_35 (s_iload_n dX2_countWrong_32 rfl (s_iaload dX2_countWrong_33 (s_iconst dX2_countWrong_34 (by decide) (s_icmp_eq dX2_countWrong_35 (by decide) t_X2_countWrong_52 (s_iload dX2_countWrong_38 (s_aload_n dX2_countWrong_40 rfl (s_getf dX2_countWrong_41 rfl u_X2 (by decide) w_35 (s_iload_n dX2_countWrong_44 rfl (s_iaload dX2_countWrong_45 (s_icmp_eq dX2_countWrong_46 (by decide) t_X2_countWrong_52 (s_iinc dX2_countWrong_49 (by decide) (by decide) t_X2_countWrong_52))))))))))))))))))))))))))
def k_X2_countWrong_0 (l : Launch) (X : Nat → aw_Kt) (d : Nat) (Q : Option Value → aw_H → Prop) : aw_Kt := o_ic 0 (o_is 2 (o_ic 0 (o_is 3 (SW l m_X2_countWrong none X d 0 0 Q 4))))
theorem t_X2_countWrong_0 {l : Launch} {X : Nat → aw_Kt} {d : Nat} {Q : Option Value → aw_H → Prop} : aw_Sn l m_X2_countWrong none X d 0 0 Q 0 (k_X2_countWrong_0 l X d Q) := by
  unfold k_X2_countWrong_0
  exact s_iconst dX2_countWrong_0 (by decide) (s_istore_n dX2_countWrong_1 rfl (by decide) (s_iconst dX2_countWrong_2 (by decide) (s_istore_n dX2_countWrong_3 rfl (by decide) s_stop)))
/-! X3_row -/
def k_X3_row_0 (l : Launch) (X : Nat → aw_Kt) (d : Nat) (Q : Option Value → aw_H → Prop) : aw_Kt := o_al 0 (o_gf 3 0 (o_il 1 (o_il 2 (o_il 3 (o_il 4 (o_cv l d m_X2_addRow 2 4 (o_ri Q)))))))
theorem t_X3_row_0 {l : Launch} {X : Nat → aw_Kt} {d : Nat} {Q : Option Value → aw_H → Prop} : aw_Sn l m_X3_row none X d 0 0 Q 0 (k_X3_row_0 l X d Q) := by
  unfold k_X3_row_0
  exact s_aload_n dX3_row_0 rfl (s_getf dX3_row_1 rfl u_X3 (by decide) w_37 (s_iload_n dX3_row_4 rfl (s_iload_n dX3_row_5 rfl (s_iload_n dX3_row_6 rfl (s_iload dX3_row_7 (s_cv dX3_row_9 rfl (by decide) w_38 wi_X2_addRow ws_X2_addRow w_9 wc_X2_addRow wd_X2_addRow (s_iret dX3_row_12 rfl)))))))
/-! X3_label -/
def k_X3_label_46 (l : Launch) (X : Nat → aw_Kt) (d : Nat) (Q : Option Value → aw_H → Prop) : aw_Kt := o_al 0 (o_gf 3 0 (o_il 1 (o_il 2 (o_il 3 (o_cv l d m_X2_give 2 3 (o_ic 1 (o_ri Q)))))))
theorem t_X3_label_46 {l : Launch} {X : Nat → aw_Kt} {d : Nat} {Q : Option Value → aw_H → Prop} : aw_Sn l m_X3_label none X d 0 0 Q 46 (k_X3_label_46 l X d Q) := by
  unfold k_X3_label_46
  exact s_aload_n dX3_label_46 rfl (s_getf dX3_label_47 rfl u_X3 (by decide) w_37 (s_iload_n dX3_label_50 rfl (s_iload_n dX3_label_51 rfl (s_iload_n dX3_label_52 rfl (s_cv dX3_label_53 rfl (by decide) w_39 wi_X2_give ws_X2_give w_9 wc_X2_give wd_X2_give (s_iconst dX3_label_56 (by decide) (s_iret dX3_label_57 rfl)))))))
def k_X3_label_31 (l : Launch) (X : Nat → aw_Kt) (d : Nat) (Q : Option Value → aw_H → Prop) : aw_Kt := o_al 0 (o_gf 3 0 (o_il 1 (o_il 2 (o_cv l d m_X2_given 2 2 (o_ic (-1) (o_i3 (fun x y => x = y) (k_X3_label_46 l X d Q) (o_ic 0 (o_ri Q))))))))
theorem t_X3_label_31 {l : Launch} {X : Nat → aw_Kt} {d : Nat} {Q : Option Value → aw_H → Prop} : aw_Sn l m_X3_label none X d 0 0 Q 31 (k_X3_label_31 l X d Q) := by
  unfold k_X3_label_31
  exact s_aload_n dX3_label_31 rfl (s_getf dX3_label_32 rfl u_X3 (by decide) w_37 (s_iload_n dX3_label_35 rfl (s_iload_n dX3_label_36 rfl (s_cv dX3_label_37 rfl (by decide) w_40 wi_X2_given ws_X2_given w_9 wc_X2_given wd_X2_given (s_iconst dX3_label_40 (by decide) (s_icmp_eq dX3_label_41 (by decide) t_X3_label_46 (s_iconst dX3_label_44 (by decide) (s_iret dX3_label_45 rfl))))))))
def k_X3_label_21 (l : Launch) (X : Nat → aw_Kt) (d : Nat) (Q : Option Value → aw_H → Prop) : aw_Kt := o_il 3 (o_cs l d m_X3_isLabel 1 (o_if (fun x => x = 0) (o_ic (-102) (o_ri Q)) (k_X3_label_31 l X d Q)))
theorem t_X3_label_21 {l : Launch} {X : Nat → aw_Kt} {d : Nat} {Q : Option Value → aw_H → Prop} : aw_Sn l m_X3_label none X d 0 0 Q 21 (k_X3_label_21 l X d Q) := by
  unfold k_X3_label_21
  exact s_iload_n dX3_label_21 rfl (s_cs dX3_label_22 (by decide) w_41 wt_X3_isLabel w_10 wc_X3_isLabel wd_X3_isLabel (s_if_ne dX3_label_25 (by decide) (s_bipush dX3_label_28 (by decide) (s_iret dX3_label_30 rfl)) t_X3_label_31))
def k_X3_label_18 (l : Launch) (X : Nat → aw_Kt) (d : Nat) (Q : Option Value → aw_H → Prop) : aw_Kt := o_ic (-101) (o_ri Q)
theorem t_X3_label_18 {l : Launch} {X : Nat → aw_Kt} {d : Nat} {Q : Option Value → aw_H → Prop} : aw_Sn l m_X3_label none X d 0 0 Q 18 (k_X3_label_18 l X d Q) := by
  unfold k_X3_label_18
  exact s_bipush dX3_label_18 (by decide) (s_iret dX3_label_20 rfl)
def k_X3_label_0 (l : Launch) (X : Nat → aw_Kt) (d : Nat) (Q : Option Value → aw_H → Prop) : aw_Kt := o_il 1 (o_cs l d m_X3_isPerson 1 (o_if (fun x => x = 0) (k_X3_label_18 l X d Q) (o_al 0 (o_gf 3 0 (o_il 2 (o_cv l d m_X2_hasRow 2 1 (o_if (fun x => x = 0) (k_X3_label_18 l X d Q) (k_X3_label_21 l X d Q))))))))
theorem t_X3_label_0 {l : Launch} {X : Nat → aw_Kt} {d : Nat} {Q : Option Value → aw_H → Prop} : aw_Sn l m_X3_label none X d 0 0 Q 0 (k_X3_label_0 l X d Q) := by
  unfold k_X3_label_0
  exact s_iload_n dX3_label_0 rfl (s_cs dX3_label_1 (by decide) w_43 wt_X3_isPerson w_10 wc_X3_isPerson wd_X3_isPerson (s_if_eq dX3_label_4 (by decide) t_X3_label_18 (s_aload_n dX3_label_7 rfl (s_getf dX3_label_8 rfl u_X3 (by decide) w_37 (s_iload_n dX3_label_11 rfl (s_cv dX3_label_12 rfl (by decide) w_42 wi_X2_hasRow ws_X2_hasRow w_9 wc_X2_hasRow wd_X2_hasRow (s_if_ne dX3_label_15 (by decide) t_X3_label_18 t_X3_label_21)))))))
/-! X3_said -/
def k_X3_said_21 (l : Launch) (X : Nat → aw_Kt) (d : Nat) (Q : Option Value → aw_H → Prop) : aw_Kt := o_al 0 (o_gf 3 0 (o_il 1 (o_il 2 (o_cv l d m_X2_given 2 2 (o_ri Q)))))
theorem t_X3_said_21 {l : Launch} {X : Nat → aw_Kt} {d : Nat} {Q : Option Value → aw_H → Prop} : aw_Sn l m_X3_said none X d 0 0 Q 21 (k_X3_said_21 l X d Q) := by
  unfold k_X3_said_21
  exact s_aload_n dX3_said_21 rfl (s_getf dX3_said_22 rfl u_X3 (by decide) w_37 (s_iload_n dX3_said_25 rfl (s_iload_n dX3_said_26 rfl (s_cv dX3_said_27 rfl (by decide) w_40 wi_X2_given ws_X2_given w_9 wc_X2_given wd_X2_given (s_iret dX3_said_30 rfl)))))
def k_X3_said_18 (l : Launch) (X : Nat → aw_Kt) (d : Nat) (Q : Option Value → aw_H → Prop) : aw_Kt := o_ic (-101) (o_ri Q)
theorem t_X3_said_18 {l : Launch} {X : Nat → aw_Kt} {d : Nat} {Q : Option Value → aw_H → Prop} : aw_Sn l m_X3_said none X d 0 0 Q 18 (k_X3_said_18 l X d Q) := by
  unfold k_X3_said_18
  exact s_bipush dX3_said_18 (by decide) (s_iret dX3_said_20 rfl)
def k_X3_said_0 (l : Launch) (X : Nat → aw_Kt) (d : Nat) (Q : Option Value → aw_H → Prop) : aw_Kt := o_il 1 (o_cs l d m_X3_isPerson 1 (o_if (fun x => x = 0) (k_X3_said_18 l X d Q) (o_al 0 (o_gf 3 0 (o_il 2 (o_cv l d m_X2_hasRow 2 1 (o_if (fun x => x = 0) (k_X3_said_18 l X d Q) (k_X3_said_21 l X d Q))))))))
theorem t_X3_said_0 {l : Launch} {X : Nat → aw_Kt} {d : Nat} {Q : Option Value → aw_H → Prop} : aw_Sn l m_X3_said none X d 0 0 Q 0 (k_X3_said_0 l X d Q) := by
  unfold k_X3_said_0
  exact s_iload_n dX3_said_0 rfl (s_cs dX3_said_1 (by decide) w_43 wt_X3_isPerson w_10 wc_X3_isPerson wd_X3_isPerson (s_if_eq dX3_said_4 (by decide) t_X3_said_18 (s_aload_n dX3_said_7 rfl (s_getf dX3_said_8 rfl u_X3 (by decide) w_37 (s_iload_n dX3_said_11 rfl (s_cv dX3_said_12 rfl (by decide) w_42 wi_X2_hasRow ws_X2_hasRow w_9 wc_X2_hasRow wd_X2_hasRow (s_if_ne dX3_said_15 (by decide) t_X3_said_18 t_X3_said_21)))))))
/-! X3_gold -/
def k_X3_gold_29 (l : Launch) (X : Nat → aw_Kt) (d : Nat) (Q : Option Value → aw_H → Prop) : aw_Kt := o_al 0 (o_gf 3 0 (o_il 1 (o_cv l d m_X2_known 2 1 (o_is 3 (o_al 0 (o_gf 3 0 (o_il 1 (o_il 2 (o_cv l d m_X2_setKnown 2 2 (o_il 3 (o_ri Q)))))))))))
theorem t_X3_gold_29 {l : Launch} {X : Nat → aw_Kt} {d : Nat} {Q : Option Value → aw_H → Prop} : aw_Sn l m_X3_gold none X d 0 0 Q 29 (k_X3_gold_29 l X d Q) := by
  unfold k_X3_gold_29
  exact s_aload_n dX3_gold_29 rfl (s_getf dX3_gold_30 rfl u_X3 (by decide) w_37 (s_iload_n dX3_gold_33 rfl (s_cv dX3_gold_34 rfl (by decide) w_45 wi_X2_known ws_X2_known w_9 wc_X2_known wd_X2_known (s_istore_n dX3_gold_37 rfl (by decide) (s_aload_n dX3_gold_38 rfl (s_getf dX3_gold_39 rfl u_X3 (by decide) w_37 (s_iload_n dX3_gold_42 rfl (s_iload_n dX3_gold_43 rfl (s_cv dX3_gold_44 rfl (by decide) w_44 wi_X2_setKnown ws_X2_setKnown w_9 wc_X2_setKnown wd_X2_setKnown (s_iload_n dX3_gold_47 rfl (s_iret dX3_gold_48 rfl)))))))))))
def k_X3_gold_14 (l : Launch) (X : Nat → aw_Kt) (d : Nat) (Q : Option Value → aw_H → Prop) : aw_Kt := o_il 2 (o_ic (-1) (o_i3 (fun x y => x = y) (k_X3_gold_29 l X d Q) (o_il 2 (o_cs l d m_X3_isLabel 1 (o_if (fun x => x = 0) (o_ic (-102) (o_ri Q)) (k_X3_gold_29 l X d Q))))))
theorem t_X3_gold_14 {l : Launch} {X : Nat → aw_Kt} {d : Nat} {Q : Option Value → aw_H → Prop} : aw_Sn l m_X3_gold none X d 0 0 Q 14 (k_X3_gold_14 l X d Q) := by
  unfold k_X3_gold_14
  exact s_iload_n dX3_gold_14 rfl (s_iconst dX3_gold_15 (by decide) (s_icmp_eq dX3_gold_16 (by decide) t_X3_gold_29 (s_iload_n dX3_gold_19 rfl (s_cs dX3_gold_20 (by decide) w_41 wt_X3_isLabel w_10 wc_X3_isLabel wd_X3_isLabel (s_if_ne dX3_gold_23 (by decide) (s_bipush dX3_gold_26 (by decide) (s_iret dX3_gold_28 rfl)) t_X3_gold_29)))))
def k_X3_gold_0 (l : Launch) (X : Nat → aw_Kt) (d : Nat) (Q : Option Value → aw_H → Prop) : aw_Kt := o_al 0 (o_gf 3 0 (o_il 1 (o_cv l d m_X2_hasRow 2 1 (o_if (fun x => x = 0) (o_ic (-101) (o_ri Q)) (k_X3_gold_14 l X d Q)))))
theorem t_X3_gold_0 {l : Launch} {X : Nat → aw_Kt} {d : Nat} {Q : Option Value → aw_H → Prop} : aw_Sn l m_X3_gold none X d 0 0 Q 0 (k_X3_gold_0 l X d Q) := by
  unfold k_X3_gold_0
  exact s_aload_n dX3_gold_0 rfl (s_getf dX3_gold_1 rfl u_X3 (by decide) w_37 (s_iload_n dX3_gold_4 rfl (s_cv dX3_gold_5 rfl (by decide) w_42 wi_X2_hasRow ws_X2_hasRow w_9 wc_X2_hasRow wd_X2_hasRow (s_if_ne dX3_gold_8 (by decide) (s_bipush dX3_gold_11 (by decide) (s_iret dX3_gold_13 rfl)) t_X3_gold_14))))
/-! X3_bound -/
def k_X3_bound_14 (l : Launch) (X : Nat → aw_Kt) (d : Nat) (Q : Option Value → aw_H → Prop) : aw_Kt := o_al 0 (o_gf 3 5 (o_is 2 (o_al 0 (o_il 1 (o_pi 3 5 (o_il 2 (o_ri Q)))))))
theorem t_X3_bound_14 {l : Launch} {X : Nat → aw_Kt} {d : Nat} {Q : Option Value → aw_H → Prop} : aw_Sn l m_X3_bound none X d 0 0 Q 14 (k_X3_bound_14 l X d Q) := by
  unfold k_X3_bound_14
  exact s_aload_n dX3_bound_14 rfl (s_getf dX3_bound_15 rfl u_X3 (by decide) w_46 (s_istore_n dX3_bound_18 rfl (by decide) (s_aload_n dX3_bound_19 rfl (s_iload_n dX3_bound_20 rfl (s_puti dX3_bound_21 rfl u_X3 tyX3_ok nmX3 (by decide) rfl (by decide +kernel) w_46 (s_iload_n dX3_bound_24 rfl (s_iret dX3_bound_25 rfl)))))))
def k_X3_bound_11 (l : Launch) (X : Nat → aw_Kt) (d : Nat) (Q : Option Value → aw_H → Prop) : aw_Kt := o_ic (-102) (o_ri Q)
theorem t_X3_bound_11 {l : Launch} {X : Nat → aw_Kt} {d : Nat} {Q : Option Value → aw_H → Prop} : aw_Sn l m_X3_bound none X d 0 0 Q 11 (k_X3_bound_11 l X d Q) := by
  unfold k_X3_bound_11
  exact s_bipush dX3_bound_11 (by decide) (s_iret dX3_bound_13 rfl)
def k_X3_bound_0 (l : Launch) (X : Nat → aw_Kt) (d : Nat) (Q : Option Value → aw_H → Prop) : aw_Kt := o_il 1 (o_ic 1 (o_i3 (fun x y => x < y) (k_X3_bound_11 l X d Q) (o_il 1 (o_ic 9 (o_i3 (fun x y => x ≤ y) (k_X3_bound_14 l X d Q) (k_X3_bound_11 l X d Q))))))
theorem t_X3_bound_0 {l : Launch} {X : Nat → aw_Kt} {d : Nat} {Q : Option Value → aw_H → Prop} : aw_Sn l m_X3_bound none X d 0 0 Q 0 (k_X3_bound_0 l X d Q) := by
  unfold k_X3_bound_0
  exact s_iload_n dX3_bound_0 rfl (s_iconst dX3_bound_1 (by decide) (s_icmp_lt dX3_bound_2 (by decide) t_X3_bound_11 (s_iload_n dX3_bound_5 rfl (s_bipush dX3_bound_6 (by decide) (s_icmp_le dX3_bound_8 (by decide) t_X3_bound_14 t_X3_bound_11)))))
/-! X3_expert -/
def k_X3_expert_42 (l : Launch) (X : Nat → aw_Kt) (d : Nat) (Q : Option Value → aw_H → Prop) : aw_Kt := o_ri Q
theorem t_X3_expert_42 {l : Launch} {X : Nat → aw_Kt} {d : Nat} {Q : Option Value → aw_H → Prop} : aw_Sn l m_X3_expert none X d 0 0 Q 42 (k_X3_expert_42 l X d Q) := by
  unfold k_X3_expert_42
  exact s_iret dX3_expert_42 rfl
def k_X3_expert_41 (l : Launch) (X : Nat → aw_Kt) (d : Nat) (Q : Option Value → aw_H → Prop) : aw_Kt := o_ic 0 (k_X3_expert_42 l X d Q)
theorem t_X3_expert_41 {l : Launch} {X : Nat → aw_Kt} {d : Nat} {Q : Option Value → aw_H → Prop} : aw_Sn l m_X3_expert none X d 0 0 Q 41 (k_X3_expert_41 l X d Q) := by
  unfold k_X3_expert_41
  exact s_iconst dX3_expert_41 (by decide) t_X3_expert_42
def k_X3_expert_25 (l : Launch) (X : Nat → aw_Kt) (d : Nat) (Q : Option Value → aw_H → Prop) : aw_Kt := o_is 3 (o_al 0 (o_gf 3 3 (o_il 1 (o_il 2 (o_zs (o_il 3 (o_if (fun x => x = 0) (k_X3_expert_41 l X d Q) (o_ic 1 (k_X3_expert_42 l X d Q)))))))))
theorem t_X3_expert_25 {l : Launch} {X : Nat → aw_Kt} {d : Nat} {Q : Option Value → aw_H → Prop} : aw_Sn l m_X3_expert none X d 0 0 Q 25 (k_X3_expert_25 l X d Q) := by
  unfold k_X3_expert_25
  exact s_istore_n dX3_expert_25 rfl (by decide) (s_aload_n dX3_expert_26 rfl (s_getf dX3_expert_27 rfl u_X3 (by decide) w_47 (s_iload_n dX3_expert_30 rfl (s_iload_n dX3_expert_31 rfl (s_bastore dX3_expert_32 (s_iload_n dX3_expert_33 rfl (s_if_eq dX3_expert_34 (by decide) t_X3_expert_41 (s_iconst dX3_expert_37 (by decide) (s_goto dX3_expert_38 (by decide) t_X3_expert_42)))))))))
def k_X3_expert_24 (l : Launch) (X : Nat → aw_Kt) (d : Nat) (Q : Option Value → aw_H → Prop) : aw_Kt := o_ic 0 (k_X3_expert_25 l X d Q)
theorem t_X3_expert_24 {l : Launch} {X : Nat → aw_Kt} {d : Nat} {Q : Option Value → aw_H → Prop} : aw_Sn l m_X3_expert none X d 0 0 Q 24 (k_X3_expert_24 l X d Q) := by
  unfold k_X3_expert_24
  exact s_iconst dX3_expert_24 (by decide) t_X3_expert_25
def k_X3_expert_10 (l : Launch) (X : Nat → aw_Kt) (d : Nat) (Q : Option Value → aw_H → Prop) : aw_Kt := o_al 0 (o_gf 3 3 (o_il 1 (o_ia 1 (o_il 2 (o_i3 (fun x y => x = y) (k_X3_expert_24 l X d Q) (o_ic 1 (k_X3_expert_25 l X d Q)))))))
theorem t_X3_expert_10 {l : Launch} {X : Nat → aw_Kt} {d : Nat} {Q : Option Value → aw_H → Prop} : aw_Sn l m_X3_expert none X d 0 0 Q 10 (k_X3_expert_10 l X d Q) := by
  unfold k_X3_expert_10
  exact s_aload_n dX3_expert_10 rfl (s_getf dX3_expert_11 rfl u_X3 (by decide) w_47 (s_iload_n dX3_expert_14 rfl (s_baload dX3_expert_15 (s_iload_n dX3_expert_16 rfl (s_icmp_eq dX3_expert_17 (by decide) t_X3_expert_24 (s_iconst dX3_expert_20 (by decide) (s_goto dX3_expert_21 (by decide) t_X3_expert_25)))))))
def k_X3_expert_0 (l : Launch) (X : Nat → aw_Kt) (d : Nat) (Q : Option Value → aw_H → Prop) : aw_Kt := o_il 1 (o_cs l d m_X3_isPerson 1 (o_if (fun x => x = 0) (o_ic (-101) (o_ri Q)) (k_X3_expert_10 l X d Q)))
theorem t_X3_expert_0 {l : Launch} {X : Nat → aw_Kt} {d : Nat} {Q : Option Value → aw_H → Prop} : aw_Sn l m_X3_expert none X d 0 0 Q 0 (k_X3_expert_0 l X d Q) := by
  unfold k_X3_expert_0
  exact s_iload_n dX3_expert_0 rfl (s_cs dX3_expert_1 (by decide) w_43 wt_X3_isPerson w_10 wc_X3_isPerson wd_X3_isPerson (s_if_ne dX3_expert_4 (by decide) (s_bipush dX3_expert_7 (by decide) (s_iret dX3_expert_9 rfl)) t_X3_expert_10))
/-! X3_person -/
def k_X3_person_79 (l : Launch) (X : Nat → aw_Kt) (d : Nat) (Q : Option Value → aw_H → Prop) : aw_Kt := o_ic (-102) (o_ri Q)
theorem t_X3_person_79 {l : Launch} {X : Nat → aw_Kt} {d : Nat} {Q : Option Value → aw_H → Prop} : aw_Sn l m_X3_person none X d 0 0 Q 79 (k_X3_person_79 l X d Q) := by
  unfold k_X3_person_79
  exact s_bipush dX3_person_79 (by decide) (s_iret dX3_person_81 rfl)
def k_X3_person_70 (l : Launch) (X : Nat → aw_Kt) (d : Nat) (Q : Option Value → aw_H → Prop) : aw_Kt := o_al 0 (o_gf 3 0 (o_il 1 (o_cv l d m_X2_givenBy 2 1 (o_ri Q))))
theorem t_X3_person_70 {l : Launch} {X : Nat → aw_Kt} {d : Nat} {Q : Option Value → aw_H → Prop} : aw_Sn l m_X3_person none X d 0 0 Q 70 (k_X3_person_70 l X d Q) := by
  unfold k_X3_person_70
  exact s_aload_n dX3_person_70 rfl (s_getf dX3_person_71 rfl u_X3 (by decide) w_37 (s_iload_n dX3_person_74 rfl (s_cv dX3_person_75 rfl (by decide) w_48 wi_X2_givenBy ws_X2_givenBy w_9 wc_X2_givenBy wd_X2_givenBy (s_iret dX3_person_78 rfl))))
def k_X3_person_69 (l : Launch) (X : Nat → aw_Kt) (d : Nat) (Q : Option Value → aw_H → Prop) : aw_Kt := o_ri Q
theorem t_X3_person_69 {l : Launch} {X : Nat → aw_Kt} {d : Nat} {Q : Option Value → aw_H → Prop} : aw_Sn l m_X3_person none X d 0 0 Q 69 (k_X3_person_69 l X d Q) := by
  unfold k_X3_person_69
  exact s_iret dX3_person_69 rfl
def k_X3_person_68 (l : Launch) (X : Nat → aw_Kt) (d : Nat) (Q : Option Value → aw_H → Prop) : aw_Kt := o_ic 0 (k_X3_person_69 l X d Q)
theorem t_X3_person_68 {l : Launch} {X : Nat → aw_Kt} {d : Nat} {Q : Option Value → aw_H → Prop} : aw_Sn l m_X3_person none X d 0 0 Q 68 (k_X3_person_68 l X d Q) := by
  unfold k_X3_person_68
  exact s_iconst dX3_person_68 (by decide) t_X3_person_69
def k_X3_person_56 (l : Launch) (X : Nat → aw_Kt) (d : Nat) (Q : Option Value → aw_H → Prop) : aw_Kt := o_al 0 (o_il 1 (o_cv l d m_X3_isBarred 3 1 (o_if (fun x => x = 0) (k_X3_person_68 l X d Q) (o_ic 1 (k_X3_person_69 l X d Q)))))
theorem t_X3_person_56 {l : Launch} {X : Nat → aw_Kt} {d : Nat} {Q : Option Value → aw_H → Prop} : aw_Sn l m_X3_person none X d 0 0 Q 56 (k_X3_person_56 l X d Q) := by
  unfold k_X3_person_56
  exact s_aload_n dX3_person_56 rfl (s_iload_n dX3_person_57 rfl (s_cv dX3_person_58 rfl (by decide) w_49 wi_X3_isBarred ws_X3_isBarred w_10 wc_X3_isBarred wd_X3_isBarred (s_if_eq dX3_person_61 (by decide) t_X3_person_68 (s_iconst dX3_person_64 (by decide) (s_goto dX3_person_65 (by decide) t_X3_person_69)))))
def k_X3_person_47 (l : Launch) (X : Nat → aw_Kt) (d : Nat) (Q : Option Value → aw_H → Prop) : aw_Kt := o_al 0 (o_gf 3 0 (o_il 1 (o_cv l d m_X2_wrongOf 2 1 (o_ri Q))))
theorem t_X3_person_47 {l : Launch} {X : Nat → aw_Kt} {d : Nat} {Q : Option Value → aw_H → Prop} : aw_Sn l m_X3_person none X d 0 0 Q 47 (k_X3_person_47 l X d Q) := by
  unfold k_X3_person_47
  exact s_aload_n dX3_person_47 rfl (s_getf dX3_person_48 rfl u_X3 (by decide) w_37 (s_iload_n dX3_person_51 rfl (s_cv dX3_person_52 rfl (by decide) w_50 wi_X2_wrongOf ws_X2_wrongOf w_9 wc_X2_wrongOf wd_X2_wrongOf (s_iret dX3_person_55 rfl))))
def k_X3_person_40 (l : Launch) (X : Nat → aw_Kt) (d : Nat) (Q : Option Value → aw_H → Prop) : aw_Kt := o_al 0 (o_gf 3 4 (o_il 1 (o_ia 0 (o_ri Q))))
theorem t_X3_person_40 {l : Launch} {X : Nat → aw_Kt} {d : Nat} {Q : Option Value → aw_H → Prop} : aw_Sn l m_X3_person none X d 0 0 Q 40 (k_X3_person_40 l X d Q) := by
  unfold k_X3_person_40
  exact s_aload_n dX3_person_40 rfl (s_getf dX3_person_41 rfl u_X3 (by decide) w_51 (s_iload_n dX3_person_44 rfl (s_iaload dX3_person_45 (s_iret dX3_person_46 rfl))))
def k_X3_person_10 (l : Launch) (X : Nat → aw_Kt) (d : Nat) (Q : Option Value → aw_H → Prop) : aw_Kt := o_il 2 (o_ts 0 3 [(k_X3_person_40 l X d Q), (k_X3_person_47 l X d Q), (k_X3_person_56 l X d Q), (k_X3_person_70 l X d Q)] (k_X3_person_79 l X d Q))
theorem t_X3_person_10 {l : Launch} {X : Nat → aw_Kt} {d : Nat} {Q : Option Value → aw_H → Prop} : aw_Sn l m_X3_person none X d 0 0 Q 10 (k_X3_person_10 l X d Q) := by
  unfold k_X3_person_10
  exact s_iload_n dX3_person_10 rfl (s_tsw dX3_person_11 (by decide) (by decide) (by decide) t_X3_person_79 ⟨⟨40, by decide, t_X3_person_40⟩, ⟨⟨47, by decide, t_X3_person_47⟩, ⟨⟨56, by decide, t_X3_person_56⟩, ⟨⟨70, by decide, t_X3_person_70⟩, trivial⟩⟩⟩⟩)
def k_X3_person_0 (l : Launch) (X : Nat → aw_Kt) (d : Nat) (Q : Option Value → aw_H → Prop) : aw_Kt := o_il 1 (o_cs l d m_X3_isPerson 1 (o_if (fun x => x = 0) (o_ic (-101) (o_ri Q)) (k_X3_person_10 l X d Q)))
theorem t_X3_person_0 {l : Launch} {X : Nat → aw_Kt} {d : Nat} {Q : Option Value → aw_H → Prop} : aw_Sn l m_X3_person none X d 0 0 Q 0 (k_X3_person_0 l X d Q) := by
  unfold k_X3_person_0
  exact s_iload_n dX3_person_0 rfl (s_cs dX3_person_1 (by decide) w_43 wt_X3_isPerson w_10 wc_X3_isPerson wd_X3_isPerson (s_if_ne dX3_person_4 (by decide) (s_bipush dX3_person_7 (by decide) (s_iret dX3_person_9 rfl)) t_X3_person_10))
/-! X3_rule -/
def k_X3_rule_26 (l : Launch) (X : Nat → aw_Kt) (d : Nat) (Q : Option Value → aw_H → Prop) : aw_Kt := o_al 0 (o_gf 3 1 (o_il 1 (o_il 2 (o_il 3 (o_il 4 (o_cv l d m_X1_addRule 1 4 (o_ri Q)))))))
theorem t_X3_rule_26 {l : Launch} {X : Nat → aw_Kt} {d : Nat} {Q : Option Value → aw_H → Prop} : aw_Sn l m_X3_rule none X d 0 0 Q 26 (k_X3_rule_26 l X d Q) := by
  unfold k_X3_rule_26
  exact s_aload_n dX3_rule_26 rfl (s_getf dX3_rule_27 rfl u_X3 (by decide) w_52 (s_iload_n dX3_rule_30 rfl (s_iload_n dX3_rule_31 rfl (s_iload_n dX3_rule_32 rfl (s_iload dX3_rule_33 (s_cv dX3_rule_35 rfl (by decide) w_54 wi_X1_addRule ws_X1_addRule w_53 wc_X1_addRule wd_X1_addRule (s_iret dX3_rule_38 rfl)))))))
def k_X3_rule_23 (l : Launch) (X : Nat → aw_Kt) (d : Nat) (Q : Option Value → aw_H → Prop) : aw_Kt := o_ic (-102) (o_ri Q)
theorem t_X3_rule_23 {l : Launch} {X : Nat → aw_Kt} {d : Nat} {Q : Option Value → aw_H → Prop} : aw_Sn l m_X3_rule none X d 0 0 Q 23 (k_X3_rule_23 l X d Q) := by
  unfold k_X3_rule_23
  exact s_bipush dX3_rule_23 (by decide) (s_iret dX3_rule_25 rfl)
def k_X3_rule_0 (l : Launch) (X : Nat → aw_Kt) (d : Nat) (Q : Option Value → aw_H → Prop) : aw_Kt := o_il 1 (o_if (fun x => x < 0) (k_X3_rule_23 l X d Q) (o_il 1 (o_ic 4 (o_i3 (fun x y => y ≤ x) (k_X3_rule_23 l X d Q) (o_il 2 (o_cs l d m_X3_isFeature 1 (o_if (fun x => x = 0) (k_X3_rule_23 l X d Q) (o_il 3 (o_cs l d m_X3_isFeature 1 (o_if (fun x => x = 0) (k_X3_rule_23 l X d Q) (k_X3_rule_26 l X d Q)))))))))))
theorem t_X3_rule_0 {l : Launch} {X : Nat → aw_Kt} {d : Nat} {Q : Option Value → aw_H → Prop} : aw_Sn l m_X3_rule none X d 0 0 Q 0 (k_X3_rule_0 l X d Q) := by
  unfold k_X3_rule_0
  exact s_iload_n dX3_rule_0 rfl (s_if_lt dX3_rule_1 (by decide) t_X3_rule_23 (s_iload_n dX3_rule_4 rfl (s_iconst dX3_rule_5 (by decide) (s_icmp_ge dX3_rule_6 (by decide) t_X3_rule_23 (s_iload_n dX3_rule_9 rfl (s_cs dX3_rule_10 (by decide) w_55 wt_X3_isFeature w_10 wc_X3_isFeature wd_X3_isFeature (s_if_eq dX3_rule_13 (by decide) t_X3_rule_23 (s_iload_n dX3_rule_16 rfl (s_cs dX3_rule_17 (by decide) w_55 wt_X3_isFeature w_10 wc_X3_isFeature wd_X3_isFeature (s_if_ne dX3_rule_20 (by decide) t_X3_rule_23 t_X3_rule_26))))))))))
/-! X3_turn -/
def k_X3_turn_50 (l : Launch) (X : Nat → aw_Kt) (d : Nat) (Q : Option Value → aw_H → Prop) : aw_Kt := o_ri Q
theorem t_X3_turn_50 {l : Launch} {X : Nat → aw_Kt} {d : Nat} {Q : Option Value → aw_H → Prop} : aw_Sn l m_X3_turn none X d 0 0 Q 50 (k_X3_turn_50 l X d Q) := by
  unfold k_X3_turn_50
  exact s_iret dX3_turn_50 rfl
def k_X3_turn_49 (l : Launch) (X : Nat → aw_Kt) (d : Nat) (Q : Option Value → aw_H → Prop) : aw_Kt := o_ic 0 (k_X3_turn_50 l X d Q)
theorem t_X3_turn_49 {l : Launch} {X : Nat → aw_Kt} {d : Nat} {Q : Option Value → aw_H → Prop} : aw_Sn l m_X3_turn none X d 0 0 Q 49 (k_X3_turn_49 l X d Q) := by
  unfold k_X3_turn_49
  exact s_iconst dX3_turn_49 (by decide) t_X3_turn_50
def k_X3_turn_31 (l : Launch) (X : Nat → aw_Kt) (d : Nat) (Q : Option Value → aw_H → Prop) : aw_Kt := o_is 3 (o_al 0 (o_gf 3 1 (o_il 1 (o_il 2 (o_cv l d m_X1_setOn 1 2 (o_il 3 (o_if (fun x => x = 0) (k_X3_turn_49 l X d Q) (o_ic 1 (k_X3_turn_50 l X d Q)))))))))
theorem t_X3_turn_31 {l : Launch} {X : Nat → aw_Kt} {d : Nat} {Q : Option Value → aw_H → Prop} : aw_Sn l m_X3_turn none X d 0 0 Q 31 (k_X3_turn_31 l X d Q) := by
  unfold k_X3_turn_31
  exact s_istore_n dX3_turn_31 rfl (by decide) (s_aload_n dX3_turn_32 rfl (s_getf dX3_turn_33 rfl u_X3 (by decide) w_52 (s_iload_n dX3_turn_36 rfl (s_iload_n dX3_turn_37 rfl (s_cv dX3_turn_38 rfl (by decide) w_56 wi_X1_setOn ws_X1_setOn w_53 wc_X1_setOn wd_X1_setOn (s_iload_n dX3_turn_41 rfl (s_if_eq dX3_turn_42 (by decide) t_X3_turn_49 (s_iconst dX3_turn_45 (by decide) (s_goto dX3_turn_46 (by decide) t_X3_turn_50)))))))))
def k_X3_turn_30 (l : Launch) (X : Nat → aw_Kt) (d : Nat) (Q : Option Value → aw_H → Prop) : aw_Kt := o_ic 0 (k_X3_turn_31 l X d Q)
theorem t_X3_turn_30 {l : Launch} {X : Nat → aw_Kt} {d : Nat} {Q : Option Value → aw_H → Prop} : aw_Sn l m_X3_turn none X d 0 0 Q 30 (k_X3_turn_30 l X d Q) := by
  unfold k_X3_turn_30
  exact s_iconst dX3_turn_30 (by decide) t_X3_turn_31
def k_X3_turn_14 (l : Launch) (X : Nat → aw_Kt) (d : Nat) (Q : Option Value → aw_H → Prop) : aw_Kt := o_al 0 (o_gf 3 1 (o_il 1 (o_cv l d m_X1_isOn 1 1 (o_il 2 (o_i3 (fun x y => x = y) (k_X3_turn_30 l X d Q) (o_ic 1 (k_X3_turn_31 l X d Q)))))))
theorem t_X3_turn_14 {l : Launch} {X : Nat → aw_Kt} {d : Nat} {Q : Option Value → aw_H → Prop} : aw_Sn l m_X3_turn none X d 0 0 Q 14 (k_X3_turn_14 l X d Q) := by
  unfold k_X3_turn_14
  exact s_aload_n dX3_turn_14 rfl (s_getf dX3_turn_15 rfl u_X3 (by decide) w_52 (s_iload_n dX3_turn_18 rfl (s_cv dX3_turn_19 rfl (by decide) w_57 wi_X1_isOn ws_X1_isOn w_53 wc_X1_isOn wd_X1_isOn (s_iload_n dX3_turn_22 rfl (s_icmp_eq dX3_turn_23 (by decide) t_X3_turn_30 (s_iconst dX3_turn_26 (by decide) (s_goto dX3_turn_27 (by decide) t_X3_turn_31)))))))
def k_X3_turn_0 (l : Launch) (X : Nat → aw_Kt) (d : Nat) (Q : Option Value → aw_H → Prop) : aw_Kt := o_al 0 (o_gf 3 1 (o_il 1 (o_cv l d m_X1_hasRule 1 1 (o_if (fun x => x = 0) (o_ic (-101) (o_ri Q)) (k_X3_turn_14 l X d Q)))))
theorem t_X3_turn_0 {l : Launch} {X : Nat → aw_Kt} {d : Nat} {Q : Option Value → aw_H → Prop} : aw_Sn l m_X3_turn none X d 0 0 Q 0 (k_X3_turn_0 l X d Q) := by
  unfold k_X3_turn_0
  exact s_aload_n dX3_turn_0 rfl (s_getf dX3_turn_1 rfl u_X3 (by decide) w_52 (s_iload_n dX3_turn_4 rfl (s_cv dX3_turn_5 rfl (by decide) w_58 wi_X1_hasRule ws_X1_hasRule w_53 wc_X1_hasRule wd_X1_hasRule (s_if_ne dX3_turn_8 (by decide) (s_bipush dX3_turn_11 (by decide) (s_iret dX3_turn_13 rfl)) t_X3_turn_14))))
/-! X3_table -/
def k_X3_table_10 (l : Launch) (X : Nat → aw_Kt) (d : Nat) (Q : Option Value → aw_H → Prop) : aw_Kt := o_al 0 (o_gf 3 1 (o_il 1 (o_il 2 (o_cv l d m_X1_replace 1 2 (o_ri Q)))))
theorem t_X3_table_10 {l : Launch} {X : Nat → aw_Kt} {d : Nat} {Q : Option Value → aw_H → Prop} : aw_Sn l m_X3_table none X d 0 0 Q 10 (k_X3_table_10 l X d Q) := by
  unfold k_X3_table_10
  exact s_aload_n dX3_table_10 rfl (s_getf dX3_table_11 rfl u_X3 (by decide) w_52 (s_iload_n dX3_table_14 rfl (s_iload_n dX3_table_15 rfl (s_cv dX3_table_16 rfl (by decide) w_59 wi_X1_replace ws_X1_replace w_53 wc_X1_replace wd_X1_replace (s_iret dX3_table_19 rfl)))))
def k_X3_table_0 (l : Launch) (X : Nat → aw_Kt) (d : Nat) (Q : Option Value → aw_H → Prop) : aw_Kt := o_il 1 (o_cs l d m_X3_isPlace 1 (o_if (fun x => x = 0) (o_ic (-102) (o_ri Q)) (k_X3_table_10 l X d Q)))
theorem t_X3_table_0 {l : Launch} {X : Nat → aw_Kt} {d : Nat} {Q : Option Value → aw_H → Prop} : aw_Sn l m_X3_table none X d 0 0 Q 0 (k_X3_table_0 l X d Q) := by
  unfold k_X3_table_0
  exact s_iload_n dX3_table_0 rfl (s_cs dX3_table_1 (by decide) w_60 wt_X3_isPlace w_10 wc_X3_isPlace wd_X3_isPlace (s_if_ne dX3_table_4 (by decide) (s_bipush dX3_table_7 (by decide) (s_iret dX3_table_9 rfl)) t_X3_table_10))
/-! X3_says -/
def k_X3_says_78 (l : Launch) (X : Nat → aw_Kt) (d : Nat) (Q : Option Value → aw_H → Prop) : aw_Kt := o_il 3 (o_ri Q)
theorem t_X3_says_78 {l : Launch} {X : Nat → aw_Kt} {d : Nat} {Q : Option Value → aw_H → Prop} : aw_Sn l m_X3_says none X d 0 0 Q 78 (k_X3_says_78 l X d Q) := by
  unfold k_X3_says_78
  exact s_iload_n dX3_says_78 rfl (s_iret dX3_says_79 rfl)
def k_X3_says_62 (l : Launch) (X : Nat → aw_Kt) (d : Nat) (Q : Option Value → aw_H → Prop) : aw_Kt := o_il 3 (o_ic (-3) (o_i3 (fun x y => x = y) (SW l m_X3_says none X d 0 0 Q 68) (k_X3_says_78 l X d Q)))
theorem t_X3_says_62 {l : Launch} {X : Nat → aw_Kt} {d : Nat} {Q : Option Value → aw_H → Prop} : aw_Sn l m_X3_says none X d 0 0 Q 62 (k_X3_says_62 l X d Q) := by
  unfold k_X3_says_62
  exact s_iload_n dX3_says_62 rfl (s_bipush dX3_says_63 (by decide) (s_icmp_ne dX3_says_65 (by decide) s_stop t_X3_says_78))
def k_X3_says_32 (l : Launch) (X : Nat → aw_Kt) (d : Nat) (Q : Option Value → aw_H → Prop) : aw_Kt := o_al 0 (o_gf 3 1 (o_il 1 (o_al 0 (o_gf 3 0 (o_il 2 (o_cv l d m_X1_wordOn 1 3 (o_is 3 (o_il 3 (o_ic (-2) (o_i3 (fun x y => x = y) (SW l m_X3_says none X d 0 0 Q 52) (k_X3_says_62 l X d Q)))))))))))
theorem t_X3_says_32 {l : Launch} {X : Nat → aw_Kt} {d : Nat} {Q : Option Value → aw_H → Prop} : aw_Sn l m_X3_says none X d 0 0 Q 32 (k_X3_says_32 l X d Q) := by
  unfold k_X3_says_32
  exact s_aload_n dX3_says_32 rfl (s_getf dX3_says_33 rfl u_X3 (by decide) w_52 (s_iload_n dX3_says_36 rfl (s_aload_n dX3_says_37 rfl (s_getf dX3_says_38 rfl u_X3 (by decide) w_37 (s_iload_n dX3_says_41 rfl (s_cv dX3_says_42 rfl (by decide) w_61 wi_X1_wordOn ws_X1_wordOn w_53 wc_X1_wordOn wd_X1_wordOn (s_istore_n dX3_says_45 rfl (by decide) (s_iload_n dX3_says_46 rfl (s_bipush dX3_says_47 (by decide) (s_icmp_ne dX3_says_49 (by decide) s_stop t_X3_says_62))))))))))
def k_X3_says_0 (l : Launch) (X : Nat → aw_Kt) (d : Nat) (Q : Option Value → aw_H → Prop) : aw_Kt := o_al 0 (o_gf 3 1 (o_il 1 (o_cv l d m_X1_hasRule 1 1 (o_if (fun x => x = 0) (SW l m_X3_says none X d 0 0 Q 22) (o_al 0 (o_gf 3 0 (o_il 2 (o_cv l d m_X2_hasRow 2 1 (o_if (fun x => x = 0) (SW l m_X3_says none X d 0 0 Q 22) (k_X3_says_32 l X d Q))))))))))
theorem t_X3_says_0 {l : Launch} {X : Nat → aw_Kt} {d : Nat} {Q : Option Value → aw_H → Prop} : aw_Sn l m_X3_says none X d 0 0 Q 0 (k_X3_says_0 l X d Q) := by
  unfold k_X3_says_0
  exact s_aload_n dX3_says_0 rfl (s_getf dX3_says_1 rfl u_X3 (by decide) w_52 (s_iload_n dX3_says_4 rfl (s_cv dX3_says_5 rfl (by decide) w_58 wi_X1_hasRule ws_X1_hasRule w_53 wc_X1_hasRule wd_X1_hasRule (s_if_eq dX3_says_8 (by decide) s_stop (s_aload_n dX3_says_11 rfl (s_getf dX3_says_12 rfl u_X3 (by decide) w_37 (s_iload_n dX3_says_15 rfl (s_cv dX3_says_16 rfl (by decide) w_42 wi_X2_hasRow ws_X2_hasRow w_9 wc_X2_hasRow wd_X2_hasRow (s_if_ne dX3_says_19 (by decide) s_stop t_X3_says_32)))))))))
/-! X3_abstains -/
def k_X3_abstains_57 (l : Launch) (X : Nat → aw_Kt) (d : Nat) (Q : Option Value → aw_H → Prop) : aw_Kt := o_il 2 (o_ri Q)
theorem t_X3_abstains_57 {l : Launch} {X : Nat → aw_Kt} {d : Nat} {Q : Option Value → aw_H → Prop} : aw_Sn l m_X3_abstains none X d 0 0 Q 57 (k_X3_abstains_57 l X d Q) := by
  unfold k_X3_abstains_57
  exact s_iload_n dX3_abstains_57 rfl (s_iret dX3_abstains_58 rfl)
def k_X3_abstains_51 (l : Launch) (X : Nat → aw_Kt) (d : Nat) (Q : Option Value → aw_H → Prop) : aw_Kt := o_ii 3 1 (SW l m_X3_abstains none X d 0 0 Q 18)
theorem t_X3_abstains_51 {l : Launch} {X : Nat → aw_Kt} {d : Nat} {Q : Option Value → aw_H → Prop} : aw_Sn l m_X3_abstains none X d 0 0 Q 51 (k_X3_abstains_51 l X d Q) := by
  unfold k_X3_abstains_51
  exact s_iinc dX3_abstains_51 (by decide) (by decide) (s_goto dX3_abstains_54 (by decide) s_stop)
def k_X3_abstains_18 (l : Launch) (X : Nat → aw_Kt) (d : Nat) (Q : Option Value → aw_H → Prop) : aw_Kt := o_il 3 (o_al 0 (o_gf 3 0 (o_cv l d m_X2_size 2 0 (o_i3 (fun x y => y ≤ x) (k_X3_abstains_57 l X d Q) (o_al 0 (o_gf 3 1 (o_il 1 (o_al 0 (o_gf 3 0 (o_il 3 (o_cv l d m_X1_wordOn 1 3 (o_cs l d m_X3_isLabel 1 (o_if (fun x => x = 0) (o_ii 2 1 (k_X3_abstains_51 l X d Q)) (k_X3_abstains_51 l X d Q))))))))))))))
theorem t_X3_abstains_18 {l : Launch} {X : Nat → aw_Kt} {d : Nat} {Q : Option Value → aw_H → Prop} : aw_Sn l m_X3_abstains none X d 0 0 Q 18 (k_X3_abstains_18 l X d Q) := by
  unfold k_X3_abstains_18
  exact s_iload_n dX3_abstains_18 rfl (s_aload_n dX3_abstains_19 rfl (s_getf dX3_abstains_20 rfl u_X3 (by decide) w_37 (s_cv dX3_abstains_23 rfl (by decide) w_62 wi_X2_size ws_X2_size w_9 wc_X2_size wd_X2_size (s_icmp_ge dX3_abstains_26 (by decide) t_X3_abstains_57 (s_aload_n dX3_abstains_29 rfl (s_getf dX3_abstains_30 rfl u_X3 (by decide) w_52 (s_iload_n dX3_abstains_33 rfl (s_aload_n dX3_abstains_34 rfl (s_getf dX3_abstains_35 rfl u_X3 (by decide) w_37 (s_iload_n dX3_abstains_38 rfl (s_cv dX3_abstains_39 rfl (by decide) w_61 wi_X1_wordOn ws_X1_wordOn w_53 wc_X1_wordOn wd_X1_wordOn (s_cs dX3_abstains_42 (by decide) w_41 wt_X3_isLabel w_10 wc_X3_isLabel wd_X3_isLabel (s_if_ne dX3_abstains_45 (by decide) (s_iinc dX3_abstains_48 (by decide) (by decide) t_X3_abstains_51) t_X3_abstains_51)))))))))))))
def k_X3_abstains_14 (l : Launch) (X : Nat → aw_Kt) (d : Nat) (Q : Option Value → aw_H → Prop) : aw_Kt := o_ic 0 (o_is 2 (o_ic 0 (o_is 3 (SW l m_X3_abstains none X d 0 0 Q 18))))
theorem t_X3_abstains_14 {l : Launch} {X : Nat → aw_Kt} {d : Nat} {Q : Option Value → aw_H → Prop} : aw_Sn l m_X3_abstains none X d 0 0 Q 14 (k_X3_abstains_14 l X d Q) := by
  unfold k_X3_abstains_14
  exact s_iconst dX3_abstains_14 (by decide) (s_istore_n dX3_abstains_15 rfl (by decide) (s_iconst dX3_abstains_16 (by decide) (s_istore_n dX3_abstains_17 rfl (by decide) s_stop)))
def k_X3_abstains_0 (l : Launch) (X : Nat → aw_Kt) (d : Nat) (Q : Option Value → aw_H → Prop) : aw_Kt := o_al 0 (o_gf 3 1 (o_il 1 (o_cv l d m_X1_hasRule 1 1 (o_if (fun x => x = 0) (o_ic (-101) (o_ri Q)) (k_X3_abstains_14 l X d Q)))))
theorem t_X3_abstains_0 {l : Launch} {X : Nat → aw_Kt} {d : Nat} {Q : Option Value → aw_H → Prop} : aw_Sn l m_X3_abstains none X d 0 0 Q 0 (k_X3_abstains_0 l X d Q) := by
  unfold k_X3_abstains_0
  exact s_aload_n dX3_abstains_0 rfl (s_getf dX3_abstains_1 rfl u_X3 (by decide) w_52 (s_iload_n dX3_abstains_4 rfl (s_cv dX3_abstains_5 rfl (by decide) w_58 wi_X1_hasRule ws_X1_hasRule w_53 wc_X1_hasRule wd_X1_hasRule (s_if_ne dX3_abstains_8 (by decide) (s_bipush dX3_abstains_11 (by decide) (s_iret dX3_abstains_13 rfl)) t_X3_abstains_14))))
/-! X3_votes -/
def k_X3_votes_24 (l : Launch) (X : Nat → aw_Kt) (d : Nat) (Q : Option Value → aw_H → Prop) : aw_Kt := o_al 0 (o_il 1 (o_cv l d m_X3_countVotes 3 1 (o_al 0 (o_gf 3 6 (o_il 2 (o_ia 0 (o_ri Q)))))))
theorem t_X3_votes_24 {l : Launch} {X : Nat → aw_Kt} {d : Nat} {Q : Option Value → aw_H → Prop} : aw_Sn l m_X3_votes none X d 0 0 Q 24 (k_X3_votes_24 l X d Q) := by
  unfold k_X3_votes_24
  exact s_aload_n dX3_votes_24 rfl (s_iload_n dX3_votes_25 rfl (s_cv dX3_votes_26 rfl (by decide) w_64 wi_X3_countVotes ws_X3_countVotes w_10 wc_X3_countVotes wd_X3_countVotes (s_aload_n dX3_votes_29 rfl (s_getf dX3_votes_30 rfl u_X3 (by decide) w_63 (s_iload_n dX3_votes_33 rfl (s_iaload dX3_votes_34 (s_iret dX3_votes_35 rfl)))))))
def k_X3_votes_14 (l : Launch) (X : Nat → aw_Kt) (d : Nat) (Q : Option Value → aw_H → Prop) : aw_Kt := o_il 2 (o_cs l d m_X3_isLabel 1 (o_if (fun x => x = 0) (o_ic (-102) (o_ri Q)) (k_X3_votes_24 l X d Q)))
theorem t_X3_votes_14 {l : Launch} {X : Nat → aw_Kt} {d : Nat} {Q : Option Value → aw_H → Prop} : aw_Sn l m_X3_votes none X d 0 0 Q 14 (k_X3_votes_14 l X d Q) := by
  unfold k_X3_votes_14
  exact s_iload_n dX3_votes_14 rfl (s_cs dX3_votes_15 (by decide) w_41 wt_X3_isLabel w_10 wc_X3_isLabel wd_X3_isLabel (s_if_ne dX3_votes_18 (by decide) (s_bipush dX3_votes_21 (by decide) (s_iret dX3_votes_23 rfl)) t_X3_votes_24))
def k_X3_votes_0 (l : Launch) (X : Nat → aw_Kt) (d : Nat) (Q : Option Value → aw_H → Prop) : aw_Kt := o_al 0 (o_gf 3 0 (o_il 1 (o_cv l d m_X2_hasRow 2 1 (o_if (fun x => x = 0) (o_ic (-101) (o_ri Q)) (k_X3_votes_14 l X d Q)))))
theorem t_X3_votes_0 {l : Launch} {X : Nat → aw_Kt} {d : Nat} {Q : Option Value → aw_H → Prop} : aw_Sn l m_X3_votes none X d 0 0 Q 0 (k_X3_votes_0 l X d Q) := by
  unfold k_X3_votes_0
  exact s_aload_n dX3_votes_0 rfl (s_getf dX3_votes_1 rfl u_X3 (by decide) w_37 (s_iload_n dX3_votes_4 rfl (s_cv dX3_votes_5 rfl (by decide) w_42 wi_X2_hasRow ws_X2_hasRow w_9 wc_X2_hasRow wd_X2_hasRow (s_if_ne dX3_votes_8 (by decide) (s_bipush dX3_votes_11 (by decide) (s_iret dX3_votes_13 rfl)) t_X3_votes_14))))
/-! X3_decided -/
def k_X3_decided_14 (l : Launch) (X : Nat → aw_Kt) (d : Nat) (Q : Option Value → aw_H → Prop) : aw_Kt := o_al 0 (o_il 1 (o_cv l d m_X3_decide 3 1 (o_ri Q)))
theorem t_X3_decided_14 {l : Launch} {X : Nat → aw_Kt} {d : Nat} {Q : Option Value → aw_H → Prop} : aw_Sn l m_X3_decided none X d 0 0 Q 14 (k_X3_decided_14 l X d Q) := by
  unfold k_X3_decided_14
  exact s_aload_n dX3_decided_14 rfl (s_iload_n dX3_decided_15 rfl (s_cv dX3_decided_16 rfl (by decide) w_65 wi_X3_decide ws_X3_decide w_10 wc_X3_decide wd_X3_decide (s_iret dX3_decided_19 rfl)))
def k_X3_decided_0 (l : Launch) (X : Nat → aw_Kt) (d : Nat) (Q : Option Value → aw_H → Prop) : aw_Kt := o_al 0 (o_gf 3 0 (o_il 1 (o_cv l d m_X2_hasRow 2 1 (o_if (fun x => x = 0) (o_ic (-101) (o_ri Q)) (k_X3_decided_14 l X d Q)))))
theorem t_X3_decided_0 {l : Launch} {X : Nat → aw_Kt} {d : Nat} {Q : Option Value → aw_H → Prop} : aw_Sn l m_X3_decided none X d 0 0 Q 0 (k_X3_decided_0 l X d Q) := by
  unfold k_X3_decided_0
  exact s_aload_n dX3_decided_0 rfl (s_getf dX3_decided_1 rfl u_X3 (by decide) w_37 (s_iload_n dX3_decided_4 rfl (s_cv dX3_decided_5 rfl (by decide) w_42 wi_X2_hasRow ws_X2_hasRow w_9 wc_X2_hasRow wd_X2_hasRow (s_if_ne dX3_decided_8 (by decide) (s_bipush dX3_decided_11 (by decide) (s_iret dX3_decided_13 rfl)) t_X3_decided_14))))
/-! X3_learn -/
def k_X3_learn_45 (l : Launch) (X : Nat → aw_Kt) (d : Nat) (Q : Option Value → aw_H → Prop) : aw_Kt := o_al 0 (o_cv l d m_X3_learnRound 3 0 (o_px (o_il 1 (o_ri Q))))
theorem t_X3_learn_45 {l : Launch} {X : Nat → aw_Kt} {d : Nat} {Q : Option Value → aw_H → Prop} : aw_Sn l m_X3_learn none X d 0 0 Q 45 (k_X3_learn_45 l X d Q) := by
  unfold k_X3_learn_45
  exact s_aload_n dX3_learn_45 rfl (s_cv dX3_learn_46 rfl (by decide) w_66 wi_X3_learnRound ws_X3_learnRound w_10 wc_X3_learnRound wd_X3_learnRound (s_pop dX3_learn_49 (s_iload_n dX3_learn_50 rfl (s_iret dX3_learn_51 rfl))))
def k_X3_learn_39 (l : Launch) (X : Nat → aw_Kt) (d : Nat) (Q : Option Value → aw_H → Prop) : aw_Kt := o_ii 2 1 (SW l m_X3_learn none X d 0 0 Q 25)
theorem t_X3_learn_39 {l : Launch} {X : Nat → aw_Kt} {d : Nat} {Q : Option Value → aw_H → Prop} : aw_Sn l m_X3_learn none X d 0 0 Q 39 (k_X3_learn_39 l X d Q) := by
  unfold k_X3_learn_39
  exact s_iinc dX3_learn_39 (by decide) (by decide) (s_goto dX3_learn_42 (by decide) s_stop)
def k_X3_learn_25 (l : Launch) (X : Nat → aw_Kt) (d : Nat) (Q : Option Value → aw_H → Prop) : aw_Kt := o_il 2 (o_il 1 (o_i3 (fun x y => y ≤ x) (k_X3_learn_45 l X d Q) (o_al 0 (o_cv l d m_X3_learnRound 3 0 (o_if (fun x => x = 0) (o_il 2 (o_ri Q)) (k_X3_learn_39 l X d Q))))))
theorem t_X3_learn_25 {l : Launch} {X : Nat → aw_Kt} {d : Nat} {Q : Option Value → aw_H → Prop} : aw_Sn l m_X3_learn none X d 0 0 Q 25 (k_X3_learn_25 l X d Q) := by
  unfold k_X3_learn_25
  exact s_iload_n dX3_learn_25 rfl (s_iload_n dX3_learn_26 rfl (s_icmp_ge dX3_learn_27 (by decide) t_X3_learn_45 (s_aload_n dX3_learn_30 rfl (s_cv dX3_learn_31 rfl (by decide) w_66 wi_X3_learnRound ws_X3_learnRound w_10 wc_X3_learnRound wd_X3_learnRound (s_if_ne dX3_learn_34 (by decide) (s_iload_n dX3_learn_37 rfl (s_iret dX3_learn_38 rfl)) t_X3_learn_39)))))
def k_X3_learn_14 (l : Launch) (X : Nat → aw_Kt) (d : Nat) (Q : Option Value → aw_H → Prop) : aw_Kt := o_al 0 (o_gf 3 4 (o_ic 10 (o_cs l d m_J7_fill_53178 2 (o_ic 1 (o_is 2 (SW l m_X3_learn none X d 0 0 Q 25))))))
theorem t_X3_learn_14 {l : Launch} {X : Nat → aw_Kt} {d : Nat} {Q : Option Value → aw_H → Prop} : aw_Sn l m_X3_learn none X d 0 0 Q 14 (k_X3_learn_14 l X d Q) := by
  unfold k_X3_learn_14
  exact s_aload_n dX3_learn_14 rfl (s_getf dX3_learn_15 rfl u_X3 (by decide) w_51 (s_bipush dX3_learn_18 (by decide) (s_cs dX3_learn_20 (by decide) w_67 wt_J7_fill_53178 w_13 wc_J7_fill_53178 wd_J7_fill_53178 (s_iconst dX3_learn_23 (by decide) (s_istore_n dX3_learn_24 rfl (by decide) s_stop)))))
def k_X3_learn_11 (l : Launch) (X : Nat → aw_Kt) (d : Nat) (Q : Option Value → aw_H → Prop) : aw_Kt := o_ic (-102) (o_ri Q)
theorem t_X3_learn_11 {l : Launch} {X : Nat → aw_Kt} {d : Nat} {Q : Option Value → aw_H → Prop} : aw_Sn l m_X3_learn none X d 0 0 Q 11 (k_X3_learn_11 l X d Q) := by
  unfold k_X3_learn_11
  exact s_bipush dX3_learn_11 (by decide) (s_iret dX3_learn_13 rfl)
def k_X3_learn_0 (l : Launch) (X : Nat → aw_Kt) (d : Nat) (Q : Option Value → aw_H → Prop) : aw_Kt := o_il 1 (o_ic 1 (o_i3 (fun x y => x < y) (k_X3_learn_11 l X d Q) (o_il 1 (o_ic 20 (o_i3 (fun x y => x ≤ y) (k_X3_learn_14 l X d Q) (k_X3_learn_11 l X d Q))))))
theorem t_X3_learn_0 {l : Launch} {X : Nat → aw_Kt} {d : Nat} {Q : Option Value → aw_H → Prop} : aw_Sn l m_X3_learn none X d 0 0 Q 0 (k_X3_learn_0 l X d Q) := by
  unfold k_X3_learn_0
  exact s_iload_n dX3_learn_0 rfl (s_iconst dX3_learn_1 (by decide) (s_icmp_lt dX3_learn_2 (by decide) t_X3_learn_11 (s_iload_n dX3_learn_5 rfl (s_bipush dX3_learn_6 (by decide) (s_icmp_le dX3_learn_8 (by decide) t_X3_learn_14 t_X3_learn_11)))))
/-! X3_agree -/
def k_X3_agree_48 (l : Launch) (X : Nat → aw_Kt) (d : Nat) (Q : Option Value → aw_H → Prop) : aw_Kt := o_al 0 (o_gf 3 2 (o_al 0 (o_gf 3 0 (o_il 1 (o_il 2 (o_cv l d m_X0_measureTwo 0 3 (o_al 0 (o_il 3 (o_cv l d m_X3_partOfAgreement 3 1 (o_rl Q))))))))))
theorem t_X3_agree_48 {l : Launch} {X : Nat → aw_Kt} {d : Nat} {Q : Option Value → aw_H → Prop} : aw_Sn l m_X3_agree none X d 0 0 Q 48 (k_X3_agree_48 l X d Q) := by
  unfold k_X3_agree_48
  exact s_aload_n dX3_agree_48 rfl (s_getf dX3_agree_49 rfl u_X3 (by decide) w_68 (s_aload_n dX3_agree_52 rfl (s_getf dX3_agree_53 rfl u_X3 (by decide) w_37 (s_iload_n dX3_agree_56 rfl (s_iload_n dX3_agree_57 rfl (s_cv dX3_agree_58 rfl (by decide) w_70 wi_X0_measureTwo ws_X0_measureTwo w_6 wc_X0_measureTwo wd_X0_measureTwo (s_aload_n dX3_agree_61 rfl (s_iload_n dX3_agree_62 rfl (s_cv dX3_agree_63 rfl (by decide) w_69 wi_X3_partOfAgreement ws_X3_partOfAgreement w_10 wc_X3_partOfAgreement wd_X3_partOfAgreement (s_lret dX3_agree_66 rfl))))))))))
def k_X3_agree_29 (l : Launch) (X : Nat → aw_Kt) (d : Nat) (Q : Option Value → aw_H → Prop) : aw_Kt := o_il 3 (o_if (fun x => x < 0) (SW l m_X3_agree none X d 0 0 Q 38) (o_il 3 (o_ic 4 (o_i3 (fun x y => x < y) (k_X3_agree_48 l X d Q) (SW l m_X3_agree none X d 0 0 Q 38)))))
theorem t_X3_agree_29 {l : Launch} {X : Nat → aw_Kt} {d : Nat} {Q : Option Value → aw_H → Prop} : aw_Sn l m_X3_agree none X d 0 0 Q 29 (k_X3_agree_29 l X d Q) := by
  unfold k_X3_agree_29
  exact s_iload_n dX3_agree_29 rfl (s_if_lt dX3_agree_30 (by decide) s_stop (s_iload_n dX3_agree_33 rfl (s_iconst dX3_agree_34 (by decide) (s_icmp_lt dX3_agree_35 (by decide) t_X3_agree_48 s_stop))))
def k_X3_agree_0 (l : Launch) (X : Nat → aw_Kt) (d : Nat) (Q : Option Value → aw_H → Prop) : aw_Kt := o_il 1 (o_cs l d m_X3_isPerson 1 (o_if (fun x => x = 0) (SW l m_X3_agree none X d 0 0 Q 19) (o_il 2 (o_cs l d m_X3_isPerson 1 (o_if (fun x => x = 0) (SW l m_X3_agree none X d 0 0 Q 19) (o_il 1 (o_il 2 (o_i3 (fun x y => x = y) (SW l m_X3_agree none X d 0 0 Q 19) (k_X3_agree_29 l X d Q)))))))))
theorem t_X3_agree_0 {l : Launch} {X : Nat → aw_Kt} {d : Nat} {Q : Option Value → aw_H → Prop} : aw_Sn l m_X3_agree none X d 0 0 Q 0 (k_X3_agree_0 l X d Q) := by
  unfold k_X3_agree_0
  exact s_iload_n dX3_agree_0 rfl (s_cs dX3_agree_1 (by decide) w_43 wt_X3_isPerson w_10 wc_X3_isPerson wd_X3_isPerson (s_if_eq dX3_agree_4 (by decide) s_stop (s_iload_n dX3_agree_7 rfl (s_cs dX3_agree_8 (by decide) w_43 wt_X3_isPerson w_10 wc_X3_isPerson wd_X3_isPerson (s_if_eq dX3_agree_11 (by decide) s_stop (s_iload_n dX3_agree_14 rfl (s_iload_n dX3_agree_15 rfl (s_icmp_ne dX3_agree_16 (by decide) s_stop t_X3_agree_29))))))))
/-! X3_all -/
def k_X3_all_19 (l : Launch) (X : Nat → aw_Kt) (d : Nat) (Q : Option Value → aw_H → Prop) : aw_Kt := o_al 0 (o_gf 3 2 (o_al 0 (o_gf 3 0 (o_cv l d m_X0_measureAll 0 1 (o_al 0 (o_il 1 (o_cv l d m_X3_partOfAgreement 3 1 (o_rl Q))))))))
theorem t_X3_all_19 {l : Launch} {X : Nat → aw_Kt} {d : Nat} {Q : Option Value → aw_H → Prop} : aw_Sn l m_X3_all none X d 0 0 Q 19 (k_X3_all_19 l X d Q) := by
  unfold k_X3_all_19
  exact s_aload_n dX3_all_19 rfl (s_getf dX3_all_20 rfl u_X3 (by decide) w_68 (s_aload_n dX3_all_23 rfl (s_getf dX3_all_24 rfl u_X3 (by decide) w_37 (s_cv dX3_all_27 rfl (by decide) w_71 wi_X0_measureAll ws_X0_measureAll w_6 wc_X0_measureAll wd_X0_measureAll (s_aload_n dX3_all_30 rfl (s_iload_n dX3_all_31 rfl (s_cv dX3_all_32 rfl (by decide) w_69 wi_X3_partOfAgreement ws_X3_partOfAgreement w_10 wc_X3_partOfAgreement wd_X3_partOfAgreement (s_lret dX3_all_35 rfl))))))))
def k_X3_all_0 (l : Launch) (X : Nat → aw_Kt) (d : Nat) (Q : Option Value → aw_H → Prop) : aw_Kt := o_il 1 (o_if (fun x => x < 0) (SW l m_X3_all none X d 0 0 Q 9) (o_il 1 (o_ic 4 (o_i3 (fun x y => x < y) (k_X3_all_19 l X d Q) (SW l m_X3_all none X d 0 0 Q 9)))))
theorem t_X3_all_0 {l : Launch} {X : Nat → aw_Kt} {d : Nat} {Q : Option Value → aw_H → Prop} : aw_Sn l m_X3_all none X d 0 0 Q 0 (k_X3_all_0 l X d Q) := by
  unfold k_X3_all_0
  exact s_iload_n dX3_all_0 rfl (s_if_lt dX3_all_1 (by decide) s_stop (s_iload_n dX3_all_4 rfl (s_iconst dX3_all_5 (by decide) (s_icmp_lt dX3_all_6 (by decide) t_X3_all_19 s_stop))))
/-! X3_next -/
def k_X3_next_135 (l : Launch) (X : Nat → aw_Kt) (d : Nat) (Q : Option Value → aw_H → Prop) : aw_Kt := o_il 2 (o_ri Q)
theorem t_X3_next_135 {l : Launch} {X : Nat → aw_Kt} {d : Nat} {Q : Option Value → aw_H → Prop} : aw_Sn l m_X3_next none X d 0 0 Q 135 (k_X3_next_135 l X d Q) := by
  unfold k_X3_next_135
  exact s_iload_n dX3_next_135 rfl (s_iret dX3_next_136 rfl)
def k_X3_next_129 (l : Launch) (X : Nat → aw_Kt) (d : Nat) (Q : Option Value → aw_H → Prop) : aw_Kt := o_ii 5 1 (SW l m_X3_next none X d 0 0 Q 30)
theorem t_X3_next_129 {l : Launch} {X : Nat → aw_Kt} {d : Nat} {Q : Option Value → aw_H → Prop} : aw_Sn l m_X3_next none X d 0 0 Q 129 (k_X3_next_129 l X d Q) := by
  unfold k_X3_next_129
  exact s_iinc dX3_next_129 (by decide) (by decide) (s_goto dX3_next_132 (by decide) s_stop)
def k_X3_next_119 (l : Launch) (X : Nat → aw_Kt) (d : Nat) (Q : Option Value → aw_H → Prop) : aw_Kt := o_il 5 (o_is 2 (o_il 6 (o_is 3 (o_il 7 (o_is 4 (k_X3_next_129 l X d Q))))))
theorem t_X3_next_119 {l : Launch} {X : Nat → aw_Kt} {d : Nat} {Q : Option Value → aw_H → Prop} : aw_Sn l m_X3_next none X d 0 0 Q 119 (k_X3_next_119 l X d Q) := by
  unfold k_X3_next_119
  exact s_iload dX3_next_119 (s_istore_n dX3_next_121 rfl (by decide) (s_iload dX3_next_122 (s_istore_n dX3_next_124 rfl (by decide) (s_iload dX3_next_125 (s_istore dX3_next_127 (by decide) t_X3_next_129)))))
def k_X3_next_72 (l : Launch) (X : Nat → aw_Kt) (d : Nat) (Q : Option Value → aw_H → Prop) : aw_Kt := o_al 0 (o_il 5 (o_cv l d m_X3_countVotes 3 1 (o_al 0 (o_cv l d m_X3_leadInTally 3 0 (o_is 6 (o_al 0 (o_gf 3 0 (o_il 5 (o_cv l d m_X2_givenOn 2 1 (o_is 7 (o_il 2 (o_ic (-1) (o_i3 (fun x y => x = y) (k_X3_next_119 l X d Q) (o_il 6 (o_il 3 (o_i3 (fun x y => x < y) (k_X3_next_119 l X d Q) (o_il 6 (o_il 3 (o_i3 (fun x y => x = y) (o_il 7 (o_il 4 (o_i3 (fun x y => y ≤ x) (k_X3_next_129 l X d Q) (k_X3_next_119 l X d Q)))) (k_X3_next_129 l X d Q))))))))))))))))))))
theorem t_X3_next_72 {l : Launch} {X : Nat → aw_Kt} {d : Nat} {Q : Option Value → aw_H → Prop} : aw_Sn l m_X3_next none X d 0 0 Q 72 (k_X3_next_72 l X d Q) := by
  unfold k_X3_next_72
  exact s_aload_n dX3_next_72 rfl (s_iload dX3_next_73 (s_cv dX3_next_75 rfl (by decide) w_64 wi_X3_countVotes ws_X3_countVotes w_10 wc_X3_countVotes wd_X3_countVotes (s_aload_n dX3_next_78 rfl (s_cv dX3_next_79 rfl (by decide) w_73 wi_X3_leadInTally ws_X3_leadInTally w_10 wc_X3_leadInTally wd_X3_leadInTally (s_istore dX3_next_82 (by decide) (s_aload_n dX3_next_84 rfl (s_getf dX3_next_85 rfl u_X3 (by decide) w_37 (s_iload dX3_next_88 (s_cv dX3_next_90 rfl (by decide) w_72 wi_X2_givenOn ws_X2_givenOn w_9 wc_X2_givenOn wd_X2_givenOn (s_istore dX3_next_93 (by decide) (s_iload_n dX3_next_95 rfl (s_iconst dX3_next_96 (by decide) (s_icmp_eq dX3_next_97 (by decide) t_X3_next_119 (s_iload dX3_next_100 (s_iload_n dX3_next_102 rfl (s_icmp_lt dX3_next_103 (by decide) t_X3_next_119 (s_iload dX3_next_106 (s_iload_n dX3_next_108 rfl (s_icmp_ne dX3_next_109 (by decide) (s_iload dX3_next_112 (s_iload dX3_next_114 (s_icmp_ge dX3_next_116 (by decide) t_X3_next_129 t_X3_next_119))) t_X3_next_129)))))))))))))))))))
def k_X3_next_30 (l : Launch) (X : Nat → aw_Kt) (d : Nat) (Q : Option Value → aw_H → Prop) : aw_Kt := o_il 5 (o_al 0 (o_gf 3 0 (o_cv l d m_X2_size 2 0 (o_i3 (fun x y => y ≤ x) (k_X3_next_135 l X d Q) (o_al 0 (o_gf 3 0 (o_il 1 (o_il 5 (o_cv l d m_X2_given 2 2 (o_ic (-1) (o_i3 (fun x y => x = y) (o_al 0 (o_gf 3 0 (o_il 5 (o_cv l d m_X2_known 2 1 (o_ic (-1) (o_i3 (fun x y => x = y) (k_X3_next_72 l X d Q) (k_X3_next_129 l X d Q))))))) (k_X3_next_129 l X d Q))))))))))))
theorem t_X3_next_30 {l : Launch} {X : Nat → aw_Kt} {d : Nat} {Q : Option Value → aw_H → Prop} : aw_Sn l m_X3_next none X d 0 0 Q 30 (k_X3_next_30 l X d Q) := by
  unfold k_X3_next_30
  exact s_iload dX3_next_30 (s_aload_n dX3_next_32 rfl (s_getf dX3_next_33 rfl u_X3 (by decide) w_37 (s_cv dX3_next_36 rfl (by decide) w_62 wi_X2_size ws_X2_size w_9 wc_X2_size wd_X2_size (s_icmp_ge dX3_next_39 (by decide) t_X3_next_135 (s_aload_n dX3_next_42 rfl (s_getf dX3_next_43 rfl u_X3 (by decide) w_37 (s_iload_n dX3_next_46 rfl (s_iload dX3_next_47 (s_cv dX3_next_49 rfl (by decide) w_40 wi_X2_given ws_X2_given w_9 wc_X2_given wd_X2_given (s_iconst dX3_next_52 (by decide) (s_icmp_ne dX3_next_53 (by decide) (s_aload_n dX3_next_56 rfl (s_getf dX3_next_57 rfl u_X3 (by decide) w_37 (s_iload dX3_next_60 (s_cv dX3_next_62 rfl (by decide) w_45 wi_X2_known ws_X2_known w_9 wc_X2_known wd_X2_known (s_iconst dX3_next_65 (by decide) (s_icmp_eq dX3_next_66 (by decide) t_X3_next_72 (s_goto dX3_next_69 (by decide) t_X3_next_129))))))) t_X3_next_129)))))))))))
def k_X3_next_20 (l : Launch) (X : Nat → aw_Kt) (d : Nat) (Q : Option Value → aw_H → Prop) : aw_Kt := o_ic (-1) (o_is 2 (o_ic 0 (o_is 3 (o_ic 0 (o_is 4 (o_ic 0 (o_is 5 (SW l m_X3_next none X d 0 0 Q 30))))))))
theorem t_X3_next_20 {l : Launch} {X : Nat → aw_Kt} {d : Nat} {Q : Option Value → aw_H → Prop} : aw_Sn l m_X3_next none X d 0 0 Q 20 (k_X3_next_20 l X d Q) := by
  unfold k_X3_next_20
  exact s_iconst dX3_next_20 (by decide) (s_istore_n dX3_next_21 rfl (by decide) (s_iconst dX3_next_22 (by decide) (s_istore_n dX3_next_23 rfl (by decide) (s_iconst dX3_next_24 (by decide) (s_istore dX3_next_25 (by decide) (s_iconst dX3_next_27 (by decide) (s_istore dX3_next_28 (by decide) s_stop)))))))
def k_X3_next_10 (l : Launch) (X : Nat → aw_Kt) (d : Nat) (Q : Option Value → aw_H → Prop) : aw_Kt := o_al 0 (o_il 1 (o_cv l d m_X3_isBarred 3 1 (o_if (fun x => x = 0) (k_X3_next_20 l X d Q) (o_ic (-1) (o_ri Q)))))
theorem t_X3_next_10 {l : Launch} {X : Nat → aw_Kt} {d : Nat} {Q : Option Value → aw_H → Prop} : aw_Sn l m_X3_next none X d 0 0 Q 10 (k_X3_next_10 l X d Q) := by
  unfold k_X3_next_10
  exact s_aload_n dX3_next_10 rfl (s_iload_n dX3_next_11 rfl (s_cv dX3_next_12 rfl (by decide) w_49 wi_X3_isBarred ws_X3_isBarred w_10 wc_X3_isBarred wd_X3_isBarred (s_if_eq dX3_next_15 (by decide) t_X3_next_20 (s_iconst dX3_next_18 (by decide) (s_iret dX3_next_19 rfl)))))
def k_X3_next_0 (l : Launch) (X : Nat → aw_Kt) (d : Nat) (Q : Option Value → aw_H → Prop) : aw_Kt := o_il 1 (o_cs l d m_X3_isPerson 1 (o_if (fun x => x = 0) (o_ic (-101) (o_ri Q)) (k_X3_next_10 l X d Q)))
theorem t_X3_next_0 {l : Launch} {X : Nat → aw_Kt} {d : Nat} {Q : Option Value → aw_H → Prop} : aw_Sn l m_X3_next none X d 0 0 Q 0 (k_X3_next_0 l X d Q) := by
  unfold k_X3_next_0
  exact s_iload_n dX3_next_0 rfl (s_cs dX3_next_1 (by decide) w_43 wt_X3_isPerson w_10 wc_X3_isPerson wd_X3_isPerson (s_if_ne dX3_next_4 (by decide) (s_bipush dX3_next_7 (by decide) (s_iret dX3_next_9 rfl)) t_X3_next_10))
/-! X3_about -/
def k_X3_about_97 (l : Launch) (X : Nat → aw_Kt) (d : Nat) (Q : Option Value → aw_H → Prop) : aw_Kt := o_ic (-102) (o_ri Q)
theorem t_X3_about_97 {l : Launch} {X : Nat → aw_Kt} {d : Nat} {Q : Option Value → aw_H → Prop} : aw_Sn l m_X3_about none X d 0 0 Q 97 (k_X3_about_97 l X d Q) := by
  unfold k_X3_about_97
  exact s_bipush dX3_about_97 (by decide) (s_iret dX3_about_99 rfl)
def k_X3_about_92 (l : Launch) (X : Nat → aw_Kt) (d : Nat) (Q : Option Value → aw_H → Prop) : aw_Kt := o_al 0 (o_cv l d m_X3_countDisputed 3 0 (o_ri Q))
theorem t_X3_about_92 {l : Launch} {X : Nat → aw_Kt} {d : Nat} {Q : Option Value → aw_H → Prop} : aw_Sn l m_X3_about none X d 0 0 Q 92 (k_X3_about_92 l X d Q) := by
  unfold k_X3_about_92
  exact s_aload_n dX3_about_92 rfl (s_cv dX3_about_93 rfl (by decide) w_74 wi_X3_countDisputed ws_X3_countDisputed w_10 wc_X3_countDisputed wd_X3_countDisputed (s_iret dX3_about_96 rfl))
def k_X3_about_87 (l : Launch) (X : Nat → aw_Kt) (d : Nat) (Q : Option Value → aw_H → Prop) : aw_Kt := o_al 0 (o_cv l d m_X3_countBarred 3 0 (o_ri Q))
theorem t_X3_about_87 {l : Launch} {X : Nat → aw_Kt} {d : Nat} {Q : Option Value → aw_H → Prop} : aw_Sn l m_X3_about none X d 0 0 Q 87 (k_X3_about_87 l X d Q) := by
  unfold k_X3_about_87
  exact s_aload_n dX3_about_87 rfl (s_cv dX3_about_88 rfl (by decide) w_75 wi_X3_countBarred ws_X3_countBarred w_10 wc_X3_countBarred wd_X3_countBarred (s_iret dX3_about_91 rfl))
def k_X3_about_82 (l : Launch) (X : Nat → aw_Kt) (d : Nat) (Q : Option Value → aw_H → Prop) : aw_Kt := o_al 0 (o_gf 3 5 (o_ri Q))
theorem t_X3_about_82 {l : Launch} {X : Nat → aw_Kt} {d : Nat} {Q : Option Value → aw_H → Prop} : aw_Sn l m_X3_about none X d 0 0 Q 82 (k_X3_about_82 l X d Q) := by
  unfold k_X3_about_82
  exact s_aload_n dX3_about_82 rfl (s_getf dX3_about_83 rfl u_X3 (by decide) w_46 (s_iret dX3_about_86 rfl))
def k_X3_about_74 (l : Launch) (X : Nat → aw_Kt) (d : Nat) (Q : Option Value → aw_H → Prop) : aw_Kt := o_al 0 (o_gf 3 0 (o_cv l d m_X2_countKnown 2 0 (o_ri Q)))
theorem t_X3_about_74 {l : Launch} {X : Nat → aw_Kt} {d : Nat} {Q : Option Value → aw_H → Prop} : aw_Sn l m_X3_about none X d 0 0 Q 74 (k_X3_about_74 l X d Q) := by
  unfold k_X3_about_74
  exact s_aload_n dX3_about_74 rfl (s_getf dX3_about_75 rfl u_X3 (by decide) w_37 (s_cv dX3_about_78 rfl (by decide) w_76 wi_X2_countKnown ws_X2_countKnown w_9 wc_X2_countKnown wd_X2_countKnown (s_iret dX3_about_81 rfl)))
def k_X3_about_69 (l : Launch) (X : Nat → aw_Kt) (d : Nat) (Q : Option Value → aw_H → Prop) : aw_Kt := o_al 0 (o_cv l d m_X3_countDecided 3 0 (o_ri Q))
theorem t_X3_about_69 {l : Launch} {X : Nat → aw_Kt} {d : Nat} {Q : Option Value → aw_H → Prop} : aw_Sn l m_X3_about none X d 0 0 Q 69 (k_X3_about_69 l X d Q) := by
  unfold k_X3_about_69
  exact s_aload_n dX3_about_69 rfl (s_cv dX3_about_70 rfl (by decide) w_77 wi_X3_countDecided ws_X3_countDecided w_10 wc_X3_countDecided wd_X3_countDecided (s_iret dX3_about_73 rfl))
def k_X3_about_61 (l : Launch) (X : Nat → aw_Kt) (d : Nat) (Q : Option Value → aw_H → Prop) : aw_Kt := o_al 0 (o_gf 3 1 (o_cv l d m_X1_size 1 0 (o_ri Q)))
theorem t_X3_about_61 {l : Launch} {X : Nat → aw_Kt} {d : Nat} {Q : Option Value → aw_H → Prop} : aw_Sn l m_X3_about none X d 0 0 Q 61 (k_X3_about_61 l X d Q) := by
  unfold k_X3_about_61
  exact s_aload_n dX3_about_61 rfl (s_getf dX3_about_62 rfl u_X3 (by decide) w_52 (s_cv dX3_about_65 rfl (by decide) w_78 wi_X1_size ws_X1_size w_53 wc_X1_size wd_X1_size (s_iret dX3_about_68 rfl)))
def k_X3_about_56 (l : Launch) (X : Nat → aw_Kt) (d : Nat) (Q : Option Value → aw_H → Prop) : aw_Kt := o_al 0 (o_cv l d m_X3_countLabellings 3 0 (o_ri Q))
theorem t_X3_about_56 {l : Launch} {X : Nat → aw_Kt} {d : Nat} {Q : Option Value → aw_H → Prop} : aw_Sn l m_X3_about none X d 0 0 Q 56 (k_X3_about_56 l X d Q) := by
  unfold k_X3_about_56
  exact s_aload_n dX3_about_56 rfl (s_cv dX3_about_57 rfl (by decide) w_79 wi_X3_countLabellings ws_X3_countLabellings w_10 wc_X3_countLabellings wd_X3_countLabellings (s_iret dX3_about_60 rfl))
def k_X3_about_48 (l : Launch) (X : Nat → aw_Kt) (d : Nat) (Q : Option Value → aw_H → Prop) : aw_Kt := o_al 0 (o_gf 3 0 (o_cv l d m_X2_size 2 0 (o_ri Q)))
theorem t_X3_about_48 {l : Launch} {X : Nat → aw_Kt} {d : Nat} {Q : Option Value → aw_H → Prop} : aw_Sn l m_X3_about none X d 0 0 Q 48 (k_X3_about_48 l X d Q) := by
  unfold k_X3_about_48
  exact s_aload_n dX3_about_48 rfl (s_getf dX3_about_49 rfl u_X3 (by decide) w_37 (s_cv dX3_about_52 rfl (by decide) w_62 wi_X2_size ws_X2_size w_9 wc_X2_size wd_X2_size (s_iret dX3_about_55 rfl)))
def k_X3_about_0 (l : Launch) (X : Nat → aw_Kt) (d : Nat) (Q : Option Value → aw_H → Prop) : aw_Kt := o_il 1 (o_ts 0 7 [(k_X3_about_48 l X d Q), (k_X3_about_56 l X d Q), (k_X3_about_61 l X d Q), (k_X3_about_69 l X d Q), (k_X3_about_74 l X d Q), (k_X3_about_82 l X d Q), (k_X3_about_87 l X d Q), (k_X3_about_92 l X d Q)] (k_X3_about_97 l X d Q))
theorem t_X3_about_0 {l : Launch} {X : Nat → aw_Kt} {d : Nat} {Q : Option Value → aw_H → Prop} : aw_Sn l m_X3_about none X d 0 0 Q 0 (k_X3_about_0 l X d Q) := by
  unfold k_X3_about_0
  exact s_iload_n dX3_about_0 rfl (s_tsw dX3_about_1 (by decide) (by decide) (by decide) t_X3_about_97 ⟨⟨48, by decide, t_X3_about_48⟩, ⟨⟨56, by decide, t_X3_about_56⟩, ⟨⟨61, by decide, t_X3_about_61⟩, ⟨⟨69, by decide, t_X3_about_69⟩, ⟨⟨74, by decide, t_X3_about_74⟩, ⟨⟨82, by decide, t_X3_about_82⟩, ⟨⟨87, by decide, t_X3_about_87⟩, ⟨⟨92, by decide, t_X3_about_92⟩, trivial⟩⟩⟩⟩⟩⟩⟩⟩)
/-! X3_isPerson -/
def k_X3_isPerson_15 (l : Launch) (X : Nat → aw_Kt) (d : Nat) (Q : Option Value → aw_H → Prop) : aw_Kt := o_rz Q
theorem t_X3_isPerson_15 {l : Launch} {X : Nat → aw_Kt} {d : Nat} {Q : Option Value → aw_H → Prop} : aw_Sn l m_X3_isPerson none X d 0 0 Q 15 (k_X3_isPerson_15 l X d Q) := by
  unfold k_X3_isPerson_15
  exact s_zret dX3_isPerson_15 rfl
def k_X3_isPerson_14 (l : Launch) (X : Nat → aw_Kt) (d : Nat) (Q : Option Value → aw_H → Prop) : aw_Kt := o_ic 0 (k_X3_isPerson_15 l X d Q)
theorem t_X3_isPerson_14 {l : Launch} {X : Nat → aw_Kt} {d : Nat} {Q : Option Value → aw_H → Prop} : aw_Sn l m_X3_isPerson none X d 0 0 Q 14 (k_X3_isPerson_14 l X d Q) := by
  unfold k_X3_isPerson_14
  exact s_iconst dX3_isPerson_14 (by decide) t_X3_isPerson_15
def k_X3_isPerson_0 (l : Launch) (X : Nat → aw_Kt) (d : Nat) (Q : Option Value → aw_H → Prop) : aw_Kt := o_il 0 (o_if (fun x => x < 0) (k_X3_isPerson_14 l X d Q) (o_il 0 (o_ic 8 (o_i3 (fun x y => y ≤ x) (k_X3_isPerson_14 l X d Q) (o_ic 1 (k_X3_isPerson_15 l X d Q))))))
theorem t_X3_isPerson_0 {l : Launch} {X : Nat → aw_Kt} {d : Nat} {Q : Option Value → aw_H → Prop} : aw_Sn l m_X3_isPerson none X d 0 0 Q 0 (k_X3_isPerson_0 l X d Q) := by
  unfold k_X3_isPerson_0
  exact s_iload_n dX3_isPerson_0 rfl (s_if_lt dX3_isPerson_1 (by decide) t_X3_isPerson_14 (s_iload_n dX3_isPerson_4 rfl (s_bipush dX3_isPerson_5 (by decide) (s_icmp_ge dX3_isPerson_7 (by decide) t_X3_isPerson_14 (s_iconst dX3_isPerson_10 (by decide) (s_goto dX3_isPerson_11 (by decide) t_X3_isPerson_15))))))
/-! X3_isLabel -/
def k_X3_isLabel_14 (l : Launch) (X : Nat → aw_Kt) (d : Nat) (Q : Option Value → aw_H → Prop) : aw_Kt := o_rz Q
theorem t_X3_isLabel_14 {l : Launch} {X : Nat → aw_Kt} {d : Nat} {Q : Option Value → aw_H → Prop} : aw_Sn l m_X3_isLabel none X d 0 0 Q 14 (k_X3_isLabel_14 l X d Q) := by
  unfold k_X3_isLabel_14
  exact s_zret dX3_isLabel_14 rfl
def k_X3_isLabel_13 (l : Launch) (X : Nat → aw_Kt) (d : Nat) (Q : Option Value → aw_H → Prop) : aw_Kt := o_ic 0 (k_X3_isLabel_14 l X d Q)
theorem t_X3_isLabel_13 {l : Launch} {X : Nat → aw_Kt} {d : Nat} {Q : Option Value → aw_H → Prop} : aw_Sn l m_X3_isLabel none X d 0 0 Q 13 (k_X3_isLabel_13 l X d Q) := by
  unfold k_X3_isLabel_13
  exact s_iconst dX3_isLabel_13 (by decide) t_X3_isLabel_14
def k_X3_isLabel_0 (l : Launch) (X : Nat → aw_Kt) (d : Nat) (Q : Option Value → aw_H → Prop) : aw_Kt := o_il 0 (o_if (fun x => x < 0) (k_X3_isLabel_13 l X d Q) (o_il 0 (o_ic 5 (o_i3 (fun x y => y ≤ x) (k_X3_isLabel_13 l X d Q) (o_ic 1 (k_X3_isLabel_14 l X d Q))))))
theorem t_X3_isLabel_0 {l : Launch} {X : Nat → aw_Kt} {d : Nat} {Q : Option Value → aw_H → Prop} : aw_Sn l m_X3_isLabel none X d 0 0 Q 0 (k_X3_isLabel_0 l X d Q) := by
  unfold k_X3_isLabel_0
  exact s_iload_n dX3_isLabel_0 rfl (s_if_lt dX3_isLabel_1 (by decide) t_X3_isLabel_13 (s_iload_n dX3_isLabel_4 rfl (s_iconst dX3_isLabel_5 (by decide) (s_icmp_ge dX3_isLabel_6 (by decide) t_X3_isLabel_13 (s_iconst dX3_isLabel_9 (by decide) (s_goto dX3_isLabel_10 (by decide) t_X3_isLabel_14))))))
/-! X3_isFeature -/
def k_X3_isFeature_14 (l : Launch) (X : Nat → aw_Kt) (d : Nat) (Q : Option Value → aw_H → Prop) : aw_Kt := o_rz Q
theorem t_X3_isFeature_14 {l : Launch} {X : Nat → aw_Kt} {d : Nat} {Q : Option Value → aw_H → Prop} : aw_Sn l m_X3_isFeature none X d 0 0 Q 14 (k_X3_isFeature_14 l X d Q) := by
  unfold k_X3_isFeature_14
  exact s_zret dX3_isFeature_14 rfl
def k_X3_isFeature_13 (l : Launch) (X : Nat → aw_Kt) (d : Nat) (Q : Option Value → aw_H → Prop) : aw_Kt := o_ic 0 (k_X3_isFeature_14 l X d Q)
theorem t_X3_isFeature_13 {l : Launch} {X : Nat → aw_Kt} {d : Nat} {Q : Option Value → aw_H → Prop} : aw_Sn l m_X3_isFeature none X d 0 0 Q 13 (k_X3_isFeature_13 l X d Q) := by
  unfold k_X3_isFeature_13
  exact s_iconst dX3_isFeature_13 (by decide) t_X3_isFeature_14
def k_X3_isFeature_0 (l : Launch) (X : Nat → aw_Kt) (d : Nat) (Q : Option Value → aw_H → Prop) : aw_Kt := o_il 0 (o_if (fun x => x < 0) (k_X3_isFeature_13 l X d Q) (o_il 0 (o_ic 4 (o_i3 (fun x y => y ≤ x) (k_X3_isFeature_13 l X d Q) (o_ic 1 (k_X3_isFeature_14 l X d Q))))))
theorem t_X3_isFeature_0 {l : Launch} {X : Nat → aw_Kt} {d : Nat} {Q : Option Value → aw_H → Prop} : aw_Sn l m_X3_isFeature none X d 0 0 Q 0 (k_X3_isFeature_0 l X d Q) := by
  unfold k_X3_isFeature_0
  exact s_iload_n dX3_isFeature_0 rfl (s_if_lt dX3_isFeature_1 (by decide) t_X3_isFeature_13 (s_iload_n dX3_isFeature_4 rfl (s_iconst dX3_isFeature_5 (by decide) (s_icmp_ge dX3_isFeature_6 (by decide) t_X3_isFeature_13 (s_iconst dX3_isFeature_9 (by decide) (s_goto dX3_isFeature_10 (by decide) t_X3_isFeature_14))))))
/-! X3_isPlace -/
def k_X3_isPlace_15 (l : Launch) (X : Nat → aw_Kt) (d : Nat) (Q : Option Value → aw_H → Prop) : aw_Kt := o_rz Q
theorem t_X3_isPlace_15 {l : Launch} {X : Nat → aw_Kt} {d : Nat} {Q : Option Value → aw_H → Prop} : aw_Sn l m_X3_isPlace none X d 0 0 Q 15 (k_X3_isPlace_15 l X d Q) := by
  unfold k_X3_isPlace_15
  exact s_zret dX3_isPlace_15 rfl
def k_X3_isPlace_14 (l : Launch) (X : Nat → aw_Kt) (d : Nat) (Q : Option Value → aw_H → Prop) : aw_Kt := o_ic 0 (k_X3_isPlace_15 l X d Q)
theorem t_X3_isPlace_14 {l : Launch} {X : Nat → aw_Kt} {d : Nat} {Q : Option Value → aw_H → Prop} : aw_Sn l m_X3_isPlace none X d 0 0 Q 14 (k_X3_isPlace_14 l X d Q) := by
  unfold k_X3_isPlace_14
  exact s_iconst dX3_isPlace_14 (by decide) t_X3_isPlace_15
def k_X3_isPlace_0 (l : Launch) (X : Nat → aw_Kt) (d : Nat) (Q : Option Value → aw_H → Prop) : aw_Kt := o_il 0 (o_if (fun x => x < 0) (k_X3_isPlace_14 l X d Q) (o_il 0 (o_ic 8 (o_i3 (fun x y => y ≤ x) (k_X3_isPlace_14 l X d Q) (o_ic 1 (k_X3_isPlace_15 l X d Q))))))
theorem t_X3_isPlace_0 {l : Launch} {X : Nat → aw_Kt} {d : Nat} {Q : Option Value → aw_H → Prop} : aw_Sn l m_X3_isPlace none X d 0 0 Q 0 (k_X3_isPlace_0 l X d Q) := by
  unfold k_X3_isPlace_0
  exact s_iload_n dX3_isPlace_0 rfl (s_if_lt dX3_isPlace_1 (by decide) t_X3_isPlace_14 (s_iload_n dX3_isPlace_4 rfl (s_bipush dX3_isPlace_5 (by decide) (s_icmp_ge dX3_isPlace_7 (by decide) t_X3_isPlace_14 (s_iconst dX3_isPlace_10 (by decide) (s_goto dX3_isPlace_11 (by decide) t_X3_isPlace_15))))))
/-! X3_isBarred -/
def k_X3_isBarred_20 (l : Launch) (X : Nat → aw_Kt) (d : Nat) (Q : Option Value → aw_H → Prop) : aw_Kt := o_rz Q
theorem t_X3_isBarred_20 {l : Launch} {X : Nat → aw_Kt} {d : Nat} {Q : Option Value → aw_H → Prop} : aw_Sn l m_X3_isBarred none X d 0 0 Q 20 (k_X3_isBarred_20 l X d Q) := by
  unfold k_X3_isBarred_20
  exact s_zret dX3_isBarred_20 rfl
def k_X3_isBarred_19 (l : Launch) (X : Nat → aw_Kt) (d : Nat) (Q : Option Value → aw_H → Prop) : aw_Kt := o_ic 0 (k_X3_isBarred_20 l X d Q)
theorem t_X3_isBarred_19 {l : Launch} {X : Nat → aw_Kt} {d : Nat} {Q : Option Value → aw_H → Prop} : aw_Sn l m_X3_isBarred none X d 0 0 Q 19 (k_X3_isBarred_19 l X d Q) := by
  unfold k_X3_isBarred_19
  exact s_iconst dX3_isBarred_19 (by decide) t_X3_isBarred_20
def k_X3_isBarred_0 (l : Launch) (X : Nat → aw_Kt) (d : Nat) (Q : Option Value → aw_H → Prop) : aw_Kt := o_al 0 (o_gf 3 0 (o_il 1 (o_cv l d m_X2_wrongOf 2 1 (o_al 0 (o_gf 3 5 (o_i3 (fun x y => x < y) (k_X3_isBarred_19 l X d Q) (o_ic 1 (k_X3_isBarred_20 l X d Q))))))))
theorem t_X3_isBarred_0 {l : Launch} {X : Nat → aw_Kt} {d : Nat} {Q : Option Value → aw_H → Prop} : aw_Sn l m_X3_isBarred none X d 0 0 Q 0 (k_X3_isBarred_0 l X d Q) := by
  unfold k_X3_isBarred_0
  exact s_aload_n dX3_isBarred_0 rfl (s_getf dX3_isBarred_1 rfl u_X3 (by decide) w_37 (s_iload_n dX3_isBarred_4 rfl (s_cv dX3_isBarred_5 rfl (by decide) w_50 wi_X2_wrongOf ws_X2_wrongOf w_9 wc_X2_wrongOf wd_X2_wrongOf (s_aload_n dX3_isBarred_8 rfl (s_getf dX3_isBarred_9 rfl u_X3 (by decide) w_46 (s_icmp_lt dX3_isBarred_12 (by decide) t_X3_isBarred_19 (s_iconst dX3_isBarred_15 (by decide) (s_goto dX3_isBarred_16 (by decide) t_X3_isBarred_20))))))))
/-! X3_countVotes -/
def k_X3_countVotes_127 (l : Launch) (X : Nat → aw_Kt) (d : Nat) (Q : Option Value → aw_H → Prop) : aw_Kt := o_rv Q
theorem t_X3_countVotes_127 {l : Launch} {X : Nat → aw_Kt} {d : Nat} {Q : Option Value → aw_H → Prop} : aw_Sn l m_X3_countVotes none X d 0 0 Q 127 (k_X3_countVotes_127 l X d Q) := by
  unfold k_X3_countVotes_127
  exact s_vret dX3_countVotes_127 rfl
def k_X3_countVotes_121 (l : Launch) (X : Nat → aw_Kt) (d : Nat) (Q : Option Value → aw_H → Prop) : aw_Kt := o_ii 2 1 (SW l m_X3_countVotes none X d 0 0 Q 64)
theorem t_X3_countVotes_121 {l : Launch} {X : Nat → aw_Kt} {d : Nat} {Q : Option Value → aw_H → Prop} : aw_Sn l m_X3_countVotes none X d 0 0 Q 121 (k_X3_countVotes_121 l X d Q) := by
  unfold k_X3_countVotes_121
  exact s_iinc dX3_countVotes_121 (by decide) (by decide) (s_goto dX3_countVotes_124 (by decide) s_stop)
def k_X3_countVotes_103 (l : Launch) (X : Nat → aw_Kt) (d : Nat) (Q : Option Value → aw_H → Prop) : aw_Kt := o_is 3 (o_il 3 (o_cs l d m_X3_isLabel 1 (o_if (fun x => x = 0) (k_X3_countVotes_121 l X d Q) (o_al 0 (o_gf 3 6 (o_il 3 (o_d2 (o_ia 0 (o_ic 1 (o_ib (fun x y => x + y) (o_xa (k_X3_countVotes_121 l X d Q))))))))))))
theorem t_X3_countVotes_103 {l : Launch} {X : Nat → aw_Kt} {d : Nat} {Q : Option Value → aw_H → Prop} : aw_Sn l m_X3_countVotes none X d 0 0 Q 103 (k_X3_countVotes_103 l X d Q) := by
  unfold k_X3_countVotes_103
  exact s_istore_n dX3_countVotes_103 rfl (by decide) (s_iload_n dX3_countVotes_104 rfl (s_cs dX3_countVotes_105 (by decide) w_41 wt_X3_isLabel w_10 wc_X3_isLabel wd_X3_isLabel (s_if_eq dX3_countVotes_108 (by decide) t_X3_countVotes_121 (s_aload_n dX3_countVotes_111 rfl (s_getf dX3_countVotes_112 rfl u_X3 (by decide) w_63 (s_iload_n dX3_countVotes_115 rfl (s_dup2 dX3_countVotes_116 (s_iaload dX3_countVotes_117 (s_iconst dX3_countVotes_118 (by decide) (s_iadd dX3_countVotes_119 (s_iastore dX3_countVotes_120 t_X3_countVotes_121)))))))))))
def k_X3_countVotes_102 (l : Launch) (X : Nat → aw_Kt) (d : Nat) (Q : Option Value → aw_H → Prop) : aw_Kt := o_ic (-1) (k_X3_countVotes_103 l X d Q)
theorem t_X3_countVotes_102 {l : Launch} {X : Nat → aw_Kt} {d : Nat} {Q : Option Value → aw_H → Prop} : aw_Sn l m_X3_countVotes none X d 0 0 Q 102 (k_X3_countVotes_102 l X d Q) := by
  unfold k_X3_countVotes_102
  exact s_iconst dX3_countVotes_102 (by decide) t_X3_countVotes_103
def k_X3_countVotes_64 (l : Launch) (X : Nat → aw_Kt) (d : Nat) (Q : Option Value → aw_H → Prop) : aw_Kt := o_il 2 (o_al 0 (o_gf 3 1 (o_cv l d m_X1_size 1 0 (o_i3 (fun x y => y ≤ x) (k_X3_countVotes_127 l X d Q) (o_al 0 (o_gf 3 1 (o_il 2 (o_cv l d m_X1_isOn 1 1 (o_if (fun x => x = 0) (k_X3_countVotes_102 l X d Q) (o_al 0 (o_gf 3 1 (o_il 2 (o_al 0 (o_gf 3 0 (o_il 1 (o_cv l d m_X1_wordOn 1 3 (k_X3_countVotes_103 l X d Q)))))))))))))))))
theorem t_X3_countVotes_64 {l : Launch} {X : Nat → aw_Kt} {d : Nat} {Q : Option Value → aw_H → Prop} : aw_Sn l m_X3_countVotes none X d 0 0 Q 64 (k_X3_countVotes_64 l X d Q) := by
  unfold k_X3_countVotes_64
  exact s_iload_n dX3_countVotes_64 rfl (s_aload_n dX3_countVotes_65 rfl (s_getf dX3_countVotes_66 rfl u_X3 (by decide) w_52 (s_cv dX3_countVotes_69 rfl (by decide) w_78 wi_X1_size ws_X1_size w_53 wc_X1_size wd_X1_size (s_icmp_ge dX3_countVotes_72 (by decide) t_X3_countVotes_127 (s_aload_n dX3_countVotes_75 rfl (s_getf dX3_countVotes_76 rfl u_X3 (by decide) w_52 (s_iload_n dX3_countVotes_79 rfl (s_cv dX3_countVotes_80 rfl (by decide) w_57 wi_X1_isOn ws_X1_isOn w_53 wc_X1_isOn wd_X1_isOn (s_if_eq dX3_countVotes_83 (by decide) t_X3_countVotes_102 (s_aload_n dX3_countVotes_86 rfl (s_getf dX3_countVotes_87 rfl u_X3 (by decide) w_52 (s_iload_n dX3_countVotes_90 rfl (s_aload_n dX3_countVotes_91 rfl (s_getf dX3_countVotes_92 rfl u_X3 (by decide) w_37 (s_iload_n dX3_countVotes_95 rfl (s_cv dX3_countVotes_96 rfl (by decide) w_61 wi_X1_wordOn ws_X1_wordOn w_53 wc_X1_wordOn wd_X1_wordOn (s_goto dX3_countVotes_99 (by decide) t_X3_countVotes_103)))))))))))))))))
def k_X3_countVotes_62 (l : Launch) (X : Nat → aw_Kt) (d : Nat) (Q : Option Value → aw_H → Prop) : aw_Kt := o_ic 0 (o_is 2 (SW l m_X3_countVotes none X d 0 0 Q 64))
theorem t_X3_countVotes_62 {l : Launch} {X : Nat → aw_Kt} {d : Nat} {Q : Option Value → aw_H → Prop} : aw_Sn l m_X3_countVotes none X d 0 0 Q 62 (k_X3_countVotes_62 l X d Q) := by
  unfold k_X3_countVotes_62
  exact s_iconst dX3_countVotes_62 (by decide) (s_istore_n dX3_countVotes_63 rfl (by decide) s_stop)
def k_X3_countVotes_56 (l : Launch) (X : Nat → aw_Kt) (d : Nat) (Q : Option Value → aw_H → Prop) : aw_Kt := o_ii 2 1 (SW l m_X3_countVotes none X d 0 0 Q 10)
theorem t_X3_countVotes_56 {l : Launch} {X : Nat → aw_Kt} {d : Nat} {Q : Option Value → aw_H → Prop} : aw_Sn l m_X3_countVotes none X d 0 0 Q 56 (k_X3_countVotes_56 l X d Q) := by
  unfold k_X3_countVotes_56
  exact s_iinc dX3_countVotes_56 (by decide) (by decide) (s_goto dX3_countVotes_59 (by decide) s_stop)
def k_X3_countVotes_10 (l : Launch) (X : Nat → aw_Kt) (d : Nat) (Q : Option Value → aw_H → Prop) : aw_Kt := o_il 2 (o_ic 8 (o_i3 (fun x y => y ≤ x) (k_X3_countVotes_62 l X d Q) (o_al 0 (o_gf 3 0 (o_il 2 (o_il 1 (o_cv l d m_X2_given 2 2 (o_is 3 (o_il 3 (o_cs l d m_X3_isLabel 1 (o_if (fun x => x = 0) (k_X3_countVotes_56 l X d Q) (o_al 0 (o_il 2 (o_cv l d m_X3_isBarred 3 1 (o_if (fun x => x = 0) (o_al 0 (o_gf 3 6 (o_il 3 (o_d2 (o_ia 0 (o_al 0 (o_gf 3 4 (o_il 2 (o_ia 0 (o_ib (fun x y => x + y) (o_xa (k_X3_countVotes_56 l X d Q)))))))))))) (k_X3_countVotes_56 l X d Q))))))))))))))))
theorem t_X3_countVotes_10 {l : Launch} {X : Nat → aw_Kt} {d : Nat} {Q : Option Value → aw_H → Prop} : aw_Sn l m_X3_countVotes none X d 0 0 Q 10 (k_X3_countVotes_10 l X d Q) := by
  unfold k_X3_countVotes_10
  exact s_iload_n dX3_countVotes_10 rfl (s_bipush dX3_countVotes_11 (by decide) (s_icmp_ge dX3_countVotes_13 (by decide) t_X3_countVotes_62 (s_aload_n dX3_countVotes_16 rfl (s_getf dX3_countVotes_17 rfl u_X3 (by decide) w_37 (s_iload_n dX3_countVotes_20 rfl (s_iload_n dX3_countVotes_21 rfl (s_cv dX3_countVotes_22 rfl (by decide) w_40 wi_X2_given ws_X2_given w_9 wc_X2_given wd_X2_given (s_istore_n dX3_countVotes_25 rfl (by decide) (s_iload_n dX3_countVotes_26 rfl (s_cs dX3_countVotes_27 (by decide) w_41 wt_X3_isLabel w_10 wc_X3_isLabel wd_X3_isLabel (s_if_eq dX3_countVotes_30 (by decide) t_X3_countVotes_56 (s_aload_n dX3_countVotes_33 rfl (s_iload_n dX3_countVotes_34 rfl (s_cv dX3_countVotes_35 rfl (by decide) w_49 wi_X3_isBarred ws_X3_isBarred w_10 wc_X3_isBarred wd_X3_isBarred (s_if_ne dX3_countVotes_38 (by decide) (s_aload_n dX3_countVotes_41 rfl (s_getf dX3_countVotes_42 rfl u_X3 (by decide) w_63 (s_iload_n dX3_countVotes_45 rfl (s_dup2 dX3_countVotes_46 (s_iaload dX3_countVotes_47 (s_aload_n dX3_countVotes_48 rfl (s_getf dX3_countVotes_49 rfl u_X3 (by decide) w_51 (s_iload_n dX3_countVotes_52 rfl (s_iaload dX3_countVotes_53 (s_iadd dX3_countVotes_54 (s_iastore dX3_countVotes_55 t_X3_countVotes_56))))))))))) t_X3_countVotes_56)))))))))))))))
def k_X3_countVotes_0 (l : Launch) (X : Nat → aw_Kt) (d : Nat) (Q : Option Value → aw_H → Prop) : aw_Kt := o_al 0 (o_gf 3 6 (o_ic 0 (o_cs l d m_J7_fill_53178 2 (o_ic 0 (o_is 2 (SW l m_X3_countVotes none X d 0 0 Q 10))))))
theorem t_X3_countVotes_0 {l : Launch} {X : Nat → aw_Kt} {d : Nat} {Q : Option Value → aw_H → Prop} : aw_Sn l m_X3_countVotes none X d 0 0 Q 0 (k_X3_countVotes_0 l X d Q) := by
  unfold k_X3_countVotes_0
  exact s_aload_n dX3_countVotes_0 rfl (s_getf dX3_countVotes_1 rfl u_X3 (by decide) w_63 (s_iconst dX3_countVotes_4 (by decide) (s_cs dX3_countVotes_5 (by decide) w_67 wt_J7_fill_53178 w_13 wc_J7_fill_53178 wd_J7_fill_53178 (s_iconst dX3_countVotes_8 (by decide) (s_istore_n dX3_countVotes_9 rfl (by decide) s_stop)))))
/-! X3_decide -/
def k_X3_decide_45 (l : Launch) (X : Nat → aw_Kt) (d : Nat) (Q : Option Value → aw_H → Prop) : aw_Kt := o_ri Q
theorem t_X3_decide_45 {l : Launch} {X : Nat → aw_Kt} {d : Nat} {Q : Option Value → aw_H → Prop} : aw_Sn l m_X3_decide none X d 0 0 Q 45 (k_X3_decide_45 l X d Q) := by
  unfold k_X3_decide_45
  exact s_iret dX3_decide_45 rfl
def k_X3_decide_40 (l : Launch) (X : Nat → aw_Kt) (d : Nat) (Q : Option Value → aw_H → Prop) : aw_Kt := o_al 0 (o_il 1 (o_cv l d m_X3_expertOn 3 1 (k_X3_decide_45 l X d Q)))
theorem t_X3_decide_40 {l : Launch} {X : Nat → aw_Kt} {d : Nat} {Q : Option Value → aw_H → Prop} : aw_Sn l m_X3_decide none X d 0 0 Q 40 (k_X3_decide_40 l X d Q) := by
  unfold k_X3_decide_40
  exact s_aload_n dX3_decide_40 rfl (s_iload_n dX3_decide_41 rfl (s_cv dX3_decide_42 rfl (by decide) w_80 wi_X3_expertOn ws_X3_expertOn w_10 wc_X3_expertOn wd_X3_expertOn t_X3_decide_45))
def k_X3_decide_21 (l : Launch) (X : Nat → aw_Kt) (d : Nat) (Q : Option Value → aw_H → Prop) : aw_Kt := o_al 0 (o_il 1 (o_cv l d m_X3_countVotes 3 1 (o_al 0 (o_cv l d m_X3_winnerInTally 3 0 (o_is 2 (o_il 2 (o_ic (-1) (o_i3 (fun x y => x = y) (k_X3_decide_40 l X d Q) (o_il 2 (k_X3_decide_45 l X d Q))))))))))
theorem t_X3_decide_21 {l : Launch} {X : Nat → aw_Kt} {d : Nat} {Q : Option Value → aw_H → Prop} : aw_Sn l m_X3_decide none X d 0 0 Q 21 (k_X3_decide_21 l X d Q) := by
  unfold k_X3_decide_21
  exact s_aload_n dX3_decide_21 rfl (s_iload_n dX3_decide_22 rfl (s_cv dX3_decide_23 rfl (by decide) w_64 wi_X3_countVotes ws_X3_countVotes w_10 wc_X3_countVotes wd_X3_countVotes (s_aload_n dX3_decide_26 rfl (s_cv dX3_decide_27 rfl (by decide) w_81 wi_X3_winnerInTally ws_X3_winnerInTally w_10 wc_X3_winnerInTally wd_X3_winnerInTally (s_istore_n dX3_decide_30 rfl (by decide) (s_iload_n dX3_decide_31 rfl (s_iconst dX3_decide_32 (by decide) (s_icmp_eq dX3_decide_33 (by decide) t_X3_decide_40 (s_iload_n dX3_decide_36 rfl (s_goto dX3_decide_37 (by decide) t_X3_decide_45))))))))))
def k_X3_decide_0 (l : Launch) (X : Nat → aw_Kt) (d : Nat) (Q : Option Value → aw_H → Prop) : aw_Kt := o_al 0 (o_gf 3 0 (o_il 1 (o_cv l d m_X2_known 2 1 (o_ic (-1) (o_i3 (fun x y => x = y) (k_X3_decide_21 l X d Q) (o_al 0 (o_gf 3 0 (o_il 1 (o_cv l d m_X2_known 2 1 (o_ri Q))))))))))
theorem t_X3_decide_0 {l : Launch} {X : Nat → aw_Kt} {d : Nat} {Q : Option Value → aw_H → Prop} : aw_Sn l m_X3_decide none X d 0 0 Q 0 (k_X3_decide_0 l X d Q) := by
  unfold k_X3_decide_0
  exact s_aload_n dX3_decide_0 rfl (s_getf dX3_decide_1 rfl u_X3 (by decide) w_37 (s_iload_n dX3_decide_4 rfl (s_cv dX3_decide_5 rfl (by decide) w_45 wi_X2_known ws_X2_known w_9 wc_X2_known wd_X2_known (s_iconst dX3_decide_8 (by decide) (s_icmp_eq dX3_decide_9 (by decide) t_X3_decide_21 (s_aload_n dX3_decide_12 rfl (s_getf dX3_decide_13 rfl u_X3 (by decide) w_37 (s_iload_n dX3_decide_16 rfl (s_cv dX3_decide_17 rfl (by decide) w_45 wi_X2_known ws_X2_known w_9 wc_X2_known wd_X2_known (s_iret dX3_decide_20 rfl))))))))))
/-! X3_winnerInTally -/
def k_X3_winnerInTally_51 (l : Launch) (X : Nat → aw_Kt) (d : Nat) (Q : Option Value → aw_H → Prop) : aw_Kt := o_il 1 (o_ri Q)
theorem t_X3_winnerInTally_51 {l : Launch} {X : Nat → aw_Kt} {d : Nat} {Q : Option Value → aw_H → Prop} : aw_Sn l m_X3_winnerInTally none X d 0 0 Q 51 (k_X3_winnerInTally_51 l X d Q) := by
  unfold k_X3_winnerInTally_51
  exact s_iload_n dX3_winnerInTally_51 rfl (s_iret dX3_winnerInTally_52 rfl)
def k_X3_winnerInTally_45 (l : Launch) (X : Nat → aw_Kt) (d : Nat) (Q : Option Value → aw_H → Prop) : aw_Kt := o_ii 3 1 (SW l m_X3_winnerInTally none X d 0 0 Q 6)
theorem t_X3_winnerInTally_45 {l : Launch} {X : Nat → aw_Kt} {d : Nat} {Q : Option Value → aw_H → Prop} : aw_Sn l m_X3_winnerInTally none X d 0 0 Q 45 (k_X3_winnerInTally_45 l X d Q) := by
  unfold k_X3_winnerInTally_45
  exact s_iinc dX3_winnerInTally_45 (by decide) (by decide) (s_goto dX3_winnerInTally_48 (by decide) s_stop)
def k_X3_winnerInTally_33 (l : Launch) (X : Nat → aw_Kt) (d : Nat) (Q : Option Value → aw_H → Prop) : aw_Kt := o_al 0 (o_gf 3 6 (o_il 3 (o_ia 0 (o_il 2 (o_i3 (fun x y => x = y) (o_ic (-1) (o_is 1 (k_X3_winnerInTally_45 l X d Q))) (k_X3_winnerInTally_45 l X d Q))))))
theorem t_X3_winnerInTally_33 {l : Launch} {X : Nat → aw_Kt} {d : Nat} {Q : Option Value → aw_H → Prop} : aw_Sn l m_X3_winnerInTally none X d 0 0 Q 33 (k_X3_winnerInTally_33 l X d Q) := by
  unfold k_X3_winnerInTally_33
  exact s_aload_n dX3_winnerInTally_33 rfl (s_getf dX3_winnerInTally_34 rfl u_X3 (by decide) w_63 (s_iload_n dX3_winnerInTally_37 rfl (s_iaload dX3_winnerInTally_38 (s_iload_n dX3_winnerInTally_39 rfl (s_icmp_ne dX3_winnerInTally_40 (by decide) (s_iconst dX3_winnerInTally_43 (by decide) (s_istore_n dX3_winnerInTally_44 rfl (by decide) t_X3_winnerInTally_45)) t_X3_winnerInTally_45)))))
def k_X3_winnerInTally_6 (l : Launch) (X : Nat → aw_Kt) (d : Nat) (Q : Option Value → aw_H → Prop) : aw_Kt := o_il 3 (o_ic 5 (o_i3 (fun x y => y ≤ x) (k_X3_winnerInTally_51 l X d Q) (o_al 0 (o_gf 3 6 (o_il 3 (o_ia 0 (o_il 2 (o_i3 (fun x y => x ≤ y) (k_X3_winnerInTally_33 l X d Q) (o_al 0 (o_gf 3 6 (o_il 3 (o_ia 0 (o_is 2 (o_il 3 (o_is 1 (k_X3_winnerInTally_45 l X d Q))))))))))))))))
theorem t_X3_winnerInTally_6 {l : Launch} {X : Nat → aw_Kt} {d : Nat} {Q : Option Value → aw_H → Prop} : aw_Sn l m_X3_winnerInTally none X d 0 0 Q 6 (k_X3_winnerInTally_6 l X d Q) := by
  unfold k_X3_winnerInTally_6
  exact s_iload_n dX3_winnerInTally_6 rfl (s_iconst dX3_winnerInTally_7 (by decide) (s_icmp_ge dX3_winnerInTally_8 (by decide) t_X3_winnerInTally_51 (s_aload_n dX3_winnerInTally_11 rfl (s_getf dX3_winnerInTally_12 rfl u_X3 (by decide) w_63 (s_iload_n dX3_winnerInTally_15 rfl (s_iaload dX3_winnerInTally_16 (s_iload_n dX3_winnerInTally_17 rfl (s_icmp_le dX3_winnerInTally_18 (by decide) t_X3_winnerInTally_33 (s_aload_n dX3_winnerInTally_21 rfl (s_getf dX3_winnerInTally_22 rfl u_X3 (by decide) w_63 (s_iload_n dX3_winnerInTally_25 rfl (s_iaload dX3_winnerInTally_26 (s_istore_n dX3_winnerInTally_27 rfl (by decide) (s_iload_n dX3_winnerInTally_28 rfl (s_istore_n dX3_winnerInTally_29 rfl (by decide) (s_goto dX3_winnerInTally_30 (by decide) t_X3_winnerInTally_45))))))))))))))))
def k_X3_winnerInTally_0 (l : Launch) (X : Nat → aw_Kt) (d : Nat) (Q : Option Value → aw_H → Prop) : aw_Kt := o_ic (-1) (o_is 1 (o_ic 0 (o_is 2 (o_ic 0 (o_is 3 (SW l m_X3_winnerInTally none X d 0 0 Q 6))))))
theorem t_X3_winnerInTally_0 {l : Launch} {X : Nat → aw_Kt} {d : Nat} {Q : Option Value → aw_H → Prop} : aw_Sn l m_X3_winnerInTally none X d 0 0 Q 0 (k_X3_winnerInTally_0 l X d Q) := by
  unfold k_X3_winnerInTally_0
  exact s_iconst dX3_winnerInTally_0 (by decide) (s_istore_n dX3_winnerInTally_1 rfl (by decide) (s_iconst dX3_winnerInTally_2 (by decide) (s_istore_n dX3_winnerInTally_3 rfl (by decide) (s_iconst dX3_winnerInTally_4 (by decide) (s_istore_n dX3_winnerInTally_5 rfl (by decide) s_stop)))))
/-! X3_expertOn -/
def k_X3_expertOn_48 (l : Launch) (X : Nat → aw_Kt) (d : Nat) (Q : Option Value → aw_H → Prop) : aw_Kt := o_ic (-1) (o_ri Q)
theorem t_X3_expertOn_48 {l : Launch} {X : Nat → aw_Kt} {d : Nat} {Q : Option Value → aw_H → Prop} : aw_Sn l m_X3_expertOn none X d 0 0 Q 48 (k_X3_expertOn_48 l X d Q) := by
  unfold k_X3_expertOn_48
  exact s_iconst dX3_expertOn_48 (by decide) (s_iret dX3_expertOn_49 rfl)
def k_X3_expertOn_42 (l : Launch) (X : Nat → aw_Kt) (d : Nat) (Q : Option Value → aw_H → Prop) : aw_Kt := o_ii 2 1 (SW l m_X3_expertOn none X d 0 0 Q 2)
theorem t_X3_expertOn_42 {l : Launch} {X : Nat → aw_Kt} {d : Nat} {Q : Option Value → aw_H → Prop} : aw_Sn l m_X3_expertOn none X d 0 0 Q 42 (k_X3_expertOn_42 l X d Q) := by
  unfold k_X3_expertOn_42
  exact s_iinc dX3_expertOn_42 (by decide) (by decide) (s_goto dX3_expertOn_45 (by decide) s_stop)
def k_X3_expertOn_2 (l : Launch) (X : Nat → aw_Kt) (d : Nat) (Q : Option Value → aw_H → Prop) : aw_Kt := o_il 2 (o_ic 8 (o_i3 (fun x y => y ≤ x) (k_X3_expertOn_48 l X d Q) (o_al 0 (o_gf 3 0 (o_il 2 (o_il 1 (o_cv l d m_X2_given 2 2 (o_is 3 (o_al 0 (o_gf 3 3 (o_il 2 (o_ia 1 (o_if (fun x => x = 0) (k_X3_expertOn_42 l X d Q) (o_il 3 (o_ic (-1) (o_i3 (fun x y => x = y) (k_X3_expertOn_42 l X d Q) (o_al 0 (o_il 2 (o_cv l d m_X3_isBarred 3 1 (o_if (fun x => x = 0) (o_il 3 (o_ri Q)) (k_X3_expertOn_42 l X d Q)))))))))))))))))))))
theorem t_X3_expertOn_2 {l : Launch} {X : Nat → aw_Kt} {d : Nat} {Q : Option Value → aw_H → Prop} : aw_Sn l m_X3_expertOn none X d 0 0 Q 2 (k_X3_expertOn_2 l X d Q) := by
  unfold k_X3_expertOn_2
  exact s_iload_n dX3_expertOn_2 rfl (s_bipush dX3_expertOn_3 (by decide) (s_icmp_ge dX3_expertOn_5 (by decide) t_X3_expertOn_48 (s_aload_n dX3_expertOn_8 rfl (s_getf dX3_expertOn_9 rfl u_X3 (by decide) w_37 (s_iload_n dX3_expertOn_12 rfl (s_iload_n dX3_expertOn_13 rfl (s_cv dX3_expertOn_14 rfl (by decide) w_40 wi_X2_given ws_X2_given w_9 wc_X2_given wd_X2_given (s_istore_n dX3_expertOn_17 rfl (by decide) (s_aload_n dX3_expertOn_18 rfl (s_getf dX3_expertOn_19 rfl u_X3 (by decide) w_47 (s_iload_n dX3_expertOn_22 rfl (s_baload dX3_expertOn_23 (s_if_eq dX3_expertOn_24 (by decide) t_X3_expertOn_42 (s_iload_n dX3_expertOn_27 rfl (s_iconst dX3_expertOn_28 (by decide) (s_icmp_eq dX3_expertOn_29 (by decide) t_X3_expertOn_42 (s_aload_n dX3_expertOn_32 rfl (s_iload_n dX3_expertOn_33 rfl (s_cv dX3_expertOn_34 rfl (by decide) w_49 wi_X3_isBarred ws_X3_isBarred w_10 wc_X3_isBarred wd_X3_isBarred (s_if_ne dX3_expertOn_37 (by decide) (s_iload_n dX3_expertOn_40 rfl (s_iret dX3_expertOn_41 rfl)) t_X3_expertOn_42))))))))))))))))))))
def k_X3_expertOn_0 (l : Launch) (X : Nat → aw_Kt) (d : Nat) (Q : Option Value → aw_H → Prop) : aw_Kt := o_ic 0 (o_is 2 (SW l m_X3_expertOn none X d 0 0 Q 2))
theorem t_X3_expertOn_0 {l : Launch} {X : Nat → aw_Kt} {d : Nat} {Q : Option Value → aw_H → Prop} : aw_Sn l m_X3_expertOn none X d 0 0 Q 0 (k_X3_expertOn_0 l X d Q) := by
  unfold k_X3_expertOn_0
  exact s_iconst dX3_expertOn_0 (by decide) (s_istore_n dX3_expertOn_1 rfl (by decide) s_stop)
/-! X3_leadInTally -/
def k_X3_leadInTally_56 (l : Launch) (X : Nat → aw_Kt) (d : Nat) (Q : Option Value → aw_H → Prop) : aw_Kt := o_il 1 (o_il 2 (o_ib (fun x y => x - y) (o_ri Q)))
theorem t_X3_leadInTally_56 {l : Launch} {X : Nat → aw_Kt} {d : Nat} {Q : Option Value → aw_H → Prop} : aw_Sn l m_X3_leadInTally none X d 0 0 Q 56 (k_X3_leadInTally_56 l X d Q) := by
  unfold k_X3_leadInTally_56
  exact s_iload_n dX3_leadInTally_56 rfl (s_iload_n dX3_leadInTally_57 rfl (s_isub dX3_leadInTally_58 (s_iret dX3_leadInTally_59 rfl)))
def k_X3_leadInTally_50 (l : Launch) (X : Nat → aw_Kt) (d : Nat) (Q : Option Value → aw_H → Prop) : aw_Kt := o_ii 3 1 (SW l m_X3_leadInTally none X d 0 0 Q 6)
theorem t_X3_leadInTally_50 {l : Launch} {X : Nat → aw_Kt} {d : Nat} {Q : Option Value → aw_H → Prop} : aw_Sn l m_X3_leadInTally none X d 0 0 Q 50 (k_X3_leadInTally_50 l X d Q) := by
  unfold k_X3_leadInTally_50
  exact s_iinc dX3_leadInTally_50 (by decide) (by decide) (s_goto dX3_leadInTally_53 (by decide) s_stop)
def k_X3_leadInTally_33 (l : Launch) (X : Nat → aw_Kt) (d : Nat) (Q : Option Value → aw_H → Prop) : aw_Kt := o_al 0 (o_gf 3 6 (o_il 3 (o_ia 0 (o_il 2 (o_i3 (fun x y => x ≤ y) (k_X3_leadInTally_50 l X d Q) (o_al 0 (o_gf 3 6 (o_il 3 (o_ia 0 (o_is 2 (k_X3_leadInTally_50 l X d Q)))))))))))
theorem t_X3_leadInTally_33 {l : Launch} {X : Nat → aw_Kt} {d : Nat} {Q : Option Value → aw_H → Prop} : aw_Sn l m_X3_leadInTally none X d 0 0 Q 33 (k_X3_leadInTally_33 l X d Q) := by
  unfold k_X3_leadInTally_33
  exact s_aload_n dX3_leadInTally_33 rfl (s_getf dX3_leadInTally_34 rfl u_X3 (by decide) w_63 (s_iload_n dX3_leadInTally_37 rfl (s_iaload dX3_leadInTally_38 (s_iload_n dX3_leadInTally_39 rfl (s_icmp_le dX3_leadInTally_40 (by decide) t_X3_leadInTally_50 (s_aload_n dX3_leadInTally_43 rfl (s_getf dX3_leadInTally_44 rfl u_X3 (by decide) w_63 (s_iload_n dX3_leadInTally_47 rfl (s_iaload dX3_leadInTally_48 (s_istore_n dX3_leadInTally_49 rfl (by decide) t_X3_leadInTally_50))))))))))
def k_X3_leadInTally_6 (l : Launch) (X : Nat → aw_Kt) (d : Nat) (Q : Option Value → aw_H → Prop) : aw_Kt := o_il 3 (o_ic 5 (o_i3 (fun x y => y ≤ x) (k_X3_leadInTally_56 l X d Q) (o_al 0 (o_gf 3 6 (o_il 3 (o_ia 0 (o_il 1 (o_i3 (fun x y => x ≤ y) (k_X3_leadInTally_33 l X d Q) (o_il 1 (o_is 2 (o_al 0 (o_gf 3 6 (o_il 3 (o_ia 0 (o_is 1 (k_X3_leadInTally_50 l X d Q))))))))))))))))
theorem t_X3_leadInTally_6 {l : Launch} {X : Nat → aw_Kt} {d : Nat} {Q : Option Value → aw_H → Prop} : aw_Sn l m_X3_leadInTally none X d 0 0 Q 6 (k_X3_leadInTally_6 l X d Q) := by
  unfold k_X3_leadInTally_6
  exact s_iload_n dX3_leadInTally_6 rfl (s_iconst dX3_leadInTally_7 (by decide) (s_icmp_ge dX3_leadInTally_8 (by decide) t_X3_leadInTally_56 (s_aload_n dX3_leadInTally_11 rfl (s_getf dX3_leadInTally_12 rfl u_X3 (by decide) w_63 (s_iload_n dX3_leadInTally_15 rfl (s_iaload dX3_leadInTally_16 (s_iload_n dX3_leadInTally_17 rfl (s_icmp_le dX3_leadInTally_18 (by decide) t_X3_leadInTally_33 (s_iload_n dX3_leadInTally_21 rfl (s_istore_n dX3_leadInTally_22 rfl (by decide) (s_aload_n dX3_leadInTally_23 rfl (s_getf dX3_leadInTally_24 rfl u_X3 (by decide) w_63 (s_iload_n dX3_leadInTally_27 rfl (s_iaload dX3_leadInTally_28 (s_istore_n dX3_leadInTally_29 rfl (by decide) (s_goto dX3_leadInTally_30 (by decide) t_X3_leadInTally_50))))))))))))))))
def k_X3_leadInTally_0 (l : Launch) (X : Nat → aw_Kt) (d : Nat) (Q : Option Value → aw_H → Prop) : aw_Kt := o_ic 0 (o_is 1 (o_ic 0 (o_is 2 (o_ic 0 (o_is 3 (SW l m_X3_leadInTally none X d 0 0 Q 6))))))
theorem t_X3_leadInTally_0 {l : Launch} {X : Nat → aw_Kt} {d : Nat} {Q : Option Value → aw_H → Prop} : aw_Sn l m_X3_leadInTally none X d 0 0 Q 0 (k_X3_leadInTally_0 l X d Q) := by
  unfold k_X3_leadInTally_0
  exact s_iconst dX3_leadInTally_0 (by decide) (s_istore_n dX3_leadInTally_1 rfl (by decide) (s_iconst dX3_leadInTally_2 (by decide) (s_istore_n dX3_leadInTally_3 rfl (by decide) (s_iconst dX3_leadInTally_4 (by decide) (s_istore_n dX3_leadInTally_5 rfl (by decide) s_stop)))))
/-! X3_learnRound -/
def k_X3_learnRound_80 (l : Launch) (X : Nat → aw_Kt) (d : Nat) (Q : Option Value → aw_H → Prop) : aw_Kt := o_al 0 (o_gf 3 8 (o_ic 0 (o_al 0 (o_gf 3 4 (o_ic 0 (o_ic 8 (o_cp d (o_il 1 (o_rz Q)))))))))
theorem t_X3_learnRound_80 {l : Launch} {X : Nat → aw_Kt} {d : Nat} {Q : Option Value → aw_H → Prop} : aw_Sn l m_X3_learnRound none X d 0 0 Q 80 (k_X3_learnRound_80 l X d Q) := by
  unfold k_X3_learnRound_80
  exact s_aload_n dX3_learnRound_80 rfl (s_getf dX3_learnRound_81 rfl u_X3 (by decide) w_82 (s_iconst dX3_learnRound_84 (by decide) (s_aload_n dX3_learnRound_85 rfl (s_getf dX3_learnRound_86 rfl u_X3 (by decide) w_51 (s_iconst dX3_learnRound_89 (by decide) (s_bipush dX3_learnRound_90 (by decide) (s_copy dX3_learnRound_92 w_83 w_84 w_85 w_86 (s_iload_n dX3_learnRound_95 rfl (s_zret dX3_learnRound_96 rfl)))))))))
def k_X3_learnRound_72 (l : Launch) (X : Nat → aw_Kt) (d : Nat) (Q : Option Value → aw_H → Prop) : aw_Kt := o_ib (fun x y => x ||| y) (o_is 1 (o_ii 2 1 (SW l m_X3_learnRound none X d 0 0 Q 34)))
theorem t_X3_learnRound_72 {l : Launch} {X : Nat → aw_Kt} {d : Nat} {Q : Option Value → aw_H → Prop} : aw_Sn l m_X3_learnRound none X d 0 0 Q 72 (k_X3_learnRound_72 l X d Q) := by
  unfold k_X3_learnRound_72
  exact s_ior dX3_learnRound_72 (s_istore_n dX3_learnRound_73 rfl (by decide) (s_iinc dX3_learnRound_74 (by decide) (by decide) (s_goto dX3_learnRound_77 (by decide) s_stop)))
def k_X3_learnRound_71 (l : Launch) (X : Nat → aw_Kt) (d : Nat) (Q : Option Value → aw_H → Prop) : aw_Kt := o_ic 0 (k_X3_learnRound_72 l X d Q)
theorem t_X3_learnRound_71 {l : Launch} {X : Nat → aw_Kt} {d : Nat} {Q : Option Value → aw_H → Prop} : aw_Sn l m_X3_learnRound none X d 0 0 Q 71 (k_X3_learnRound_71 l X d Q) := by
  unfold k_X3_learnRound_71
  exact s_iconst dX3_learnRound_71 (by decide) t_X3_learnRound_72
def k_X3_learnRound_34 (l : Launch) (X : Nat → aw_Kt) (d : Nat) (Q : Option Value → aw_H → Prop) : aw_Kt := o_il 2 (o_ic 8 (o_i3 (fun x y => y ≤ x) (k_X3_learnRound_80 l X d Q) (o_al 0 (o_gf 3 8 (o_il 2 (o_al 0 (o_il 2 (o_cv l d m_X3_earnedTrust 3 1 (o_xa (o_il 1 (o_al 0 (o_gf 3 8 (o_il 2 (o_ia 0 (o_al 0 (o_gf 3 4 (o_il 2 (o_ia 0 (o_i3 (fun x y => x = y) (k_X3_learnRound_71 l X d Q) (o_ic 1 (k_X3_learnRound_72 l X d Q)))))))))))))))))))))
theorem t_X3_learnRound_34 {l : Launch} {X : Nat → aw_Kt} {d : Nat} {Q : Option Value → aw_H → Prop} : aw_Sn l m_X3_learnRound none X d 0 0 Q 34 (k_X3_learnRound_34 l X d Q) := by
  unfold k_X3_learnRound_34
  exact s_iload_n dX3_learnRound_34 rfl (s_bipush dX3_learnRound_35 (by decide) (s_icmp_ge dX3_learnRound_37 (by decide) t_X3_learnRound_80 (s_aload_n dX3_learnRound_40 rfl (s_getf dX3_learnRound_41 rfl u_X3 (by decide) w_82 (s_iload_n dX3_learnRound_44 rfl (s_aload_n dX3_learnRound_45 rfl (s_iload_n dX3_learnRound_46 rfl (s_cv dX3_learnRound_47 rfl (by decide) w_87 wi_X3_earnedTrust ws_X3_earnedTrust w_10 wc_X3_earnedTrust wd_X3_earnedTrust (s_iastore dX3_learnRound_50 (s_iload_n dX3_learnRound_51 rfl (s_aload_n dX3_learnRound_52 rfl (s_getf dX3_learnRound_53 rfl u_X3 (by decide) w_82 (s_iload_n dX3_learnRound_56 rfl (s_iaload dX3_learnRound_57 (s_aload_n dX3_learnRound_58 rfl (s_getf dX3_learnRound_59 rfl u_X3 (by decide) w_51 (s_iload_n dX3_learnRound_62 rfl (s_iaload dX3_learnRound_63 (s_icmp_eq dX3_learnRound_64 (by decide) t_X3_learnRound_71 (s_iconst dX3_learnRound_67 (by decide) (s_goto dX3_learnRound_68 (by decide) t_X3_learnRound_72)))))))))))))))))))))
def k_X3_learnRound_30 (l : Launch) (X : Nat → aw_Kt) (d : Nat) (Q : Option Value → aw_H → Prop) : aw_Kt := o_ic 0 (o_is 1 (o_ic 0 (o_is 2 (SW l m_X3_learnRound none X d 0 0 Q 34))))
theorem t_X3_learnRound_30 {l : Launch} {X : Nat → aw_Kt} {d : Nat} {Q : Option Value → aw_H → Prop} : aw_Sn l m_X3_learnRound none X d 0 0 Q 30 (k_X3_learnRound_30 l X d Q) := by
  unfold k_X3_learnRound_30
  exact s_iconst dX3_learnRound_30 (by decide) (s_istore_n dX3_learnRound_31 rfl (by decide) (s_iconst dX3_learnRound_32 (by decide) (s_istore_n dX3_learnRound_33 rfl (by decide) s_stop)))
def k_X3_learnRound_2 (l : Launch) (X : Nat → aw_Kt) (d : Nat) (Q : Option Value → aw_H → Prop) : aw_Kt := o_il 1 (o_al 0 (o_gf 3 0 (o_cv l d m_X2_size 2 0 (o_i3 (fun x y => y ≤ x) (k_X3_learnRound_30 l X d Q) (o_al 0 (o_gf 3 7 (o_il 1 (o_al 0 (o_il 1 (o_cv l d m_X3_decide 3 1 (o_xa (o_ii 1 1 (SW l m_X3_learnRound none X d 0 0 Q 2)))))))))))))
theorem t_X3_learnRound_2 {l : Launch} {X : Nat → aw_Kt} {d : Nat} {Q : Option Value → aw_H → Prop} : aw_Sn l m_X3_learnRound none X d 0 0 Q 2 (k_X3_learnRound_2 l X d Q) := by
  unfold k_X3_learnRound_2
  exact s_iload_n dX3_learnRound_2 rfl (s_aload_n dX3_learnRound_3 rfl (s_getf dX3_learnRound_4 rfl u_X3 (by decide) w_37 (s_cv dX3_learnRound_7 rfl (by decide) w_62 wi_X2_size ws_X2_size w_9 wc_X2_size wd_X2_size (s_icmp_ge dX3_learnRound_10 (by decide) t_X3_learnRound_30 (s_aload_n dX3_learnRound_13 rfl (s_getf dX3_learnRound_14 rfl u_X3 (by decide) w_88 (s_iload_n dX3_learnRound_17 rfl (s_aload_n dX3_learnRound_18 rfl (s_iload_n dX3_learnRound_19 rfl (s_cv dX3_learnRound_20 rfl (by decide) w_65 wi_X3_decide ws_X3_decide w_10 wc_X3_decide wd_X3_decide (s_iastore dX3_learnRound_23 (s_iinc dX3_learnRound_24 (by decide) (by decide) (s_goto dX3_learnRound_27 (by decide) s_stop)))))))))))))
def k_X3_learnRound_0 (l : Launch) (X : Nat → aw_Kt) (d : Nat) (Q : Option Value → aw_H → Prop) : aw_Kt := o_ic 0 (o_is 1 (SW l m_X3_learnRound none X d 0 0 Q 2))
theorem t_X3_learnRound_0 {l : Launch} {X : Nat → aw_Kt} {d : Nat} {Q : Option Value → aw_H → Prop} : aw_Sn l m_X3_learnRound none X d 0 0 Q 0 (k_X3_learnRound_0 l X d Q) := by
  unfold k_X3_learnRound_0
  exact s_iconst dX3_learnRound_0 (by decide) (s_istore_n dX3_learnRound_1 rfl (by decide) s_stop)
/-! X3_earnedTrust -/
def k_X3_earnedTrust_91 (l : Launch) (X : Nat → aw_Kt) (d : Nat) (Q : Option Value → aw_H → Prop) : aw_Kt := o_ri Q
theorem t_X3_earnedTrust_91 {l : Launch} {X : Nat → aw_Kt} {d : Nat} {Q : Option Value → aw_H → Prop} : aw_Sn l m_X3_earnedTrust none X d 0 0 Q 91 (k_X3_earnedTrust_91 l X d Q) := by
  unfold k_X3_earnedTrust_91
  exact s_iret dX3_earnedTrust_91 rfl
def k_X3_earnedTrust_83 (l : Launch) (X : Nat → aw_Kt) (d : Nat) (Q : Option Value → aw_H → Prop) : aw_Kt := o_ic 1 (o_ic 9 (o_il 3 (o_ib (fun x y => x * y) (o_il 2 (o_dv (o_ib (fun x y => x + y) (k_X3_earnedTrust_91 l X d Q)))))))
theorem t_X3_earnedTrust_83 {l : Launch} {X : Nat → aw_Kt} {d : Nat} {Q : Option Value → aw_H → Prop} : aw_Sn l m_X3_earnedTrust none X d 0 0 Q 83 (k_X3_earnedTrust_83 l X d Q) := by
  unfold k_X3_earnedTrust_83
  exact s_iconst dX3_earnedTrust_83 (by decide) (s_bipush dX3_earnedTrust_84 (by decide) (s_iload_n dX3_earnedTrust_86 rfl (s_imul dX3_earnedTrust_87 (s_iload_n dX3_earnedTrust_88 rfl (s_idiv dX3_earnedTrust_89 (s_iadd dX3_earnedTrust_90 t_X3_earnedTrust_91))))))
def k_X3_earnedTrust_75 (l : Launch) (X : Nat → aw_Kt) (d : Nat) (Q : Option Value → aw_H → Prop) : aw_Kt := o_il 2 (o_if (fun x => x = 0) (o_ic 1 (k_X3_earnedTrust_91 l X d Q)) (k_X3_earnedTrust_83 l X d Q))
theorem t_X3_earnedTrust_75 {l : Launch} {X : Nat → aw_Kt} {d : Nat} {Q : Option Value → aw_H → Prop} : aw_Sn l m_X3_earnedTrust none X d 0 0 Q 75 (k_X3_earnedTrust_75 l X d Q) := by
  unfold k_X3_earnedTrust_75
  exact s_iload_n dX3_earnedTrust_75 rfl (s_if_ne dX3_earnedTrust_76 (by decide) (s_iconst dX3_earnedTrust_79 (by decide) (s_goto dX3_earnedTrust_80 (by decide) t_X3_earnedTrust_91)) t_X3_earnedTrust_83)
def k_X3_earnedTrust_69 (l : Launch) (X : Nat → aw_Kt) (d : Nat) (Q : Option Value → aw_H → Prop) : aw_Kt := o_ii 4 1 (SW l m_X3_earnedTrust none X d 0 0 Q 7)
theorem t_X3_earnedTrust_69 {l : Launch} {X : Nat → aw_Kt} {d : Nat} {Q : Option Value → aw_H → Prop} : aw_Sn l m_X3_earnedTrust none X d 0 0 Q 69 (k_X3_earnedTrust_69 l X d Q) := by
  unfold k_X3_earnedTrust_69
  exact s_iinc dX3_earnedTrust_69 (by decide) (by decide) (s_goto dX3_earnedTrust_72 (by decide) s_stop)
def k_X3_earnedTrust_51 (l : Launch) (X : Nat → aw_Kt) (d : Nat) (Q : Option Value → aw_H → Prop) : aw_Kt := o_ii 2 1 (o_il 5 (o_al 0 (o_gf 3 7 (o_il 4 (o_ia 0 (o_i3 (fun x y => x = y) (o_ii 3 1 (k_X3_earnedTrust_69 l X d Q)) (k_X3_earnedTrust_69 l X d Q)))))))
theorem t_X3_earnedTrust_51 {l : Launch} {X : Nat → aw_Kt} {d : Nat} {Q : Option Value → aw_H → Prop} : aw_Sn l m_X3_earnedTrust none X d 0 0 Q 51 (k_X3_earnedTrust_51 l X d Q) := by
  unfold k_X3_earnedTrust_51
  exact s_iinc dX3_earnedTrust_51 (by decide) (by decide) (s_iload dX3_earnedTrust_54 (s_aload_n dX3_earnedTrust_56 rfl (s_getf dX3_earnedTrust_57 rfl u_X3 (by decide) w_88 (s_iload dX3_earnedTrust_60 (s_iaload dX3_earnedTrust_62 (s_icmp_ne dX3_earnedTrust_63 (by decide) (s_iinc dX3_earnedTrust_66 (by decide) (by decide) t_X3_earnedTrust_69) t_X3_earnedTrust_69))))))
def k_X3_earnedTrust_7 (l : Launch) (X : Nat → aw_Kt) (d : Nat) (Q : Option Value → aw_H → Prop) : aw_Kt := o_il 4 (o_al 0 (o_gf 3 0 (o_cv l d m_X2_size 2 0 (o_i3 (fun x y => y ≤ x) (k_X3_earnedTrust_75 l X d Q) (o_al 0 (o_gf 3 0 (o_il 1 (o_il 4 (o_cv l d m_X2_given 2 2 (o_is 5 (o_il 5 (o_ic (-1) (o_i3 (fun x y => x = y) (k_X3_earnedTrust_69 l X d Q) (o_al 0 (o_gf 3 7 (o_il 4 (o_ia 0 (o_ic (-1) (o_i3 (fun x y => x = y) (k_X3_earnedTrust_69 l X d Q) (k_X3_earnedTrust_51 l X d Q))))))))))))))))))))
theorem t_X3_earnedTrust_7 {l : Launch} {X : Nat → aw_Kt} {d : Nat} {Q : Option Value → aw_H → Prop} : aw_Sn l m_X3_earnedTrust none X d 0 0 Q 7 (k_X3_earnedTrust_7 l X d Q) := by
  unfold k_X3_earnedTrust_7
  exact s_iload dX3_earnedTrust_7 (s_aload_n dX3_earnedTrust_9 rfl (s_getf dX3_earnedTrust_10 rfl u_X3 (by decide) w_37 (s_cv dX3_earnedTrust_13 rfl (by decide) w_62 wi_X2_size ws_X2_size w_9 wc_X2_size wd_X2_size (s_icmp_ge dX3_earnedTrust_16 (by decide) t_X3_earnedTrust_75 (s_aload_n dX3_earnedTrust_19 rfl (s_getf dX3_earnedTrust_20 rfl u_X3 (by decide) w_37 (s_iload_n dX3_earnedTrust_23 rfl (s_iload dX3_earnedTrust_24 (s_cv dX3_earnedTrust_26 rfl (by decide) w_40 wi_X2_given ws_X2_given w_9 wc_X2_given wd_X2_given (s_istore dX3_earnedTrust_29 (by decide) (s_iload dX3_earnedTrust_31 (s_iconst dX3_earnedTrust_33 (by decide) (s_icmp_eq dX3_earnedTrust_34 (by decide) t_X3_earnedTrust_69 (s_aload_n dX3_earnedTrust_37 rfl (s_getf dX3_earnedTrust_38 rfl u_X3 (by decide) w_88 (s_iload dX3_earnedTrust_41 (s_iaload dX3_earnedTrust_43 (s_iconst dX3_earnedTrust_44 (by decide) (s_icmp_ne dX3_earnedTrust_45 (by decide) (s_goto dX3_earnedTrust_48 (by decide) t_X3_earnedTrust_69) t_X3_earnedTrust_51)))))))))))))))))))
def k_X3_earnedTrust_0 (l : Launch) (X : Nat → aw_Kt) (d : Nat) (Q : Option Value → aw_H → Prop) : aw_Kt := o_ic 0 (o_is 2 (o_ic 0 (o_is 3 (o_ic 0 (o_is 4 (SW l m_X3_earnedTrust none X d 0 0 Q 7))))))
theorem t_X3_earnedTrust_0 {l : Launch} {X : Nat → aw_Kt} {d : Nat} {Q : Option Value → aw_H → Prop} : aw_Sn l m_X3_earnedTrust none X d 0 0 Q 0 (k_X3_earnedTrust_0 l X d Q) := by
  unfold k_X3_earnedTrust_0
  exact s_iconst dX3_earnedTrust_0 (by decide) (s_istore_n dX3_earnedTrust_1 rfl (by decide) (s_iconst dX3_earnedTrust_2 (by decide) (s_istore_n dX3_earnedTrust_3 rfl (by decide) (s_iconst dX3_earnedTrust_4 (by decide) (s_istore dX3_earnedTrust_5 (by decide) s_stop)))))
/-! X3_partOfAgreement -/
def k_X3_partOfAgreement_71 (l : Launch) (X : Nat → aw_Kt) (d : Nat) (Q : Option Value → aw_H → Prop) : aw_Kt := o_rl Q
theorem t_X3_partOfAgreement_71 {l : Launch} {X : Nat → aw_Kt} {d : Nat} {Q : Option Value → aw_H → Prop} : aw_Sn l m_X3_partOfAgreement none X d 0 0 Q 71 (k_X3_partOfAgreement_71 l X d Q) := by
  unfold k_X3_partOfAgreement_71
  exact s_lret dX3_partOfAgreement_71 rfl
def k_X3_partOfAgreement_64 (l : Launch) (X : Nat → aw_Kt) (d : Nat) (Q : Option Value → aw_H → Prop) : aw_Kt := o_al 0 (o_gf 3 2 (o_cv l d m_X0_denominator 0 0 (k_X3_partOfAgreement_71 l X d Q)))
theorem t_X3_partOfAgreement_64 {l : Launch} {X : Nat → aw_Kt} {d : Nat} {Q : Option Value → aw_H → Prop} : aw_Sn l m_X3_partOfAgreement none X d 0 0 Q 64 (k_X3_partOfAgreement_64 l X d Q) := by
  unfold k_X3_partOfAgreement_64
  exact s_aload_n dX3_partOfAgreement_64 rfl (s_getf dX3_partOfAgreement_65 rfl u_X3 (by decide) w_68 (s_cv dX3_partOfAgreement_68 rfl (by decide) w_89 wi_X0_denominator ws_X0_denominator w_6 wc_X0_denominator wd_X0_denominator t_X3_partOfAgreement_71))
def k_X3_partOfAgreement_50 (l : Launch) (X : Nat → aw_Kt) (d : Nat) (Q : Option Value → aw_H → Prop) : aw_Kt := o_il 1 (o_if (fun x => x = 0) (o_al 0 (o_gf 3 2 (o_cv l d m_X0_numerator 0 0 (k_X3_partOfAgreement_71 l X d Q)))) (k_X3_partOfAgreement_64 l X d Q))
theorem t_X3_partOfAgreement_50 {l : Launch} {X : Nat → aw_Kt} {d : Nat} {Q : Option Value → aw_H → Prop} : aw_Sn l m_X3_partOfAgreement none X d 0 0 Q 50 (k_X3_partOfAgreement_50 l X d Q) := by
  unfold k_X3_partOfAgreement_50
  exact s_iload_n dX3_partOfAgreement_50 rfl (s_if_ne dX3_partOfAgreement_51 (by decide) (s_aload_n dX3_partOfAgreement_54 rfl (s_getf dX3_partOfAgreement_55 rfl u_X3 (by decide) w_68 (s_cv dX3_partOfAgreement_58 rfl (by decide) w_90 wi_X0_numerator ws_X0_numerator w_6 wc_X0_numerator wd_X0_numerator (s_goto dX3_partOfAgreement_61 (by decide) t_X3_partOfAgreement_71)))) t_X3_partOfAgreement_64)
def k_X3_partOfAgreement_28 (l : Launch) (X : Nat → aw_Kt) (d : Nat) (Q : Option Value → aw_H → Prop) : aw_Kt := o_al 0 (o_gf 3 2 (o_cv l d m_X0_denominator 0 0 (o_lc 0 (o_cm (o_if (fun x => x = 0) (SW l m_X3_partOfAgreement none X d 0 0 Q 40) (k_X3_partOfAgreement_50 l X d Q))))))
theorem t_X3_partOfAgreement_28 {l : Launch} {X : Nat → aw_Kt} {d : Nat} {Q : Option Value → aw_H → Prop} : aw_Sn l m_X3_partOfAgreement none X d 0 0 Q 28 (k_X3_partOfAgreement_28 l X d Q) := by
  unfold k_X3_partOfAgreement_28
  exact s_aload_n dX3_partOfAgreement_28 rfl (s_getf dX3_partOfAgreement_29 rfl u_X3 (by decide) w_68 (s_cv dX3_partOfAgreement_32 rfl (by decide) w_89 wi_X0_denominator ws_X0_denominator w_6 wc_X0_denominator wd_X0_denominator (s_lconst dX3_partOfAgreement_35 (by decide) (s_lcmp dX3_partOfAgreement_36 (s_if_ne dX3_partOfAgreement_37 (by decide) s_stop t_X3_partOfAgreement_50)))))
def k_X3_partOfAgreement_14 (l : Launch) (X : Nat → aw_Kt) (d : Nat) (Q : Option Value → aw_H → Prop) : aw_Kt := o_il 1 (o_ic 3 (o_i3 (fun x y => x = y) (o_al 0 (o_gf 3 2 (o_cv l d m_X0_secondCount 0 0 (o_i2 (o_rl Q))))) (k_X3_partOfAgreement_28 l X d Q)))
theorem t_X3_partOfAgreement_14 {l : Launch} {X : Nat → aw_Kt} {d : Nat} {Q : Option Value → aw_H → Prop} : aw_Sn l m_X3_partOfAgreement none X d 0 0 Q 14 (k_X3_partOfAgreement_14 l X d Q) := by
  unfold k_X3_partOfAgreement_14
  exact s_iload_n dX3_partOfAgreement_14 rfl (s_iconst dX3_partOfAgreement_15 (by decide) (s_icmp_ne dX3_partOfAgreement_16 (by decide) (s_aload_n dX3_partOfAgreement_19 rfl (s_getf dX3_partOfAgreement_20 rfl u_X3 (by decide) w_68 (s_cv dX3_partOfAgreement_23 rfl (by decide) w_91 wi_X0_secondCount ws_X0_secondCount w_6 wc_X0_secondCount wd_X0_secondCount (s_i2l dX3_partOfAgreement_26 (s_lret dX3_partOfAgreement_27 rfl))))) t_X3_partOfAgreement_28))
def k_X3_partOfAgreement_0 (l : Launch) (X : Nat → aw_Kt) (d : Nat) (Q : Option Value → aw_H → Prop) : aw_Kt := o_il 1 (o_ic 2 (o_i3 (fun x y => x = y) (o_al 0 (o_gf 3 2 (o_cv l d m_X0_rowCount 0 0 (o_i2 (o_rl Q))))) (k_X3_partOfAgreement_14 l X d Q)))
theorem t_X3_partOfAgreement_0 {l : Launch} {X : Nat → aw_Kt} {d : Nat} {Q : Option Value → aw_H → Prop} : aw_Sn l m_X3_partOfAgreement none X d 0 0 Q 0 (k_X3_partOfAgreement_0 l X d Q) := by
  unfold k_X3_partOfAgreement_0
  exact s_iload_n dX3_partOfAgreement_0 rfl (s_iconst dX3_partOfAgreement_1 (by decide) (s_icmp_ne dX3_partOfAgreement_2 (by decide) (s_aload_n dX3_partOfAgreement_5 rfl (s_getf dX3_partOfAgreement_6 rfl u_X3 (by decide) w_68 (s_cv dX3_partOfAgreement_9 rfl (by decide) w_92 wi_X0_rowCount ws_X0_rowCount w_6 wc_X0_rowCount wd_X0_rowCount (s_i2l dX3_partOfAgreement_12 (s_lret dX3_partOfAgreement_13 rfl))))) t_X3_partOfAgreement_14))
/-! X3_countLabellings -/
def k_X3_countLabellings_27 (l : Launch) (X : Nat → aw_Kt) (d : Nat) (Q : Option Value → aw_H → Prop) : aw_Kt := o_il 1 (o_ri Q)
theorem t_X3_countLabellings_27 {l : Launch} {X : Nat → aw_Kt} {d : Nat} {Q : Option Value → aw_H → Prop} : aw_Sn l m_X3_countLabellings none X d 0 0 Q 27 (k_X3_countLabellings_27 l X d Q) := by
  unfold k_X3_countLabellings_27
  exact s_iload_n dX3_countLabellings_27 rfl (s_iret dX3_countLabellings_28 rfl)
def k_X3_countLabellings_4 (l : Launch) (X : Nat → aw_Kt) (d : Nat) (Q : Option Value → aw_H → Prop) : aw_Kt := o_il 2 (o_ic 8 (o_i3 (fun x y => y ≤ x) (k_X3_countLabellings_27 l X d Q) (o_il 1 (o_al 0 (o_gf 3 0 (o_il 2 (o_cv l d m_X2_givenBy 2 1 (o_ib (fun x y => x + y) (o_is 1 (o_ii 2 1 (SW l m_X3_countLabellings none X d 0 0 Q 4)))))))))))
theorem t_X3_countLabellings_4 {l : Launch} {X : Nat → aw_Kt} {d : Nat} {Q : Option Value → aw_H → Prop} : aw_Sn l m_X3_countLabellings none X d 0 0 Q 4 (k_X3_countLabellings_4 l X d Q) := by
  unfold k_X3_countLabellings_4
  exact s_iload_n dX3_countLabellings_4 rfl (s_bipush dX3_countLabellings_5 (by decide) (s_icmp_ge dX3_countLabellings_7 (by decide) t_X3_countLabellings_27 (s_iload_n dX3_countLabellings_10 rfl (s_aload_n dX3_countLabellings_11 rfl (s_getf dX3_countLabellings_12 rfl u_X3 (by decide) w_37 (s_iload_n dX3_countLabellings_15 rfl (s_cv dX3_countLabellings_16 rfl (by decide) w_48 wi_X2_givenBy ws_X2_givenBy w_9 wc_X2_givenBy wd_X2_givenBy (s_iadd dX3_countLabellings_19 (s_istore_n dX3_countLabellings_20 rfl (by decide) (s_iinc dX3_countLabellings_21 (by decide) (by decide) (s_goto dX3_countLabellings_24 (by decide) s_stop)))))))))))
def k_X3_countLabellings_0 (l : Launch) (X : Nat → aw_Kt) (d : Nat) (Q : Option Value → aw_H → Prop) : aw_Kt := o_ic 0 (o_is 1 (o_ic 0 (o_is 2 (SW l m_X3_countLabellings none X d 0 0 Q 4))))
theorem t_X3_countLabellings_0 {l : Launch} {X : Nat → aw_Kt} {d : Nat} {Q : Option Value → aw_H → Prop} : aw_Sn l m_X3_countLabellings none X d 0 0 Q 0 (k_X3_countLabellings_0 l X d Q) := by
  unfold k_X3_countLabellings_0
  exact s_iconst dX3_countLabellings_0 (by decide) (s_istore_n dX3_countLabellings_1 rfl (by decide) (s_iconst dX3_countLabellings_2 (by decide) (s_istore_n dX3_countLabellings_3 rfl (by decide) s_stop)))
/-! X3_countDecided -/
def k_X3_countDecided_33 (l : Launch) (X : Nat → aw_Kt) (d : Nat) (Q : Option Value → aw_H → Prop) : aw_Kt := o_il 1 (o_ri Q)
theorem t_X3_countDecided_33 {l : Launch} {X : Nat → aw_Kt} {d : Nat} {Q : Option Value → aw_H → Prop} : aw_Sn l m_X3_countDecided none X d 0 0 Q 33 (k_X3_countDecided_33 l X d Q) := by
  unfold k_X3_countDecided_33
  exact s_iload_n dX3_countDecided_33 rfl (s_iret dX3_countDecided_34 rfl)
def k_X3_countDecided_27 (l : Launch) (X : Nat → aw_Kt) (d : Nat) (Q : Option Value → aw_H → Prop) : aw_Kt := o_ii 2 1 (SW l m_X3_countDecided none X d 0 0 Q 4)
theorem t_X3_countDecided_27 {l : Launch} {X : Nat → aw_Kt} {d : Nat} {Q : Option Value → aw_H → Prop} : aw_Sn l m_X3_countDecided none X d 0 0 Q 27 (k_X3_countDecided_27 l X d Q) := by
  unfold k_X3_countDecided_27
  exact s_iinc dX3_countDecided_27 (by decide) (by decide) (s_goto dX3_countDecided_30 (by decide) s_stop)
def k_X3_countDecided_4 (l : Launch) (X : Nat → aw_Kt) (d : Nat) (Q : Option Value → aw_H → Prop) : aw_Kt := o_il 2 (o_al 0 (o_gf 3 0 (o_cv l d m_X2_size 2 0 (o_i3 (fun x y => y ≤ x) (k_X3_countDecided_33 l X d Q) (o_al 0 (o_il 2 (o_cv l d m_X3_decide 3 1 (o_ic (-1) (o_i3 (fun x y => x = y) (k_X3_countDecided_27 l X d Q) (o_ii 1 1 (k_X3_countDecided_27 l X d Q)))))))))))
theorem t_X3_countDecided_4 {l : Launch} {X : Nat → aw_Kt} {d : Nat} {Q : Option Value → aw_H → Prop} : aw_Sn l m_X3_countDecided none X d 0 0 Q 4 (k_X3_countDecided_4 l X d Q) := by
  unfold k_X3_countDecided_4
  exact s_iload_n dX3_countDecided_4 rfl (s_aload_n dX3_countDecided_5 rfl (s_getf dX3_countDecided_6 rfl u_X3 (by decide) w_37 (s_cv dX3_countDecided_9 rfl (by decide) w_62 wi_X2_size ws_X2_size w_9 wc_X2_size wd_X2_size (s_icmp_ge dX3_countDecided_12 (by decide) t_X3_countDecided_33 (s_aload_n dX3_countDecided_15 rfl (s_iload_n dX3_countDecided_16 rfl (s_cv dX3_countDecided_17 rfl (by decide) w_65 wi_X3_decide ws_X3_decide w_10 wc_X3_decide wd_X3_decide (s_iconst dX3_countDecided_20 (by decide) (s_icmp_eq dX3_countDecided_21 (by decide) t_X3_countDecided_27 (s_iinc dX3_countDecided_24 (by decide) (by decide) t_X3_countDecided_27))))))))))
def k_X3_countDecided_0 (l : Launch) (X : Nat → aw_Kt) (d : Nat) (Q : Option Value → aw_H → Prop) : aw_Kt := o_ic 0 (o_is 1 (o_ic 0 (o_is 2 (SW l m_X3_countDecided none X d 0 0 Q 4))))
theorem t_X3_countDecided_0 {l : Launch} {X : Nat → aw_Kt} {d : Nat} {Q : Option Value → aw_H → Prop} : aw_Sn l m_X3_countDecided none X d 0 0 Q 0 (k_X3_countDecided_0 l X d Q) := by
  unfold k_X3_countDecided_0
  exact s_iconst dX3_countDecided_0 (by decide) (s_istore_n dX3_countDecided_1 rfl (by decide) (s_iconst dX3_countDecided_2 (by decide) (s_istore_n dX3_countDecided_3 rfl (by decide) s_stop)))
/-! X3_countBarred -/
def k_X3_countBarred_27 (l : Launch) (X : Nat → aw_Kt) (d : Nat) (Q : Option Value → aw_H → Prop) : aw_Kt := o_il 1 (o_ri Q)
theorem t_X3_countBarred_27 {l : Launch} {X : Nat → aw_Kt} {d : Nat} {Q : Option Value → aw_H → Prop} : aw_Sn l m_X3_countBarred none X d 0 0 Q 27 (k_X3_countBarred_27 l X d Q) := by
  unfold k_X3_countBarred_27
  exact s_iload_n dX3_countBarred_27 rfl (s_iret dX3_countBarred_28 rfl)
def k_X3_countBarred_21 (l : Launch) (X : Nat → aw_Kt) (d : Nat) (Q : Option Value → aw_H → Prop) : aw_Kt := o_ii 2 1 (SW l m_X3_countBarred none X d 0 0 Q 4)
theorem t_X3_countBarred_21 {l : Launch} {X : Nat → aw_Kt} {d : Nat} {Q : Option Value → aw_H → Prop} : aw_Sn l m_X3_countBarred none X d 0 0 Q 21 (k_X3_countBarred_21 l X d Q) := by
  unfold k_X3_countBarred_21
  exact s_iinc dX3_countBarred_21 (by decide) (by decide) (s_goto dX3_countBarred_24 (by decide) s_stop)
def k_X3_countBarred_4 (l : Launch) (X : Nat → aw_Kt) (d : Nat) (Q : Option Value → aw_H → Prop) : aw_Kt := o_il 2 (o_ic 8 (o_i3 (fun x y => y ≤ x) (k_X3_countBarred_27 l X d Q) (o_al 0 (o_il 2 (o_cv l d m_X3_isBarred 3 1 (o_if (fun x => x = 0) (k_X3_countBarred_21 l X d Q) (o_ii 1 1 (k_X3_countBarred_21 l X d Q))))))))
theorem t_X3_countBarred_4 {l : Launch} {X : Nat → aw_Kt} {d : Nat} {Q : Option Value → aw_H → Prop} : aw_Sn l m_X3_countBarred none X d 0 0 Q 4 (k_X3_countBarred_4 l X d Q) := by
  unfold k_X3_countBarred_4
  exact s_iload_n dX3_countBarred_4 rfl (s_bipush dX3_countBarred_5 (by decide) (s_icmp_ge dX3_countBarred_7 (by decide) t_X3_countBarred_27 (s_aload_n dX3_countBarred_10 rfl (s_iload_n dX3_countBarred_11 rfl (s_cv dX3_countBarred_12 rfl (by decide) w_49 wi_X3_isBarred ws_X3_isBarred w_10 wc_X3_isBarred wd_X3_isBarred (s_if_eq dX3_countBarred_15 (by decide) t_X3_countBarred_21 (s_iinc dX3_countBarred_18 (by decide) (by decide) t_X3_countBarred_21)))))))
def k_X3_countBarred_0 (l : Launch) (X : Nat → aw_Kt) (d : Nat) (Q : Option Value → aw_H → Prop) : aw_Kt := o_ic 0 (o_is 1 (o_ic 0 (o_is 2 (SW l m_X3_countBarred none X d 0 0 Q 4))))
theorem t_X3_countBarred_0 {l : Launch} {X : Nat → aw_Kt} {d : Nat} {Q : Option Value → aw_H → Prop} : aw_Sn l m_X3_countBarred none X d 0 0 Q 0 (k_X3_countBarred_0 l X d Q) := by
  unfold k_X3_countBarred_0
  exact s_iconst dX3_countBarred_0 (by decide) (s_istore_n dX3_countBarred_1 rfl (by decide) (s_iconst dX3_countBarred_2 (by decide) (s_istore_n dX3_countBarred_3 rfl (by decide) s_stop)))
/-! X3_countDisputed -/
def k_X3_countDisputed_32 (l : Launch) (X : Nat → aw_Kt) (d : Nat) (Q : Option Value → aw_H → Prop) : aw_Kt := o_il 1 (o_ri Q)
theorem t_X3_countDisputed_32 {l : Launch} {X : Nat → aw_Kt} {d : Nat} {Q : Option Value → aw_H → Prop} : aw_Sn l m_X3_countDisputed none X d 0 0 Q 32 (k_X3_countDisputed_32 l X d Q) := by
  unfold k_X3_countDisputed_32
  exact s_iload_n dX3_countDisputed_32 rfl (s_iret dX3_countDisputed_33 rfl)
def k_X3_countDisputed_26 (l : Launch) (X : Nat → aw_Kt) (d : Nat) (Q : Option Value → aw_H → Prop) : aw_Kt := o_ii 2 1 (SW l m_X3_countDisputed none X d 0 0 Q 4)
theorem t_X3_countDisputed_26 {l : Launch} {X : Nat → aw_Kt} {d : Nat} {Q : Option Value → aw_H → Prop} : aw_Sn l m_X3_countDisputed none X d 0 0 Q 26 (k_X3_countDisputed_26 l X d Q) := by
  unfold k_X3_countDisputed_26
  exact s_iinc dX3_countDisputed_26 (by decide) (by decide) (s_goto dX3_countDisputed_29 (by decide) s_stop)
def k_X3_countDisputed_4 (l : Launch) (X : Nat → aw_Kt) (d : Nat) (Q : Option Value → aw_H → Prop) : aw_Kt := o_il 2 (o_al 0 (o_gf 3 0 (o_cv l d m_X2_size 2 0 (o_i3 (fun x y => y ≤ x) (k_X3_countDisputed_32 l X d Q) (o_al 0 (o_il 2 (o_cv l d m_X3_isDisputed 3 1 (o_if (fun x => x = 0) (k_X3_countDisputed_26 l X d Q) (o_ii 1 1 (k_X3_countDisputed_26 l X d Q))))))))))
theorem t_X3_countDisputed_4 {l : Launch} {X : Nat → aw_Kt} {d : Nat} {Q : Option Value → aw_H → Prop} : aw_Sn l m_X3_countDisputed none X d 0 0 Q 4 (k_X3_countDisputed_4 l X d Q) := by
  unfold k_X3_countDisputed_4
  exact s_iload_n dX3_countDisputed_4 rfl (s_aload_n dX3_countDisputed_5 rfl (s_getf dX3_countDisputed_6 rfl u_X3 (by decide) w_37 (s_cv dX3_countDisputed_9 rfl (by decide) w_62 wi_X2_size ws_X2_size w_9 wc_X2_size wd_X2_size (s_icmp_ge dX3_countDisputed_12 (by decide) t_X3_countDisputed_32 (s_aload_n dX3_countDisputed_15 rfl (s_iload_n dX3_countDisputed_16 rfl (s_cv dX3_countDisputed_17 rfl (by decide) w_93 wi_X3_isDisputed ws_X3_isDisputed w_10 wc_X3_isDisputed wd_X3_isDisputed (s_if_eq dX3_countDisputed_20 (by decide) t_X3_countDisputed_26 (s_iinc dX3_countDisputed_23 (by decide) (by decide) t_X3_countDisputed_26)))))))))
def k_X3_countDisputed_0 (l : Launch) (X : Nat → aw_Kt) (d : Nat) (Q : Option Value → aw_H → Prop) : aw_Kt := o_ic 0 (o_is 1 (o_ic 0 (o_is 2 (SW l m_X3_countDisputed none X d 0 0 Q 4))))
theorem t_X3_countDisputed_0 {l : Launch} {X : Nat → aw_Kt} {d : Nat} {Q : Option Value → aw_H → Prop} : aw_Sn l m_X3_countDisputed none X d 0 0 Q 0 (k_X3_countDisputed_0 l X d Q) := by
  unfold k_X3_countDisputed_0
  exact s_iconst dX3_countDisputed_0 (by decide) (s_istore_n dX3_countDisputed_1 rfl (by decide) (s_iconst dX3_countDisputed_2 (by decide) (s_istore_n dX3_countDisputed_3 rfl (by decide) s_stop)))
/-! X3_isDisputed -/
def k_X3_isDisputed_78 (l : Launch) (X : Nat → aw_Kt) (d : Nat) (Q : Option Value → aw_H → Prop) : aw_Kt := o_ic 0 (o_rz Q)
theorem t_X3_isDisputed_78 {l : Launch} {X : Nat → aw_Kt} {d : Nat} {Q : Option Value → aw_H → Prop} : aw_Sn l m_X3_isDisputed none X d 0 0 Q 78 (k_X3_isDisputed_78 l X d Q) := by
  unfold k_X3_isDisputed_78
  exact s_iconst dX3_isDisputed_78 (by decide) (s_zret dX3_isDisputed_79 rfl)
def k_X3_isDisputed_72 (l : Launch) (X : Nat → aw_Kt) (d : Nat) (Q : Option Value → aw_H → Prop) : aw_Kt := o_ii 3 1 (SW l m_X3_isDisputed none X d 0 0 Q 4)
theorem t_X3_isDisputed_72 {l : Launch} {X : Nat → aw_Kt} {d : Nat} {Q : Option Value → aw_H → Prop} : aw_Sn l m_X3_isDisputed none X d 0 0 Q 72 (k_X3_isDisputed_72 l X d Q) := by
  unfold k_X3_isDisputed_72
  exact s_iinc dX3_isDisputed_72 (by decide) (by decide) (s_goto dX3_isDisputed_75 (by decide) s_stop)
def k_X3_isDisputed_69 (l : Launch) (X : Nat → aw_Kt) (d : Nat) (Q : Option Value → aw_H → Prop) : aw_Kt := o_il 4 (o_is 2 (k_X3_isDisputed_72 l X d Q))
theorem t_X3_isDisputed_69 {l : Launch} {X : Nat → aw_Kt} {d : Nat} {Q : Option Value → aw_H → Prop} : aw_Sn l m_X3_isDisputed none X d 0 0 Q 69 (k_X3_isDisputed_69 l X d Q) := by
  unfold k_X3_isDisputed_69
  exact s_iload dX3_isDisputed_69 (s_istore_n dX3_isDisputed_71 rfl (by decide) t_X3_isDisputed_72)
def k_X3_isDisputed_56 (l : Launch) (X : Nat → aw_Kt) (d : Nat) (Q : Option Value → aw_H → Prop) : aw_Kt := o_il 2 (o_ic (-1) (o_i3 (fun x y => x = y) (k_X3_isDisputed_69 l X d Q) (o_il 4 (o_il 2 (o_i3 (fun x y => x = y) (k_X3_isDisputed_69 l X d Q) (o_ic 1 (o_rz Q)))))))
theorem t_X3_isDisputed_56 {l : Launch} {X : Nat → aw_Kt} {d : Nat} {Q : Option Value → aw_H → Prop} : aw_Sn l m_X3_isDisputed none X d 0 0 Q 56 (k_X3_isDisputed_56 l X d Q) := by
  unfold k_X3_isDisputed_56
  exact s_iload_n dX3_isDisputed_56 rfl (s_iconst dX3_isDisputed_57 (by decide) (s_icmp_eq dX3_isDisputed_58 (by decide) t_X3_isDisputed_69 (s_iload dX3_isDisputed_61 (s_iload_n dX3_isDisputed_63 rfl (s_icmp_eq dX3_isDisputed_64 (by decide) t_X3_isDisputed_69 (s_iconst dX3_isDisputed_67 (by decide) (s_zret dX3_isDisputed_68 rfl)))))))
def k_X3_isDisputed_43 (l : Launch) (X : Nat → aw_Kt) (d : Nat) (Q : Option Value → aw_H → Prop) : aw_Kt := o_is 4 (o_il 4 (o_cs l d m_X3_isLabel 1 (o_if (fun x => x = 0) (k_X3_isDisputed_72 l X d Q) (k_X3_isDisputed_56 l X d Q))))
theorem t_X3_isDisputed_43 {l : Launch} {X : Nat → aw_Kt} {d : Nat} {Q : Option Value → aw_H → Prop} : aw_Sn l m_X3_isDisputed none X d 0 0 Q 43 (k_X3_isDisputed_43 l X d Q) := by
  unfold k_X3_isDisputed_43
  exact s_istore dX3_isDisputed_43 (by decide) (s_iload dX3_isDisputed_45 (s_cs dX3_isDisputed_47 (by decide) w_41 wt_X3_isLabel w_10 wc_X3_isLabel wd_X3_isLabel (s_if_ne dX3_isDisputed_50 (by decide) (s_goto dX3_isDisputed_53 (by decide) t_X3_isDisputed_72) t_X3_isDisputed_56)))
def k_X3_isDisputed_42 (l : Launch) (X : Nat → aw_Kt) (d : Nat) (Q : Option Value → aw_H → Prop) : aw_Kt := o_ic (-1) (k_X3_isDisputed_43 l X d Q)
theorem t_X3_isDisputed_42 {l : Launch} {X : Nat → aw_Kt} {d : Nat} {Q : Option Value → aw_H → Prop} : aw_Sn l m_X3_isDisputed none X d 0 0 Q 42 (k_X3_isDisputed_42 l X d Q) := by
  unfold k_X3_isDisputed_42
  exact s_iconst dX3_isDisputed_42 (by decide) t_X3_isDisputed_43
def k_X3_isDisputed_4 (l : Launch) (X : Nat → aw_Kt) (d : Nat) (Q : Option Value → aw_H → Prop) : aw_Kt := o_il 3 (o_al 0 (o_gf 3 1 (o_cv l d m_X1_size 1 0 (o_i3 (fun x y => y ≤ x) (k_X3_isDisputed_78 l X d Q) (o_al 0 (o_gf 3 1 (o_il 3 (o_cv l d m_X1_isOn 1 1 (o_if (fun x => x = 0) (k_X3_isDisputed_42 l X d Q) (o_al 0 (o_gf 3 1 (o_il 3 (o_al 0 (o_gf 3 0 (o_il 1 (o_cv l d m_X1_wordOn 1 3 (k_X3_isDisputed_43 l X d Q)))))))))))))))))
theorem t_X3_isDisputed_4 {l : Launch} {X : Nat → aw_Kt} {d : Nat} {Q : Option Value → aw_H → Prop} : aw_Sn l m_X3_isDisputed none X d 0 0 Q 4 (k_X3_isDisputed_4 l X d Q) := by
  unfold k_X3_isDisputed_4
  exact s_iload_n dX3_isDisputed_4 rfl (s_aload_n dX3_isDisputed_5 rfl (s_getf dX3_isDisputed_6 rfl u_X3 (by decide) w_52 (s_cv dX3_isDisputed_9 rfl (by decide) w_78 wi_X1_size ws_X1_size w_53 wc_X1_size wd_X1_size (s_icmp_ge dX3_isDisputed_12 (by decide) t_X3_isDisputed_78 (s_aload_n dX3_isDisputed_15 rfl (s_getf dX3_isDisputed_16 rfl u_X3 (by decide) w_52 (s_iload_n dX3_isDisputed_19 rfl (s_cv dX3_isDisputed_20 rfl (by decide) w_57 wi_X1_isOn ws_X1_isOn w_53 wc_X1_isOn wd_X1_isOn (s_if_eq dX3_isDisputed_23 (by decide) t_X3_isDisputed_42 (s_aload_n dX3_isDisputed_26 rfl (s_getf dX3_isDisputed_27 rfl u_X3 (by decide) w_52 (s_iload_n dX3_isDisputed_30 rfl (s_aload_n dX3_isDisputed_31 rfl (s_getf dX3_isDisputed_32 rfl u_X3 (by decide) w_37 (s_iload_n dX3_isDisputed_35 rfl (s_cv dX3_isDisputed_36 rfl (by decide) w_61 wi_X1_wordOn ws_X1_wordOn w_53 wc_X1_wordOn wd_X1_wordOn (s_goto dX3_isDisputed_39 (by decide) t_X3_isDisputed_43)))))))))))))))))
def k_X3_isDisputed_0 (l : Launch) (X : Nat → aw_Kt) (d : Nat) (Q : Option Value → aw_H → Prop) : aw_Kt := o_ic (-1) (o_is 2 (o_ic 0 (o_is 3 (SW l m_X3_isDisputed none X d 0 0 Q 4))))
theorem t_X3_isDisputed_0 {l : Launch} {X : Nat → aw_Kt} {d : Nat} {Q : Option Value → aw_H → Prop} : aw_Sn l m_X3_isDisputed none X d 0 0 Q 0 (k_X3_isDisputed_0 l X d Q) := by
  unfold k_X3_isDisputed_0
  exact s_iconst dX3_isDisputed_0 (by decide) (s_istore_n dX3_isDisputed_1 rfl (by decide) (s_iconst dX3_isDisputed_2 (by decide) (s_istore_n dX3_isDisputed_3 rfl (by decide) s_stop)))
/-! J9_floorMod_7cf53 -/
def k_J9_floorMod_7cf53_18 (l : Launch) (X : Nat → aw_Kt) (d : Nat) (Q : Option Value → aw_H → Prop) : aw_Kt := o_il 2 (o_ri Q)
theorem t_J9_floorMod_7cf53_18 {l : Launch} {X : Nat → aw_Kt} {d : Nat} {Q : Option Value → aw_H → Prop} : aw_Sn l m_J9_floorMod_7cf53 none X d 0 0 Q 18 (k_J9_floorMod_7cf53_18 l X d Q) := by
  unfold k_J9_floorMod_7cf53_18
  exact s_iload_n dJ9_floorMod_7cf53_18 rfl (s_iret dJ9_floorMod_7cf53_19 rfl)
def k_J9_floorMod_7cf53_0 (l : Launch) (X : Nat → aw_Kt) (d : Nat) (Q : Option Value → aw_H → Prop) : aw_Kt := o_il 0 (o_il 1 (o_rm (o_is 2 (o_il 0 (o_il 1 (o_ib (fun x y => x ^^^ y) (o_if (fun x => 0 ≤ x) (k_J9_floorMod_7cf53_18 l X d Q) (o_il 2 (o_if (fun x => x = 0) (k_J9_floorMod_7cf53_18 l X d Q) (o_il 2 (o_il 1 (o_ib (fun x y => x + y) (o_ri Q)))))))))))))
theorem t_J9_floorMod_7cf53_0 {l : Launch} {X : Nat → aw_Kt} {d : Nat} {Q : Option Value → aw_H → Prop} : aw_Sn l m_J9_floorMod_7cf53 none X d 0 0 Q 0 (k_J9_floorMod_7cf53_0 l X d Q) := by
  unfold k_J9_floorMod_7cf53_0
  exact s_iload_n dJ9_floorMod_7cf53_0 rfl (s_iload_n dJ9_floorMod_7cf53_1 rfl (s_irem dJ9_floorMod_7cf53_2 (s_istore_n dJ9_floorMod_7cf53_3 rfl (by decide) (s_iload_n dJ9_floorMod_7cf53_4 rfl (s_iload_n dJ9_floorMod_7cf53_5 rfl (s_ixor dJ9_floorMod_7cf53_6 (s_if_ge dJ9_floorMod_7cf53_7 (by decide) t_J9_floorMod_7cf53_18 (s_iload_n dJ9_floorMod_7cf53_10 rfl (s_if_eq dJ9_floorMod_7cf53_11 (by decide) t_J9_floorMod_7cf53_18 (s_iload_n dJ9_floorMod_7cf53_14 rfl (s_iload_n dJ9_floorMod_7cf53_15 rfl (s_iadd dJ9_floorMod_7cf53_16 (s_iret dJ9_floorMod_7cf53_17 rfl)))))))))))))
/-! J7_fill_53178 -/
def k_J7_fill_53178_20 (l : Launch) (X : Nat → aw_Kt) (d : Nat) (Q : Option Value → aw_H → Prop) : aw_Kt := o_rv Q
theorem t_J7_fill_53178_20 {l : Launch} {X : Nat → aw_Kt} {d : Nat} {Q : Option Value → aw_H → Prop} : aw_Sn l m_J7_fill_53178 none X d 0 0 Q 20 (k_J7_fill_53178_20 l X d Q) := by
  unfold k_J7_fill_53178_20
  exact s_vret dJ7_fill_53178_20 rfl
def k_J7_fill_53178_5 (l : Launch) (X : Nat → aw_Kt) (d : Nat) (Q : Option Value → aw_H → Prop) : aw_Kt := o_il 2 (o_il 3 (o_i3 (fun x y => y ≤ x) (k_J7_fill_53178_20 l X d Q) (o_al 0 (o_il 2 (o_il 1 (o_xa (o_ii 2 1 (SW l m_J7_fill_53178 none X d 0 0 Q 5))))))))
theorem t_J7_fill_53178_5 {l : Launch} {X : Nat → aw_Kt} {d : Nat} {Q : Option Value → aw_H → Prop} : aw_Sn l m_J7_fill_53178 none X d 0 0 Q 5 (k_J7_fill_53178_5 l X d Q) := by
  unfold k_J7_fill_53178_5
  exact s_iload_n dJ7_fill_53178_5 rfl (s_iload_n dJ7_fill_53178_6 rfl (s_icmp_ge dJ7_fill_53178_7 (by decide) t_J7_fill_53178_20 (s_aload_n dJ7_fill_53178_10 rfl (s_iload_n dJ7_fill_53178_11 rfl (s_iload_n dJ7_fill_53178_12 rfl (s_iastore dJ7_fill_53178_13 (s_iinc dJ7_fill_53178_14 (by decide) (by decide) (s_goto dJ7_fill_53178_17 (by decide) s_stop))))))))
def k_J7_fill_53178_0 (l : Launch) (X : Nat → aw_Kt) (d : Nat) (Q : Option Value → aw_H → Prop) : aw_Kt := o_ic 0 (o_is 2 (o_al 0 (o_an (o_is 3 (SW l m_J7_fill_53178 none X d 0 0 Q 5)))))
theorem t_J7_fill_53178_0 {l : Launch} {X : Nat → aw_Kt} {d : Nat} {Q : Option Value → aw_H → Prop} : aw_Sn l m_J7_fill_53178 none X d 0 0 Q 0 (k_J7_fill_53178_0 l X d Q) := by
  unfold k_J7_fill_53178_0
  exact s_iconst dJ7_fill_53178_0 (by decide) (s_istore_n dJ7_fill_53178_1 rfl (by decide) (s_aload_n dJ7_fill_53178_2 rfl (s_alen dJ7_fill_53178_3 (s_istore_n dJ7_fill_53178_4 rfl (by decide) s_stop))))
end
section
/-! X4_thrown -/
def k_X4_thrown_0 (l : Launch) (X : Nat → aw_Kt) (d : Nat) (Q : Option Value → aw_H → Prop) : aw_Kt := o_al 0 (o_gf 4 0 (o_ri Q))
theorem t_X4_thrown_0 {l : Launch} {X : Nat → aw_Kt} {d : Nat} {Q : Option Value → aw_H → Prop} : aw_Sn l m_X4_thrown none X d 0 0 Q 0 (k_X4_thrown_0 l X d Q) := by
  unfold k_X4_thrown_0
  exact s_aload_n dX4_thrown_0 rfl (s_getf dX4_thrown_1 rfl u_X4 (by decide) w_94 (s_iret dX4_thrown_4 rfl))
/-! X4_in -/
def k_X4_in_15 (l : Launch) (X : Nat → aw_Kt) (d : Nat) (Q : Option Value → aw_H → Prop) : aw_Kt := o_rz Q
theorem t_X4_in_15 {l : Launch} {X : Nat → aw_Kt} {d : Nat} {Q : Option Value → aw_H → Prop} : aw_Sn l m_X4_in none X d 0 0 Q 15 (k_X4_in_15 l X d Q) := by
  unfold k_X4_in_15
  exact s_zret dX4_in_15 rfl
def k_X4_in_14 (l : Launch) (X : Nat → aw_Kt) (d : Nat) (Q : Option Value → aw_H → Prop) : aw_Kt := o_ic 0 (k_X4_in_15 l X d Q)
theorem t_X4_in_14 {l : Launch} {X : Nat → aw_Kt} {d : Nat} {Q : Option Value → aw_H → Prop} : aw_Sn l m_X4_in none X d 0 0 Q 14 (k_X4_in_14 l X d Q) := by
  unfold k_X4_in_14
  exact s_iconst dX4_in_14 (by decide) t_X4_in_15
def k_X4_in_0 (l : Launch) (X : Nat → aw_Kt) (d : Nat) (Q : Option Value → aw_H → Prop) : aw_Kt := o_il 0 (o_il 1 (o_i3 (fun x y => x < y) (k_X4_in_14 l X d Q) (o_il 0 (o_il 2 (o_i3 (fun x y => y < x) (k_X4_in_14 l X d Q) (o_ic 1 (k_X4_in_15 l X d Q)))))))
theorem t_X4_in_0 {l : Launch} {X : Nat → aw_Kt} {d : Nat} {Q : Option Value → aw_H → Prop} : aw_Sn l m_X4_in none X d 0 0 Q 0 (k_X4_in_0 l X d Q) := by
  unfold k_X4_in_0
  exact s_iload_n dX4_in_0 rfl (s_iload_n dX4_in_1 rfl (s_icmp_lt dX4_in_2 (by decide) t_X4_in_14 (s_iload_n dX4_in_5 rfl (s_iload_n dX4_in_6 rfl (s_icmp_gt dX4_in_7 (by decide) t_X4_in_14 (s_iconst dX4_in_10 (by decide) (s_goto dX4_in_11 (by decide) t_X4_in_15)))))))
/-! X4_isRow -/
def k_X4_isRow_0 (l : Launch) (X : Nat → aw_Kt) (d : Nat) (Q : Option Value → aw_H → Prop) : aw_Kt := o_il 1 (o_ic 0 (o_al 0 (o_gf 4 1 (o_ic 1 (o_ib (fun x y => x - y) (o_cs l d m_X4_in 3 (o_rz Q)))))))
theorem t_X4_isRow_0 {l : Launch} {X : Nat → aw_Kt} {d : Nat} {Q : Option Value → aw_H → Prop} : aw_Sn l m_X4_isRow none X d 0 0 Q 0 (k_X4_isRow_0 l X d Q) := by
  unfold k_X4_isRow_0
  exact s_iload_n dX4_isRow_0 rfl (s_iconst dX4_isRow_1 (by decide) (s_aload_n dX4_isRow_2 rfl (s_getf dX4_isRow_3 rfl u_X4 (by decide) w_95 (s_iconst dX4_isRow_6 (by decide) (s_isub dX4_isRow_7 (s_cs dX4_isRow_8 (by decide) w_97 wt_X4_in w_96 wc_X4_in wd_X4_in (s_zret dX4_isRow_11 rfl)))))))
/-! X4_isPerson -/
def k_X4_isPerson_0 (l : Launch) (X : Nat → aw_Kt) (d : Nat) (Q : Option Value → aw_H → Prop) : aw_Kt := o_il 0 (o_ic 0 (o_ic 7 (o_cs l d m_X4_in 3 (o_rz Q))))
theorem t_X4_isPerson_0 {l : Launch} {X : Nat → aw_Kt} {d : Nat} {Q : Option Value → aw_H → Prop} : aw_Sn l m_X4_isPerson none X d 0 0 Q 0 (k_X4_isPerson_0 l X d Q) := by
  unfold k_X4_isPerson_0
  exact s_iload_n dX4_isPerson_0 rfl (s_iconst dX4_isPerson_1 (by decide) (s_bipush dX4_isPerson_2 (by decide) (s_cs dX4_isPerson_4 (by decide) w_97 wt_X4_in w_96 wc_X4_in wd_X4_in (s_zret dX4_isPerson_7 rfl))))
/-! X4_row -/
def k_X4_row_12 (l : Launch) (X : Nat → aw_Kt) (d : Nat) (Q : Option Value → aw_H → Prop) : aw_Kt := o_al 0 (o_gf 4 2 (o_ic 4 (o_al 0 (o_gf 4 1 (o_ib (fun x y => x * y) (o_il 1 (o_xa (o_al 0 (o_gf 4 2 (o_ic 4 (o_al 0 (o_gf 4 1 (o_ib (fun x y => x * y) (o_ic 1 (o_ib (fun x y => x + y) (o_il 2 (o_xa (o_al 0 (o_gf 4 2 (o_ic 4 (o_al 0 (o_gf 4 1 (o_ib (fun x y => x * y) (o_ic 2 (o_ib (fun x y => x + y) (o_il 3 (o_xa (o_al 0 (o_gf 4 2 (o_ic 4 (o_al 0 (o_gf 4 1 (o_ib (fun x y => x * y) (o_ic 3 (o_ib (fun x y => x + y) (o_il 4 (o_xa (o_al 0 (o_gf 4 4 (o_al 0 (o_gf 4 1 (o_ic (-1) (o_xa (o_al 0 (o_dp (o_gf 4 1 (o_ic 1 (o_ib (fun x y => x + y) (o_pi 4 1 (o_al 0 (o_gf 4 1 (o_ic 1 (o_ib (fun x y => x - y) (o_ri Q))))))))))))))))))))))))))))))))))))))))))))))))))))))
theorem t_X4_row_12 {l : Launch} {X : Nat → aw_Kt} {d : Nat} {Q : Option Value → aw_H → Prop} : aw_Sn l m_X4_row none X d 0 0 Q 12 (k_X4_row_12 l X d Q) := by
  unfold k_X4_row_12
  exact s_aload_n dX4_row_12 rfl (s_getf dX4_row_13 rfl u_X4 (by decide) w_98 (s_iconst dX4_row_16 (by decide) (s_aload_n dX4_row_17 rfl (s_getf dX4_row_18 rfl u_X4 (by decide) w_95 (s_imul dX4_row_21 (s_iload_n dX4_row_22 rfl (s_iastore dX4_row_23 (s_aload_n dX4_row_24 rfl (s_getf dX4_row_25 rfl u_X4 (by decide) w_98 (s_iconst dX4_row_28 (by decide) (s_aload_n dX4_row_29 rfl (s_getf dX4_row_30 rfl u_X4 (by decide) w_95 (s_imul dX4_row_33 (s_iconst dX4_row_34 (by decide) (s_iadd dX4_row_35 (s_iload_n dX4_row_36 rfl (s_iastore dX4_row_37 (s_aload_n dX4_row_38 rfl (s_getf dX4_row_39 rfl u_X4 (by decide) w_98 (s_iconst dX4_row_42 (by decide) (s_aload_n dX4_row_43 rfl (s_getf dX4_row_44 rfl u_X4 (by decide) w_95 (s_imul dX4_row_47 (s_iconst dX4_row_48 (by decide) (s_iadd dX4_row_49 (s_iload_n dX4_row_50 rfl (s_iastore dX4_row_51 (s_aload_n dX4_row_52 rfl (s_getf dX4_row_53 rfl u_X4 (by decide) w_98 (s_iconst dX4_row_56 (by decide) (s_aload_n dX4_row_57 rfl (s_getf dX4_row_58 rfl u_X4 (by decide) w_95 (s_imul dX4_row_61 (s_iconst dX4_row_62 (by decide) (s_iadd dX4_row_63 (s_iload dX4_row_64 (s_iastore dX4_row_66 (s_aload_n dX4_row_67 rfl (s_getf dX4_row_68 rfl u_X4 (by decide) w_99 (s_aload_n dX4_row_71 rfl (s_getf dX4_row_72 rfl u_X4 (by decide) w_95 (s_iconst dX4_row_75 (by decide) (s_iastore dX4_row_76 (s_aload_n dX4_row_77 rfl (s_dup dX4_row_78 (s_getf dX4_row_79 rfl u_X4 (by decide) w_95 (s_iconst dX4_row_82 (by decide) (s_iadd dX4_row_83 (s_puti dX4_row_84 rfl u_X4 tyX4_ok nmX4 (by decide) rfl (by decide +kernel) w_95 (s_aload_n dX4_row_87 rfl (s_getf dX4_row_88 rfl u_X4 (by decide) w_95 (s_iconst dX4_row_91 (by decide) (s_isub dX4_row_92 (s_iret dX4_row_93 rfl))))))))))))))))))))))))))))))))))))))))))))))))))))))
def k_X4_row_0 (l : Launch) (X : Nat → aw_Kt) (d : Nat) (Q : Option Value → aw_H → Prop) : aw_Kt := o_al 0 (o_gf 4 1 (o_ic 40 (o_i3 (fun x y => x = y) (o_ic (-104) (o_ri Q)) (k_X4_row_12 l X d Q))))
theorem t_X4_row_0 {l : Launch} {X : Nat → aw_Kt} {d : Nat} {Q : Option Value → aw_H → Prop} : aw_Sn l m_X4_row none X d 0 0 Q 0 (k_X4_row_0 l X d Q) := by
  unfold k_X4_row_0
  exact s_aload_n dX4_row_0 rfl (s_getf dX4_row_1 rfl u_X4 (by decide) w_95 (s_bipush dX4_row_4 (by decide) (s_icmp_ne dX4_row_6 (by decide) (s_bipush dX4_row_9 (by decide) (s_iret dX4_row_11 rfl)) t_X4_row_12)))
/-! X4_label -/
def k_X4_label_46 (l : Launch) (X : Nat → aw_Kt) (d : Nat) (Q : Option Value → aw_H → Prop) : aw_Kt := o_al 0 (o_gf 4 3 (o_ic 8 (o_il 2 (o_ib (fun x y => x * y) (o_il 1 (o_ib (fun x y => x + y) (o_il 3 (o_ic 1 (o_ib (fun x y => x + y) (o_xa (o_ic 1 (o_ri Q))))))))))))
theorem t_X4_label_46 {l : Launch} {X : Nat → aw_Kt} {d : Nat} {Q : Option Value → aw_H → Prop} : aw_Sn l m_X4_label none X d 0 0 Q 46 (k_X4_label_46 l X d Q) := by
  unfold k_X4_label_46
  exact s_aload_n dX4_label_46 rfl (s_getf dX4_label_47 rfl u_X4 (by decide) w_100 (s_bipush dX4_label_50 (by decide) (s_iload_n dX4_label_52 rfl (s_imul dX4_label_53 (s_iload_n dX4_label_54 rfl (s_iadd dX4_label_55 (s_iload_n dX4_label_56 rfl (s_iconst dX4_label_57 (by decide) (s_iadd dX4_label_58 (s_iastore dX4_label_59 (s_iconst dX4_label_60 (by decide) (s_iret dX4_label_61 rfl))))))))))))
def k_X4_label_30 (l : Launch) (X : Nat → aw_Kt) (d : Nat) (Q : Option Value → aw_H → Prop) : aw_Kt := o_al 0 (o_gf 4 3 (o_ic 8 (o_il 2 (o_ib (fun x y => x * y) (o_il 1 (o_ib (fun x y => x + y) (o_ia 0 (o_if (fun x => x ≤ 0) (k_X4_label_46 l X d Q) (o_ic 0 (o_ri Q))))))))))
theorem t_X4_label_30 {l : Launch} {X : Nat → aw_Kt} {d : Nat} {Q : Option Value → aw_H → Prop} : aw_Sn l m_X4_label none X d 0 0 Q 30 (k_X4_label_30 l X d Q) := by
  unfold k_X4_label_30
  exact s_aload_n dX4_label_30 rfl (s_getf dX4_label_31 rfl u_X4 (by decide) w_100 (s_bipush dX4_label_34 (by decide) (s_iload_n dX4_label_36 rfl (s_imul dX4_label_37 (s_iload_n dX4_label_38 rfl (s_iadd dX4_label_39 (s_iaload dX4_label_40 (s_if_le dX4_label_41 (by decide) t_X4_label_46 (s_iconst dX4_label_44 (by decide) (s_iret dX4_label_45 rfl))))))))))
def k_X4_label_18 (l : Launch) (X : Nat → aw_Kt) (d : Nat) (Q : Option Value → aw_H → Prop) : aw_Kt := o_il 3 (o_ic 0 (o_ic 4 (o_cs l d m_X4_in 3 (o_if (fun x => x = 0) (o_ic (-102) (o_ri Q)) (k_X4_label_30 l X d Q)))))
theorem t_X4_label_18 {l : Launch} {X : Nat → aw_Kt} {d : Nat} {Q : Option Value → aw_H → Prop} : aw_Sn l m_X4_label none X d 0 0 Q 18 (k_X4_label_18 l X d Q) := by
  unfold k_X4_label_18
  exact s_iload_n dX4_label_18 rfl (s_iconst dX4_label_19 (by decide) (s_iconst dX4_label_20 (by decide) (s_cs dX4_label_21 (by decide) w_97 wt_X4_in w_96 wc_X4_in wd_X4_in (s_if_ne dX4_label_24 (by decide) (s_bipush dX4_label_27 (by decide) (s_iret dX4_label_29 rfl)) t_X4_label_30))))
def k_X4_label_15 (l : Launch) (X : Nat → aw_Kt) (d : Nat) (Q : Option Value → aw_H → Prop) : aw_Kt := o_ic (-101) (o_ri Q)
theorem t_X4_label_15 {l : Launch} {X : Nat → aw_Kt} {d : Nat} {Q : Option Value → aw_H → Prop} : aw_Sn l m_X4_label none X d 0 0 Q 15 (k_X4_label_15 l X d Q) := by
  unfold k_X4_label_15
  exact s_bipush dX4_label_15 (by decide) (s_iret dX4_label_17 rfl)
def k_X4_label_0 (l : Launch) (X : Nat → aw_Kt) (d : Nat) (Q : Option Value → aw_H → Prop) : aw_Kt := o_il 1 (o_cs l d m_X4_isPerson 1 (o_if (fun x => x = 0) (k_X4_label_15 l X d Q) (o_al 0 (o_il 2 (o_cv l d m_X4_isRow 4 1 (o_if (fun x => x = 0) (k_X4_label_15 l X d Q) (k_X4_label_18 l X d Q)))))))
theorem t_X4_label_0 {l : Launch} {X : Nat → aw_Kt} {d : Nat} {Q : Option Value → aw_H → Prop} : aw_Sn l m_X4_label none X d 0 0 Q 0 (k_X4_label_0 l X d Q) := by
  unfold k_X4_label_0
  exact s_iload_n dX4_label_0 rfl (s_cs dX4_label_1 (by decide) w_102 wt_X4_isPerson w_96 wc_X4_isPerson wd_X4_isPerson (s_if_eq dX4_label_4 (by decide) t_X4_label_15 (s_aload_n dX4_label_7 rfl (s_iload_n dX4_label_8 rfl (s_cv dX4_label_9 rfl (by decide) w_101 wi_X4_isRow ws_X4_isRow w_96 wc_X4_isRow wd_X4_isRow (s_if_ne dX4_label_12 (by decide) t_X4_label_15 t_X4_label_18))))))
/-! X4_said -/
def k_X4_said_33 (l : Launch) (X : Nat → aw_Kt) (d : Nat) (Q : Option Value → aw_H → Prop) : aw_Kt := o_ri Q
theorem t_X4_said_33 {l : Launch} {X : Nat → aw_Kt} {d : Nat} {Q : Option Value → aw_H → Prop} : aw_Sn l m_X4_said none X d 0 0 Q 33 (k_X4_said_33 l X d Q) := by
  unfold k_X4_said_33
  exact s_iret dX4_said_33 rfl
def k_X4_said_20 (l : Launch) (X : Nat → aw_Kt) (d : Nat) (Q : Option Value → aw_H → Prop) : aw_Kt := o_al 0 (o_gf 4 3 (o_ic 8 (o_il 2 (o_ib (fun x y => x * y) (o_il 1 (o_ib (fun x y => x + y) (o_ia 0 (o_ic 1 (o_ib (fun x y => x - y) (k_X4_said_33 l X d Q))))))))))
theorem t_X4_said_20 {l : Launch} {X : Nat → aw_Kt} {d : Nat} {Q : Option Value → aw_H → Prop} : aw_Sn l m_X4_said none X d 0 0 Q 20 (k_X4_said_20 l X d Q) := by
  unfold k_X4_said_20
  exact s_aload_n dX4_said_20 rfl (s_getf dX4_said_21 rfl u_X4 (by decide) w_100 (s_bipush dX4_said_24 (by decide) (s_iload_n dX4_said_26 rfl (s_imul dX4_said_27 (s_iload_n dX4_said_28 rfl (s_iadd dX4_said_29 (s_iaload dX4_said_30 (s_iconst dX4_said_31 (by decide) (s_isub dX4_said_32 t_X4_said_33)))))))))
def k_X4_said_15 (l : Launch) (X : Nat → aw_Kt) (d : Nat) (Q : Option Value → aw_H → Prop) : aw_Kt := o_ic (-101) (k_X4_said_33 l X d Q)
theorem t_X4_said_15 {l : Launch} {X : Nat → aw_Kt} {d : Nat} {Q : Option Value → aw_H → Prop} : aw_Sn l m_X4_said none X d 0 0 Q 15 (k_X4_said_15 l X d Q) := by
  unfold k_X4_said_15
  exact s_bipush dX4_said_15 (by decide) (s_goto dX4_said_17 (by decide) t_X4_said_33)
def k_X4_said_0 (l : Launch) (X : Nat → aw_Kt) (d : Nat) (Q : Option Value → aw_H → Prop) : aw_Kt := o_il 1 (o_cs l d m_X4_isPerson 1 (o_if (fun x => x = 0) (k_X4_said_15 l X d Q) (o_al 0 (o_il 2 (o_cv l d m_X4_isRow 4 1 (o_if (fun x => x = 0) (k_X4_said_15 l X d Q) (k_X4_said_20 l X d Q)))))))
theorem t_X4_said_0 {l : Launch} {X : Nat → aw_Kt} {d : Nat} {Q : Option Value → aw_H → Prop} : aw_Sn l m_X4_said none X d 0 0 Q 0 (k_X4_said_0 l X d Q) := by
  unfold k_X4_said_0
  exact s_iload_n dX4_said_0 rfl (s_cs dX4_said_1 (by decide) w_102 wt_X4_isPerson w_96 wc_X4_isPerson wd_X4_isPerson (s_if_eq dX4_said_4 (by decide) t_X4_said_15 (s_aload_n dX4_said_7 rfl (s_iload_n dX4_said_8 rfl (s_cv dX4_said_9 rfl (by decide) w_101 wi_X4_isRow ws_X4_isRow w_96 wc_X4_isRow wd_X4_isRow (s_if_ne dX4_said_12 (by decide) t_X4_said_15 t_X4_said_20))))))
/-! X4_gold -/
def k_X4_gold_23 (l : Launch) (X : Nat → aw_Kt) (d : Nat) (Q : Option Value → aw_H → Prop) : aw_Kt := o_al 0 (o_gf 4 4 (o_il 1 (o_ia 0 (o_is 3 (o_al 0 (o_gf 4 4 (o_il 1 (o_il 2 (o_xa (o_il 3 (o_ri Q)))))))))))
theorem t_X4_gold_23 {l : Launch} {X : Nat → aw_Kt} {d : Nat} {Q : Option Value → aw_H → Prop} : aw_Sn l m_X4_gold none X d 0 0 Q 23 (k_X4_gold_23 l X d Q) := by
  unfold k_X4_gold_23
  exact s_aload_n dX4_gold_23 rfl (s_getf dX4_gold_24 rfl u_X4 (by decide) w_99 (s_iload_n dX4_gold_27 rfl (s_iaload dX4_gold_28 (s_istore_n dX4_gold_29 rfl (by decide) (s_aload_n dX4_gold_30 rfl (s_getf dX4_gold_31 rfl u_X4 (by decide) w_99 (s_iload_n dX4_gold_34 rfl (s_iload_n dX4_gold_35 rfl (s_iastore dX4_gold_36 (s_iload_n dX4_gold_37 rfl (s_iret dX4_gold_38 rfl)))))))))))
def k_X4_gold_11 (l : Launch) (X : Nat → aw_Kt) (d : Nat) (Q : Option Value → aw_H → Prop) : aw_Kt := o_il 2 (o_ic (-1) (o_ic 4 (o_cs l d m_X4_in 3 (o_if (fun x => x = 0) (o_ic (-102) (o_ri Q)) (k_X4_gold_23 l X d Q)))))
theorem t_X4_gold_11 {l : Launch} {X : Nat → aw_Kt} {d : Nat} {Q : Option Value → aw_H → Prop} : aw_Sn l m_X4_gold none X d 0 0 Q 11 (k_X4_gold_11 l X d Q) := by
  unfold k_X4_gold_11
  exact s_iload_n dX4_gold_11 rfl (s_iconst dX4_gold_12 (by decide) (s_iconst dX4_gold_13 (by decide) (s_cs dX4_gold_14 (by decide) w_97 wt_X4_in w_96 wc_X4_in wd_X4_in (s_if_ne dX4_gold_17 (by decide) (s_bipush dX4_gold_20 (by decide) (s_iret dX4_gold_22 rfl)) t_X4_gold_23))))
def k_X4_gold_0 (l : Launch) (X : Nat → aw_Kt) (d : Nat) (Q : Option Value → aw_H → Prop) : aw_Kt := o_al 0 (o_il 1 (o_cv l d m_X4_isRow 4 1 (o_if (fun x => x = 0) (o_ic (-101) (o_ri Q)) (k_X4_gold_11 l X d Q))))
theorem t_X4_gold_0 {l : Launch} {X : Nat → aw_Kt} {d : Nat} {Q : Option Value → aw_H → Prop} : aw_Sn l m_X4_gold none X d 0 0 Q 0 (k_X4_gold_0 l X d Q) := by
  unfold k_X4_gold_0
  exact s_aload_n dX4_gold_0 rfl (s_iload_n dX4_gold_1 rfl (s_cv dX4_gold_2 rfl (by decide) w_101 wi_X4_isRow ws_X4_isRow w_96 wc_X4_isRow wd_X4_isRow (s_if_ne dX4_gold_5 (by decide) (s_bipush dX4_gold_8 (by decide) (s_iret dX4_gold_10 rfl)) t_X4_gold_11)))
/-! X4_bound -/
def k_X4_bound_13 (l : Launch) (X : Nat → aw_Kt) (d : Nat) (Q : Option Value → aw_H → Prop) : aw_Kt := o_al 0 (o_gf 4 5 (o_is 2 (o_al 0 (o_il 1 (o_pi 4 5 (o_il 2 (o_ri Q)))))))
theorem t_X4_bound_13 {l : Launch} {X : Nat → aw_Kt} {d : Nat} {Q : Option Value → aw_H → Prop} : aw_Sn l m_X4_bound none X d 0 0 Q 13 (k_X4_bound_13 l X d Q) := by
  unfold k_X4_bound_13
  exact s_aload_n dX4_bound_13 rfl (s_getf dX4_bound_14 rfl u_X4 (by decide) w_103 (s_istore_n dX4_bound_17 rfl (by decide) (s_aload_n dX4_bound_18 rfl (s_iload_n dX4_bound_19 rfl (s_puti dX4_bound_20 rfl u_X4 tyX4_ok nmX4 (by decide) rfl (by decide +kernel) w_103 (s_iload_n dX4_bound_23 rfl (s_iret dX4_bound_24 rfl)))))))
def k_X4_bound_0 (l : Launch) (X : Nat → aw_Kt) (d : Nat) (Q : Option Value → aw_H → Prop) : aw_Kt := o_il 1 (o_ic 1 (o_ic 9 (o_cs l d m_X4_in 3 (o_if (fun x => x = 0) (o_ic (-102) (o_ri Q)) (k_X4_bound_13 l X d Q)))))
theorem t_X4_bound_0 {l : Launch} {X : Nat → aw_Kt} {d : Nat} {Q : Option Value → aw_H → Prop} : aw_Sn l m_X4_bound none X d 0 0 Q 0 (k_X4_bound_0 l X d Q) := by
  unfold k_X4_bound_0
  exact s_iload_n dX4_bound_0 rfl (s_iconst dX4_bound_1 (by decide) (s_bipush dX4_bound_2 (by decide) (s_cs dX4_bound_4 (by decide) w_97 wt_X4_in w_96 wc_X4_in wd_X4_in (s_if_ne dX4_bound_7 (by decide) (s_bipush dX4_bound_10 (by decide) (s_iret dX4_bound_12 rfl)) t_X4_bound_13))))
/-! X4_expert -/
def k_X4_expert_34 (l : Launch) (X : Nat → aw_Kt) (d : Nat) (Q : Option Value → aw_H → Prop) : aw_Kt := o_ri Q
theorem t_X4_expert_34 {l : Launch} {X : Nat → aw_Kt} {d : Nat} {Q : Option Value → aw_H → Prop} : aw_Sn l m_X4_expert none X d 0 0 Q 34 (k_X4_expert_34 l X d Q) := by
  unfold k_X4_expert_34
  exact s_iret dX4_expert_34 rfl
def k_X4_expert_33 (l : Launch) (X : Nat → aw_Kt) (d : Nat) (Q : Option Value → aw_H → Prop) : aw_Kt := o_ic 0 (k_X4_expert_34 l X d Q)
theorem t_X4_expert_33 {l : Launch} {X : Nat → aw_Kt} {d : Nat} {Q : Option Value → aw_H → Prop} : aw_Sn l m_X4_expert none X d 0 0 Q 33 (k_X4_expert_33 l X d Q) := by
  unfold k_X4_expert_33
  exact s_iconst dX4_expert_33 (by decide) t_X4_expert_34
def k_X4_expert_10 (l : Launch) (X : Nat → aw_Kt) (d : Nat) (Q : Option Value → aw_H → Prop) : aw_Kt := o_al 0 (o_gf 4 6 (o_il 1 (o_ia 1 (o_is 3 (o_al 0 (o_gf 4 6 (o_il 1 (o_il 2 (o_zs (o_il 3 (o_il 2 (o_i3 (fun x y => x = y) (k_X4_expert_33 l X d Q) (o_ic 1 (k_X4_expert_34 l X d Q))))))))))))))
theorem t_X4_expert_10 {l : Launch} {X : Nat → aw_Kt} {d : Nat} {Q : Option Value → aw_H → Prop} : aw_Sn l m_X4_expert none X d 0 0 Q 10 (k_X4_expert_10 l X d Q) := by
  unfold k_X4_expert_10
  exact s_aload_n dX4_expert_10 rfl (s_getf dX4_expert_11 rfl u_X4 (by decide) w_104 (s_iload_n dX4_expert_14 rfl (s_baload dX4_expert_15 (s_istore_n dX4_expert_16 rfl (by decide) (s_aload_n dX4_expert_17 rfl (s_getf dX4_expert_18 rfl u_X4 (by decide) w_104 (s_iload_n dX4_expert_21 rfl (s_iload_n dX4_expert_22 rfl (s_bastore dX4_expert_23 (s_iload_n dX4_expert_24 rfl (s_iload_n dX4_expert_25 rfl (s_icmp_eq dX4_expert_26 (by decide) t_X4_expert_33 (s_iconst dX4_expert_29 (by decide) (s_goto dX4_expert_30 (by decide) t_X4_expert_34))))))))))))))
def k_X4_expert_0 (l : Launch) (X : Nat → aw_Kt) (d : Nat) (Q : Option Value → aw_H → Prop) : aw_Kt := o_il 1 (o_cs l d m_X4_isPerson 1 (o_if (fun x => x = 0) (o_ic (-101) (o_ri Q)) (k_X4_expert_10 l X d Q)))
theorem t_X4_expert_0 {l : Launch} {X : Nat → aw_Kt} {d : Nat} {Q : Option Value → aw_H → Prop} : aw_Sn l m_X4_expert none X d 0 0 Q 0 (k_X4_expert_0 l X d Q) := by
  unfold k_X4_expert_0
  exact s_iload_n dX4_expert_0 rfl (s_cs dX4_expert_1 (by decide) w_102 wt_X4_isPerson w_96 wc_X4_isPerson wd_X4_isPerson (s_if_ne dX4_expert_4 (by decide) (s_bipush dX4_expert_7 (by decide) (s_iret dX4_expert_9 rfl)) t_X4_expert_10))
/-! X4_wrong -/
def k_X4_wrong_72 (l : Launch) (X : Nat → aw_Kt) (d : Nat) (Q : Option Value → aw_H → Prop) : aw_Kt := o_il 2 (o_ri Q)
theorem t_X4_wrong_72 {l : Launch} {X : Nat → aw_Kt} {d : Nat} {Q : Option Value → aw_H → Prop} : aw_Sn l m_X4_wrong none X d 0 0 Q 72 (k_X4_wrong_72 l X d Q) := by
  unfold k_X4_wrong_72
  exact s_iload_n dX4_wrong_72 rfl (s_iret dX4_wrong_73 rfl)
def k_X4_wrong_64 (l : Launch) (X : Nat → aw_Kt) (d : Nat) (Q : Option Value → aw_H → Prop) : aw_Kt := o_ib (fun x y => x + y) (o_is 2 (o_ii 3 1 (SW l m_X4_wrong none X d 0 0 Q 4)))
theorem t_X4_wrong_64 {l : Launch} {X : Nat → aw_Kt} {d : Nat} {Q : Option Value → aw_H → Prop} : aw_Sn l m_X4_wrong none X d 0 0 Q 64 (k_X4_wrong_64 l X d Q) := by
  unfold k_X4_wrong_64
  exact s_iadd dX4_wrong_64 (s_istore_n dX4_wrong_65 rfl (by decide) (s_iinc dX4_wrong_66 (by decide) (by decide) (s_goto dX4_wrong_69 (by decide) s_stop)))
def k_X4_wrong_63 (l : Launch) (X : Nat → aw_Kt) (d : Nat) (Q : Option Value → aw_H → Prop) : aw_Kt := o_ic 0 (k_X4_wrong_64 l X d Q)
theorem t_X4_wrong_63 {l : Launch} {X : Nat → aw_Kt} {d : Nat} {Q : Option Value → aw_H → Prop} : aw_Sn l m_X4_wrong none X d 0 0 Q 63 (k_X4_wrong_63 l X d Q) := by
  unfold k_X4_wrong_63
  exact s_iconst dX4_wrong_63 (by decide) t_X4_wrong_64
def k_X4_wrong_4 (l : Launch) (X : Nat → aw_Kt) (d : Nat) (Q : Option Value → aw_H → Prop) : aw_Kt := o_il 3 (o_al 0 (o_gf 4 1 (o_i3 (fun x y => y ≤ x) (k_X4_wrong_72 l X d Q) (o_il 2 (o_al 0 (o_gf 4 4 (o_il 3 (o_ia 0 (o_ic (-1) (o_i3 (fun x y => x = y) (k_X4_wrong_63 l X d Q) (o_al 0 (o_gf 4 3 (o_ic 8 (o_il 3 (o_ib (fun x y => x * y) (o_il 1 (o_ib (fun x y => x + y) (o_ia 0 (o_if (fun x => x ≤ 0) (k_X4_wrong_63 l X d Q) (o_al 0 (o_gf 4 3 (o_ic 8 (o_il 3 (o_ib (fun x y => x * y) (o_il 1 (o_ib (fun x y => x + y) (o_ia 0 (o_ic 1 (o_ib (fun x y => x - y) (o_al 0 (o_gf 4 4 (o_il 3 (o_ia 0 (o_i3 (fun x y => x = y) (k_X4_wrong_63 l X d Q) (o_ic 1 (k_X4_wrong_64 l X d Q))))))))))))))))))))))))))))))))))))
theorem t_X4_wrong_4 {l : Launch} {X : Nat → aw_Kt} {d : Nat} {Q : Option Value → aw_H → Prop} : aw_Sn l m_X4_wrong none X d 0 0 Q 4 (k_X4_wrong_4 l X d Q) := by
  unfold k_X4_wrong_4
  exact s_iload_n dX4_wrong_4 rfl (s_aload_n dX4_wrong_5 rfl (s_getf dX4_wrong_6 rfl u_X4 (by decide) w_95 (s_icmp_ge dX4_wrong_9 (by decide) t_X4_wrong_72 (s_iload_n dX4_wrong_12 rfl (s_aload_n dX4_wrong_13 rfl (s_getf dX4_wrong_14 rfl u_X4 (by decide) w_99 (s_iload_n dX4_wrong_17 rfl (s_iaload dX4_wrong_18 (s_iconst dX4_wrong_19 (by decide) (s_icmp_eq dX4_wrong_20 (by decide) t_X4_wrong_63 (s_aload_n dX4_wrong_23 rfl (s_getf dX4_wrong_24 rfl u_X4 (by decide) w_100 (s_bipush dX4_wrong_27 (by decide) (s_iload_n dX4_wrong_29 rfl (s_imul dX4_wrong_30 (s_iload_n dX4_wrong_31 rfl (s_iadd dX4_wrong_32 (s_iaload dX4_wrong_33 (s_if_le dX4_wrong_34 (by decide) t_X4_wrong_63 (s_aload_n dX4_wrong_37 rfl (s_getf dX4_wrong_38 rfl u_X4 (by decide) w_100 (s_bipush dX4_wrong_41 (by decide) (s_iload_n dX4_wrong_43 rfl (s_imul dX4_wrong_44 (s_iload_n dX4_wrong_45 rfl (s_iadd dX4_wrong_46 (s_iaload dX4_wrong_47 (s_iconst dX4_wrong_48 (by decide) (s_isub dX4_wrong_49 (s_aload_n dX4_wrong_50 rfl (s_getf dX4_wrong_51 rfl u_X4 (by decide) w_99 (s_iload_n dX4_wrong_54 rfl (s_iaload dX4_wrong_55 (s_icmp_eq dX4_wrong_56 (by decide) t_X4_wrong_63 (s_iconst dX4_wrong_59 (by decide) (s_goto dX4_wrong_60 (by decide) t_X4_wrong_64))))))))))))))))))))))))))))))))))))
def k_X4_wrong_0 (l : Launch) (X : Nat → aw_Kt) (d : Nat) (Q : Option Value → aw_H → Prop) : aw_Kt := o_ic 0 (o_is 2 (o_ic 0 (o_is 3 (SW l m_X4_wrong none X d 0 0 Q 4))))
theorem t_X4_wrong_0 {l : Launch} {X : Nat → aw_Kt} {d : Nat} {Q : Option Value → aw_H → Prop} : aw_Sn l m_X4_wrong none X d 0 0 Q 0 (k_X4_wrong_0 l X d Q) := by
  unfold k_X4_wrong_0
  exact s_iconst dX4_wrong_0 (by decide) (s_istore_n dX4_wrong_1 rfl (by decide) (s_iconst dX4_wrong_2 (by decide) (s_istore_n dX4_wrong_3 rfl (by decide) s_stop)))
/-! X4_isBarred -/
def k_X4_isBarred_17 (l : Launch) (X : Nat → aw_Kt) (d : Nat) (Q : Option Value → aw_H → Prop) : aw_Kt := o_rz Q
theorem t_X4_isBarred_17 {l : Launch} {X : Nat → aw_Kt} {d : Nat} {Q : Option Value → aw_H → Prop} : aw_Sn l m_X4_isBarred none X d 0 0 Q 17 (k_X4_isBarred_17 l X d Q) := by
  unfold k_X4_isBarred_17
  exact s_zret dX4_isBarred_17 rfl
def k_X4_isBarred_16 (l : Launch) (X : Nat → aw_Kt) (d : Nat) (Q : Option Value → aw_H → Prop) : aw_Kt := o_ic 0 (k_X4_isBarred_17 l X d Q)
theorem t_X4_isBarred_16 {l : Launch} {X : Nat → aw_Kt} {d : Nat} {Q : Option Value → aw_H → Prop} : aw_Sn l m_X4_isBarred none X d 0 0 Q 16 (k_X4_isBarred_16 l X d Q) := by
  unfold k_X4_isBarred_16
  exact s_iconst dX4_isBarred_16 (by decide) t_X4_isBarred_17
def k_X4_isBarred_0 (l : Launch) (X : Nat → aw_Kt) (d : Nat) (Q : Option Value → aw_H → Prop) : aw_Kt := o_al 0 (o_il 1 (o_cv l d m_X4_wrong 4 1 (o_al 0 (o_gf 4 5 (o_i3 (fun x y => x < y) (k_X4_isBarred_16 l X d Q) (o_ic 1 (k_X4_isBarred_17 l X d Q)))))))
theorem t_X4_isBarred_0 {l : Launch} {X : Nat → aw_Kt} {d : Nat} {Q : Option Value → aw_H → Prop} : aw_Sn l m_X4_isBarred none X d 0 0 Q 0 (k_X4_isBarred_0 l X d Q) := by
  unfold k_X4_isBarred_0
  exact s_aload_n dX4_isBarred_0 rfl (s_iload_n dX4_isBarred_1 rfl (s_cv dX4_isBarred_2 rfl (by decide) w_105 wi_X4_wrong ws_X4_wrong w_96 wc_X4_wrong wd_X4_wrong (s_aload_n dX4_isBarred_5 rfl (s_getf dX4_isBarred_6 rfl u_X4 (by decide) w_103 (s_icmp_lt dX4_isBarred_9 (by decide) t_X4_isBarred_16 (s_iconst dX4_isBarred_12 (by decide) (s_goto dX4_isBarred_13 (by decide) t_X4_isBarred_17)))))))
/-! X4_labelled -/
def k_X4_labelled_40 (l : Launch) (X : Nat → aw_Kt) (d : Nat) (Q : Option Value → aw_H → Prop) : aw_Kt := o_il 2 (o_ri Q)
theorem t_X4_labelled_40 {l : Launch} {X : Nat → aw_Kt} {d : Nat} {Q : Option Value → aw_H → Prop} : aw_Sn l m_X4_labelled none X d 0 0 Q 40 (k_X4_labelled_40 l X d Q) := by
  unfold k_X4_labelled_40
  exact s_iload_n dX4_labelled_40 rfl (s_iret dX4_labelled_41 rfl)
def k_X4_labelled_32 (l : Launch) (X : Nat → aw_Kt) (d : Nat) (Q : Option Value → aw_H → Prop) : aw_Kt := o_ib (fun x y => x + y) (o_is 2 (o_ii 3 1 (SW l m_X4_labelled none X d 0 0 Q 4)))
theorem t_X4_labelled_32 {l : Launch} {X : Nat → aw_Kt} {d : Nat} {Q : Option Value → aw_H → Prop} : aw_Sn l m_X4_labelled none X d 0 0 Q 32 (k_X4_labelled_32 l X d Q) := by
  unfold k_X4_labelled_32
  exact s_iadd dX4_labelled_32 (s_istore_n dX4_labelled_33 rfl (by decide) (s_iinc dX4_labelled_34 (by decide) (by decide) (s_goto dX4_labelled_37 (by decide) s_stop)))
def k_X4_labelled_31 (l : Launch) (X : Nat → aw_Kt) (d : Nat) (Q : Option Value → aw_H → Prop) : aw_Kt := o_ic 0 (k_X4_labelled_32 l X d Q)
theorem t_X4_labelled_31 {l : Launch} {X : Nat → aw_Kt} {d : Nat} {Q : Option Value → aw_H → Prop} : aw_Sn l m_X4_labelled none X d 0 0 Q 31 (k_X4_labelled_31 l X d Q) := by
  unfold k_X4_labelled_31
  exact s_iconst dX4_labelled_31 (by decide) t_X4_labelled_32
def k_X4_labelled_4 (l : Launch) (X : Nat → aw_Kt) (d : Nat) (Q : Option Value → aw_H → Prop) : aw_Kt := o_il 3 (o_al 0 (o_gf 4 1 (o_i3 (fun x y => y ≤ x) (k_X4_labelled_40 l X d Q) (o_il 2 (o_al 0 (o_gf 4 3 (o_ic 8 (o_il 3 (o_ib (fun x y => x * y) (o_il 1 (o_ib (fun x y => x + y) (o_ia 0 (o_if (fun x => x ≤ 0) (k_X4_labelled_31 l X d Q) (o_ic 1 (k_X4_labelled_32 l X d Q)))))))))))))))
theorem t_X4_labelled_4 {l : Launch} {X : Nat → aw_Kt} {d : Nat} {Q : Option Value → aw_H → Prop} : aw_Sn l m_X4_labelled none X d 0 0 Q 4 (k_X4_labelled_4 l X d Q) := by
  unfold k_X4_labelled_4
  exact s_iload_n dX4_labelled_4 rfl (s_aload_n dX4_labelled_5 rfl (s_getf dX4_labelled_6 rfl u_X4 (by decide) w_95 (s_icmp_ge dX4_labelled_9 (by decide) t_X4_labelled_40 (s_iload_n dX4_labelled_12 rfl (s_aload_n dX4_labelled_13 rfl (s_getf dX4_labelled_14 rfl u_X4 (by decide) w_100 (s_bipush dX4_labelled_17 (by decide) (s_iload_n dX4_labelled_19 rfl (s_imul dX4_labelled_20 (s_iload_n dX4_labelled_21 rfl (s_iadd dX4_labelled_22 (s_iaload dX4_labelled_23 (s_if_le dX4_labelled_24 (by decide) t_X4_labelled_31 (s_iconst dX4_labelled_27 (by decide) (s_goto dX4_labelled_28 (by decide) t_X4_labelled_32)))))))))))))))
def k_X4_labelled_0 (l : Launch) (X : Nat → aw_Kt) (d : Nat) (Q : Option Value → aw_H → Prop) : aw_Kt := o_ic 0 (o_is 2 (o_ic 0 (o_is 3 (SW l m_X4_labelled none X d 0 0 Q 4))))
theorem t_X4_labelled_0 {l : Launch} {X : Nat → aw_Kt} {d : Nat} {Q : Option Value → aw_H → Prop} : aw_Sn l m_X4_labelled none X d 0 0 Q 0 (k_X4_labelled_0 l X d Q) := by
  unfold k_X4_labelled_0
  exact s_iconst dX4_labelled_0 (by decide) (s_istore_n dX4_labelled_1 rfl (by decide) (s_iconst dX4_labelled_2 (by decide) (s_istore_n dX4_labelled_3 rfl (by decide) s_stop)))
/-! X4_person -/
def k_X4_person_73 (l : Launch) (X : Nat → aw_Kt) (d : Nat) (Q : Option Value → aw_H → Prop) : aw_Kt := o_ic (-102) (o_ri Q)
theorem t_X4_person_73 {l : Launch} {X : Nat → aw_Kt} {d : Nat} {Q : Option Value → aw_H → Prop} : aw_Sn l m_X4_person none X d 0 0 Q 73 (k_X4_person_73 l X d Q) := by
  unfold k_X4_person_73
  exact s_bipush dX4_person_73 (by decide) (s_iret dX4_person_75 rfl)
def k_X4_person_67 (l : Launch) (X : Nat → aw_Kt) (d : Nat) (Q : Option Value → aw_H → Prop) : aw_Kt := o_al 0 (o_il 1 (o_cv l d m_X4_labelled 4 1 (o_ri Q)))
theorem t_X4_person_67 {l : Launch} {X : Nat → aw_Kt} {d : Nat} {Q : Option Value → aw_H → Prop} : aw_Sn l m_X4_person none X d 0 0 Q 67 (k_X4_person_67 l X d Q) := by
  unfold k_X4_person_67
  exact s_aload_n dX4_person_67 rfl (s_iload_n dX4_person_68 rfl (s_cv dX4_person_69 rfl (by decide) w_106 wi_X4_labelled ws_X4_labelled w_96 wc_X4_labelled wd_X4_labelled (s_iret dX4_person_72 rfl)))
def k_X4_person_66 (l : Launch) (X : Nat → aw_Kt) (d : Nat) (Q : Option Value → aw_H → Prop) : aw_Kt := o_ri Q
theorem t_X4_person_66 {l : Launch} {X : Nat → aw_Kt} {d : Nat} {Q : Option Value → aw_H → Prop} : aw_Sn l m_X4_person none X d 0 0 Q 66 (k_X4_person_66 l X d Q) := by
  unfold k_X4_person_66
  exact s_iret dX4_person_66 rfl
def k_X4_person_65 (l : Launch) (X : Nat → aw_Kt) (d : Nat) (Q : Option Value → aw_H → Prop) : aw_Kt := o_ic 0 (k_X4_person_66 l X d Q)
theorem t_X4_person_65 {l : Launch} {X : Nat → aw_Kt} {d : Nat} {Q : Option Value → aw_H → Prop} : aw_Sn l m_X4_person none X d 0 0 Q 65 (k_X4_person_65 l X d Q) := by
  unfold k_X4_person_65
  exact s_iconst dX4_person_65 (by decide) t_X4_person_66
def k_X4_person_53 (l : Launch) (X : Nat → aw_Kt) (d : Nat) (Q : Option Value → aw_H → Prop) : aw_Kt := o_al 0 (o_il 1 (o_cv l d m_X4_isBarred 4 1 (o_if (fun x => x = 0) (k_X4_person_65 l X d Q) (o_ic 1 (k_X4_person_66 l X d Q)))))
theorem t_X4_person_53 {l : Launch} {X : Nat → aw_Kt} {d : Nat} {Q : Option Value → aw_H → Prop} : aw_Sn l m_X4_person none X d 0 0 Q 53 (k_X4_person_53 l X d Q) := by
  unfold k_X4_person_53
  exact s_aload_n dX4_person_53 rfl (s_iload_n dX4_person_54 rfl (s_cv dX4_person_55 rfl (by decide) w_107 wi_X4_isBarred ws_X4_isBarred w_96 wc_X4_isBarred wd_X4_isBarred (s_if_eq dX4_person_58 (by decide) t_X4_person_65 (s_iconst dX4_person_61 (by decide) (s_goto dX4_person_62 (by decide) t_X4_person_66)))))
def k_X4_person_47 (l : Launch) (X : Nat → aw_Kt) (d : Nat) (Q : Option Value → aw_H → Prop) : aw_Kt := o_al 0 (o_il 1 (o_cv l d m_X4_wrong 4 1 (o_ri Q)))
theorem t_X4_person_47 {l : Launch} {X : Nat → aw_Kt} {d : Nat} {Q : Option Value → aw_H → Prop} : aw_Sn l m_X4_person none X d 0 0 Q 47 (k_X4_person_47 l X d Q) := by
  unfold k_X4_person_47
  exact s_aload_n dX4_person_47 rfl (s_iload_n dX4_person_48 rfl (s_cv dX4_person_49 rfl (by decide) w_105 wi_X4_wrong ws_X4_wrong w_96 wc_X4_wrong wd_X4_wrong (s_iret dX4_person_52 rfl)))
def k_X4_person_40 (l : Launch) (X : Nat → aw_Kt) (d : Nat) (Q : Option Value → aw_H → Prop) : aw_Kt := o_al 0 (o_gf 4 7 (o_il 1 (o_ia 0 (o_ri Q))))
theorem t_X4_person_40 {l : Launch} {X : Nat → aw_Kt} {d : Nat} {Q : Option Value → aw_H → Prop} : aw_Sn l m_X4_person none X d 0 0 Q 40 (k_X4_person_40 l X d Q) := by
  unfold k_X4_person_40
  exact s_aload_n dX4_person_40 rfl (s_getf dX4_person_41 rfl u_X4 (by decide) w_108 (s_iload_n dX4_person_44 rfl (s_iaload dX4_person_45 (s_iret dX4_person_46 rfl))))
def k_X4_person_10 (l : Launch) (X : Nat → aw_Kt) (d : Nat) (Q : Option Value → aw_H → Prop) : aw_Kt := o_il 2 (o_ts 0 3 [(k_X4_person_40 l X d Q), (k_X4_person_47 l X d Q), (k_X4_person_53 l X d Q), (k_X4_person_67 l X d Q)] (k_X4_person_73 l X d Q))
theorem t_X4_person_10 {l : Launch} {X : Nat → aw_Kt} {d : Nat} {Q : Option Value → aw_H → Prop} : aw_Sn l m_X4_person none X d 0 0 Q 10 (k_X4_person_10 l X d Q) := by
  unfold k_X4_person_10
  exact s_iload_n dX4_person_10 rfl (s_tsw dX4_person_11 (by decide) (by decide) (by decide) t_X4_person_73 ⟨⟨40, by decide, t_X4_person_40⟩, ⟨⟨47, by decide, t_X4_person_47⟩, ⟨⟨53, by decide, t_X4_person_53⟩, ⟨⟨67, by decide, t_X4_person_67⟩, trivial⟩⟩⟩⟩)
def k_X4_person_0 (l : Launch) (X : Nat → aw_Kt) (d : Nat) (Q : Option Value → aw_H → Prop) : aw_Kt := o_il 1 (o_cs l d m_X4_isPerson 1 (o_if (fun x => x = 0) (o_ic (-101) (o_ri Q)) (k_X4_person_10 l X d Q)))
theorem t_X4_person_0 {l : Launch} {X : Nat → aw_Kt} {d : Nat} {Q : Option Value → aw_H → Prop} : aw_Sn l m_X4_person none X d 0 0 Q 0 (k_X4_person_0 l X d Q) := by
  unfold k_X4_person_0
  exact s_iload_n dX4_person_0 rfl (s_cs dX4_person_1 (by decide) w_102 wt_X4_isPerson w_96 wc_X4_isPerson wd_X4_isPerson (s_if_ne dX4_person_4 (by decide) (s_bipush dX4_person_7 (by decide) (s_iret dX4_person_9 rfl)) t_X4_person_10))
/-! X4_rule -/
def k_X4_rule_42 (l : Launch) (X : Nat → aw_Kt) (d : Nat) (Q : Option Value → aw_H → Prop) : aw_Kt := o_al 0 (o_gf 4 10 (o_al 0 (o_gf 4 9 (o_il 1 (o_xa (o_al 0 (o_gf 4 11 (o_al 0 (o_gf 4 9 (o_il 2 (o_xa (o_al 0 (o_gf 4 12 (o_al 0 (o_gf 4 9 (o_il 3 (o_xa (o_al 0 (o_gf 4 13 (o_al 0 (o_gf 4 9 (o_il 4 (o_xa (o_al 0 (o_gf 4 14 (o_al 0 (o_gf 4 9 (o_ic 1 (o_zs (o_al 0 (o_dp (o_gf 4 9 (o_ic 1 (o_ib (fun x y => x + y) (o_pi 4 9 (o_al 0 (o_gf 4 9 (o_ic 1 (o_ib (fun x y => x - y) (o_ri Q))))))))))))))))))))))))))))))))))))))))
theorem t_X4_rule_42 {l : Launch} {X : Nat → aw_Kt} {d : Nat} {Q : Option Value → aw_H → Prop} : aw_Sn l m_X4_rule none X d 0 0 Q 42 (k_X4_rule_42 l X d Q) := by
  unfold k_X4_rule_42
  exact s_aload_n dX4_rule_42 rfl (s_getf dX4_rule_43 rfl u_X4 (by decide) w_109 (s_aload_n dX4_rule_46 rfl (s_getf dX4_rule_47 rfl u_X4 (by decide) w_110 (s_iload_n dX4_rule_50 rfl (s_iastore dX4_rule_51 (s_aload_n dX4_rule_52 rfl (s_getf dX4_rule_53 rfl u_X4 (by decide) w_111 (s_aload_n dX4_rule_56 rfl (s_getf dX4_rule_57 rfl u_X4 (by decide) w_110 (s_iload_n dX4_rule_60 rfl (s_iastore dX4_rule_61 (s_aload_n dX4_rule_62 rfl (s_getf dX4_rule_63 rfl u_X4 (by decide) w_112 (s_aload_n dX4_rule_66 rfl (s_getf dX4_rule_67 rfl u_X4 (by decide) w_110 (s_iload_n dX4_rule_70 rfl (s_iastore dX4_rule_71 (s_aload_n dX4_rule_72 rfl (s_getf dX4_rule_73 rfl u_X4 (by decide) w_113 (s_aload_n dX4_rule_76 rfl (s_getf dX4_rule_77 rfl u_X4 (by decide) w_110 (s_iload dX4_rule_80 (s_iastore dX4_rule_82 (s_aload_n dX4_rule_83 rfl (s_getf dX4_rule_84 rfl u_X4 (by decide) w_114 (s_aload_n dX4_rule_87 rfl (s_getf dX4_rule_88 rfl u_X4 (by decide) w_110 (s_iconst dX4_rule_91 (by decide) (s_bastore dX4_rule_92 (s_aload_n dX4_rule_93 rfl (s_dup dX4_rule_94 (s_getf dX4_rule_95 rfl u_X4 (by decide) w_110 (s_iconst dX4_rule_98 (by decide) (s_iadd dX4_rule_99 (s_puti dX4_rule_100 rfl u_X4 tyX4_ok nmX4 (by decide) rfl (by decide +kernel) w_110 (s_aload_n dX4_rule_103 rfl (s_getf dX4_rule_104 rfl u_X4 (by decide) w_110 (s_iconst dX4_rule_107 (by decide) (s_isub dX4_rule_108 (s_iret dX4_rule_109 rfl))))))))))))))))))))))))))))))))))))))))
def k_X4_rule_30 (l : Launch) (X : Nat → aw_Kt) (d : Nat) (Q : Option Value → aw_H → Prop) : aw_Kt := o_al 0 (o_gf 4 9 (o_ic 6 (o_i3 (fun x y => x = y) (o_ic (-104) (o_ri Q)) (k_X4_rule_42 l X d Q))))
theorem t_X4_rule_30 {l : Launch} {X : Nat → aw_Kt} {d : Nat} {Q : Option Value → aw_H → Prop} : aw_Sn l m_X4_rule none X d 0 0 Q 30 (k_X4_rule_30 l X d Q) := by
  unfold k_X4_rule_30
  exact s_aload_n dX4_rule_30 rfl (s_getf dX4_rule_31 rfl u_X4 (by decide) w_110 (s_bipush dX4_rule_34 (by decide) (s_icmp_ne dX4_rule_36 (by decide) (s_bipush dX4_rule_39 (by decide) (s_iret dX4_rule_41 rfl)) t_X4_rule_42)))
def k_X4_rule_27 (l : Launch) (X : Nat → aw_Kt) (d : Nat) (Q : Option Value → aw_H → Prop) : aw_Kt := o_ic (-102) (o_ri Q)
theorem t_X4_rule_27 {l : Launch} {X : Nat → aw_Kt} {d : Nat} {Q : Option Value → aw_H → Prop} : aw_Sn l m_X4_rule none X d 0 0 Q 27 (k_X4_rule_27 l X d Q) := by
  unfold k_X4_rule_27
  exact s_bipush dX4_rule_27 (by decide) (s_iret dX4_rule_29 rfl)
def k_X4_rule_0 (l : Launch) (X : Nat → aw_Kt) (d : Nat) (Q : Option Value → aw_H → Prop) : aw_Kt := o_il 1 (o_ic 0 (o_ic 3 (o_cs l d m_X4_in 3 (o_if (fun x => x = 0) (k_X4_rule_27 l X d Q) (o_il 2 (o_ic 0 (o_ic 3 (o_cs l d m_X4_in 3 (o_if (fun x => x = 0) (k_X4_rule_27 l X d Q) (o_il 3 (o_ic 0 (o_ic 3 (o_cs l d m_X4_in 3 (o_if (fun x => x = 0) (k_X4_rule_27 l X d Q) (k_X4_rule_30 l X d Q)))))))))))))))
theorem t_X4_rule_0 {l : Launch} {X : Nat → aw_Kt} {d : Nat} {Q : Option Value → aw_H → Prop} : aw_Sn l m_X4_rule none X d 0 0 Q 0 (k_X4_rule_0 l X d Q) := by
  unfold k_X4_rule_0
  exact s_iload_n dX4_rule_0 rfl (s_iconst dX4_rule_1 (by decide) (s_iconst dX4_rule_2 (by decide) (s_cs dX4_rule_3 (by decide) w_97 wt_X4_in w_96 wc_X4_in wd_X4_in (s_if_eq dX4_rule_6 (by decide) t_X4_rule_27 (s_iload_n dX4_rule_9 rfl (s_iconst dX4_rule_10 (by decide) (s_iconst dX4_rule_11 (by decide) (s_cs dX4_rule_12 (by decide) w_97 wt_X4_in w_96 wc_X4_in wd_X4_in (s_if_eq dX4_rule_15 (by decide) t_X4_rule_27 (s_iload_n dX4_rule_18 rfl (s_iconst dX4_rule_19 (by decide) (s_iconst dX4_rule_20 (by decide) (s_cs dX4_rule_21 (by decide) w_97 wt_X4_in w_96 wc_X4_in wd_X4_in (s_if_ne dX4_rule_24 (by decide) t_X4_rule_27 t_X4_rule_30))))))))))))))
/-! X4_turn -/
def k_X4_turn_41 (l : Launch) (X : Nat → aw_Kt) (d : Nat) (Q : Option Value → aw_H → Prop) : aw_Kt := o_ri Q
theorem t_X4_turn_41 {l : Launch} {X : Nat → aw_Kt} {d : Nat} {Q : Option Value → aw_H → Prop} : aw_Sn l m_X4_turn none X d 0 0 Q 41 (k_X4_turn_41 l X d Q) := by
  unfold k_X4_turn_41
  exact s_iret dX4_turn_41 rfl
def k_X4_turn_40 (l : Launch) (X : Nat → aw_Kt) (d : Nat) (Q : Option Value → aw_H → Prop) : aw_Kt := o_ic 0 (k_X4_turn_41 l X d Q)
theorem t_X4_turn_40 {l : Launch} {X : Nat → aw_Kt} {d : Nat} {Q : Option Value → aw_H → Prop} : aw_Sn l m_X4_turn none X d 0 0 Q 40 (k_X4_turn_40 l X d Q) := by
  unfold k_X4_turn_40
  exact s_iconst dX4_turn_40 (by decide) t_X4_turn_41
def k_X4_turn_17 (l : Launch) (X : Nat → aw_Kt) (d : Nat) (Q : Option Value → aw_H → Prop) : aw_Kt := o_al 0 (o_gf 4 14 (o_il 1 (o_ia 1 (o_is 3 (o_al 0 (o_gf 4 14 (o_il 1 (o_il 2 (o_zs (o_il 3 (o_il 2 (o_i3 (fun x y => x = y) (k_X4_turn_40 l X d Q) (o_ic 1 (k_X4_turn_41 l X d Q))))))))))))))
theorem t_X4_turn_17 {l : Launch} {X : Nat → aw_Kt} {d : Nat} {Q : Option Value → aw_H → Prop} : aw_Sn l m_X4_turn none X d 0 0 Q 17 (k_X4_turn_17 l X d Q) := by
  unfold k_X4_turn_17
  exact s_aload_n dX4_turn_17 rfl (s_getf dX4_turn_18 rfl u_X4 (by decide) w_114 (s_iload_n dX4_turn_21 rfl (s_baload dX4_turn_22 (s_istore_n dX4_turn_23 rfl (by decide) (s_aload_n dX4_turn_24 rfl (s_getf dX4_turn_25 rfl u_X4 (by decide) w_114 (s_iload_n dX4_turn_28 rfl (s_iload_n dX4_turn_29 rfl (s_bastore dX4_turn_30 (s_iload_n dX4_turn_31 rfl (s_iload_n dX4_turn_32 rfl (s_icmp_eq dX4_turn_33 (by decide) t_X4_turn_40 (s_iconst dX4_turn_36 (by decide) (s_goto dX4_turn_37 (by decide) t_X4_turn_41))))))))))))))
def k_X4_turn_0 (l : Launch) (X : Nat → aw_Kt) (d : Nat) (Q : Option Value → aw_H → Prop) : aw_Kt := o_il 1 (o_ic 0 (o_al 0 (o_gf 4 9 (o_ic 1 (o_ib (fun x y => x - y) (o_cs l d m_X4_in 3 (o_if (fun x => x = 0) (o_ic (-101) (o_ri Q)) (k_X4_turn_17 l X d Q))))))))
theorem t_X4_turn_0 {l : Launch} {X : Nat → aw_Kt} {d : Nat} {Q : Option Value → aw_H → Prop} : aw_Sn l m_X4_turn none X d 0 0 Q 0 (k_X4_turn_0 l X d Q) := by
  unfold k_X4_turn_0
  exact s_iload_n dX4_turn_0 rfl (s_iconst dX4_turn_1 (by decide) (s_aload_n dX4_turn_2 rfl (s_getf dX4_turn_3 rfl u_X4 (by decide) w_110 (s_iconst dX4_turn_6 (by decide) (s_isub dX4_turn_7 (s_cs dX4_turn_8 (by decide) w_97 wt_X4_in w_96 wc_X4_in wd_X4_in (s_if_ne dX4_turn_11 (by decide) (s_bipush dX4_turn_14 (by decide) (s_iret dX4_turn_16 rfl)) t_X4_turn_17)))))))
/-! X4_table -/
def k_X4_table_13 (l : Launch) (X : Nat → aw_Kt) (d : Nat) (Q : Option Value → aw_H → Prop) : aw_Kt := o_al 0 (o_gf 4 15 (o_il 1 (o_ia 0 (o_is 3 (o_al 0 (o_gf 4 15 (o_il 1 (o_il 2 (o_xa (o_il 3 (o_ri Q)))))))))))
theorem t_X4_table_13 {l : Launch} {X : Nat → aw_Kt} {d : Nat} {Q : Option Value → aw_H → Prop} : aw_Sn l m_X4_table none X d 0 0 Q 13 (k_X4_table_13 l X d Q) := by
  unfold k_X4_table_13
  exact s_aload_n dX4_table_13 rfl (s_getf dX4_table_14 rfl u_X4 (by decide) w_115 (s_iload_n dX4_table_17 rfl (s_iaload dX4_table_18 (s_istore_n dX4_table_19 rfl (by decide) (s_aload_n dX4_table_20 rfl (s_getf dX4_table_21 rfl u_X4 (by decide) w_115 (s_iload_n dX4_table_24 rfl (s_iload_n dX4_table_25 rfl (s_iastore dX4_table_26 (s_iload_n dX4_table_27 rfl (s_iret dX4_table_28 rfl)))))))))))
def k_X4_table_0 (l : Launch) (X : Nat → aw_Kt) (d : Nat) (Q : Option Value → aw_H → Prop) : aw_Kt := o_il 1 (o_ic 0 (o_ic 7 (o_cs l d m_X4_in 3 (o_if (fun x => x = 0) (o_ic (-102) (o_ri Q)) (k_X4_table_13 l X d Q)))))
theorem t_X4_table_0 {l : Launch} {X : Nat → aw_Kt} {d : Nat} {Q : Option Value → aw_H → Prop} : aw_Sn l m_X4_table none X d 0 0 Q 0 (k_X4_table_0 l X d Q) := by
  unfold k_X4_table_0
  exact s_iload_n dX4_table_0 rfl (s_iconst dX4_table_1 (by decide) (s_bipush dX4_table_2 (by decide) (s_cs dX4_table_4 (by decide) w_97 wt_X4_in w_96 wc_X4_in wd_X4_in (s_if_ne dX4_table_7 (by decide) (s_bipush dX4_table_10 (by decide) (s_iret dX4_table_12 rfl)) t_X4_table_13))))
/-! X4_saysOf -/
def k_X4_saysOf_159 (l : Launch) (X : Nat → aw_Kt) (d : Nat) (Q : Option Value → aw_H → Prop) : aw_Kt := o_ri Q
theorem t_X4_saysOf_159 {l : Launch} {X : Nat → aw_Kt} {d : Nat} {Q : Option Value → aw_H → Prop} : aw_Sn l m_X4_saysOf none X d 0 0 Q 159 (k_X4_saysOf_159 l X d Q) := by
  unfold k_X4_saysOf_159
  exact s_iret dX4_saysOf_159 rfl
def k_X4_saysOf_157 (l : Launch) (X : Nat → aw_Kt) (d : Nat) (Q : Option Value → aw_H → Prop) : aw_Kt := o_il 6 (k_X4_saysOf_159 l X d Q)
theorem t_X4_saysOf_157 {l : Launch} {X : Nat → aw_Kt} {d : Nat} {Q : Option Value → aw_H → Prop} : aw_Sn l m_X4_saysOf none X d 0 0 Q 157 (k_X4_saysOf_157 l X d Q) := by
  unfold k_X4_saysOf_157
  exact s_iload dX4_saysOf_157 t_X4_saysOf_159
def k_X4_saysOf_139 (l : Launch) (X : Nat → aw_Kt) (d : Nat) (Q : Option Value → aw_H → Prop) : aw_Kt := o_il 5 (o_ic 5 (o_rm (o_is 6 (o_il 6 (o_if (fun x => 0 ≤ x) (k_X4_saysOf_157 l X d Q) (o_il 6 (o_ic 5 (o_ib (fun x y => x + y) (k_X4_saysOf_159 l X d Q)))))))))
theorem t_X4_saysOf_139 {l : Launch} {X : Nat → aw_Kt} {d : Nat} {Q : Option Value → aw_H → Prop} : aw_Sn l m_X4_saysOf none X d 0 0 Q 139 (k_X4_saysOf_139 l X d Q) := by
  unfold k_X4_saysOf_139
  exact s_iload dX4_saysOf_139 (s_iconst dX4_saysOf_141 (by decide) (s_irem dX4_saysOf_142 (s_istore dX4_saysOf_143 (by decide) (s_iload dX4_saysOf_145 (s_if_ge dX4_saysOf_147 (by decide) t_X4_saysOf_157 (s_iload dX4_saysOf_150 (s_iconst dX4_saysOf_152 (by decide) (s_iadd dX4_saysOf_153 (s_goto dX4_saysOf_154 (by decide) t_X4_saysOf_159)))))))))
def k_X4_saysOf_137 (l : Launch) (X : Nat → aw_Kt) (d : Nat) (Q : Option Value → aw_H → Prop) : aw_Kt := o_is 5 (k_X4_saysOf_139 l X d Q)
theorem t_X4_saysOf_137 {l : Launch} {X : Nat → aw_Kt} {d : Nat} {Q : Option Value → aw_H → Prop} : aw_Sn l m_X4_saysOf none X d 0 0 Q 137 (k_X4_saysOf_137 l X d Q) := by
  unfold k_X4_saysOf_137
  exact s_istore dX4_saysOf_137 (by decide) t_X4_saysOf_139
def k_X4_saysOf_136 (l : Launch) (X : Nat → aw_Kt) (d : Nat) (Q : Option Value → aw_H → Prop) : aw_Kt := o_ic 1 (k_X4_saysOf_137 l X d Q)
theorem t_X4_saysOf_136 {l : Launch} {X : Nat → aw_Kt} {d : Nat} {Q : Option Value → aw_H → Prop} : aw_Sn l m_X4_saysOf none X d 0 0 Q 136 (k_X4_saysOf_136 l X d Q) := by
  unfold k_X4_saysOf_136
  exact s_iconst dX4_saysOf_136 (by decide) t_X4_saysOf_137
def k_X4_saysOf_122 (l : Launch) (X : Nat → aw_Kt) (d : Nat) (Q : Option Value → aw_H → Prop) : aw_Kt := o_il 3 (o_al 0 (o_gf 4 13 (o_il 1 (o_ia 0 (o_i3 (fun x y => y ≤ x) (k_X4_saysOf_136 l X d Q) (o_ic 0 (k_X4_saysOf_137 l X d Q)))))))
theorem t_X4_saysOf_122 {l : Launch} {X : Nat → aw_Kt} {d : Nat} {Q : Option Value → aw_H → Prop} : aw_Sn l m_X4_saysOf none X d 0 0 Q 122 (k_X4_saysOf_122 l X d Q) := by
  unfold k_X4_saysOf_122
  exact s_iload_n dX4_saysOf_122 rfl (s_aload_n dX4_saysOf_123 rfl (s_getf dX4_saysOf_124 rfl u_X4 (by decide) w_113 (s_iload_n dX4_saysOf_127 rfl (s_iaload dX4_saysOf_128 (s_icmp_ge dX4_saysOf_129 (by decide) t_X4_saysOf_136 (s_iconst dX4_saysOf_132 (by decide) (s_goto dX4_saysOf_133 (by decide) t_X4_saysOf_137)))))))
def k_X4_saysOf_110 (l : Launch) (X : Nat → aw_Kt) (d : Nat) (Q : Option Value → aw_H → Prop) : aw_Kt := o_al 0 (o_gf 4 15 (o_il 6 (o_ia 0 (o_is 5 (k_X4_saysOf_139 l X d Q)))))
theorem t_X4_saysOf_110 {l : Launch} {X : Nat → aw_Kt} {d : Nat} {Q : Option Value → aw_H → Prop} : aw_Sn l m_X4_saysOf none X d 0 0 Q 110 (k_X4_saysOf_110 l X d Q) := by
  unfold k_X4_saysOf_110
  exact s_aload_n dX4_saysOf_110 rfl (s_getf dX4_saysOf_111 rfl u_X4 (by decide) w_115 (s_iload dX4_saysOf_114 (s_iaload dX4_saysOf_116 (s_istore dX4_saysOf_117 (by decide) (s_goto dX4_saysOf_119 (by decide) t_X4_saysOf_139)))))
def k_X4_saysOf_76 (l : Launch) (X : Nat → aw_Kt) (d : Nat) (Q : Option Value → aw_H → Prop) : aw_Kt := o_al 0 (o_gf 4 10 (o_il 1 (o_ia 0 (o_ic 2 (o_i3 (fun x y => x = y) (o_il 3 (o_al 0 (o_gf 4 13 (o_il 1 (o_ia 0 (o_ib (fun x y => x + y) (o_is 6 (o_il 6 (o_ic 0 (o_ic 7 (o_cs l d m_X4_in 3 (o_if (fun x => x = 0) (o_ic (-3) (o_ri Q)) (k_X4_saysOf_110 l X d Q))))))))))))) (k_X4_saysOf_122 l X d Q))))))
theorem t_X4_saysOf_76 {l : Launch} {X : Nat → aw_Kt} {d : Nat} {Q : Option Value → aw_H → Prop} : aw_Sn l m_X4_saysOf none X d 0 0 Q 76 (k_X4_saysOf_76 l X d Q) := by
  unfold k_X4_saysOf_76
  exact s_aload_n dX4_saysOf_76 rfl (s_getf dX4_saysOf_77 rfl u_X4 (by decide) w_109 (s_iload_n dX4_saysOf_80 rfl (s_iaload dX4_saysOf_81 (s_iconst dX4_saysOf_82 (by decide) (s_icmp_ne dX4_saysOf_83 (by decide) (s_iload_n dX4_saysOf_86 rfl (s_aload_n dX4_saysOf_87 rfl (s_getf dX4_saysOf_88 rfl u_X4 (by decide) w_113 (s_iload_n dX4_saysOf_91 rfl (s_iaload dX4_saysOf_92 (s_iadd dX4_saysOf_93 (s_istore dX4_saysOf_94 (by decide) (s_iload dX4_saysOf_96 (s_iconst dX4_saysOf_98 (by decide) (s_bipush dX4_saysOf_99 (by decide) (s_cs dX4_saysOf_101 (by decide) w_97 wt_X4_in w_96 wc_X4_in wd_X4_in (s_if_ne dX4_saysOf_104 (by decide) (s_bipush dX4_saysOf_107 (by decide) (s_iret dX4_saysOf_109 rfl)) t_X4_saysOf_110)))))))))))) t_X4_saysOf_122)))))
def k_X4_saysOf_71 (l : Launch) (X : Nat → aw_Kt) (d : Nat) (Q : Option Value → aw_H → Prop) : aw_Kt := o_is 5 (k_X4_saysOf_139 l X d Q)
theorem t_X4_saysOf_71 {l : Launch} {X : Nat → aw_Kt} {d : Nat} {Q : Option Value → aw_H → Prop} : aw_Sn l m_X4_saysOf none X d 0 0 Q 71 (k_X4_saysOf_71 l X d Q) := by
  unfold k_X4_saysOf_71
  exact s_istore dX4_saysOf_71 (by decide) (s_goto dX4_saysOf_73 (by decide) t_X4_saysOf_139)
def k_X4_saysOf_67 (l : Launch) (X : Nat → aw_Kt) (d : Nat) (Q : Option Value → aw_H → Prop) : aw_Kt := o_il 3 (o_il 4 (o_rm (k_X4_saysOf_71 l X d Q)))
theorem t_X4_saysOf_67 {l : Launch} {X : Nat → aw_Kt} {d : Nat} {Q : Option Value → aw_H → Prop} : aw_Sn l m_X4_saysOf none X d 0 0 Q 67 (k_X4_saysOf_67 l X d Q) := by
  unfold k_X4_saysOf_67
  exact s_iload_n dX4_saysOf_67 rfl (s_iload dX4_saysOf_68 (s_irem dX4_saysOf_70 t_X4_saysOf_71))
def k_X4_saysOf_51 (l : Launch) (X : Nat → aw_Kt) (d : Nat) (Q : Option Value → aw_H → Prop) : aw_Kt := o_al 0 (o_gf 4 10 (o_il 1 (o_ia 0 (o_if (fun x => x = 0) (o_il 3 (o_il 4 (o_dv (k_X4_saysOf_71 l X d Q)))) (k_X4_saysOf_67 l X d Q)))))
theorem t_X4_saysOf_51 {l : Launch} {X : Nat → aw_Kt} {d : Nat} {Q : Option Value → aw_H → Prop} : aw_Sn l m_X4_saysOf none X d 0 0 Q 51 (k_X4_saysOf_51 l X d Q) := by
  unfold k_X4_saysOf_51
  exact s_aload_n dX4_saysOf_51 rfl (s_getf dX4_saysOf_52 rfl u_X4 (by decide) w_109 (s_iload_n dX4_saysOf_55 rfl (s_iaload dX4_saysOf_56 (s_if_ne dX4_saysOf_57 (by decide) (s_iload_n dX4_saysOf_60 rfl (s_iload dX4_saysOf_61 (s_idiv dX4_saysOf_63 (s_goto dX4_saysOf_64 (by decide) t_X4_saysOf_71)))) t_X4_saysOf_67))))
def k_X4_saysOf_0 (l : Launch) (X : Nat → aw_Kt) (d : Nat) (Q : Option Value → aw_H → Prop) : aw_Kt := o_al 0 (o_gf 4 2 (o_ic 4 (o_il 2 (o_ib (fun x y => x * y) (o_al 0 (o_gf 4 11 (o_il 1 (o_ia 0 (o_ib (fun x y => x + y) (o_ia 0 (o_is 3 (o_al 0 (o_gf 4 2 (o_ic 4 (o_il 2 (o_ib (fun x y => x * y) (o_al 0 (o_gf 4 12 (o_il 1 (o_ia 0 (o_ib (fun x y => x + y) (o_ia 0 (o_is 4 (o_al 0 (o_gf 4 10 (o_il 1 (o_ia 0 (o_ic 2 (o_i3 (fun x y => y ≤ x) (k_X4_saysOf_76 l X d Q) (o_il 4 (o_if (fun x => x = 0) (o_ic (-2) (o_ri Q)) (k_X4_saysOf_51 l X d Q))))))))))))))))))))))))))))))))
theorem t_X4_saysOf_0 {l : Launch} {X : Nat → aw_Kt} {d : Nat} {Q : Option Value → aw_H → Prop} : aw_Sn l m_X4_saysOf none X d 0 0 Q 0 (k_X4_saysOf_0 l X d Q) := by
  unfold k_X4_saysOf_0
  exact s_aload_n dX4_saysOf_0 rfl (s_getf dX4_saysOf_1 rfl u_X4 (by decide) w_98 (s_iconst dX4_saysOf_4 (by decide) (s_iload_n dX4_saysOf_5 rfl (s_imul dX4_saysOf_6 (s_aload_n dX4_saysOf_7 rfl (s_getf dX4_saysOf_8 rfl u_X4 (by decide) w_111 (s_iload_n dX4_saysOf_11 rfl (s_iaload dX4_saysOf_12 (s_iadd dX4_saysOf_13 (s_iaload dX4_saysOf_14 (s_istore_n dX4_saysOf_15 rfl (by decide) (s_aload_n dX4_saysOf_16 rfl (s_getf dX4_saysOf_17 rfl u_X4 (by decide) w_98 (s_iconst dX4_saysOf_20 (by decide) (s_iload_n dX4_saysOf_21 rfl (s_imul dX4_saysOf_22 (s_aload_n dX4_saysOf_23 rfl (s_getf dX4_saysOf_24 rfl u_X4 (by decide) w_112 (s_iload_n dX4_saysOf_27 rfl (s_iaload dX4_saysOf_28 (s_iadd dX4_saysOf_29 (s_iaload dX4_saysOf_30 (s_istore dX4_saysOf_31 (by decide) (s_aload_n dX4_saysOf_33 rfl (s_getf dX4_saysOf_34 rfl u_X4 (by decide) w_109 (s_iload_n dX4_saysOf_37 rfl (s_iaload dX4_saysOf_38 (s_iconst dX4_saysOf_39 (by decide) (s_icmp_ge dX4_saysOf_40 (by decide) t_X4_saysOf_76 (s_iload dX4_saysOf_43 (s_if_ne dX4_saysOf_45 (by decide) (s_bipush dX4_saysOf_48 (by decide) (s_iret dX4_saysOf_50 rfl)) t_X4_saysOf_51)))))))))))))))))))))))))))))))
/-! X4_says -/
def k_X4_says_70 (l : Launch) (X : Nat → aw_Kt) (d : Nat) (Q : Option Value → aw_H → Prop) : aw_Kt := o_ri Q
theorem t_X4_says_70 {l : Launch} {X : Nat → aw_Kt} {d : Nat} {Q : Option Value → aw_H → Prop} : aw_Sn l m_X4_says none X d 0 0 Q 70 (k_X4_says_70 l X d Q) := by
  unfold k_X4_says_70
  exact s_iret dX4_says_70 rfl
def k_X4_says_69 (l : Launch) (X : Nat → aw_Kt) (d : Nat) (Q : Option Value → aw_H → Prop) : aw_Kt := o_il 3 (k_X4_says_70 l X d Q)
theorem t_X4_says_69 {l : Launch} {X : Nat → aw_Kt} {d : Nat} {Q : Option Value → aw_H → Prop} : aw_Sn l m_X4_says none X d 0 0 Q 69 (k_X4_says_69 l X d Q) := by
  unfold k_X4_says_69
  exact s_iload_n dX4_says_69 rfl t_X4_says_70
def k_X4_says_58 (l : Launch) (X : Nat → aw_Kt) (d : Nat) (Q : Option Value → aw_H → Prop) : aw_Kt := o_pi 4 0 (o_il 3 (o_if (fun x => 0 ≤ x) (k_X4_says_69 l X d Q) (o_ic 0 (k_X4_says_70 l X d Q))))
theorem t_X4_says_58 {l : Launch} {X : Nat → aw_Kt} {d : Nat} {Q : Option Value → aw_H → Prop} : aw_Sn l m_X4_says none X d 0 0 Q 58 (k_X4_says_58 l X d Q) := by
  unfold k_X4_says_58
  exact s_puti dX4_says_58 rfl u_X4 tyX4_ok nmX4 (by decide) rfl (by decide +kernel) w_94 (s_iload_n dX4_says_61 rfl (s_if_ge dX4_says_62 (by decide) t_X4_says_69 (s_iconst dX4_says_65 (by decide) (s_goto dX4_says_66 (by decide) t_X4_says_70))))
def k_X4_says_57 (l : Launch) (X : Nat → aw_Kt) (d : Nat) (Q : Option Value → aw_H → Prop) : aw_Kt := o_ic 0 (k_X4_says_58 l X d Q)
theorem t_X4_says_57 {l : Launch} {X : Nat → aw_Kt} {d : Nat} {Q : Option Value → aw_H → Prop} : aw_Sn l m_X4_says none X d 0 0 Q 57 (k_X4_says_57 l X d Q) := by
  unfold k_X4_says_57
  exact s_iconst dX4_says_57 (by decide) t_X4_says_58
def k_X4_says_40 (l : Launch) (X : Nat → aw_Kt) (d : Nat) (Q : Option Value → aw_H → Prop) : aw_Kt := o_al 0 (o_il 1 (o_il 2 (o_cv l d m_X4_saysOf 4 2 (o_is 3 (o_al 0 (o_il 3 (o_if (fun x => 0 ≤ x) (k_X4_says_57 l X d Q) (o_il 3 (o_ng (k_X4_says_58 l X d Q))))))))))
theorem t_X4_says_40 {l : Launch} {X : Nat → aw_Kt} {d : Nat} {Q : Option Value → aw_H → Prop} : aw_Sn l m_X4_says none X d 0 0 Q 40 (k_X4_says_40 l X d Q) := by
  unfold k_X4_says_40
  exact s_aload_n dX4_says_40 rfl (s_iload_n dX4_says_41 rfl (s_iload_n dX4_says_42 rfl (s_cv dX4_says_43 rfl (by decide) w_116 wi_X4_saysOf ws_X4_saysOf w_96 wc_X4_saysOf wd_X4_saysOf (s_istore_n dX4_says_46 rfl (by decide) (s_aload_n dX4_says_47 rfl (s_iload_n dX4_says_48 rfl (s_if_ge dX4_says_49 (by decide) t_X4_says_57 (s_iload_n dX4_says_52 rfl (s_ineg dX4_says_53 (s_goto dX4_says_54 (by decide) t_X4_says_58))))))))))
def k_X4_says_28 (l : Launch) (X : Nat → aw_Kt) (d : Nat) (Q : Option Value → aw_H → Prop) : aw_Kt := o_pi 4 0 (o_al 0 (o_gf 4 0 (o_if (fun x => x ≤ 0) (k_X4_says_40 l X d Q) (o_ic 0 (o_ri Q)))))
theorem t_X4_says_28 {l : Launch} {X : Nat → aw_Kt} {d : Nat} {Q : Option Value → aw_H → Prop} : aw_Sn l m_X4_says none X d 0 0 Q 28 (k_X4_says_28 l X d Q) := by
  unfold k_X4_says_28
  exact s_puti dX4_says_28 rfl u_X4 tyX4_ok nmX4 (by decide) rfl (by decide +kernel) w_94 (s_aload_n dX4_says_31 rfl (s_getf dX4_says_32 rfl u_X4 (by decide) w_94 (s_if_le dX4_says_35 (by decide) t_X4_says_40 (s_iconst dX4_says_38 (by decide) (s_iret dX4_says_39 rfl)))))
def k_X4_says_27 (l : Launch) (X : Nat → aw_Kt) (d : Nat) (Q : Option Value → aw_H → Prop) : aw_Kt := o_ic 1 (k_X4_says_28 l X d Q)
theorem t_X4_says_27 {l : Launch} {X : Nat → aw_Kt} {d : Nat} {Q : Option Value → aw_H → Prop} : aw_Sn l m_X4_says none X d 0 0 Q 27 (k_X4_says_27 l X d Q) := by
  unfold k_X4_says_27
  exact s_iconst dX4_says_27 (by decide) t_X4_says_28
def k_X4_says_0 (l : Launch) (X : Nat → aw_Kt) (d : Nat) (Q : Option Value → aw_H → Prop) : aw_Kt := o_al 0 (o_il 1 (o_ic 0 (o_al 0 (o_gf 4 9 (o_ic 1 (o_ib (fun x y => x - y) (o_cs l d m_X4_in 3 (o_if (fun x => x = 0) (k_X4_says_27 l X d Q) (o_al 0 (o_il 2 (o_cv l d m_X4_isRow 4 1 (o_if (fun x => x = 0) (k_X4_says_27 l X d Q) (o_ic 0 (k_X4_says_28 l X d Q))))))))))))))
theorem t_X4_says_0 {l : Launch} {X : Nat → aw_Kt} {d : Nat} {Q : Option Value → aw_H → Prop} : aw_Sn l m_X4_says none X d 0 0 Q 0 (k_X4_says_0 l X d Q) := by
  unfold k_X4_says_0
  exact s_aload_n dX4_says_0 rfl (s_iload_n dX4_says_1 rfl (s_iconst dX4_says_2 (by decide) (s_aload_n dX4_says_3 rfl (s_getf dX4_says_4 rfl u_X4 (by decide) w_110 (s_iconst dX4_says_7 (by decide) (s_isub dX4_says_8 (s_cs dX4_says_9 (by decide) w_97 wt_X4_in w_96 wc_X4_in wd_X4_in (s_if_eq dX4_says_12 (by decide) t_X4_says_27 (s_aload_n dX4_says_15 rfl (s_iload_n dX4_says_16 rfl (s_cv dX4_says_17 rfl (by decide) w_101 wi_X4_isRow ws_X4_isRow w_96 wc_X4_isRow wd_X4_isRow (s_if_eq dX4_says_20 (by decide) t_X4_says_27 (s_iconst dX4_says_23 (by decide) (s_goto dX4_says_24 (by decide) t_X4_says_28))))))))))))))
/-! X4_abstains -/
def k_X4_abstains_52 (l : Launch) (X : Nat → aw_Kt) (d : Nat) (Q : Option Value → aw_H → Prop) : aw_Kt := o_il 2 (o_ri Q)
theorem t_X4_abstains_52 {l : Launch} {X : Nat → aw_Kt} {d : Nat} {Q : Option Value → aw_H → Prop} : aw_Sn l m_X4_abstains none X d 0 0 Q 52 (k_X4_abstains_52 l X d Q) := by
  unfold k_X4_abstains_52
  exact s_iload_n dX4_abstains_52 rfl (s_iret dX4_abstains_53 rfl)
def k_X4_abstains_44 (l : Launch) (X : Nat → aw_Kt) (d : Nat) (Q : Option Value → aw_H → Prop) : aw_Kt := o_ib (fun x y => x + y) (o_is 2 (o_ii 3 1 (SW l m_X4_abstains none X d 0 0 Q 21)))
theorem t_X4_abstains_44 {l : Launch} {X : Nat → aw_Kt} {d : Nat} {Q : Option Value → aw_H → Prop} : aw_Sn l m_X4_abstains none X d 0 0 Q 44 (k_X4_abstains_44 l X d Q) := by
  unfold k_X4_abstains_44
  exact s_iadd dX4_abstains_44 (s_istore_n dX4_abstains_45 rfl (by decide) (s_iinc dX4_abstains_46 (by decide) (by decide) (s_goto dX4_abstains_49 (by decide) s_stop)))
def k_X4_abstains_43 (l : Launch) (X : Nat → aw_Kt) (d : Nat) (Q : Option Value → aw_H → Prop) : aw_Kt := o_ic 0 (k_X4_abstains_44 l X d Q)
theorem t_X4_abstains_43 {l : Launch} {X : Nat → aw_Kt} {d : Nat} {Q : Option Value → aw_H → Prop} : aw_Sn l m_X4_abstains none X d 0 0 Q 43 (k_X4_abstains_43 l X d Q) := by
  unfold k_X4_abstains_43
  exact s_iconst dX4_abstains_43 (by decide) t_X4_abstains_44
def k_X4_abstains_21 (l : Launch) (X : Nat → aw_Kt) (d : Nat) (Q : Option Value → aw_H → Prop) : aw_Kt := o_il 3 (o_al 0 (o_gf 4 1 (o_i3 (fun x y => y ≤ x) (k_X4_abstains_52 l X d Q) (o_il 2 (o_al 0 (o_il 1 (o_il 3 (o_cv l d m_X4_saysOf 4 2 (o_if (fun x => 0 ≤ x) (k_X4_abstains_43 l X d Q) (o_ic 1 (k_X4_abstains_44 l X d Q)))))))))))
theorem t_X4_abstains_21 {l : Launch} {X : Nat → aw_Kt} {d : Nat} {Q : Option Value → aw_H → Prop} : aw_Sn l m_X4_abstains none X d 0 0 Q 21 (k_X4_abstains_21 l X d Q) := by
  unfold k_X4_abstains_21
  exact s_iload_n dX4_abstains_21 rfl (s_aload_n dX4_abstains_22 rfl (s_getf dX4_abstains_23 rfl u_X4 (by decide) w_95 (s_icmp_ge dX4_abstains_26 (by decide) t_X4_abstains_52 (s_iload_n dX4_abstains_29 rfl (s_aload_n dX4_abstains_30 rfl (s_iload_n dX4_abstains_31 rfl (s_iload_n dX4_abstains_32 rfl (s_cv dX4_abstains_33 rfl (by decide) w_116 wi_X4_saysOf ws_X4_saysOf w_96 wc_X4_saysOf wd_X4_saysOf (s_if_ge dX4_abstains_36 (by decide) t_X4_abstains_43 (s_iconst dX4_abstains_39 (by decide) (s_goto dX4_abstains_40 (by decide) t_X4_abstains_44)))))))))))
def k_X4_abstains_17 (l : Launch) (X : Nat → aw_Kt) (d : Nat) (Q : Option Value → aw_H → Prop) : aw_Kt := o_ic 0 (o_is 2 (o_ic 0 (o_is 3 (SW l m_X4_abstains none X d 0 0 Q 21))))
theorem t_X4_abstains_17 {l : Launch} {X : Nat → aw_Kt} {d : Nat} {Q : Option Value → aw_H → Prop} : aw_Sn l m_X4_abstains none X d 0 0 Q 17 (k_X4_abstains_17 l X d Q) := by
  unfold k_X4_abstains_17
  exact s_iconst dX4_abstains_17 (by decide) (s_istore_n dX4_abstains_18 rfl (by decide) (s_iconst dX4_abstains_19 (by decide) (s_istore_n dX4_abstains_20 rfl (by decide) s_stop)))
def k_X4_abstains_0 (l : Launch) (X : Nat → aw_Kt) (d : Nat) (Q : Option Value → aw_H → Prop) : aw_Kt := o_il 1 (o_ic 0 (o_al 0 (o_gf 4 9 (o_ic 1 (o_ib (fun x y => x - y) (o_cs l d m_X4_in 3 (o_if (fun x => x = 0) (o_ic (-101) (o_ri Q)) (k_X4_abstains_17 l X d Q))))))))
theorem t_X4_abstains_0 {l : Launch} {X : Nat → aw_Kt} {d : Nat} {Q : Option Value → aw_H → Prop} : aw_Sn l m_X4_abstains none X d 0 0 Q 0 (k_X4_abstains_0 l X d Q) := by
  unfold k_X4_abstains_0
  exact s_iload_n dX4_abstains_0 rfl (s_iconst dX4_abstains_1 (by decide) (s_aload_n dX4_abstains_2 rfl (s_getf dX4_abstains_3 rfl u_X4 (by decide) w_110 (s_iconst dX4_abstains_6 (by decide) (s_isub dX4_abstains_7 (s_cs dX4_abstains_8 (by decide) w_97 wt_X4_in w_96 wc_X4_in wd_X4_in (s_if_ne dX4_abstains_11 (by decide) (s_bipush dX4_abstains_14 (by decide) (s_iret dX4_abstains_16 rfl)) t_X4_abstains_17)))))))
/-! X4_votesOf -/
def k_X4_votesOf_106 (l : Launch) (X : Nat → aw_Kt) (d : Nat) (Q : Option Value → aw_H → Prop) : aw_Kt := o_il 3 (o_ri Q)
theorem t_X4_votesOf_106 {l : Launch} {X : Nat → aw_Kt} {d : Nat} {Q : Option Value → aw_H → Prop} : aw_Sn l m_X4_votesOf none X d 0 0 Q 106 (k_X4_votesOf_106 l X d Q) := by
  unfold k_X4_votesOf_106
  exact s_iload_n dX4_votesOf_106 rfl (s_iret dX4_votesOf_107 rfl)
def k_X4_votesOf_98 (l : Launch) (X : Nat → aw_Kt) (d : Nat) (Q : Option Value → aw_H → Prop) : aw_Kt := o_ib (fun x y => x + y) (o_is 3 (o_ii 4 1 (SW l m_X4_votesOf none X d 0 0 Q 62)))
theorem t_X4_votesOf_98 {l : Launch} {X : Nat → aw_Kt} {d : Nat} {Q : Option Value → aw_H → Prop} : aw_Sn l m_X4_votesOf none X d 0 0 Q 98 (k_X4_votesOf_98 l X d Q) := by
  unfold k_X4_votesOf_98
  exact s_iadd dX4_votesOf_98 (s_istore_n dX4_votesOf_99 rfl (by decide) (s_iinc dX4_votesOf_100 (by decide) (by decide) (s_goto dX4_votesOf_103 (by decide) s_stop)))
def k_X4_votesOf_97 (l : Launch) (X : Nat → aw_Kt) (d : Nat) (Q : Option Value → aw_H → Prop) : aw_Kt := o_ic 0 (k_X4_votesOf_98 l X d Q)
theorem t_X4_votesOf_97 {l : Launch} {X : Nat → aw_Kt} {d : Nat} {Q : Option Value → aw_H → Prop} : aw_Sn l m_X4_votesOf none X d 0 0 Q 97 (k_X4_votesOf_97 l X d Q) := by
  unfold k_X4_votesOf_97
  exact s_iconst dX4_votesOf_97 (by decide) t_X4_votesOf_98
def k_X4_votesOf_62 (l : Launch) (X : Nat → aw_Kt) (d : Nat) (Q : Option Value → aw_H → Prop) : aw_Kt := o_il 4 (o_al 0 (o_gf 4 9 (o_i3 (fun x y => y ≤ x) (k_X4_votesOf_106 l X d Q) (o_il 3 (o_al 0 (o_gf 4 14 (o_il 4 (o_ia 1 (o_if (fun x => x = 0) (k_X4_votesOf_97 l X d Q) (o_al 0 (o_il 4 (o_il 1 (o_cv l d m_X4_saysOf 4 2 (o_il 2 (o_i3 (fun x y => x = y) (o_ic 1 (k_X4_votesOf_98 l X d Q)) (k_X4_votesOf_97 l X d Q))))))))))))))))
theorem t_X4_votesOf_62 {l : Launch} {X : Nat → aw_Kt} {d : Nat} {Q : Option Value → aw_H → Prop} : aw_Sn l m_X4_votesOf none X d 0 0 Q 62 (k_X4_votesOf_62 l X d Q) := by
  unfold k_X4_votesOf_62
  exact s_iload dX4_votesOf_62 (s_aload_n dX4_votesOf_64 rfl (s_getf dX4_votesOf_65 rfl u_X4 (by decide) w_110 (s_icmp_ge dX4_votesOf_68 (by decide) t_X4_votesOf_106 (s_iload_n dX4_votesOf_71 rfl (s_aload_n dX4_votesOf_72 rfl (s_getf dX4_votesOf_73 rfl u_X4 (by decide) w_114 (s_iload dX4_votesOf_76 (s_baload dX4_votesOf_78 (s_if_eq dX4_votesOf_79 (by decide) t_X4_votesOf_97 (s_aload_n dX4_votesOf_82 rfl (s_iload dX4_votesOf_83 (s_iload_n dX4_votesOf_85 rfl (s_cv dX4_votesOf_86 rfl (by decide) w_116 wi_X4_saysOf ws_X4_saysOf w_96 wc_X4_saysOf wd_X4_saysOf (s_iload_n dX4_votesOf_89 rfl (s_icmp_ne dX4_votesOf_90 (by decide) (s_iconst dX4_votesOf_93 (by decide) (s_goto dX4_votesOf_94 (by decide) t_X4_votesOf_98)) t_X4_votesOf_97)))))))))))))))
def k_X4_votesOf_59 (l : Launch) (X : Nat → aw_Kt) (d : Nat) (Q : Option Value → aw_H → Prop) : aw_Kt := o_ic 0 (o_is 4 (SW l m_X4_votesOf none X d 0 0 Q 62))
theorem t_X4_votesOf_59 {l : Launch} {X : Nat → aw_Kt} {d : Nat} {Q : Option Value → aw_H → Prop} : aw_Sn l m_X4_votesOf none X d 0 0 Q 59 (k_X4_votesOf_59 l X d Q) := by
  unfold k_X4_votesOf_59
  exact s_iconst dX4_votesOf_59 (by decide) (s_istore dX4_votesOf_60 (by decide) s_stop)
def k_X4_votesOf_51 (l : Launch) (X : Nat → aw_Kt) (d : Nat) (Q : Option Value → aw_H → Prop) : aw_Kt := o_ib (fun x y => x + y) (o_is 3 (o_ii 4 1 (SW l m_X4_votesOf none X d 0 0 Q 5)))
theorem t_X4_votesOf_51 {l : Launch} {X : Nat → aw_Kt} {d : Nat} {Q : Option Value → aw_H → Prop} : aw_Sn l m_X4_votesOf none X d 0 0 Q 51 (k_X4_votesOf_51 l X d Q) := by
  unfold k_X4_votesOf_51
  exact s_iadd dX4_votesOf_51 (s_istore_n dX4_votesOf_52 rfl (by decide) (s_iinc dX4_votesOf_53 (by decide) (by decide) (s_goto dX4_votesOf_56 (by decide) s_stop)))
def k_X4_votesOf_50 (l : Launch) (X : Nat → aw_Kt) (d : Nat) (Q : Option Value → aw_H → Prop) : aw_Kt := o_ic 0 (k_X4_votesOf_51 l X d Q)
theorem t_X4_votesOf_50 {l : Launch} {X : Nat → aw_Kt} {d : Nat} {Q : Option Value → aw_H → Prop} : aw_Sn l m_X4_votesOf none X d 0 0 Q 50 (k_X4_votesOf_50 l X d Q) := by
  unfold k_X4_votesOf_50
  exact s_iconst dX4_votesOf_50 (by decide) t_X4_votesOf_51
def k_X4_votesOf_5 (l : Launch) (X : Nat → aw_Kt) (d : Nat) (Q : Option Value → aw_H → Prop) : aw_Kt := o_il 4 (o_ic 8 (o_i3 (fun x y => y ≤ x) (k_X4_votesOf_59 l X d Q) (o_il 3 (o_al 0 (o_gf 4 3 (o_ic 8 (o_il 1 (o_ib (fun x y => x * y) (o_il 4 (o_ib (fun x y => x + y) (o_ia 0 (o_il 2 (o_ic 1 (o_ib (fun x y => x + y) (o_i3 (fun x y => x = y) (o_al 0 (o_il 4 (o_cv l d m_X4_isBarred 4 1 (o_if (fun x => x = 0) (o_al 0 (o_gf 4 7 (o_il 4 (o_ia 0 (k_X4_votesOf_51 l X d Q))))) (k_X4_votesOf_50 l X d Q))))) (k_X4_votesOf_50 l X d Q))))))))))))))))
theorem t_X4_votesOf_5 {l : Launch} {X : Nat → aw_Kt} {d : Nat} {Q : Option Value → aw_H → Prop} : aw_Sn l m_X4_votesOf none X d 0 0 Q 5 (k_X4_votesOf_5 l X d Q) := by
  unfold k_X4_votesOf_5
  exact s_iload dX4_votesOf_5 (s_bipush dX4_votesOf_7 (by decide) (s_icmp_ge dX4_votesOf_9 (by decide) t_X4_votesOf_59 (s_iload_n dX4_votesOf_12 rfl (s_aload_n dX4_votesOf_13 rfl (s_getf dX4_votesOf_14 rfl u_X4 (by decide) w_100 (s_bipush dX4_votesOf_17 (by decide) (s_iload_n dX4_votesOf_19 rfl (s_imul dX4_votesOf_20 (s_iload dX4_votesOf_21 (s_iadd dX4_votesOf_23 (s_iaload dX4_votesOf_24 (s_iload_n dX4_votesOf_25 rfl (s_iconst dX4_votesOf_26 (by decide) (s_iadd dX4_votesOf_27 (s_icmp_ne dX4_votesOf_28 (by decide) (s_aload_n dX4_votesOf_31 rfl (s_iload dX4_votesOf_32 (s_cv dX4_votesOf_34 rfl (by decide) w_107 wi_X4_isBarred ws_X4_isBarred w_96 wc_X4_isBarred wd_X4_isBarred (s_if_ne dX4_votesOf_37 (by decide) (s_aload_n dX4_votesOf_40 rfl (s_getf dX4_votesOf_41 rfl u_X4 (by decide) w_108 (s_iload dX4_votesOf_44 (s_iaload dX4_votesOf_46 (s_goto dX4_votesOf_47 (by decide) t_X4_votesOf_51))))) t_X4_votesOf_50)))) t_X4_votesOf_50)))))))))))))))
def k_X4_votesOf_0 (l : Launch) (X : Nat → aw_Kt) (d : Nat) (Q : Option Value → aw_H → Prop) : aw_Kt := o_ic 0 (o_is 3 (o_ic 0 (o_is 4 (SW l m_X4_votesOf none X d 0 0 Q 5))))
theorem t_X4_votesOf_0 {l : Launch} {X : Nat → aw_Kt} {d : Nat} {Q : Option Value → aw_H → Prop} : aw_Sn l m_X4_votesOf none X d 0 0 Q 0 (k_X4_votesOf_0 l X d Q) := by
  unfold k_X4_votesOf_0
  exact s_iconst dX4_votesOf_0 (by decide) (s_istore_n dX4_votesOf_1 rfl (by decide) (s_iconst dX4_votesOf_2 (by decide) (s_istore dX4_votesOf_3 (by decide) s_stop)))
/-! X4_votes -/
def k_X4_votes_33 (l : Launch) (X : Nat → aw_Kt) (d : Nat) (Q : Option Value → aw_H → Prop) : aw_Kt := o_ri Q
theorem t_X4_votes_33 {l : Launch} {X : Nat → aw_Kt} {d : Nat} {Q : Option Value → aw_H → Prop} : aw_Sn l m_X4_votes none X d 0 0 Q 33 (k_X4_votes_33 l X d Q) := by
  unfold k_X4_votes_33
  exact s_iret dX4_votes_33 rfl
def k_X4_votes_31 (l : Launch) (X : Nat → aw_Kt) (d : Nat) (Q : Option Value → aw_H → Prop) : aw_Kt := o_ic (-102) (k_X4_votes_33 l X d Q)
theorem t_X4_votes_31 {l : Launch} {X : Nat → aw_Kt} {d : Nat} {Q : Option Value → aw_H → Prop} : aw_Sn l m_X4_votes none X d 0 0 Q 31 (k_X4_votes_31 l X d Q) := by
  unfold k_X4_votes_31
  exact s_bipush dX4_votes_31 (by decide) t_X4_votes_33
def k_X4_votes_13 (l : Launch) (X : Nat → aw_Kt) (d : Nat) (Q : Option Value → aw_H → Prop) : aw_Kt := o_il 2 (o_ic 0 (o_ic 4 (o_cs l d m_X4_in 3 (o_if (fun x => x = 0) (k_X4_votes_31 l X d Q) (o_al 0 (o_il 1 (o_il 2 (o_cv l d m_X4_votesOf 4 2 (k_X4_votes_33 l X d Q)))))))))
theorem t_X4_votes_13 {l : Launch} {X : Nat → aw_Kt} {d : Nat} {Q : Option Value → aw_H → Prop} : aw_Sn l m_X4_votes none X d 0 0 Q 13 (k_X4_votes_13 l X d Q) := by
  unfold k_X4_votes_13
  exact s_iload_n dX4_votes_13 rfl (s_iconst dX4_votes_14 (by decide) (s_iconst dX4_votes_15 (by decide) (s_cs dX4_votes_16 (by decide) w_97 wt_X4_in w_96 wc_X4_in wd_X4_in (s_if_eq dX4_votes_19 (by decide) t_X4_votes_31 (s_aload_n dX4_votes_22 rfl (s_iload_n dX4_votes_23 rfl (s_iload_n dX4_votes_24 rfl (s_cv dX4_votes_25 rfl (by decide) w_117 wi_X4_votesOf ws_X4_votesOf w_96 wc_X4_votesOf wd_X4_votesOf (s_goto dX4_votes_28 (by decide) t_X4_votes_33)))))))))
def k_X4_votes_0 (l : Launch) (X : Nat → aw_Kt) (d : Nat) (Q : Option Value → aw_H → Prop) : aw_Kt := o_al 0 (o_il 1 (o_cv l d m_X4_isRow 4 1 (o_if (fun x => x = 0) (o_ic (-101) (k_X4_votes_33 l X d Q)) (k_X4_votes_13 l X d Q))))
theorem t_X4_votes_0 {l : Launch} {X : Nat → aw_Kt} {d : Nat} {Q : Option Value → aw_H → Prop} : aw_Sn l m_X4_votes none X d 0 0 Q 0 (k_X4_votes_0 l X d Q) := by
  unfold k_X4_votes_0
  exact s_aload_n dX4_votes_0 rfl (s_iload_n dX4_votes_1 rfl (s_cv dX4_votes_2 rfl (by decide) w_101 wi_X4_isRow ws_X4_isRow w_96 wc_X4_isRow wd_X4_isRow (s_if_ne dX4_votes_5 (by decide) (s_bipush dX4_votes_8 (by decide) (s_goto dX4_votes_10 (by decide) t_X4_votes_33)) t_X4_votes_13)))
/-! X4_weigh -/
def k_X4_weigh_77 (l : Launch) (X : Nat → aw_Kt) (d : Nat) (Q : Option Value → aw_H → Prop) : aw_Kt := o_rv Q
theorem t_X4_weigh_77 {l : Launch} {X : Nat → aw_Kt} {d : Nat} {Q : Option Value → aw_H → Prop} : aw_Sn l m_X4_weigh none X d 0 0 Q 77 (k_X4_weigh_77 l X d Q) := by
  unfold k_X4_weigh_77
  exact s_vret dX4_weigh_77 rfl
def k_X4_weigh_71 (l : Launch) (X : Nat → aw_Kt) (d : Nat) (Q : Option Value → aw_H → Prop) : aw_Kt := o_ii 2 1 (SW l m_X4_weigh none X d 0 0 Q 17)
theorem t_X4_weigh_71 {l : Launch} {X : Nat → aw_Kt} {d : Nat} {Q : Option Value → aw_H → Prop} : aw_Sn l m_X4_weigh none X d 0 0 Q 71 (k_X4_weigh_71 l X d Q) := by
  unfold k_X4_weigh_71
  exact s_iinc dX4_weigh_71 (by decide) (by decide) (s_goto dX4_weigh_74 (by decide) s_stop)
def k_X4_weigh_58 (l : Launch) (X : Nat → aw_Kt) (d : Nat) (Q : Option Value → aw_H → Prop) : aw_Kt := o_il 3 (o_al 0 (o_gf 4 17 (o_i3 (fun x y => x ≤ y) (k_X4_weigh_71 l X d Q) (o_al 0 (o_il 3 (o_pi 4 17 (k_X4_weigh_71 l X d Q)))))))
theorem t_X4_weigh_58 {l : Launch} {X : Nat → aw_Kt} {d : Nat} {Q : Option Value → aw_H → Prop} : aw_Sn l m_X4_weigh none X d 0 0 Q 58 (k_X4_weigh_58 l X d Q) := by
  unfold k_X4_weigh_58
  exact s_iload_n dX4_weigh_58 rfl (s_aload_n dX4_weigh_59 rfl (s_getf dX4_weigh_60 rfl u_X4 (by decide) w_118 (s_icmp_le dX4_weigh_63 (by decide) t_X4_weigh_71 (s_aload_n dX4_weigh_66 rfl (s_iload_n dX4_weigh_67 rfl (s_puti dX4_weigh_68 rfl u_X4 tyX4_ok nmX4 (by decide) rfl (by decide +kernel) w_118 t_X4_weigh_71))))))
def k_X4_weigh_17 (l : Launch) (X : Nat → aw_Kt) (d : Nat) (Q : Option Value → aw_H → Prop) : aw_Kt := o_il 2 (o_ic 5 (o_i3 (fun x y => y ≤ x) (k_X4_weigh_77 l X d Q) (o_al 0 (o_il 1 (o_il 2 (o_cv l d m_X4_votesOf 4 2 (o_is 3 (o_il 3 (o_al 0 (o_gf 4 16 (o_i3 (fun x y => x ≤ y) (k_X4_weigh_58 l X d Q) (o_al 0 (o_al 0 (o_gf 4 16 (o_pi 4 17 (o_al 0 (o_il 3 (o_pi 4 16 (o_al 0 (o_il 2 (o_pi 4 18 (k_X4_weigh_71 l X d Q))))))))))))))))))))))
theorem t_X4_weigh_17 {l : Launch} {X : Nat → aw_Kt} {d : Nat} {Q : Option Value → aw_H → Prop} : aw_Sn l m_X4_weigh none X d 0 0 Q 17 (k_X4_weigh_17 l X d Q) := by
  unfold k_X4_weigh_17
  exact s_iload_n dX4_weigh_17 rfl (s_iconst dX4_weigh_18 (by decide) (s_icmp_ge dX4_weigh_19 (by decide) t_X4_weigh_77 (s_aload_n dX4_weigh_22 rfl (s_iload_n dX4_weigh_23 rfl (s_iload_n dX4_weigh_24 rfl (s_cv dX4_weigh_25 rfl (by decide) w_117 wi_X4_votesOf ws_X4_votesOf w_96 wc_X4_votesOf wd_X4_votesOf (s_istore_n dX4_weigh_28 rfl (by decide) (s_iload_n dX4_weigh_29 rfl (s_aload_n dX4_weigh_30 rfl (s_getf dX4_weigh_31 rfl u_X4 (by decide) w_119 (s_icmp_le dX4_weigh_34 (by decide) t_X4_weigh_58 (s_aload_n dX4_weigh_37 rfl (s_aload_n dX4_weigh_38 rfl (s_getf dX4_weigh_39 rfl u_X4 (by decide) w_119 (s_puti dX4_weigh_42 rfl u_X4 tyX4_ok nmX4 (by decide) rfl (by decide +kernel) w_118 (s_aload_n dX4_weigh_45 rfl (s_iload_n dX4_weigh_46 rfl (s_puti dX4_weigh_47 rfl u_X4 tyX4_ok nmX4 (by decide) rfl (by decide +kernel) w_119 (s_aload_n dX4_weigh_50 rfl (s_iload_n dX4_weigh_51 rfl (s_puti dX4_weigh_52 rfl u_X4 tyX4_ok nmX4 (by decide) rfl (by decide +kernel) w_120 (s_goto dX4_weigh_55 (by decide) t_X4_weigh_71))))))))))))))))))))))
def k_X4_weigh_0 (l : Launch) (X : Nat → aw_Kt) (d : Nat) (Q : Option Value → aw_H → Prop) : aw_Kt := o_al 0 (o_ic (-1) (o_pi 4 16 (o_al 0 (o_ic (-1) (o_pi 4 17 (o_al 0 (o_ic (-1) (o_pi 4 18 (o_ic 0 (o_is 2 (SW l m_X4_weigh none X d 0 0 Q 17)))))))))))
theorem t_X4_weigh_0 {l : Launch} {X : Nat → aw_Kt} {d : Nat} {Q : Option Value → aw_H → Prop} : aw_Sn l m_X4_weigh none X d 0 0 Q 0 (k_X4_weigh_0 l X d Q) := by
  unfold k_X4_weigh_0
  exact s_aload_n dX4_weigh_0 rfl (s_iconst dX4_weigh_1 (by decide) (s_puti dX4_weigh_2 rfl u_X4 tyX4_ok nmX4 (by decide) rfl (by decide +kernel) w_119 (s_aload_n dX4_weigh_5 rfl (s_iconst dX4_weigh_6 (by decide) (s_puti dX4_weigh_7 rfl u_X4 tyX4_ok nmX4 (by decide) rfl (by decide +kernel) w_118 (s_aload_n dX4_weigh_10 rfl (s_iconst dX4_weigh_11 (by decide) (s_puti dX4_weigh_12 rfl u_X4 tyX4_ok nmX4 (by decide) rfl (by decide +kernel) w_120 (s_iconst dX4_weigh_15 (by decide) (s_istore_n dX4_weigh_16 rfl (by decide) s_stop))))))))))
/-! X4_decidedOf -/
def k_X4_decidedOf_104 (l : Launch) (X : Nat → aw_Kt) (d : Nat) (Q : Option Value → aw_H → Prop) : aw_Kt := o_ic (-1) (o_ri Q)
theorem t_X4_decidedOf_104 {l : Launch} {X : Nat → aw_Kt} {d : Nat} {Q : Option Value → aw_H → Prop} : aw_Sn l m_X4_decidedOf none X d 0 0 Q 104 (k_X4_decidedOf_104 l X d Q) := by
  unfold k_X4_decidedOf_104
  exact s_iconst dX4_decidedOf_104 (by decide) (s_iret dX4_decidedOf_105 rfl)
def k_X4_decidedOf_98 (l : Launch) (X : Nat → aw_Kt) (d : Nat) (Q : Option Value → aw_H → Prop) : aw_Kt := o_ii 2 1 (SW l m_X4_decidedOf none X d 0 0 Q 47)
theorem t_X4_decidedOf_98 {l : Launch} {X : Nat → aw_Kt} {d : Nat} {Q : Option Value → aw_H → Prop} : aw_Sn l m_X4_decidedOf none X d 0 0 Q 98 (k_X4_decidedOf_98 l X d Q) := by
  unfold k_X4_decidedOf_98
  exact s_iinc dX4_decidedOf_98 (by decide) (by decide) (s_goto dX4_decidedOf_101 (by decide) s_stop)
def k_X4_decidedOf_47 (l : Launch) (X : Nat → aw_Kt) (d : Nat) (Q : Option Value → aw_H → Prop) : aw_Kt := o_il 2 (o_ic 8 (o_i3 (fun x y => y ≤ x) (k_X4_decidedOf_104 l X d Q) (o_al 0 (o_gf 4 6 (o_il 2 (o_ia 1 (o_if (fun x => x = 0) (k_X4_decidedOf_98 l X d Q) (o_al 0 (o_il 2 (o_cv l d m_X4_isBarred 4 1 (o_if (fun x => x = 0) (o_al 0 (o_gf 4 3 (o_ic 8 (o_il 1 (o_ib (fun x y => x * y) (o_il 2 (o_ib (fun x y => x + y) (o_ia 0 (o_if (fun x => x ≤ 0) (k_X4_decidedOf_98 l X d Q) (o_al 0 (o_gf 4 3 (o_ic 8 (o_il 1 (o_ib (fun x y => x * y) (o_il 2 (o_ib (fun x y => x + y) (o_ia 0 (o_ic 1 (o_ib (fun x y => x - y) (o_ri Q)))))))))))))))))))) (k_X4_decidedOf_98 l X d Q))))))))))))
theorem t_X4_decidedOf_47 {l : Launch} {X : Nat → aw_Kt} {d : Nat} {Q : Option Value → aw_H → Prop} : aw_Sn l m_X4_decidedOf none X d 0 0 Q 47 (k_X4_decidedOf_47 l X d Q) := by
  unfold k_X4_decidedOf_47
  exact s_iload_n dX4_decidedOf_47 rfl (s_bipush dX4_decidedOf_48 (by decide) (s_icmp_ge dX4_decidedOf_50 (by decide) t_X4_decidedOf_104 (s_aload_n dX4_decidedOf_53 rfl (s_getf dX4_decidedOf_54 rfl u_X4 (by decide) w_104 (s_iload_n dX4_decidedOf_57 rfl (s_baload dX4_decidedOf_58 (s_if_eq dX4_decidedOf_59 (by decide) t_X4_decidedOf_98 (s_aload_n dX4_decidedOf_62 rfl (s_iload_n dX4_decidedOf_63 rfl (s_cv dX4_decidedOf_64 rfl (by decide) w_107 wi_X4_isBarred ws_X4_isBarred w_96 wc_X4_isBarred wd_X4_isBarred (s_if_ne dX4_decidedOf_67 (by decide) (s_aload_n dX4_decidedOf_70 rfl (s_getf dX4_decidedOf_71 rfl u_X4 (by decide) w_100 (s_bipush dX4_decidedOf_74 (by decide) (s_iload_n dX4_decidedOf_76 rfl (s_imul dX4_decidedOf_77 (s_iload_n dX4_decidedOf_78 rfl (s_iadd dX4_decidedOf_79 (s_iaload dX4_decidedOf_80 (s_if_le dX4_decidedOf_81 (by decide) t_X4_decidedOf_98 (s_aload_n dX4_decidedOf_84 rfl (s_getf dX4_decidedOf_85 rfl u_X4 (by decide) w_100 (s_bipush dX4_decidedOf_88 (by decide) (s_iload_n dX4_decidedOf_90 rfl (s_imul dX4_decidedOf_91 (s_iload_n dX4_decidedOf_92 rfl (s_iadd dX4_decidedOf_93 (s_iaload dX4_decidedOf_94 (s_iconst dX4_decidedOf_95 (by decide) (s_isub dX4_decidedOf_96 (s_iret dX4_decidedOf_97 rfl)))))))))))))))))))) t_X4_decidedOf_98)))))))))))
def k_X4_decidedOf_45 (l : Launch) (X : Nat → aw_Kt) (d : Nat) (Q : Option Value → aw_H → Prop) : aw_Kt := o_ic 0 (o_is 2 (SW l m_X4_decidedOf none X d 0 0 Q 47))
theorem t_X4_decidedOf_45 {l : Launch} {X : Nat → aw_Kt} {d : Nat} {Q : Option Value → aw_H → Prop} : aw_Sn l m_X4_decidedOf none X d 0 0 Q 45 (k_X4_decidedOf_45 l X d Q) := by
  unfold k_X4_decidedOf_45
  exact s_iconst dX4_decidedOf_45 (by decide) (s_istore_n dX4_decidedOf_46 rfl (by decide) s_stop)
def k_X4_decidedOf_17 (l : Launch) (X : Nat → aw_Kt) (d : Nat) (Q : Option Value → aw_H → Prop) : aw_Kt := o_al 0 (o_il 1 (o_cv l d m_X4_weigh 4 1 (o_al 0 (o_gf 4 16 (o_if (fun x => x ≤ 0) (k_X4_decidedOf_45 l X d Q) (o_al 0 (o_gf 4 16 (o_al 0 (o_gf 4 17 (o_i3 (fun x y => x ≤ y) (k_X4_decidedOf_45 l X d Q) (o_al 0 (o_gf 4 18 (o_ri Q)))))))))))))
theorem t_X4_decidedOf_17 {l : Launch} {X : Nat → aw_Kt} {d : Nat} {Q : Option Value → aw_H → Prop} : aw_Sn l m_X4_decidedOf none X d 0 0 Q 17 (k_X4_decidedOf_17 l X d Q) := by
  unfold k_X4_decidedOf_17
  exact s_aload_n dX4_decidedOf_17 rfl (s_iload_n dX4_decidedOf_18 rfl (s_cv dX4_decidedOf_19 rfl (by decide) w_121 wi_X4_weigh ws_X4_weigh w_96 wc_X4_weigh wd_X4_weigh (s_aload_n dX4_decidedOf_22 rfl (s_getf dX4_decidedOf_23 rfl u_X4 (by decide) w_119 (s_if_le dX4_decidedOf_26 (by decide) t_X4_decidedOf_45 (s_aload_n dX4_decidedOf_29 rfl (s_getf dX4_decidedOf_30 rfl u_X4 (by decide) w_119 (s_aload_n dX4_decidedOf_33 rfl (s_getf dX4_decidedOf_34 rfl u_X4 (by decide) w_118 (s_icmp_le dX4_decidedOf_37 (by decide) t_X4_decidedOf_45 (s_aload_n dX4_decidedOf_40 rfl (s_getf dX4_decidedOf_41 rfl u_X4 (by decide) w_120 (s_iret dX4_decidedOf_44 rfl)))))))))))))
def k_X4_decidedOf_0 (l : Launch) (X : Nat → aw_Kt) (d : Nat) (Q : Option Value → aw_H → Prop) : aw_Kt := o_al 0 (o_gf 4 4 (o_il 1 (o_ia 0 (o_ic (-1) (o_i3 (fun x y => x = y) (k_X4_decidedOf_17 l X d Q) (o_al 0 (o_gf 4 4 (o_il 1 (o_ia 0 (o_ri Q))))))))))
theorem t_X4_decidedOf_0 {l : Launch} {X : Nat → aw_Kt} {d : Nat} {Q : Option Value → aw_H → Prop} : aw_Sn l m_X4_decidedOf none X d 0 0 Q 0 (k_X4_decidedOf_0 l X d Q) := by
  unfold k_X4_decidedOf_0
  exact s_aload_n dX4_decidedOf_0 rfl (s_getf dX4_decidedOf_1 rfl u_X4 (by decide) w_99 (s_iload_n dX4_decidedOf_4 rfl (s_iaload dX4_decidedOf_5 (s_iconst dX4_decidedOf_6 (by decide) (s_icmp_eq dX4_decidedOf_7 (by decide) t_X4_decidedOf_17 (s_aload_n dX4_decidedOf_10 rfl (s_getf dX4_decidedOf_11 rfl u_X4 (by decide) w_99 (s_iload_n dX4_decidedOf_14 rfl (s_iaload dX4_decidedOf_15 (s_iret dX4_decidedOf_16 rfl))))))))))
/-! X4_decided -/
def k_X4_decided_18 (l : Launch) (X : Nat → aw_Kt) (d : Nat) (Q : Option Value → aw_H → Prop) : aw_Kt := o_ri Q
theorem t_X4_decided_18 {l : Launch} {X : Nat → aw_Kt} {d : Nat} {Q : Option Value → aw_H → Prop} : aw_Sn l m_X4_decided none X d 0 0 Q 18 (k_X4_decided_18 l X d Q) := by
  unfold k_X4_decided_18
  exact s_iret dX4_decided_18 rfl
def k_X4_decided_16 (l : Launch) (X : Nat → aw_Kt) (d : Nat) (Q : Option Value → aw_H → Prop) : aw_Kt := o_ic (-101) (k_X4_decided_18 l X d Q)
theorem t_X4_decided_16 {l : Launch} {X : Nat → aw_Kt} {d : Nat} {Q : Option Value → aw_H → Prop} : aw_Sn l m_X4_decided none X d 0 0 Q 16 (k_X4_decided_16 l X d Q) := by
  unfold k_X4_decided_16
  exact s_bipush dX4_decided_16 (by decide) t_X4_decided_18
def k_X4_decided_0 (l : Launch) (X : Nat → aw_Kt) (d : Nat) (Q : Option Value → aw_H → Prop) : aw_Kt := o_al 0 (o_il 1 (o_cv l d m_X4_isRow 4 1 (o_if (fun x => x = 0) (k_X4_decided_16 l X d Q) (o_al 0 (o_il 1 (o_cv l d m_X4_decidedOf 4 1 (k_X4_decided_18 l X d Q)))))))
theorem t_X4_decided_0 {l : Launch} {X : Nat → aw_Kt} {d : Nat} {Q : Option Value → aw_H → Prop} : aw_Sn l m_X4_decided none X d 0 0 Q 0 (k_X4_decided_0 l X d Q) := by
  unfold k_X4_decided_0
  exact s_aload_n dX4_decided_0 rfl (s_iload_n dX4_decided_1 rfl (s_cv dX4_decided_2 rfl (by decide) w_101 wi_X4_isRow ws_X4_isRow w_96 wc_X4_isRow wd_X4_isRow (s_if_eq dX4_decided_5 (by decide) t_X4_decided_16 (s_aload_n dX4_decided_8 rfl (s_iload_n dX4_decided_9 rfl (s_cv dX4_decided_10 rfl (by decide) w_122 wi_X4_decidedOf ws_X4_decidedOf w_96 wc_X4_decidedOf wd_X4_decidedOf (s_goto dX4_decided_13 (by decide) t_X4_decided_18)))))))
/-! X4_learn -/
def k_X4_learn_275 (l : Launch) (X : Nat → aw_Kt) (d : Nat) (Q : Option Value → aw_H → Prop) : aw_Kt := o_il 2 (o_ri Q)
theorem t_X4_learn_275 {l : Launch} {X : Nat → aw_Kt} {d : Nat} {Q : Option Value → aw_H → Prop} : aw_Sn l m_X4_learn none X d 0 0 Q 275 (k_X4_learn_275 l X d Q) := by
  unfold k_X4_learn_275
  exact s_iload_n dX4_learn_275 rfl (s_iret dX4_learn_276 rfl)
def k_X4_learn_272 (l : Launch) (X : Nat → aw_Kt) (d : Nat) (Q : Option Value → aw_H → Prop) : aw_Kt := (SW l m_X4_learn none X d 0 0 Q 39)
theorem t_X4_learn_272 {l : Launch} {X : Nat → aw_Kt} {d : Nat} {Q : Option Value → aw_H → Prop} : aw_Sn l m_X4_learn none X d 0 0 Q 272 (k_X4_learn_272 l X d Q) := by
  unfold k_X4_learn_272
  exact s_goto dX4_learn_272 (by decide) s_stop
def k_X4_learn_245 (l : Launch) (X : Nat → aw_Kt) (d : Nat) (Q : Option Value → aw_H → Prop) : aw_Kt := o_il 4 (o_ic 8 (o_i3 (fun x y => y ≤ x) (k_X4_learn_272 l X d Q) (o_al 0 (o_gf 4 7 (o_il 4 (o_al 0 (o_gf 4 8 (o_il 4 (o_ia 0 (o_xa (o_ii 4 1 (SW l m_X4_learn none X d 0 0 Q 245))))))))))))
theorem t_X4_learn_245 {l : Launch} {X : Nat → aw_Kt} {d : Nat} {Q : Option Value → aw_H → Prop} : aw_Sn l m_X4_learn none X d 0 0 Q 245 (k_X4_learn_245 l X d Q) := by
  unfold k_X4_learn_245
  exact s_iload dX4_learn_245 (s_bipush dX4_learn_247 (by decide) (s_icmp_ge dX4_learn_249 (by decide) t_X4_learn_272 (s_aload_n dX4_learn_252 rfl (s_getf dX4_learn_253 rfl u_X4 (by decide) w_108 (s_iload dX4_learn_256 (s_aload_n dX4_learn_258 rfl (s_getf dX4_learn_259 rfl u_X4 (by decide) w_123 (s_iload dX4_learn_262 (s_iaload dX4_learn_264 (s_iastore dX4_learn_265 (s_iinc dX4_learn_266 (by decide) (by decide) (s_goto dX4_learn_269 (by decide) s_stop))))))))))))
def k_X4_learn_242 (l : Launch) (X : Nat → aw_Kt) (d : Nat) (Q : Option Value → aw_H → Prop) : aw_Kt := o_ic 0 (o_is 4 (SW l m_X4_learn none X d 0 0 Q 245))
theorem t_X4_learn_242 {l : Launch} {X : Nat → aw_Kt} {d : Nat} {Q : Option Value → aw_H → Prop} : aw_Sn l m_X4_learn none X d 0 0 Q 242 (k_X4_learn_242 l X d Q) := by
  unfold k_X4_learn_242
  exact s_iconst dX4_learn_242 (by decide) (s_istore dX4_learn_243 (by decide) s_stop)
def k_X4_learn_235 (l : Launch) (X : Nat → aw_Kt) (d : Nat) (Q : Option Value → aw_H → Prop) : aw_Kt := o_is 3 (o_ii 4 1 (SW l m_X4_learn none X d 0 0 Q 87))
theorem t_X4_learn_235 {l : Launch} {X : Nat → aw_Kt} {d : Nat} {Q : Option Value → aw_H → Prop} : aw_Sn l m_X4_learn none X d 0 0 Q 235 (k_X4_learn_235 l X d Q) := by
  unfold k_X4_learn_235
  exact s_istore_n dX4_learn_235 rfl (by decide) (s_iinc dX4_learn_236 (by decide) (by decide) (s_goto dX4_learn_239 (by decide) s_stop))
def k_X4_learn_234 (l : Launch) (X : Nat → aw_Kt) (d : Nat) (Q : Option Value → aw_H → Prop) : aw_Kt := o_ic 0 (k_X4_learn_235 l X d Q)
theorem t_X4_learn_234 {l : Launch} {X : Nat → aw_Kt} {d : Nat} {Q : Option Value → aw_H → Prop} : aw_Sn l m_X4_learn none X d 0 0 Q 234 (k_X4_learn_234 l X d Q) := by
  unfold k_X4_learn_234
  exact s_iconst dX4_learn_234 (by decide) t_X4_learn_235
def k_X4_learn_230 (l : Launch) (X : Nat → aw_Kt) (d : Nat) (Q : Option Value → aw_H → Prop) : aw_Kt := o_ic 1 (k_X4_learn_235 l X d Q)
theorem t_X4_learn_230 {l : Launch} {X : Nat → aw_Kt} {d : Nat} {Q : Option Value → aw_H → Prop} : aw_Sn l m_X4_learn none X d 0 0 Q 230 (k_X4_learn_230 l X d Q) := by
  unfold k_X4_learn_230
  exact s_iconst dX4_learn_230 (by decide) (s_goto dX4_learn_231 (by decide) t_X4_learn_235)
def k_X4_learn_208 (l : Launch) (X : Nat → aw_Kt) (d : Nat) (Q : Option Value → aw_H → Prop) : aw_Kt := o_xa (o_il 3 (o_if (fun x => x = 0) (o_al 0 (o_gf 4 8 (o_il 4 (o_ia 0 (o_al 0 (o_gf 4 7 (o_il 4 (o_ia 0 (o_i3 (fun x y => x = y) (k_X4_learn_234 l X d Q) (k_X4_learn_230 l X d Q)))))))))) (k_X4_learn_230 l X d Q)))
theorem t_X4_learn_208 {l : Launch} {X : Nat → aw_Kt} {d : Nat} {Q : Option Value → aw_H → Prop} : aw_Sn l m_X4_learn none X d 0 0 Q 208 (k_X4_learn_208 l X d Q) := by
  unfold k_X4_learn_208
  exact s_iastore dX4_learn_208 (s_iload_n dX4_learn_209 rfl (s_if_ne dX4_learn_210 (by decide) (s_aload_n dX4_learn_213 rfl (s_getf dX4_learn_214 rfl u_X4 (by decide) w_123 (s_iload dX4_learn_217 (s_iaload dX4_learn_219 (s_aload_n dX4_learn_220 rfl (s_getf dX4_learn_221 rfl u_X4 (by decide) w_108 (s_iload dX4_learn_224 (s_iaload dX4_learn_226 (s_icmp_eq dX4_learn_227 (by decide) t_X4_learn_234 t_X4_learn_230))))))))) t_X4_learn_230))
def k_X4_learn_198 (l : Launch) (X : Nat → aw_Kt) (d : Nat) (Q : Option Value → aw_H → Prop) : aw_Kt := o_ic 1 (o_ic 9 (o_il 6 (o_ib (fun x y => x * y) (o_il 5 (o_dv (o_ib (fun x y => x + y) (k_X4_learn_208 l X d Q)))))))
theorem t_X4_learn_198 {l : Launch} {X : Nat → aw_Kt} {d : Nat} {Q : Option Value → aw_H → Prop} : aw_Sn l m_X4_learn none X d 0 0 Q 198 (k_X4_learn_198 l X d Q) := by
  unfold k_X4_learn_198
  exact s_iconst dX4_learn_198 (by decide) (s_bipush dX4_learn_199 (by decide) (s_iload dX4_learn_201 (s_imul dX4_learn_203 (s_iload dX4_learn_204 (s_idiv dX4_learn_206 (s_iadd dX4_learn_207 t_X4_learn_208))))))
def k_X4_learn_183 (l : Launch) (X : Nat → aw_Kt) (d : Nat) (Q : Option Value → aw_H → Prop) : aw_Kt := o_al 0 (o_gf 4 8 (o_il 4 (o_il 5 (o_if (fun x => x = 0) (o_ic 1 (k_X4_learn_208 l X d Q)) (k_X4_learn_198 l X d Q)))))
theorem t_X4_learn_183 {l : Launch} {X : Nat → aw_Kt} {d : Nat} {Q : Option Value → aw_H → Prop} : aw_Sn l m_X4_learn none X d 0 0 Q 183 (k_X4_learn_183 l X d Q) := by
  unfold k_X4_learn_183
  exact s_aload_n dX4_learn_183 rfl (s_getf dX4_learn_184 rfl u_X4 (by decide) w_123 (s_iload dX4_learn_187 (s_iload dX4_learn_189 (s_if_ne dX4_learn_191 (by decide) (s_iconst dX4_learn_194 (by decide) (s_goto dX4_learn_195 (by decide) t_X4_learn_208)) t_X4_learn_198))))
def k_X4_learn_177 (l : Launch) (X : Nat → aw_Kt) (d : Nat) (Q : Option Value → aw_H → Prop) : aw_Kt := o_ii 7 1 (SW l m_X4_learn none X d 0 0 Q 103)
theorem t_X4_learn_177 {l : Launch} {X : Nat → aw_Kt} {d : Nat} {Q : Option Value → aw_H → Prop} : aw_Sn l m_X4_learn none X d 0 0 Q 177 (k_X4_learn_177 l X d Q) := by
  unfold k_X4_learn_177
  exact s_iinc dX4_learn_177 (by decide) (by decide) (s_goto dX4_learn_180 (by decide) s_stop)
def k_X4_learn_174 (l : Launch) (X : Nat → aw_Kt) (d : Nat) (Q : Option Value → aw_H → Prop) : aw_Kt := o_ib (fun x y => x + y) (o_is 6 (k_X4_learn_177 l X d Q))
theorem t_X4_learn_174 {l : Launch} {X : Nat → aw_Kt} {d : Nat} {Q : Option Value → aw_H → Prop} : aw_Sn l m_X4_learn none X d 0 0 Q 174 (k_X4_learn_174 l X d Q) := by
  unfold k_X4_learn_174
  exact s_iadd dX4_learn_174 (s_istore dX4_learn_175 (by decide) t_X4_learn_177)
def k_X4_learn_173 (l : Launch) (X : Nat → aw_Kt) (d : Nat) (Q : Option Value → aw_H → Prop) : aw_Kt := o_ic 0 (k_X4_learn_174 l X d Q)
theorem t_X4_learn_173 {l : Launch} {X : Nat → aw_Kt} {d : Nat} {Q : Option Value → aw_H → Prop} : aw_Sn l m_X4_learn none X d 0 0 Q 173 (k_X4_learn_173 l X d Q) := by
  unfold k_X4_learn_173
  exact s_iconst dX4_learn_173 (by decide) t_X4_learn_174
def k_X4_learn_103 (l : Launch) (X : Nat → aw_Kt) (d : Nat) (Q : Option Value → aw_H → Prop) : aw_Kt := o_il 7 (o_al 0 (o_gf 4 1 (o_i3 (fun x y => y ≤ x) (k_X4_learn_183 l X d Q) (o_al 0 (o_gf 4 19 (o_il 7 (o_ia 0 (o_ic (-1) (o_i3 (fun x y => x = y) (k_X4_learn_177 l X d Q) (o_al 0 (o_gf 4 3 (o_ic 8 (o_il 7 (o_ib (fun x y => x * y) (o_il 4 (o_ib (fun x y => x + y) (o_ia 0 (o_if (fun x => x ≤ 0) (k_X4_learn_177 l X d Q) (o_ii 5 1 (o_il 6 (o_al 0 (o_gf 4 3 (o_ic 8 (o_il 7 (o_ib (fun x y => x * y) (o_il 4 (o_ib (fun x y => x + y) (o_ia 0 (o_ic 1 (o_ib (fun x y => x - y) (o_al 0 (o_gf 4 19 (o_il 7 (o_ia 0 (o_i3 (fun x y => x = y) (o_ic 1 (k_X4_learn_174 l X d Q)) (k_X4_learn_173 l X d Q))))))))))))))))))))))))))))))))))))
theorem t_X4_learn_103 {l : Launch} {X : Nat → aw_Kt} {d : Nat} {Q : Option Value → aw_H → Prop} : aw_Sn l m_X4_learn none X d 0 0 Q 103 (k_X4_learn_103 l X d Q) := by
  unfold k_X4_learn_103
  exact s_iload dX4_learn_103 (s_aload_n dX4_learn_105 rfl (s_getf dX4_learn_106 rfl u_X4 (by decide) w_95 (s_icmp_ge dX4_learn_109 (by decide) t_X4_learn_183 (s_aload_n dX4_learn_112 rfl (s_getf dX4_learn_113 rfl u_X4 (by decide) w_124 (s_iload dX4_learn_116 (s_iaload dX4_learn_118 (s_iconst dX4_learn_119 (by decide) (s_icmp_eq dX4_learn_120 (by decide) t_X4_learn_177 (s_aload_n dX4_learn_123 rfl (s_getf dX4_learn_124 rfl u_X4 (by decide) w_100 (s_bipush dX4_learn_127 (by decide) (s_iload dX4_learn_129 (s_imul dX4_learn_131 (s_iload dX4_learn_132 (s_iadd dX4_learn_134 (s_iaload dX4_learn_135 (s_if_le dX4_learn_136 (by decide) t_X4_learn_177 (s_iinc dX4_learn_139 (by decide) (by decide) (s_iload dX4_learn_142 (s_aload_n dX4_learn_144 rfl (s_getf dX4_learn_145 rfl u_X4 (by decide) w_100 (s_bipush dX4_learn_148 (by decide) (s_iload dX4_learn_150 (s_imul dX4_learn_152 (s_iload dX4_learn_153 (s_iadd dX4_learn_155 (s_iaload dX4_learn_156 (s_iconst dX4_learn_157 (by decide) (s_isub dX4_learn_158 (s_aload_n dX4_learn_159 rfl (s_getf dX4_learn_160 rfl u_X4 (by decide) w_124 (s_iload dX4_learn_163 (s_iaload dX4_learn_165 (s_icmp_ne dX4_learn_166 (by decide) (s_iconst dX4_learn_169 (by decide) (s_goto dX4_learn_170 (by decide) t_X4_learn_174)) t_X4_learn_173)))))))))))))))))))))))))))))))))))
def k_X4_learn_87 (l : Launch) (X : Nat → aw_Kt) (d : Nat) (Q : Option Value → aw_H → Prop) : aw_Kt := o_il 4 (o_ic 8 (o_i3 (fun x y => y ≤ x) (k_X4_learn_242 l X d Q) (o_ic 0 (o_is 5 (o_ic 0 (o_is 6 (o_ic 0 (o_is 7 (SW l m_X4_learn none X d 0 0 Q 103)))))))))
theorem t_X4_learn_87 {l : Launch} {X : Nat → aw_Kt} {d : Nat} {Q : Option Value → aw_H → Prop} : aw_Sn l m_X4_learn none X d 0 0 Q 87 (k_X4_learn_87 l X d Q) := by
  unfold k_X4_learn_87
  exact s_iload dX4_learn_87 (s_bipush dX4_learn_89 (by decide) (s_icmp_ge dX4_learn_91 (by decide) t_X4_learn_242 (s_iconst dX4_learn_94 (by decide) (s_istore dX4_learn_95 (by decide) (s_iconst dX4_learn_97 (by decide) (s_istore dX4_learn_98 (by decide) (s_iconst dX4_learn_100 (by decide) (s_istore dX4_learn_101 (by decide) s_stop))))))))
def k_X4_learn_82 (l : Launch) (X : Nat → aw_Kt) (d : Nat) (Q : Option Value → aw_H → Prop) : aw_Kt := o_ic 0 (o_is 3 (o_ic 0 (o_is 4 (SW l m_X4_learn none X d 0 0 Q 87))))
theorem t_X4_learn_82 {l : Launch} {X : Nat → aw_Kt} {d : Nat} {Q : Option Value → aw_H → Prop} : aw_Sn l m_X4_learn none X d 0 0 Q 82 (k_X4_learn_82 l X d Q) := by
  unfold k_X4_learn_82
  exact s_iconst dX4_learn_82 (by decide) (s_istore_n dX4_learn_83 rfl (by decide) (s_iconst dX4_learn_84 (by decide) (s_istore dX4_learn_85 (by decide) s_stop)))
def k_X4_learn_54 (l : Launch) (X : Nat → aw_Kt) (d : Nat) (Q : Option Value → aw_H → Prop) : aw_Kt := o_il 4 (o_al 0 (o_gf 4 1 (o_i3 (fun x y => y ≤ x) (k_X4_learn_82 l X d Q) (o_al 0 (o_gf 4 19 (o_il 4 (o_al 0 (o_il 4 (o_cv l d m_X4_decidedOf 4 1 (o_xa (o_ii 4 1 (SW l m_X4_learn none X d 0 0 Q 54))))))))))))
theorem t_X4_learn_54 {l : Launch} {X : Nat → aw_Kt} {d : Nat} {Q : Option Value → aw_H → Prop} : aw_Sn l m_X4_learn none X d 0 0 Q 54 (k_X4_learn_54 l X d Q) := by
  unfold k_X4_learn_54
  exact s_iload dX4_learn_54 (s_aload_n dX4_learn_56 rfl (s_getf dX4_learn_57 rfl u_X4 (by decide) w_95 (s_icmp_ge dX4_learn_60 (by decide) t_X4_learn_82 (s_aload_n dX4_learn_63 rfl (s_getf dX4_learn_64 rfl u_X4 (by decide) w_124 (s_iload dX4_learn_67 (s_aload_n dX4_learn_69 rfl (s_iload dX4_learn_70 (s_cv dX4_learn_72 rfl (by decide) w_122 wi_X4_decidedOf ws_X4_decidedOf w_96 wc_X4_decidedOf wd_X4_decidedOf (s_iastore dX4_learn_75 (s_iinc dX4_learn_76 (by decide) (by decide) (s_goto dX4_learn_79 (by decide) s_stop))))))))))))
def k_X4_learn_39 (l : Launch) (X : Nat → aw_Kt) (d : Nat) (Q : Option Value → aw_H → Prop) : aw_Kt := o_il 2 (o_il 1 (o_i3 (fun x y => y ≤ x) (k_X4_learn_275 l X d Q) (o_il 3 (o_if (fun x => x = 0) (k_X4_learn_275 l X d Q) (o_ii 2 1 (o_ic 0 (o_is 4 (SW l m_X4_learn none X d 0 0 Q 54))))))))
theorem t_X4_learn_39 {l : Launch} {X : Nat → aw_Kt} {d : Nat} {Q : Option Value → aw_H → Prop} : aw_Sn l m_X4_learn none X d 0 0 Q 39 (k_X4_learn_39 l X d Q) := by
  unfold k_X4_learn_39
  exact s_iload_n dX4_learn_39 rfl (s_iload_n dX4_learn_40 rfl (s_icmp_ge dX4_learn_41 (by decide) t_X4_learn_275 (s_iload_n dX4_learn_44 rfl (s_if_eq dX4_learn_45 (by decide) t_X4_learn_275 (s_iinc dX4_learn_48 (by decide) (by decide) (s_iconst dX4_learn_51 (by decide) (s_istore dX4_learn_52 (by decide) s_stop)))))))
def k_X4_learn_35 (l : Launch) (X : Nat → aw_Kt) (d : Nat) (Q : Option Value → aw_H → Prop) : aw_Kt := o_ic 0 (o_is 2 (o_ic 1 (o_is 3 (SW l m_X4_learn none X d 0 0 Q 39))))
theorem t_X4_learn_35 {l : Launch} {X : Nat → aw_Kt} {d : Nat} {Q : Option Value → aw_H → Prop} : aw_Sn l m_X4_learn none X d 0 0 Q 35 (k_X4_learn_35 l X d Q) := by
  unfold k_X4_learn_35
  exact s_iconst dX4_learn_35 (by decide) (s_istore_n dX4_learn_36 rfl (by decide) (s_iconst dX4_learn_37 (by decide) (s_istore_n dX4_learn_38 rfl (by decide) s_stop)))
def k_X4_learn_15 (l : Launch) (X : Nat → aw_Kt) (d : Nat) (Q : Option Value → aw_H → Prop) : aw_Kt := o_il 2 (o_ic 8 (o_i3 (fun x y => y ≤ x) (k_X4_learn_35 l X d Q) (o_al 0 (o_gf 4 7 (o_il 2 (o_ic 10 (o_xa (o_ii 2 1 (SW l m_X4_learn none X d 0 0 Q 15)))))))))
theorem t_X4_learn_15 {l : Launch} {X : Nat → aw_Kt} {d : Nat} {Q : Option Value → aw_H → Prop} : aw_Sn l m_X4_learn none X d 0 0 Q 15 (k_X4_learn_15 l X d Q) := by
  unfold k_X4_learn_15
  exact s_iload_n dX4_learn_15 rfl (s_bipush dX4_learn_16 (by decide) (s_icmp_ge dX4_learn_18 (by decide) t_X4_learn_35 (s_aload_n dX4_learn_21 rfl (s_getf dX4_learn_22 rfl u_X4 (by decide) w_108 (s_iload_n dX4_learn_25 rfl (s_bipush dX4_learn_26 (by decide) (s_iastore dX4_learn_28 (s_iinc dX4_learn_29 (by decide) (by decide) (s_goto dX4_learn_32 (by decide) s_stop)))))))))
def k_X4_learn_13 (l : Launch) (X : Nat → aw_Kt) (d : Nat) (Q : Option Value → aw_H → Prop) : aw_Kt := o_ic 0 (o_is 2 (SW l m_X4_learn none X d 0 0 Q 15))
theorem t_X4_learn_13 {l : Launch} {X : Nat → aw_Kt} {d : Nat} {Q : Option Value → aw_H → Prop} : aw_Sn l m_X4_learn none X d 0 0 Q 13 (k_X4_learn_13 l X d Q) := by
  unfold k_X4_learn_13
  exact s_iconst dX4_learn_13 (by decide) (s_istore_n dX4_learn_14 rfl (by decide) s_stop)
def k_X4_learn_0 (l : Launch) (X : Nat → aw_Kt) (d : Nat) (Q : Option Value → aw_H → Prop) : aw_Kt := o_il 1 (o_ic 1 (o_ic 20 (o_cs l d m_X4_in 3 (o_if (fun x => x = 0) (o_ic (-102) (o_ri Q)) (k_X4_learn_13 l X d Q)))))
theorem t_X4_learn_0 {l : Launch} {X : Nat → aw_Kt} {d : Nat} {Q : Option Value → aw_H → Prop} : aw_Sn l m_X4_learn none X d 0 0 Q 0 (k_X4_learn_0 l X d Q) := by
  unfold k_X4_learn_0
  exact s_iload_n dX4_learn_0 rfl (s_iconst dX4_learn_1 (by decide) (s_bipush dX4_learn_2 (by decide) (s_cs dX4_learn_4 (by decide) w_97 wt_X4_in w_96 wc_X4_in wd_X4_in (s_if_ne dX4_learn_7 (by decide) (s_bipush dX4_learn_10 (by decide) (s_iret dX4_learn_12 rfl)) t_X4_learn_13))))
/-! X4_cut -/
def k_X4_cut_98 (l : Launch) (X : Nat → aw_Kt) (d : Nat) (Q : Option Value → aw_H → Prop) : aw_Kt := o_rl Q
theorem t_X4_cut_98 {l : Launch} {X : Nat → aw_Kt} {d : Nat} {Q : Option Value → aw_H → Prop} : aw_Sn l m_X4_cut none X d 0 0 Q 98 (k_X4_cut_98 l X d Q) := by
  unfold k_X4_cut_98
  exact s_lret dX4_cut_98 rfl
def k_X4_cut_94 (l : Launch) (X : Nat → aw_Kt) (d : Nat) (Q : Option Value → aw_H → Prop) : aw_Kt := o_ll 3 (o_ll 10 (o_ld (k_X4_cut_98 l X d Q)))
theorem t_X4_cut_94 {l : Launch} {X : Nat → aw_Kt} {d : Nat} {Q : Option Value → aw_H → Prop} : aw_Sn l m_X4_cut none X d 0 0 Q 94 (k_X4_cut_94 l X d Q) := by
  unfold k_X4_cut_94
  exact s_lload_n dX4_cut_94 rfl (s_lload dX4_cut_95 (s_ldiv dX4_cut_97 t_X4_cut_98))
def k_X4_cut_80 (l : Launch) (X : Nat → aw_Kt) (d : Nat) (Q : Option Value → aw_H → Prop) : aw_Kt := o_ls 10 (o_il 5 (o_if (fun x => x = 0) (o_ll 1 (o_ll 10 (o_ld (k_X4_cut_98 l X d Q)))) (k_X4_cut_94 l X d Q)))
theorem t_X4_cut_80 {l : Launch} {X : Nat → aw_Kt} {d : Nat} {Q : Option Value → aw_H → Prop} : aw_Sn l m_X4_cut none X d 0 0 Q 80 (k_X4_cut_80 l X d Q) := by
  unfold k_X4_cut_80
  exact s_lstore dX4_cut_80 (by decide) (s_iload dX4_cut_82 (s_if_ne dX4_cut_84 (by decide) (s_lload_n dX4_cut_87 rfl (s_lload dX4_cut_88 (s_ldiv dX4_cut_90 (s_goto dX4_cut_91 (by decide) t_X4_cut_98)))) t_X4_cut_94))
def k_X4_cut_78 (l : Launch) (X : Nat → aw_Kt) (d : Nat) (Q : Option Value → aw_H → Prop) : aw_Kt := o_ll 6 (k_X4_cut_80 l X d Q)
theorem t_X4_cut_78 {l : Launch} {X : Nat → aw_Kt} {d : Nat} {Q : Option Value → aw_H → Prop} : aw_Sn l m_X4_cut none X d 0 0 Q 78 (k_X4_cut_78 l X d Q) := by
  unfold k_X4_cut_78
  exact s_lload dX4_cut_78 t_X4_cut_80
def k_X4_cut_66 (l : Launch) (X : Nat → aw_Kt) (d : Nat) (Q : Option Value → aw_H → Prop) : aw_Kt := o_ll 3 (o_lc 0 (o_cm (o_if (fun x => 0 ≤ x) (k_X4_cut_78 l X d Q) (o_ll 6 (o_ln (k_X4_cut_80 l X d Q))))))
theorem t_X4_cut_66 {l : Launch} {X : Nat → aw_Kt} {d : Nat} {Q : Option Value → aw_H → Prop} : aw_Sn l m_X4_cut none X d 0 0 Q 66 (k_X4_cut_66 l X d Q) := by
  unfold k_X4_cut_66
  exact s_lload_n dX4_cut_66 rfl (s_lconst dX4_cut_67 (by decide) (s_lcmp dX4_cut_68 (s_if_ge dX4_cut_69 (by decide) t_X4_cut_78 (s_lload dX4_cut_72 (s_lneg dX4_cut_74 (s_goto dX4_cut_75 (by decide) t_X4_cut_80))))))
def k_X4_cut_41 (l : Launch) (X : Nat → aw_Kt) (d : Nat) (Q : Option Value → aw_H → Prop) : aw_Kt := o_ll 8 (o_lc 0 (o_cm (o_if (fun x => x = 0) (k_X4_cut_66 l X d Q) (o_ll 6 (o_ll 8 (o_lr (o_ls 10 (o_ll 8 (o_ls 6 (o_ll 10 (o_ls 8 (SW l m_X4_cut none X d 0 0 Q 41))))))))))))
theorem t_X4_cut_41 {l : Launch} {X : Nat → aw_Kt} {d : Nat} {Q : Option Value → aw_H → Prop} : aw_Sn l m_X4_cut none X d 0 0 Q 41 (k_X4_cut_41 l X d Q) := by
  unfold k_X4_cut_41
  exact s_lload dX4_cut_41 (s_lconst dX4_cut_43 (by decide) (s_lcmp dX4_cut_44 (s_if_eq dX4_cut_45 (by decide) t_X4_cut_66 (s_lload dX4_cut_48 (s_lload dX4_cut_50 (s_lrem dX4_cut_52 (s_lstore dX4_cut_53 (by decide) (s_lload dX4_cut_55 (s_lstore dX4_cut_57 (by decide) (s_lload dX4_cut_59 (s_lstore dX4_cut_61 (by decide) (s_goto dX4_cut_63 (by decide) s_stop))))))))))))
def k_X4_cut_39 (l : Launch) (X : Nat → aw_Kt) (d : Nat) (Q : Option Value → aw_H → Prop) : aw_Kt := o_ls 8 (SW l m_X4_cut none X d 0 0 Q 41)
theorem t_X4_cut_39 {l : Launch} {X : Nat → aw_Kt} {d : Nat} {Q : Option Value → aw_H → Prop} : aw_Sn l m_X4_cut none X d 0 0 Q 39 (k_X4_cut_39 l X d Q) := by
  unfold k_X4_cut_39
  exact s_lstore dX4_cut_39 (by decide) s_stop
def k_X4_cut_38 (l : Launch) (X : Nat → aw_Kt) (d : Nat) (Q : Option Value → aw_H → Prop) : aw_Kt := o_ll 3 (k_X4_cut_39 l X d Q)
theorem t_X4_cut_38 {l : Launch} {X : Nat → aw_Kt} {d : Nat} {Q : Option Value → aw_H → Prop} : aw_Sn l m_X4_cut none X d 0 0 Q 38 (k_X4_cut_38 l X d Q) := by
  unfold k_X4_cut_38
  exact s_lload_n dX4_cut_38 rfl t_X4_cut_39
def k_X4_cut_25 (l : Launch) (X : Nat → aw_Kt) (d : Nat) (Q : Option Value → aw_H → Prop) : aw_Kt := o_ls 6 (o_ll 3 (o_lc 0 (o_cm (o_if (fun x => 0 ≤ x) (k_X4_cut_38 l X d Q) (o_ll 3 (o_ln (k_X4_cut_39 l X d Q)))))))
theorem t_X4_cut_25 {l : Launch} {X : Nat → aw_Kt} {d : Nat} {Q : Option Value → aw_H → Prop} : aw_Sn l m_X4_cut none X d 0 0 Q 25 (k_X4_cut_25 l X d Q) := by
  unfold k_X4_cut_25
  exact s_lstore dX4_cut_25 (by decide) (s_lload_n dX4_cut_27 rfl (s_lconst dX4_cut_28 (by decide) (s_lcmp dX4_cut_29 (s_if_ge dX4_cut_30 (by decide) t_X4_cut_38 (s_lload_n dX4_cut_33 rfl (s_lneg dX4_cut_34 (s_goto dX4_cut_35 (by decide) t_X4_cut_39)))))))
def k_X4_cut_24 (l : Launch) (X : Nat → aw_Kt) (d : Nat) (Q : Option Value → aw_H → Prop) : aw_Kt := o_ll 1 (k_X4_cut_25 l X d Q)
theorem t_X4_cut_24 {l : Launch} {X : Nat → aw_Kt} {d : Nat} {Q : Option Value → aw_H → Prop} : aw_Sn l m_X4_cut none X d 0 0 Q 24 (k_X4_cut_24 l X d Q) := by
  unfold k_X4_cut_24
  exact s_lload_n dX4_cut_24 rfl t_X4_cut_25
def k_X4_cut_13 (l : Launch) (X : Nat → aw_Kt) (d : Nat) (Q : Option Value → aw_H → Prop) : aw_Kt := o_ll 1 (o_lc 0 (o_cm (o_if (fun x => 0 ≤ x) (k_X4_cut_24 l X d Q) (o_ll 1 (o_ln (k_X4_cut_25 l X d Q))))))
theorem t_X4_cut_13 {l : Launch} {X : Nat → aw_Kt} {d : Nat} {Q : Option Value → aw_H → Prop} : aw_Sn l m_X4_cut none X d 0 0 Q 13 (k_X4_cut_13 l X d Q) := by
  unfold k_X4_cut_13
  exact s_lload_n dX4_cut_13 rfl (s_lconst dX4_cut_14 (by decide) (s_lcmp dX4_cut_15 (s_if_ge dX4_cut_16 (by decide) t_X4_cut_24 (s_lload_n dX4_cut_19 rfl (s_lneg dX4_cut_20 (s_goto dX4_cut_21 (by decide) t_X4_cut_25))))))
def k_X4_cut_0 (l : Launch) (X : Nat → aw_Kt) (d : Nat) (Q : Option Value → aw_H → Prop) : aw_Kt := o_ll 3 (o_lc 0 (o_cm (o_if (fun x => x = 0) (o_al 0 (o_ic 2 (o_pi 4 0 (o_lc 0 (o_rl Q))))) (k_X4_cut_13 l X d Q))))
theorem t_X4_cut_0 {l : Launch} {X : Nat → aw_Kt} {d : Nat} {Q : Option Value → aw_H → Prop} : aw_Sn l m_X4_cut none X d 0 0 Q 0 (k_X4_cut_0 l X d Q) := by
  unfold k_X4_cut_0
  exact s_lload_n dX4_cut_0 rfl (s_lconst dX4_cut_1 (by decide) (s_lcmp dX4_cut_2 (s_if_ne dX4_cut_3 (by decide) (s_aload_n dX4_cut_6 rfl (s_iconst dX4_cut_7 (by decide) (s_puti dX4_cut_8 rfl u_X4 tyX4_ok nmX4 (by decide) rfl (by decide +kernel) w_94 (s_lconst dX4_cut_11 (by decide) (s_lret dX4_cut_12 rfl))))) t_X4_cut_13)))
/-! X4_agree -/
def k_X4_agree_252 (l : Launch) (X : Nat → aw_Kt) (d : Nat) (Q : Option Value → aw_H → Prop) : aw_Kt := o_rl Q
theorem t_X4_agree_252 {l : Launch} {X : Nat → aw_Kt} {d : Nat} {Q : Option Value → aw_H → Prop} : aw_Sn l m_X4_agree none X d 0 0 Q 252 (k_X4_agree_252 l X d Q) := by
  unfold k_X4_agree_252
  exact s_lret dX4_agree_252 rfl
def k_X4_agree_231 (l : Launch) (X : Nat → aw_Kt) (d : Nat) (Q : Option Value → aw_H → Prop) : aw_Kt := o_al 0 (o_ll 4 (o_ll 6 (o_lb (fun x y => x * y) (o_ll 8 (o_lb (fun x y => x - y) (o_ll 4 (o_ll 4 (o_lb (fun x y => x * y) (o_ll 8 (o_lb (fun x y => x - y) (o_il 3 (o_cv l d m_X4_cut 4 3 (k_X4_agree_252 l X d Q)))))))))))))
theorem t_X4_agree_231 {l : Launch} {X : Nat → aw_Kt} {d : Nat} {Q : Option Value → aw_H → Prop} : aw_Sn l m_X4_agree none X d 0 0 Q 231 (k_X4_agree_231 l X d Q) := by
  unfold k_X4_agree_231
  exact s_aload_n dX4_agree_231 rfl (s_lload dX4_agree_232 (s_lload dX4_agree_234 (s_lmul dX4_agree_236 (s_lload dX4_agree_237 (s_lsub dX4_agree_239 (s_lload dX4_agree_240 (s_lload dX4_agree_242 (s_lmul dX4_agree_244 (s_lload dX4_agree_245 (s_lsub dX4_agree_247 (s_iload_n dX4_agree_248 rfl (s_cv dX4_agree_249 rfl (by decide) w_125 wi_X4_cut ws_X4_cut w_96 wc_X4_cut wd_X4_cut t_X4_agree_252))))))))))))
def k_X4_agree_221 (l : Launch) (X : Nat → aw_Kt) (d : Nat) (Q : Option Value → aw_H → Prop) : aw_Kt := o_il 3 (o_ic 3 (o_i3 (fun x y => x = y) (o_ll 6 (k_X4_agree_252 l X d Q)) (k_X4_agree_231 l X d Q)))
theorem t_X4_agree_221 {l : Launch} {X : Nat → aw_Kt} {d : Nat} {Q : Option Value → aw_H → Prop} : aw_Sn l m_X4_agree none X d 0 0 Q 221 (k_X4_agree_221 l X d Q) := by
  unfold k_X4_agree_221
  exact s_iload_n dX4_agree_221 rfl (s_iconst dX4_agree_222 (by decide) (s_icmp_ne dX4_agree_223 (by decide) (s_lload dX4_agree_226 (s_goto dX4_agree_228 (by decide) t_X4_agree_252)) t_X4_agree_231))
def k_X4_agree_211 (l : Launch) (X : Nat → aw_Kt) (d : Nat) (Q : Option Value → aw_H → Prop) : aw_Kt := o_il 3 (o_ic 2 (o_i3 (fun x y => x = y) (o_ll 4 (k_X4_agree_252 l X d Q)) (k_X4_agree_221 l X d Q)))
theorem t_X4_agree_211 {l : Launch} {X : Nat → aw_Kt} {d : Nat} {Q : Option Value → aw_H → Prop} : aw_Sn l m_X4_agree none X d 0 0 Q 211 (k_X4_agree_211 l X d Q) := by
  unfold k_X4_agree_211
  exact s_iload_n dX4_agree_211 rfl (s_iconst dX4_agree_212 (by decide) (s_icmp_ne dX4_agree_213 (by decide) (s_lload dX4_agree_216 (s_goto dX4_agree_218 (by decide) t_X4_agree_252)) t_X4_agree_221))
def k_X4_agree_188 (l : Launch) (X : Nat → aw_Kt) (d : Nat) (Q : Option Value → aw_H → Prop) : aw_Kt := o_ll 4 (o_ll 11 (o_lb (fun x y => x + y) (o_ls 4 (o_ll 8 (o_ll 11 (o_ll 13 (o_lb (fun x y => x * y) (o_lb (fun x y => x + y) (o_ls 8 (o_ii 10 1 (SW l m_X4_agree none X d 0 0 Q 58)))))))))))
theorem t_X4_agree_188 {l : Launch} {X : Nat → aw_Kt} {d : Nat} {Q : Option Value → aw_H → Prop} : aw_Sn l m_X4_agree none X d 0 0 Q 188 (k_X4_agree_188 l X d Q) := by
  unfold k_X4_agree_188
  exact s_lload dX4_agree_188 (s_lload dX4_agree_190 (s_ladd dX4_agree_192 (s_lstore dX4_agree_193 (by decide) (s_lload dX4_agree_195 (s_lload dX4_agree_197 (s_lload dX4_agree_199 (s_lmul dX4_agree_201 (s_ladd dX4_agree_202 (s_lstore dX4_agree_203 (by decide) (s_iinc dX4_agree_205 (by decide) (by decide) (s_goto dX4_agree_208 (by decide) s_stop)))))))))))
def k_X4_agree_182 (l : Launch) (X : Nat → aw_Kt) (d : Nat) (Q : Option Value → aw_H → Prop) : aw_Kt := o_ii 15 1 (SW l m_X4_agree none X d 0 0 Q 73)
theorem t_X4_agree_182 {l : Launch} {X : Nat → aw_Kt} {d : Nat} {Q : Option Value → aw_H → Prop} : aw_Sn l m_X4_agree none X d 0 0 Q 182 (k_X4_agree_182 l X d Q) := by
  unfold k_X4_agree_182
  exact s_iinc dX4_agree_182 (by decide) (by decide) (s_goto dX4_agree_185 (by decide) s_stop)
def k_X4_agree_179 (l : Launch) (X : Nat → aw_Kt) (d : Nat) (Q : Option Value → aw_H → Prop) : aw_Kt := o_lb (fun x y => x + y) (o_ls 6 (k_X4_agree_182 l X d Q))
theorem t_X4_agree_179 {l : Launch} {X : Nat → aw_Kt} {d : Nat} {Q : Option Value → aw_H → Prop} : aw_Sn l m_X4_agree none X d 0 0 Q 179 (k_X4_agree_179 l X d Q) := by
  unfold k_X4_agree_179
  exact s_ladd dX4_agree_179 (s_lstore dX4_agree_180 (by decide) t_X4_agree_182)
def k_X4_agree_178 (l : Launch) (X : Nat → aw_Kt) (d : Nat) (Q : Option Value → aw_H → Prop) : aw_Kt := o_lc 0 (k_X4_agree_179 l X d Q)
theorem t_X4_agree_178 {l : Launch} {X : Nat → aw_Kt} {d : Nat} {Q : Option Value → aw_H → Prop} : aw_Sn l m_X4_agree none X d 0 0 Q 178 (k_X4_agree_178 l X d Q) := by
  unfold k_X4_agree_178
  exact s_lconst dX4_agree_178 (by decide) t_X4_agree_179
def k_X4_agree_155 (l : Launch) (X : Nat → aw_Kt) (d : Nat) (Q : Option Value → aw_H → Prop) : aw_Kt := o_lb (fun x y => x + y) (o_ls 13 (o_ll 6 (o_il 16 (o_il 10 (o_i3 (fun x y => x = y) (o_il 17 (o_il 10 (o_i3 (fun x y => x = y) (o_lc 1 (k_X4_agree_179 l X d Q)) (k_X4_agree_178 l X d Q)))) (k_X4_agree_178 l X d Q))))))
theorem t_X4_agree_155 {l : Launch} {X : Nat → aw_Kt} {d : Nat} {Q : Option Value → aw_H → Prop} : aw_Sn l m_X4_agree none X d 0 0 Q 155 (k_X4_agree_155 l X d Q) := by
  unfold k_X4_agree_155
  exact s_ladd dX4_agree_155 (s_lstore dX4_agree_156 (by decide) (s_lload dX4_agree_158 (s_iload dX4_agree_160 (s_iload dX4_agree_162 (s_icmp_ne dX4_agree_164 (by decide) (s_iload dX4_agree_167 (s_iload dX4_agree_169 (s_icmp_ne dX4_agree_171 (by decide) (s_lconst dX4_agree_174 (by decide) (s_goto dX4_agree_175 (by decide) t_X4_agree_179)) t_X4_agree_178))) t_X4_agree_178)))))
def k_X4_agree_154 (l : Launch) (X : Nat → aw_Kt) (d : Nat) (Q : Option Value → aw_H → Prop) : aw_Kt := o_lc 0 (k_X4_agree_155 l X d Q)
theorem t_X4_agree_154 {l : Launch} {X : Nat → aw_Kt} {d : Nat} {Q : Option Value → aw_H → Prop} : aw_Sn l m_X4_agree none X d 0 0 Q 154 (k_X4_agree_154 l X d Q) := by
  unfold k_X4_agree_154
  exact s_lconst dX4_agree_154 (by decide) t_X4_agree_155
def k_X4_agree_138 (l : Launch) (X : Nat → aw_Kt) (d : Nat) (Q : Option Value → aw_H → Prop) : aw_Kt := o_lb (fun x y => x + y) (o_ls 11 (o_ll 13 (o_il 17 (o_il 10 (o_i3 (fun x y => x = y) (o_lc 1 (k_X4_agree_155 l X d Q)) (k_X4_agree_154 l X d Q))))))
theorem t_X4_agree_138 {l : Launch} {X : Nat → aw_Kt} {d : Nat} {Q : Option Value → aw_H → Prop} : aw_Sn l m_X4_agree none X d 0 0 Q 138 (k_X4_agree_138 l X d Q) := by
  unfold k_X4_agree_138
  exact s_ladd dX4_agree_138 (s_lstore dX4_agree_139 (by decide) (s_lload dX4_agree_141 (s_iload dX4_agree_143 (s_iload dX4_agree_145 (s_icmp_ne dX4_agree_147 (by decide) (s_lconst dX4_agree_150 (by decide) (s_goto dX4_agree_151 (by decide) t_X4_agree_155)) t_X4_agree_154)))))
def k_X4_agree_137 (l : Launch) (X : Nat → aw_Kt) (d : Nat) (Q : Option Value → aw_H → Prop) : aw_Kt := o_lc 0 (k_X4_agree_138 l X d Q)
theorem t_X4_agree_137 {l : Launch} {X : Nat → aw_Kt} {d : Nat} {Q : Option Value → aw_H → Prop} : aw_Sn l m_X4_agree none X d 0 0 Q 137 (k_X4_agree_137 l X d Q) := by
  unfold k_X4_agree_137
  exact s_lconst dX4_agree_137 (by decide) t_X4_agree_138
def k_X4_agree_73 (l : Launch) (X : Nat → aw_Kt) (d : Nat) (Q : Option Value → aw_H → Prop) : aw_Kt := o_il 15 (o_al 0 (o_gf 4 1 (o_i3 (fun x y => y ≤ x) (k_X4_agree_188 l X d Q) (o_al 0 (o_gf 4 3 (o_ic 8 (o_il 15 (o_ib (fun x y => x * y) (o_il 1 (o_ib (fun x y => x + y) (o_ia 0 (o_ic 1 (o_ib (fun x y => x - y) (o_is 16 (o_al 0 (o_gf 4 3 (o_ic 8 (o_il 15 (o_ib (fun x y => x * y) (o_il 2 (o_ib (fun x y => x + y) (o_ia 0 (o_ic 1 (o_ib (fun x y => x - y) (o_is 17 (o_il 16 (o_if (fun x => x < 0) (k_X4_agree_182 l X d Q) (o_il 17 (o_if (fun x => x < 0) (k_X4_agree_182 l X d Q) (o_ll 11 (o_il 16 (o_il 10 (o_i3 (fun x y => x = y) (o_lc 1 (k_X4_agree_138 l X d Q)) (k_X4_agree_137 l X d Q))))))))))))))))))))))))))))))))))
theorem t_X4_agree_73 {l : Launch} {X : Nat → aw_Kt} {d : Nat} {Q : Option Value → aw_H → Prop} : aw_Sn l m_X4_agree none X d 0 0 Q 73 (k_X4_agree_73 l X d Q) := by
  unfold k_X4_agree_73
  exact s_iload dX4_agree_73 (s_aload_n dX4_agree_75 rfl (s_getf dX4_agree_76 rfl u_X4 (by decide) w_95 (s_icmp_ge dX4_agree_79 (by decide) t_X4_agree_188 (s_aload_n dX4_agree_82 rfl (s_getf dX4_agree_83 rfl u_X4 (by decide) w_100 (s_bipush dX4_agree_86 (by decide) (s_iload dX4_agree_88 (s_imul dX4_agree_90 (s_iload_n dX4_agree_91 rfl (s_iadd dX4_agree_92 (s_iaload dX4_agree_93 (s_iconst dX4_agree_94 (by decide) (s_isub dX4_agree_95 (s_istore dX4_agree_96 (by decide) (s_aload_n dX4_agree_98 rfl (s_getf dX4_agree_99 rfl u_X4 (by decide) w_100 (s_bipush dX4_agree_102 (by decide) (s_iload dX4_agree_104 (s_imul dX4_agree_106 (s_iload_n dX4_agree_107 rfl (s_iadd dX4_agree_108 (s_iaload dX4_agree_109 (s_iconst dX4_agree_110 (by decide) (s_isub dX4_agree_111 (s_istore dX4_agree_112 (by decide) (s_iload dX4_agree_114 (s_if_lt dX4_agree_116 (by decide) t_X4_agree_182 (s_iload dX4_agree_119 (s_if_lt dX4_agree_121 (by decide) t_X4_agree_182 (s_lload dX4_agree_124 (s_iload dX4_agree_126 (s_iload dX4_agree_128 (s_icmp_ne dX4_agree_130 (by decide) (s_lconst dX4_agree_133 (by decide) (s_goto dX4_agree_134 (by decide) t_X4_agree_138)) t_X4_agree_137)))))))))))))))))))))))))))))))))
def k_X4_agree_58 (l : Launch) (X : Nat → aw_Kt) (d : Nat) (Q : Option Value → aw_H → Prop) : aw_Kt := o_il 10 (o_ic 5 (o_i3 (fun x y => y ≤ x) (k_X4_agree_211 l X d Q) (o_lc 0 (o_ls 11 (o_lc 0 (o_ls 13 (o_ic 0 (o_is 15 (SW l m_X4_agree none X d 0 0 Q 73)))))))))
theorem t_X4_agree_58 {l : Launch} {X : Nat → aw_Kt} {d : Nat} {Q : Option Value → aw_H → Prop} : aw_Sn l m_X4_agree none X d 0 0 Q 58 (k_X4_agree_58 l X d Q) := by
  unfold k_X4_agree_58
  exact s_iload dX4_agree_58 (s_iconst dX4_agree_60 (by decide) (s_icmp_ge dX4_agree_61 (by decide) t_X4_agree_211 (s_lconst dX4_agree_64 (by decide) (s_lstore dX4_agree_65 (by decide) (s_lconst dX4_agree_67 (by decide) (s_lstore dX4_agree_68 (by decide) (s_iconst dX4_agree_70 (by decide) (s_istore dX4_agree_71 (by decide) s_stop))))))))
def k_X4_agree_46 (l : Launch) (X : Nat → aw_Kt) (d : Nat) (Q : Option Value → aw_H → Prop) : aw_Kt := o_lc 0 (o_ls 4 (o_lc 0 (o_ls 6 (o_lc 0 (o_ls 8 (o_ic 0 (o_is 10 (SW l m_X4_agree none X d 0 0 Q 58))))))))
theorem t_X4_agree_46 {l : Launch} {X : Nat → aw_Kt} {d : Nat} {Q : Option Value → aw_H → Prop} : aw_Sn l m_X4_agree none X d 0 0 Q 46 (k_X4_agree_46 l X d Q) := by
  unfold k_X4_agree_46
  exact s_lconst dX4_agree_46 (by decide) (s_lstore dX4_agree_47 (by decide) (s_lconst dX4_agree_49 (by decide) (s_lstore dX4_agree_50 (by decide) (s_lconst dX4_agree_52 (by decide) (s_lstore dX4_agree_53 (by decide) (s_iconst dX4_agree_55 (by decide) (s_istore dX4_agree_56 (by decide) s_stop)))))))
def k_X4_agree_34 (l : Launch) (X : Nat → aw_Kt) (d : Nat) (Q : Option Value → aw_H → Prop) : aw_Kt := o_pi 4 0 (o_al 0 (o_gf 4 0 (o_if (fun x => x ≤ 0) (k_X4_agree_46 l X d Q) (o_lc 0 (o_rl Q)))))
theorem t_X4_agree_34 {l : Launch} {X : Nat → aw_Kt} {d : Nat} {Q : Option Value → aw_H → Prop} : aw_Sn l m_X4_agree none X d 0 0 Q 34 (k_X4_agree_34 l X d Q) := by
  unfold k_X4_agree_34
  exact s_puti dX4_agree_34 rfl u_X4 tyX4_ok nmX4 (by decide) rfl (by decide +kernel) w_94 (s_aload_n dX4_agree_37 rfl (s_getf dX4_agree_38 rfl u_X4 (by decide) w_94 (s_if_le dX4_agree_41 (by decide) t_X4_agree_46 (s_lconst dX4_agree_44 (by decide) (s_lret dX4_agree_45 rfl)))))
def k_X4_agree_33 (l : Launch) (X : Nat → aw_Kt) (d : Nat) (Q : Option Value → aw_H → Prop) : aw_Kt := o_ic 1 (k_X4_agree_34 l X d Q)
theorem t_X4_agree_33 {l : Launch} {X : Nat → aw_Kt} {d : Nat} {Q : Option Value → aw_H → Prop} : aw_Sn l m_X4_agree none X d 0 0 Q 33 (k_X4_agree_33 l X d Q) := by
  unfold k_X4_agree_33
  exact s_iconst dX4_agree_33 (by decide) t_X4_agree_34
def k_X4_agree_0 (l : Launch) (X : Nat → aw_Kt) (d : Nat) (Q : Option Value → aw_H → Prop) : aw_Kt := o_al 0 (o_il 1 (o_cs l d m_X4_isPerson 1 (o_if (fun x => x = 0) (k_X4_agree_33 l X d Q) (o_il 2 (o_cs l d m_X4_isPerson 1 (o_if (fun x => x = 0) (k_X4_agree_33 l X d Q) (o_il 1 (o_il 2 (o_i3 (fun x y => x = y) (k_X4_agree_33 l X d Q) (o_il 3 (o_ic 0 (o_ic 3 (o_cs l d m_X4_in 3 (o_if (fun x => x = 0) (k_X4_agree_33 l X d Q) (o_ic 0 (k_X4_agree_34 l X d Q))))))))))))))))
theorem t_X4_agree_0 {l : Launch} {X : Nat → aw_Kt} {d : Nat} {Q : Option Value → aw_H → Prop} : aw_Sn l m_X4_agree none X d 0 0 Q 0 (k_X4_agree_0 l X d Q) := by
  unfold k_X4_agree_0
  exact s_aload_n dX4_agree_0 rfl (s_iload_n dX4_agree_1 rfl (s_cs dX4_agree_2 (by decide) w_102 wt_X4_isPerson w_96 wc_X4_isPerson wd_X4_isPerson (s_if_eq dX4_agree_5 (by decide) t_X4_agree_33 (s_iload_n dX4_agree_8 rfl (s_cs dX4_agree_9 (by decide) w_102 wt_X4_isPerson w_96 wc_X4_isPerson wd_X4_isPerson (s_if_eq dX4_agree_12 (by decide) t_X4_agree_33 (s_iload_n dX4_agree_15 rfl (s_iload_n dX4_agree_16 rfl (s_icmp_eq dX4_agree_17 (by decide) t_X4_agree_33 (s_iload_n dX4_agree_20 rfl (s_iconst dX4_agree_21 (by decide) (s_iconst dX4_agree_22 (by decide) (s_cs dX4_agree_23 (by decide) w_97 wt_X4_in w_96 wc_X4_in wd_X4_in (s_if_eq dX4_agree_26 (by decide) t_X4_agree_33 (s_iconst dX4_agree_29 (by decide) (s_goto dX4_agree_30 (by decide) t_X4_agree_34))))))))))))))))
/-! X4_labellings -/
def k_X4_labellings_38 (l : Launch) (X : Nat → aw_Kt) (d : Nat) (Q : Option Value → aw_H → Prop) : aw_Kt := o_il 2 (o_ri Q)
theorem t_X4_labellings_38 {l : Launch} {X : Nat → aw_Kt} {d : Nat} {Q : Option Value → aw_H → Prop} : aw_Sn l m_X4_labellings none X d 0 0 Q 38 (k_X4_labellings_38 l X d Q) := by
  unfold k_X4_labellings_38
  exact s_iload_n dX4_labellings_38 rfl (s_iret dX4_labellings_39 rfl)
def k_X4_labellings_30 (l : Launch) (X : Nat → aw_Kt) (d : Nat) (Q : Option Value → aw_H → Prop) : aw_Kt := o_ib (fun x y => x + y) (o_is 2 (o_ii 3 1 (SW l m_X4_labellings none X d 0 0 Q 4)))
theorem t_X4_labellings_30 {l : Launch} {X : Nat → aw_Kt} {d : Nat} {Q : Option Value → aw_H → Prop} : aw_Sn l m_X4_labellings none X d 0 0 Q 30 (k_X4_labellings_30 l X d Q) := by
  unfold k_X4_labellings_30
  exact s_iadd dX4_labellings_30 (s_istore_n dX4_labellings_31 rfl (by decide) (s_iinc dX4_labellings_32 (by decide) (by decide) (s_goto dX4_labellings_35 (by decide) s_stop)))
def k_X4_labellings_29 (l : Launch) (X : Nat → aw_Kt) (d : Nat) (Q : Option Value → aw_H → Prop) : aw_Kt := o_ic 0 (k_X4_labellings_30 l X d Q)
theorem t_X4_labellings_29 {l : Launch} {X : Nat → aw_Kt} {d : Nat} {Q : Option Value → aw_H → Prop} : aw_Sn l m_X4_labellings none X d 0 0 Q 29 (k_X4_labellings_29 l X d Q) := by
  unfold k_X4_labellings_29
  exact s_iconst dX4_labellings_29 (by decide) t_X4_labellings_30
def k_X4_labellings_4 (l : Launch) (X : Nat → aw_Kt) (d : Nat) (Q : Option Value → aw_H → Prop) : aw_Kt := o_il 3 (o_ic 8 (o_i3 (fun x y => y ≤ x) (k_X4_labellings_38 l X d Q) (o_il 2 (o_al 0 (o_gf 4 3 (o_ic 8 (o_il 1 (o_ib (fun x y => x * y) (o_il 3 (o_ib (fun x y => x + y) (o_ia 0 (o_if (fun x => x ≤ 0) (k_X4_labellings_29 l X d Q) (o_ic 1 (k_X4_labellings_30 l X d Q))))))))))))))
theorem t_X4_labellings_4 {l : Launch} {X : Nat → aw_Kt} {d : Nat} {Q : Option Value → aw_H → Prop} : aw_Sn l m_X4_labellings none X d 0 0 Q 4 (k_X4_labellings_4 l X d Q) := by
  unfold k_X4_labellings_4
  exact s_iload_n dX4_labellings_4 rfl (s_bipush dX4_labellings_5 (by decide) (s_icmp_ge dX4_labellings_7 (by decide) t_X4_labellings_38 (s_iload_n dX4_labellings_10 rfl (s_aload_n dX4_labellings_11 rfl (s_getf dX4_labellings_12 rfl u_X4 (by decide) w_100 (s_bipush dX4_labellings_15 (by decide) (s_iload_n dX4_labellings_17 rfl (s_imul dX4_labellings_18 (s_iload_n dX4_labellings_19 rfl (s_iadd dX4_labellings_20 (s_iaload dX4_labellings_21 (s_if_le dX4_labellings_22 (by decide) t_X4_labellings_29 (s_iconst dX4_labellings_25 (by decide) (s_goto dX4_labellings_26 (by decide) t_X4_labellings_30))))))))))))))
def k_X4_labellings_0 (l : Launch) (X : Nat → aw_Kt) (d : Nat) (Q : Option Value → aw_H → Prop) : aw_Kt := o_ic 0 (o_is 2 (o_ic 0 (o_is 3 (SW l m_X4_labellings none X d 0 0 Q 4))))
theorem t_X4_labellings_0 {l : Launch} {X : Nat → aw_Kt} {d : Nat} {Q : Option Value → aw_H → Prop} : aw_Sn l m_X4_labellings none X d 0 0 Q 0 (k_X4_labellings_0 l X d Q) := by
  unfold k_X4_labellings_0
  exact s_iconst dX4_labellings_0 (by decide) (s_istore_n dX4_labellings_1 rfl (by decide) (s_iconst dX4_labellings_2 (by decide) (s_istore_n dX4_labellings_3 rfl (by decide) s_stop)))
/-! X4_countOf -/
def k_X4_countOf_44 (l : Launch) (X : Nat → aw_Kt) (d : Nat) (Q : Option Value → aw_H → Prop) : aw_Kt := o_il 3 (o_ri Q)
theorem t_X4_countOf_44 {l : Launch} {X : Nat → aw_Kt} {d : Nat} {Q : Option Value → aw_H → Prop} : aw_Sn l m_X4_countOf none X d 0 0 Q 44 (k_X4_countOf_44 l X d Q) := by
  unfold k_X4_countOf_44
  exact s_iload_n dX4_countOf_44 rfl (s_iret dX4_countOf_45 rfl)
def k_X4_countOf_36 (l : Launch) (X : Nat → aw_Kt) (d : Nat) (Q : Option Value → aw_H → Prop) : aw_Kt := o_ib (fun x y => x + y) (o_is 3 (o_ii 4 1 (SW l m_X4_countOf none X d 0 0 Q 5)))
theorem t_X4_countOf_36 {l : Launch} {X : Nat → aw_Kt} {d : Nat} {Q : Option Value → aw_H → Prop} : aw_Sn l m_X4_countOf none X d 0 0 Q 36 (k_X4_countOf_36 l X d Q) := by
  unfold k_X4_countOf_36
  exact s_iadd dX4_countOf_36 (s_istore_n dX4_countOf_37 rfl (by decide) (s_iinc dX4_countOf_38 (by decide) (by decide) (s_goto dX4_countOf_41 (by decide) s_stop)))
def k_X4_countOf_35 (l : Launch) (X : Nat → aw_Kt) (d : Nat) (Q : Option Value → aw_H → Prop) : aw_Kt := o_ic 0 (k_X4_countOf_36 l X d Q)
theorem t_X4_countOf_35 {l : Launch} {X : Nat → aw_Kt} {d : Nat} {Q : Option Value → aw_H → Prop} : aw_Sn l m_X4_countOf none X d 0 0 Q 35 (k_X4_countOf_35 l X d Q) := by
  unfold k_X4_countOf_35
  exact s_iconst dX4_countOf_35 (by decide) t_X4_countOf_36
def k_X4_countOf_5 (l : Launch) (X : Nat → aw_Kt) (d : Nat) (Q : Option Value → aw_H → Prop) : aw_Kt := o_il 4 (o_ic 8 (o_i3 (fun x y => y ≤ x) (k_X4_countOf_44 l X d Q) (o_il 3 (o_al 0 (o_gf 4 3 (o_ic 8 (o_il 1 (o_ib (fun x y => x * y) (o_il 4 (o_ib (fun x y => x + y) (o_ia 0 (o_il 2 (o_ic 1 (o_ib (fun x y => x + y) (o_i3 (fun x y => x = y) (o_ic 1 (k_X4_countOf_36 l X d Q)) (k_X4_countOf_35 l X d Q))))))))))))))))
theorem t_X4_countOf_5 {l : Launch} {X : Nat → aw_Kt} {d : Nat} {Q : Option Value → aw_H → Prop} : aw_Sn l m_X4_countOf none X d 0 0 Q 5 (k_X4_countOf_5 l X d Q) := by
  unfold k_X4_countOf_5
  exact s_iload dX4_countOf_5 (s_bipush dX4_countOf_7 (by decide) (s_icmp_ge dX4_countOf_9 (by decide) t_X4_countOf_44 (s_iload_n dX4_countOf_12 rfl (s_aload_n dX4_countOf_13 rfl (s_getf dX4_countOf_14 rfl u_X4 (by decide) w_100 (s_bipush dX4_countOf_17 (by decide) (s_iload_n dX4_countOf_19 rfl (s_imul dX4_countOf_20 (s_iload dX4_countOf_21 (s_iadd dX4_countOf_23 (s_iaload dX4_countOf_24 (s_iload_n dX4_countOf_25 rfl (s_iconst dX4_countOf_26 (by decide) (s_iadd dX4_countOf_27 (s_icmp_ne dX4_countOf_28 (by decide) (s_iconst dX4_countOf_31 (by decide) (s_goto dX4_countOf_32 (by decide) t_X4_countOf_36)) t_X4_countOf_35)))))))))))))))
def k_X4_countOf_0 (l : Launch) (X : Nat → aw_Kt) (d : Nat) (Q : Option Value → aw_H → Prop) : aw_Kt := o_ic 0 (o_is 3 (o_ic 0 (o_is 4 (SW l m_X4_countOf none X d 0 0 Q 5))))
theorem t_X4_countOf_0 {l : Launch} {X : Nat → aw_Kt} {d : Nat} {Q : Option Value → aw_H → Prop} : aw_Sn l m_X4_countOf none X d 0 0 Q 0 (k_X4_countOf_0 l X d Q) := by
  unfold k_X4_countOf_0
  exact s_iconst dX4_countOf_0 (by decide) (s_istore_n dX4_countOf_1 rfl (by decide) (s_iconst dX4_countOf_2 (by decide) (s_istore dX4_countOf_3 (by decide) s_stop)))
/-! X4_all -/
def k_X4_all_275 (l : Launch) (X : Nat → aw_Kt) (d : Nat) (Q : Option Value → aw_H → Prop) : aw_Kt := o_rl Q
theorem t_X4_all_275 {l : Launch} {X : Nat → aw_Kt} {d : Nat} {Q : Option Value → aw_H → Prop} : aw_Sn l m_X4_all none X d 0 0 Q 275 (k_X4_all_275 l X d Q) := by
  unfold k_X4_all_275
  exact s_lret dX4_all_275 rfl
def k_X4_all_239 (l : Launch) (X : Nat → aw_Kt) (d : Nat) (Q : Option Value → aw_H → Prop) : aw_Kt := o_al 0 (o_ll 4 (o_ll 6 (o_lb (fun x y => x * y) (o_ll 6 (o_lb (fun x y => x * y) (o_ll 8 (o_lc 840 (o_lb (fun x y => x * y) (o_ll 2 (o_lb (fun x y => x * y) (o_lb (fun x y => x - y) (o_lc 840 (o_ll 2 (o_lb (fun x y => x * y) (o_ll 6 (o_ll 6 (o_lb (fun x y => x * y) (o_ll 8 (o_lb (fun x y => x - y) (o_lb (fun x y => x * y) (o_il 1 (o_cv l d m_X4_cut 4 3 (k_X4_all_275 l X d Q)))))))))))))))))))))))
theorem t_X4_all_239 {l : Launch} {X : Nat → aw_Kt} {d : Nat} {Q : Option Value → aw_H → Prop} : aw_Sn l m_X4_all none X d 0 0 Q 239 (k_X4_all_239 l X d Q) := by
  unfold k_X4_all_239
  exact s_aload_n dX4_all_239 rfl (s_lload dX4_all_240 (s_lload dX4_all_242 (s_lmul dX4_all_244 (s_lload dX4_all_245 (s_lmul dX4_all_247 (s_lload dX4_all_248 (s_ldc2 dX4_all_250 w_126 (s_lmul dX4_all_253 (s_lload_n dX4_all_254 rfl (s_lmul dX4_all_255 (s_lsub dX4_all_256 (s_ldc2 dX4_all_257 w_126 (s_lload_n dX4_all_260 rfl (s_lmul dX4_all_261 (s_lload dX4_all_262 (s_lload dX4_all_264 (s_lmul dX4_all_266 (s_lload dX4_all_267 (s_lsub dX4_all_269 (s_lmul dX4_all_270 (s_iload_n dX4_all_271 rfl (s_cv dX4_all_272 rfl (by decide) w_125 wi_X4_cut ws_X4_cut w_96 wc_X4_cut wd_X4_cut t_X4_all_275))))))))))))))))))))))
def k_X4_all_229 (l : Launch) (X : Nat → aw_Kt) (d : Nat) (Q : Option Value → aw_H → Prop) : aw_Kt := o_il 1 (o_ic 3 (o_i3 (fun x y => x = y) (o_ll 6 (k_X4_all_275 l X d Q)) (k_X4_all_239 l X d Q)))
theorem t_X4_all_229 {l : Launch} {X : Nat → aw_Kt} {d : Nat} {Q : Option Value → aw_H → Prop} : aw_Sn l m_X4_all none X d 0 0 Q 229 (k_X4_all_229 l X d Q) := by
  unfold k_X4_all_229
  exact s_iload_n dX4_all_229 rfl (s_iconst dX4_all_230 (by decide) (s_icmp_ne dX4_all_231 (by decide) (s_lload dX4_all_234 (s_goto dX4_all_236 (by decide) t_X4_all_275)) t_X4_all_239))
def k_X4_all_220 (l : Launch) (X : Nat → aw_Kt) (d : Nat) (Q : Option Value → aw_H → Prop) : aw_Kt := o_il 1 (o_ic 2 (o_i3 (fun x y => x = y) (o_ll 2 (k_X4_all_275 l X d Q)) (k_X4_all_229 l X d Q)))
theorem t_X4_all_220 {l : Launch} {X : Nat → aw_Kt} {d : Nat} {Q : Option Value → aw_H → Prop} : aw_Sn l m_X4_all none X d 0 0 Q 220 (k_X4_all_220 l X d Q) := by
  unfold k_X4_all_220
  exact s_iload_n dX4_all_220 rfl (s_iconst dX4_all_221 (by decide) (s_icmp_ne dX4_all_222 (by decide) (s_lload_n dX4_all_225 rfl (s_goto dX4_all_226 (by decide) t_X4_all_275)) t_X4_all_229))
def k_X4_all_204 (l : Launch) (X : Nat → aw_Kt) (d : Nat) (Q : Option Value → aw_H → Prop) : aw_Kt := o_ll 8 (o_ll 11 (o_ll 11 (o_lb (fun x y => x * y) (o_lb (fun x y => x + y) (o_ls 8 (o_ii 10 1 (SW l m_X4_all none X d 0 0 Q 149)))))))
theorem t_X4_all_204 {l : Launch} {X : Nat → aw_Kt} {d : Nat} {Q : Option Value → aw_H → Prop} : aw_Sn l m_X4_all none X d 0 0 Q 204 (k_X4_all_204 l X d Q) := by
  unfold k_X4_all_204
  exact s_lload dX4_all_204 (s_lload dX4_all_206 (s_lload dX4_all_208 (s_lmul dX4_all_210 (s_ladd dX4_all_211 (s_lstore dX4_all_212 (by decide) (s_iinc dX4_all_214 (by decide) (by decide) (s_goto dX4_all_217 (by decide) s_stop)))))))
def k_X4_all_195 (l : Launch) (X : Nat → aw_Kt) (d : Nat) (Q : Option Value → aw_H → Prop) : aw_Kt := o_lb (fun x y => x + y) (o_ls 11 (o_ii 13 1 (SW l m_X4_all none X d 0 0 Q 161)))
theorem t_X4_all_195 {l : Launch} {X : Nat → aw_Kt} {d : Nat} {Q : Option Value → aw_H → Prop} : aw_Sn l m_X4_all none X d 0 0 Q 195 (k_X4_all_195 l X d Q) := by
  unfold k_X4_all_195
  exact s_ladd dX4_all_195 (s_lstore dX4_all_196 (by decide) (s_iinc dX4_all_198 (by decide) (by decide) (s_goto dX4_all_201 (by decide) s_stop)))
def k_X4_all_194 (l : Launch) (X : Nat → aw_Kt) (d : Nat) (Q : Option Value → aw_H → Prop) : aw_Kt := o_lc 0 (k_X4_all_195 l X d Q)
theorem t_X4_all_194 {l : Launch} {X : Nat → aw_Kt} {d : Nat} {Q : Option Value → aw_H → Prop} : aw_Sn l m_X4_all none X d 0 0 Q 194 (k_X4_all_194 l X d Q) := by
  unfold k_X4_all_194
  exact s_lconst dX4_all_194 (by decide) t_X4_all_195
def k_X4_all_161 (l : Launch) (X : Nat → aw_Kt) (d : Nat) (Q : Option Value → aw_H → Prop) : aw_Kt := o_il 13 (o_al 0 (o_gf 4 1 (o_i3 (fun x y => y ≤ x) (k_X4_all_204 l X d Q) (o_ll 11 (o_al 0 (o_il 13 (o_cv l d m_X4_labellings 4 1 (o_ic 1 (o_i3 (fun x y => x ≤ y) (k_X4_all_194 l X d Q) (o_al 0 (o_il 13 (o_il 10 (o_cv l d m_X4_countOf 4 2 (o_i2 (k_X4_all_195 l X d Q)))))))))))))))
theorem t_X4_all_161 {l : Launch} {X : Nat → aw_Kt} {d : Nat} {Q : Option Value → aw_H → Prop} : aw_Sn l m_X4_all none X d 0 0 Q 161 (k_X4_all_161 l X d Q) := by
  unfold k_X4_all_161
  exact s_iload dX4_all_161 (s_aload_n dX4_all_163 rfl (s_getf dX4_all_164 rfl u_X4 (by decide) w_95 (s_icmp_ge dX4_all_167 (by decide) t_X4_all_204 (s_lload dX4_all_170 (s_aload_n dX4_all_172 rfl (s_iload dX4_all_173 (s_cv dX4_all_175 rfl (by decide) w_128 wi_X4_labellings ws_X4_labellings w_96 wc_X4_labellings wd_X4_labellings (s_iconst dX4_all_178 (by decide) (s_icmp_le dX4_all_179 (by decide) t_X4_all_194 (s_aload_n dX4_all_182 rfl (s_iload dX4_all_183 (s_iload dX4_all_185 (s_cv dX4_all_187 rfl (by decide) w_127 wi_X4_countOf ws_X4_countOf w_96 wc_X4_countOf wd_X4_countOf (s_i2l dX4_all_190 (s_goto dX4_all_191 (by decide) t_X4_all_195)))))))))))))))
def k_X4_all_149 (l : Launch) (X : Nat → aw_Kt) (d : Nat) (Q : Option Value → aw_H → Prop) : aw_Kt := o_il 10 (o_ic 5 (o_i3 (fun x y => y ≤ x) (k_X4_all_220 l X d Q) (o_lc 0 (o_ls 11 (o_ic 0 (o_is 13 (SW l m_X4_all none X d 0 0 Q 161)))))))
theorem t_X4_all_149 {l : Launch} {X : Nat → aw_Kt} {d : Nat} {Q : Option Value → aw_H → Prop} : aw_Sn l m_X4_all none X d 0 0 Q 149 (k_X4_all_149 l X d Q) := by
  unfold k_X4_all_149
  exact s_iload dX4_all_149 (s_iconst dX4_all_151 (by decide) (s_icmp_ge dX4_all_152 (by decide) t_X4_all_220 (s_lconst dX4_all_155 (by decide) (s_lstore dX4_all_156 (by decide) (s_iconst dX4_all_158 (by decide) (s_istore dX4_all_159 (by decide) s_stop))))))
def k_X4_all_143 (l : Launch) (X : Nat → aw_Kt) (d : Nat) (Q : Option Value → aw_H → Prop) : aw_Kt := o_lc 0 (o_ls 8 (o_ic 0 (o_is 10 (SW l m_X4_all none X d 0 0 Q 149))))
theorem t_X4_all_143 {l : Launch} {X : Nat → aw_Kt} {d : Nat} {Q : Option Value → aw_H → Prop} : aw_Sn l m_X4_all none X d 0 0 Q 143 (k_X4_all_143 l X d Q) := by
  unfold k_X4_all_143
  exact s_lconst dX4_all_143 (by decide) (s_lstore dX4_all_144 (by decide) (s_iconst dX4_all_146 (by decide) (s_istore dX4_all_147 (by decide) s_stop)))
def k_X4_all_137 (l : Launch) (X : Nat → aw_Kt) (d : Nat) (Q : Option Value → aw_H → Prop) : aw_Kt := o_ii 8 1 (SW l m_X4_all none X d 0 0 Q 38)
theorem t_X4_all_137 {l : Launch} {X : Nat → aw_Kt} {d : Nat} {Q : Option Value → aw_H → Prop} : aw_Sn l m_X4_all none X d 0 0 Q 137 (k_X4_all_137 l X d Q) := by
  unfold k_X4_all_137
  exact s_iinc dX4_all_137 (by decide) (by decide) (s_goto dX4_all_140 (by decide) s_stop)
def k_X4_all_115 (l : Launch) (X : Nat → aw_Kt) (d : Nat) (Q : Option Value → aw_H → Prop) : aw_Kt := o_ll 4 (o_ic 840 (o_il 10 (o_ib (fun x y => x * y) (o_il 9 (o_il 9 (o_ic 1 (o_ib (fun x y => x - y) (o_ib (fun x y => x * y) (o_ic 2 (o_dv (o_dv (o_i2 (o_lb (fun x y => x + y) (o_ls 4 (k_X4_all_137 l X d Q)))))))))))))))
theorem t_X4_all_115 {l : Launch} {X : Nat → aw_Kt} {d : Nat} {Q : Option Value → aw_H → Prop} : aw_Sn l m_X4_all none X d 0 0 Q 115 (k_X4_all_115 l X d Q) := by
  unfold k_X4_all_115
  exact s_lload dX4_all_115 (s_sipush dX4_all_117 (by decide) (s_iload dX4_all_120 (s_imul dX4_all_122 (s_iload dX4_all_123 (s_iload dX4_all_125 (s_iconst dX4_all_127 (by decide) (s_isub dX4_all_128 (s_imul dX4_all_129 (s_iconst dX4_all_130 (by decide) (s_idiv dX4_all_131 (s_idiv dX4_all_132 (s_i2l dX4_all_133 (s_ladd dX4_all_134 (s_lstore dX4_all_135 (by decide) t_X4_all_137))))))))))))))
def k_X4_all_79 (l : Launch) (X : Nat → aw_Kt) (d : Nat) (Q : Option Value → aw_H → Prop) : aw_Kt := o_il 11 (o_ic 5 (o_i3 (fun x y => y ≤ x) (k_X4_all_115 l X d Q) (o_al 0 (o_il 8 (o_il 11 (o_cv l d m_X4_countOf 4 2 (o_is 12 (o_il 10 (o_il 12 (o_il 12 (o_ic 1 (o_ib (fun x y => x - y) (o_ib (fun x y => x * y) (o_ic 2 (o_dv (o_ib (fun x y => x + y) (o_is 10 (o_ii 11 1 (SW l m_X4_all none X d 0 0 Q 79)))))))))))))))))))
theorem t_X4_all_79 {l : Launch} {X : Nat → aw_Kt} {d : Nat} {Q : Option Value → aw_H → Prop} : aw_Sn l m_X4_all none X d 0 0 Q 79 (k_X4_all_79 l X d Q) := by
  unfold k_X4_all_79
  exact s_iload dX4_all_79 (s_iconst dX4_all_81 (by decide) (s_icmp_ge dX4_all_82 (by decide) t_X4_all_115 (s_aload_n dX4_all_85 rfl (s_iload dX4_all_86 (s_iload dX4_all_88 (s_cv dX4_all_90 rfl (by decide) w_127 wi_X4_countOf ws_X4_countOf w_96 wc_X4_countOf wd_X4_countOf (s_istore dX4_all_93 (by decide) (s_iload dX4_all_95 (s_iload dX4_all_97 (s_iload dX4_all_99 (s_iconst dX4_all_101 (by decide) (s_isub dX4_all_102 (s_imul dX4_all_103 (s_iconst dX4_all_104 (by decide) (s_idiv dX4_all_105 (s_iadd dX4_all_106 (s_istore dX4_all_107 (by decide) (s_iinc dX4_all_109 (by decide) (by decide) (s_goto dX4_all_112 (by decide) s_stop)))))))))))))))))))
def k_X4_all_38 (l : Launch) (X : Nat → aw_Kt) (d : Nat) (Q : Option Value → aw_H → Prop) : aw_Kt := o_il 8 (o_al 0 (o_gf 4 1 (o_i3 (fun x y => y ≤ x) (k_X4_all_143 l X d Q) (o_al 0 (o_il 8 (o_cv l d m_X4_labellings 4 1 (o_is 9 (o_il 9 (o_ic 1 (o_i3 (fun x y => x ≤ y) (k_X4_all_137 l X d Q) (o_ll 2 (o_lc 1 (o_lb (fun x y => x + y) (o_ls 2 (o_ll 6 (o_il 9 (o_i2 (o_lb (fun x y => x + y) (o_ls 6 (o_ic 0 (o_is 10 (o_ic 0 (o_is 11 (SW l m_X4_all none X d 0 0 Q 79))))))))))))))))))))))))
theorem t_X4_all_38 {l : Launch} {X : Nat → aw_Kt} {d : Nat} {Q : Option Value → aw_H → Prop} : aw_Sn l m_X4_all none X d 0 0 Q 38 (k_X4_all_38 l X d Q) := by
  unfold k_X4_all_38
  exact s_iload dX4_all_38 (s_aload_n dX4_all_40 rfl (s_getf dX4_all_41 rfl u_X4 (by decide) w_95 (s_icmp_ge dX4_all_44 (by decide) t_X4_all_143 (s_aload_n dX4_all_47 rfl (s_iload dX4_all_48 (s_cv dX4_all_50 rfl (by decide) w_128 wi_X4_labellings ws_X4_labellings w_96 wc_X4_labellings wd_X4_labellings (s_istore dX4_all_53 (by decide) (s_iload dX4_all_55 (s_iconst dX4_all_57 (by decide) (s_icmp_le dX4_all_58 (by decide) t_X4_all_137 (s_lload_n dX4_all_61 rfl (s_lconst dX4_all_62 (by decide) (s_ladd dX4_all_63 (s_lstore_n dX4_all_64 rfl (by decide) (s_lload dX4_all_65 (s_iload dX4_all_67 (s_i2l dX4_all_69 (s_ladd dX4_all_70 (s_lstore dX4_all_71 (by decide) (s_iconst dX4_all_73 (by decide) (s_istore dX4_all_74 (by decide) (s_iconst dX4_all_76 (by decide) (s_istore dX4_all_77 (by decide) s_stop)))))))))))))))))))))))
def k_X4_all_27 (l : Launch) (X : Nat → aw_Kt) (d : Nat) (Q : Option Value → aw_H → Prop) : aw_Kt := o_lc 0 (o_ls 2 (o_lc 0 (o_ls 4 (o_lc 0 (o_ls 6 (o_ic 0 (o_is 8 (SW l m_X4_all none X d 0 0 Q 38))))))))
theorem t_X4_all_27 {l : Launch} {X : Nat → aw_Kt} {d : Nat} {Q : Option Value → aw_H → Prop} : aw_Sn l m_X4_all none X d 0 0 Q 27 (k_X4_all_27 l X d Q) := by
  unfold k_X4_all_27
  exact s_lconst dX4_all_27 (by decide) (s_lstore_n dX4_all_28 rfl (by decide) (s_lconst dX4_all_29 (by decide) (s_lstore dX4_all_30 (by decide) (s_lconst dX4_all_32 (by decide) (s_lstore dX4_all_33 (by decide) (s_iconst dX4_all_35 (by decide) (s_istore dX4_all_36 (by decide) s_stop)))))))
def k_X4_all_15 (l : Launch) (X : Nat → aw_Kt) (d : Nat) (Q : Option Value → aw_H → Prop) : aw_Kt := o_pi 4 0 (o_al 0 (o_gf 4 0 (o_if (fun x => x ≤ 0) (k_X4_all_27 l X d Q) (o_lc 0 (o_rl Q)))))
theorem t_X4_all_15 {l : Launch} {X : Nat → aw_Kt} {d : Nat} {Q : Option Value → aw_H → Prop} : aw_Sn l m_X4_all none X d 0 0 Q 15 (k_X4_all_15 l X d Q) := by
  unfold k_X4_all_15
  exact s_puti dX4_all_15 rfl u_X4 tyX4_ok nmX4 (by decide) rfl (by decide +kernel) w_94 (s_aload_n dX4_all_18 rfl (s_getf dX4_all_19 rfl u_X4 (by decide) w_94 (s_if_le dX4_all_22 (by decide) t_X4_all_27 (s_lconst dX4_all_25 (by decide) (s_lret dX4_all_26 rfl)))))
def k_X4_all_14 (l : Launch) (X : Nat → aw_Kt) (d : Nat) (Q : Option Value → aw_H → Prop) : aw_Kt := o_ic 1 (k_X4_all_15 l X d Q)
theorem t_X4_all_14 {l : Launch} {X : Nat → aw_Kt} {d : Nat} {Q : Option Value → aw_H → Prop} : aw_Sn l m_X4_all none X d 0 0 Q 14 (k_X4_all_14 l X d Q) := by
  unfold k_X4_all_14
  exact s_iconst dX4_all_14 (by decide) t_X4_all_15
def k_X4_all_0 (l : Launch) (X : Nat → aw_Kt) (d : Nat) (Q : Option Value → aw_H → Prop) : aw_Kt := o_al 0 (o_il 1 (o_ic 0 (o_ic 3 (o_cs l d m_X4_in 3 (o_if (fun x => x = 0) (k_X4_all_14 l X d Q) (o_ic 0 (k_X4_all_15 l X d Q)))))))
theorem t_X4_all_0 {l : Launch} {X : Nat → aw_Kt} {d : Nat} {Q : Option Value → aw_H → Prop} : aw_Sn l m_X4_all none X d 0 0 Q 0 (k_X4_all_0 l X d Q) := by
  unfold k_X4_all_0
  exact s_aload_n dX4_all_0 rfl (s_iload_n dX4_all_1 rfl (s_iconst dX4_all_2 (by decide) (s_iconst dX4_all_3 (by decide) (s_cs dX4_all_4 (by decide) w_97 wt_X4_in w_96 wc_X4_in wd_X4_in (s_if_eq dX4_all_7 (by decide) t_X4_all_14 (s_iconst dX4_all_10 (by decide) (s_goto dX4_all_11 (by decide) t_X4_all_15)))))))
/-! X4_next -/
def k_X4_next_128 (l : Launch) (X : Nat → aw_Kt) (d : Nat) (Q : Option Value → aw_H → Prop) : aw_Kt := o_il 2 (o_ri Q)
theorem t_X4_next_128 {l : Launch} {X : Nat → aw_Kt} {d : Nat} {Q : Option Value → aw_H → Prop} : aw_Sn l m_X4_next none X d 0 0 Q 128 (k_X4_next_128 l X d Q) := by
  unfold k_X4_next_128
  exact s_iload_n dX4_next_128 rfl (s_iret dX4_next_129 rfl)
def k_X4_next_122 (l : Launch) (X : Nat → aw_Kt) (d : Nat) (Q : Option Value → aw_H → Prop) : aw_Kt := o_ii 5 1 (SW l m_X4_next none X d 0 0 Q 20)
theorem t_X4_next_122 {l : Launch} {X : Nat → aw_Kt} {d : Nat} {Q : Option Value → aw_H → Prop} : aw_Sn l m_X4_next none X d 0 0 Q 122 (k_X4_next_122 l X d Q) := by
  unfold k_X4_next_122
  exact s_iinc dX4_next_122 (by decide) (by decide) (s_goto dX4_next_125 (by decide) s_stop)
def k_X4_next_112 (l : Launch) (X : Nat → aw_Kt) (d : Nat) (Q : Option Value → aw_H → Prop) : aw_Kt := o_il 5 (o_is 2 (o_il 6 (o_is 3 (o_il 7 (o_is 4 (k_X4_next_122 l X d Q))))))
theorem t_X4_next_112 {l : Launch} {X : Nat → aw_Kt} {d : Nat} {Q : Option Value → aw_H → Prop} : aw_Sn l m_X4_next none X d 0 0 Q 112 (k_X4_next_112 l X d Q) := by
  unfold k_X4_next_112
  exact s_iload dX4_next_112 (s_istore_n dX4_next_114 rfl (by decide) (s_iload dX4_next_115 (s_istore_n dX4_next_117 rfl (by decide) (s_iload dX4_next_118 (s_istore dX4_next_120 (by decide) t_X4_next_122)))))
def k_X4_next_20 (l : Launch) (X : Nat → aw_Kt) (d : Nat) (Q : Option Value → aw_H → Prop) : aw_Kt := o_il 5 (o_al 0 (o_gf 4 1 (o_i3 (fun x y => y ≤ x) (k_X4_next_128 l X d Q) (o_al 0 (o_il 1 (o_cv l d m_X4_isBarred 4 1 (o_if (fun x => x = 0) (o_al 0 (o_gf 4 3 (o_ic 8 (o_il 5 (o_ib (fun x y => x * y) (o_il 1 (o_ib (fun x y => x + y) (o_ia 0 (o_if (fun x => x = 0) (o_al 0 (o_gf 4 4 (o_il 5 (o_ia 0 (o_ic (-1) (o_i3 (fun x y => x = y) (o_al 0 (o_il 5 (o_cv l d m_X4_weigh 4 1 (o_al 0 (o_gf 4 16 (o_al 0 (o_gf 4 17 (o_ib (fun x y => x - y) (o_is 6 (o_al 0 (o_il 5 (o_cv l d m_X4_labellings 4 1 (o_is 7 (o_il 2 (o_ic (-1) (o_i3 (fun x y => x = y) (k_X4_next_112 l X d Q) (o_il 6 (o_il 3 (o_i3 (fun x y => x < y) (k_X4_next_112 l X d Q) (o_il 6 (o_il 3 (o_i3 (fun x y => x = y) (o_il 7 (o_il 4 (o_i3 (fun x y => y ≤ x) (k_X4_next_122 l X d Q) (k_X4_next_112 l X d Q)))) (k_X4_next_122 l X d Q))))))))))))))))))))))) (k_X4_next_122 l X d Q))))))) (k_X4_next_122 l X d Q)))))))))) (k_X4_next_128 l X d Q))))))))
theorem t_X4_next_20 {l : Launch} {X : Nat → aw_Kt} {d : Nat} {Q : Option Value → aw_H → Prop} : aw_Sn l m_X4_next none X d 0 0 Q 20 (k_X4_next_20 l X d Q) := by
  unfold k_X4_next_20
  exact s_iload dX4_next_20 (s_aload_n dX4_next_22 rfl (s_getf dX4_next_23 rfl u_X4 (by decide) w_95 (s_icmp_ge dX4_next_26 (by decide) t_X4_next_128 (s_aload_n dX4_next_29 rfl (s_iload_n dX4_next_30 rfl (s_cv dX4_next_31 rfl (by decide) w_107 wi_X4_isBarred ws_X4_isBarred w_96 wc_X4_isBarred wd_X4_isBarred (s_if_ne dX4_next_34 (by decide) (s_aload_n dX4_next_37 rfl (s_getf dX4_next_38 rfl u_X4 (by decide) w_100 (s_bipush dX4_next_41 (by decide) (s_iload dX4_next_43 (s_imul dX4_next_45 (s_iload_n dX4_next_46 rfl (s_iadd dX4_next_47 (s_iaload dX4_next_48 (s_if_ne dX4_next_49 (by decide) (s_aload_n dX4_next_52 rfl (s_getf dX4_next_53 rfl u_X4 (by decide) w_99 (s_iload dX4_next_56 (s_iaload dX4_next_58 (s_iconst dX4_next_59 (by decide) (s_icmp_ne dX4_next_60 (by decide) (s_aload_n dX4_next_63 rfl (s_iload dX4_next_64 (s_cv dX4_next_66 rfl (by decide) w_121 wi_X4_weigh ws_X4_weigh w_96 wc_X4_weigh wd_X4_weigh (s_aload_n dX4_next_69 rfl (s_getf dX4_next_70 rfl u_X4 (by decide) w_119 (s_aload_n dX4_next_73 rfl (s_getf dX4_next_74 rfl u_X4 (by decide) w_118 (s_isub dX4_next_77 (s_istore dX4_next_78 (by decide) (s_aload_n dX4_next_80 rfl (s_iload dX4_next_81 (s_cv dX4_next_83 rfl (by decide) w_128 wi_X4_labellings ws_X4_labellings w_96 wc_X4_labellings wd_X4_labellings (s_istore dX4_next_86 (by decide) (s_iload_n dX4_next_88 rfl (s_iconst dX4_next_89 (by decide) (s_icmp_eq dX4_next_90 (by decide) t_X4_next_112 (s_iload dX4_next_93 (s_iload_n dX4_next_95 rfl (s_icmp_lt dX4_next_96 (by decide) t_X4_next_112 (s_iload dX4_next_99 (s_iload_n dX4_next_101 rfl (s_icmp_ne dX4_next_102 (by decide) (s_iload dX4_next_105 (s_iload dX4_next_107 (s_icmp_ge dX4_next_109 (by decide) t_X4_next_122 t_X4_next_112))) t_X4_next_122)))))))))))))))))))))) t_X4_next_122)))))) t_X4_next_122))))))))) t_X4_next_128)))))))
def k_X4_next_10 (l : Launch) (X : Nat → aw_Kt) (d : Nat) (Q : Option Value → aw_H → Prop) : aw_Kt := o_ic (-1) (o_is 2 (o_ic 0 (o_is 3 (o_ic 0 (o_is 4 (o_ic 0 (o_is 5 (SW l m_X4_next none X d 0 0 Q 20))))))))
theorem t_X4_next_10 {l : Launch} {X : Nat → aw_Kt} {d : Nat} {Q : Option Value → aw_H → Prop} : aw_Sn l m_X4_next none X d 0 0 Q 10 (k_X4_next_10 l X d Q) := by
  unfold k_X4_next_10
  exact s_iconst dX4_next_10 (by decide) (s_istore_n dX4_next_11 rfl (by decide) (s_iconst dX4_next_12 (by decide) (s_istore_n dX4_next_13 rfl (by decide) (s_iconst dX4_next_14 (by decide) (s_istore dX4_next_15 (by decide) (s_iconst dX4_next_17 (by decide) (s_istore dX4_next_18 (by decide) s_stop)))))))
def k_X4_next_0 (l : Launch) (X : Nat → aw_Kt) (d : Nat) (Q : Option Value → aw_H → Prop) : aw_Kt := o_il 1 (o_cs l d m_X4_isPerson 1 (o_if (fun x => x = 0) (o_ic (-101) (o_ri Q)) (k_X4_next_10 l X d Q)))
theorem t_X4_next_0 {l : Launch} {X : Nat → aw_Kt} {d : Nat} {Q : Option Value → aw_H → Prop} : aw_Sn l m_X4_next none X d 0 0 Q 0 (k_X4_next_0 l X d Q) := by
  unfold k_X4_next_0
  exact s_iload_n dX4_next_0 rfl (s_cs dX4_next_1 (by decide) w_102 wt_X4_isPerson w_96 wc_X4_isPerson wd_X4_isPerson (s_if_ne dX4_next_4 (by decide) (s_bipush dX4_next_7 (by decide) (s_iret dX4_next_9 rfl)) t_X4_next_10))
/-! X4_isUnlike -/
def k_X4_isUnlike_96 (l : Launch) (X : Nat → aw_Kt) (d : Nat) (Q : Option Value → aw_H → Prop) : aw_Kt := o_il 2 (o_rz Q)
theorem t_X4_isUnlike_96 {l : Launch} {X : Nat → aw_Kt} {d : Nat} {Q : Option Value → aw_H → Prop} : aw_Sn l m_X4_isUnlike none X d 0 0 Q 96 (k_X4_isUnlike_96 l X d Q) := by
  unfold k_X4_isUnlike_96
  exact s_iload_n dX4_isUnlike_96 rfl (s_zret dX4_isUnlike_97 rfl)
def k_X4_isUnlike_90 (l : Launch) (X : Nat → aw_Kt) (d : Nat) (Q : Option Value → aw_H → Prop) : aw_Kt := o_ii 3 1 (SW l m_X4_isUnlike none X d 0 0 Q 4)
theorem t_X4_isUnlike_90 {l : Launch} {X : Nat → aw_Kt} {d : Nat} {Q : Option Value → aw_H → Prop} : aw_Sn l m_X4_isUnlike none X d 0 0 Q 90 (k_X4_isUnlike_90 l X d Q) := by
  unfold k_X4_isUnlike_90
  exact s_iinc dX4_isUnlike_90 (by decide) (by decide) (s_goto dX4_isUnlike_93 (by decide) s_stop)
def k_X4_isUnlike_83 (l : Launch) (X : Nat → aw_Kt) (d : Nat) (Q : Option Value → aw_H → Prop) : aw_Kt := o_is 2 (o_ii 4 1 (SW l m_X4_isUnlike none X d 0 0 Q 15))
theorem t_X4_isUnlike_83 {l : Launch} {X : Nat → aw_Kt} {d : Nat} {Q : Option Value → aw_H → Prop} : aw_Sn l m_X4_isUnlike none X d 0 0 Q 83 (k_X4_isUnlike_83 l X d Q) := by
  unfold k_X4_isUnlike_83
  exact s_istore_n dX4_isUnlike_83 rfl (by decide) (s_iinc dX4_isUnlike_84 (by decide) (by decide) (s_goto dX4_isUnlike_87 (by decide) s_stop))
def k_X4_isUnlike_82 (l : Launch) (X : Nat → aw_Kt) (d : Nat) (Q : Option Value → aw_H → Prop) : aw_Kt := o_ic 0 (k_X4_isUnlike_83 l X d Q)
theorem t_X4_isUnlike_82 {l : Launch} {X : Nat → aw_Kt} {d : Nat} {Q : Option Value → aw_H → Prop} : aw_Sn l m_X4_isUnlike none X d 0 0 Q 82 (k_X4_isUnlike_82 l X d Q) := by
  unfold k_X4_isUnlike_82
  exact s_iconst dX4_isUnlike_82 (by decide) t_X4_isUnlike_83
def k_X4_isUnlike_78 (l : Launch) (X : Nat → aw_Kt) (d : Nat) (Q : Option Value → aw_H → Prop) : aw_Kt := o_ic 1 (k_X4_isUnlike_83 l X d Q)
theorem t_X4_isUnlike_78 {l : Launch} {X : Nat → aw_Kt} {d : Nat} {Q : Option Value → aw_H → Prop} : aw_Sn l m_X4_isUnlike none X d 0 0 Q 78 (k_X4_isUnlike_78 l X d Q) := by
  unfold k_X4_isUnlike_78
  exact s_iconst dX4_isUnlike_78 (by decide) (s_goto dX4_isUnlike_79 (by decide) t_X4_isUnlike_83)
def k_X4_isUnlike_15 (l : Launch) (X : Nat → aw_Kt) (d : Nat) (Q : Option Value → aw_H → Prop) : aw_Kt := o_il 4 (o_il 3 (o_i3 (fun x y => y ≤ x) (k_X4_isUnlike_90 l X d Q) (o_al 0 (o_il 3 (o_il 1 (o_cv l d m_X4_saysOf 4 2 (o_is 5 (o_al 0 (o_il 4 (o_il 1 (o_cv l d m_X4_saysOf 4 2 (o_is 6 (o_il 2 (o_if (fun x => x = 0) (o_al 0 (o_gf 4 14 (o_il 3 (o_ia 1 (o_if (fun x => x = 0) (k_X4_isUnlike_82 l X d Q) (o_al 0 (o_gf 4 14 (o_il 4 (o_ia 1 (o_if (fun x => x = 0) (k_X4_isUnlike_82 l X d Q) (o_il 5 (o_if (fun x => x < 0) (k_X4_isUnlike_82 l X d Q) (o_il 6 (o_if (fun x => x < 0) (k_X4_isUnlike_82 l X d Q) (o_il 5 (o_il 6 (o_i3 (fun x y => x = y) (k_X4_isUnlike_82 l X d Q) (k_X4_isUnlike_78 l X d Q)))))))))))))))))) (k_X4_isUnlike_78 l X d Q)))))))))))))))
theorem t_X4_isUnlike_15 {l : Launch} {X : Nat → aw_Kt} {d : Nat} {Q : Option Value → aw_H → Prop} : aw_Sn l m_X4_isUnlike none X d 0 0 Q 15 (k_X4_isUnlike_15 l X d Q) := by
  unfold k_X4_isUnlike_15
  exact s_iload dX4_isUnlike_15 (s_iload_n dX4_isUnlike_17 rfl (s_icmp_ge dX4_isUnlike_18 (by decide) t_X4_isUnlike_90 (s_aload_n dX4_isUnlike_21 rfl (s_iload_n dX4_isUnlike_22 rfl (s_iload_n dX4_isUnlike_23 rfl (s_cv dX4_isUnlike_24 rfl (by decide) w_116 wi_X4_saysOf ws_X4_saysOf w_96 wc_X4_saysOf wd_X4_saysOf (s_istore dX4_isUnlike_27 (by decide) (s_aload_n dX4_isUnlike_29 rfl (s_iload dX4_isUnlike_30 (s_iload_n dX4_isUnlike_32 rfl (s_cv dX4_isUnlike_33 rfl (by decide) w_116 wi_X4_saysOf ws_X4_saysOf w_96 wc_X4_saysOf wd_X4_saysOf (s_istore dX4_isUnlike_36 (by decide) (s_iload_n dX4_isUnlike_38 rfl (s_if_ne dX4_isUnlike_39 (by decide) (s_aload_n dX4_isUnlike_42 rfl (s_getf dX4_isUnlike_43 rfl u_X4 (by decide) w_114 (s_iload_n dX4_isUnlike_46 rfl (s_baload dX4_isUnlike_47 (s_if_eq dX4_isUnlike_48 (by decide) t_X4_isUnlike_82 (s_aload_n dX4_isUnlike_51 rfl (s_getf dX4_isUnlike_52 rfl u_X4 (by decide) w_114 (s_iload dX4_isUnlike_55 (s_baload dX4_isUnlike_57 (s_if_eq dX4_isUnlike_58 (by decide) t_X4_isUnlike_82 (s_iload dX4_isUnlike_61 (s_if_lt dX4_isUnlike_63 (by decide) t_X4_isUnlike_82 (s_iload dX4_isUnlike_66 (s_if_lt dX4_isUnlike_68 (by decide) t_X4_isUnlike_82 (s_iload dX4_isUnlike_71 (s_iload dX4_isUnlike_73 (s_icmp_eq dX4_isUnlike_75 (by decide) t_X4_isUnlike_82 t_X4_isUnlike_78))))))))))))))))) t_X4_isUnlike_78))))))))))))))
def k_X4_isUnlike_4 (l : Launch) (X : Nat → aw_Kt) (d : Nat) (Q : Option Value → aw_H → Prop) : aw_Kt := o_il 3 (o_al 0 (o_gf 4 9 (o_i3 (fun x y => y ≤ x) (k_X4_isUnlike_96 l X d Q) (o_ic 0 (o_is 4 (SW l m_X4_isUnlike none X d 0 0 Q 15))))))
theorem t_X4_isUnlike_4 {l : Launch} {X : Nat → aw_Kt} {d : Nat} {Q : Option Value → aw_H → Prop} : aw_Sn l m_X4_isUnlike none X d 0 0 Q 4 (k_X4_isUnlike_4 l X d Q) := by
  unfold k_X4_isUnlike_4
  exact s_iload_n dX4_isUnlike_4 rfl (s_aload_n dX4_isUnlike_5 rfl (s_getf dX4_isUnlike_6 rfl u_X4 (by decide) w_110 (s_icmp_ge dX4_isUnlike_9 (by decide) t_X4_isUnlike_96 (s_iconst dX4_isUnlike_12 (by decide) (s_istore dX4_isUnlike_13 (by decide) s_stop)))))
def k_X4_isUnlike_0 (l : Launch) (X : Nat → aw_Kt) (d : Nat) (Q : Option Value → aw_H → Prop) : aw_Kt := o_ic 0 (o_is 2 (o_ic 0 (o_is 3 (SW l m_X4_isUnlike none X d 0 0 Q 4))))
theorem t_X4_isUnlike_0 {l : Launch} {X : Nat → aw_Kt} {d : Nat} {Q : Option Value → aw_H → Prop} : aw_Sn l m_X4_isUnlike none X d 0 0 Q 0 (k_X4_isUnlike_0 l X d Q) := by
  unfold k_X4_isUnlike_0
  exact s_iconst dX4_isUnlike_0 (by decide) (s_istore_n dX4_isUnlike_1 rfl (by decide) (s_iconst dX4_isUnlike_2 (by decide) (s_istore_n dX4_isUnlike_3 rfl (by decide) s_stop)))
/-! X4_about -/
def k_X4_about_170 (l : Launch) (X : Nat → aw_Kt) (d : Nat) (Q : Option Value → aw_H → Prop) : aw_Kt := o_il 2 (o_ri Q)
theorem t_X4_about_170 {l : Launch} {X : Nat → aw_Kt} {d : Nat} {Q : Option Value → aw_H → Prop} : aw_Sn l m_X4_about none X d 0 0 Q 170 (k_X4_about_170 l X d Q) := by
  unfold k_X4_about_170
  exact s_iload_n dX4_about_170 rfl (s_iret dX4_about_171 rfl)
def k_X4_about_162 (l : Launch) (X : Nat → aw_Kt) (d : Nat) (Q : Option Value → aw_H → Prop) : aw_Kt := o_ib (fun x y => x + y) (o_is 2 (o_ii 3 1 (SW l m_X4_about none X d 0 0 Q 136)))
theorem t_X4_about_162 {l : Launch} {X : Nat → aw_Kt} {d : Nat} {Q : Option Value → aw_H → Prop} : aw_Sn l m_X4_about none X d 0 0 Q 162 (k_X4_about_162 l X d Q) := by
  unfold k_X4_about_162
  exact s_iadd dX4_about_162 (s_istore_n dX4_about_163 rfl (by decide) (s_iinc dX4_about_164 (by decide) (by decide) (s_goto dX4_about_167 (by decide) s_stop)))
def k_X4_about_161 (l : Launch) (X : Nat → aw_Kt) (d : Nat) (Q : Option Value → aw_H → Prop) : aw_Kt := o_ic 0 (k_X4_about_162 l X d Q)
theorem t_X4_about_161 {l : Launch} {X : Nat → aw_Kt} {d : Nat} {Q : Option Value → aw_H → Prop} : aw_Sn l m_X4_about none X d 0 0 Q 161 (k_X4_about_161 l X d Q) := by
  unfold k_X4_about_161
  exact s_iconst dX4_about_161 (by decide) t_X4_about_162
def k_X4_about_136 (l : Launch) (X : Nat → aw_Kt) (d : Nat) (Q : Option Value → aw_H → Prop) : aw_Kt := o_il 3 (o_ic 8 (o_i3 (fun x y => y ≤ x) (k_X4_about_170 l X d Q) (o_il 2 (o_il 1 (o_ic 6 (o_i3 (fun x y => x = y) (o_al 0 (o_il 3 (o_cv l d m_X4_isBarred 4 1 (o_if (fun x => x = 0) (k_X4_about_161 l X d Q) (o_ic 1 (k_X4_about_162 l X d Q)))))) (k_X4_about_161 l X d Q)))))))
theorem t_X4_about_136 {l : Launch} {X : Nat → aw_Kt} {d : Nat} {Q : Option Value → aw_H → Prop} : aw_Sn l m_X4_about none X d 0 0 Q 136 (k_X4_about_136 l X d Q) := by
  unfold k_X4_about_136
  exact s_iload_n dX4_about_136 rfl (s_bipush dX4_about_137 (by decide) (s_icmp_ge dX4_about_139 (by decide) t_X4_about_170 (s_iload_n dX4_about_142 rfl (s_iload_n dX4_about_143 rfl (s_bipush dX4_about_144 (by decide) (s_icmp_ne dX4_about_146 (by decide) (s_aload_n dX4_about_149 rfl (s_iload_n dX4_about_150 rfl (s_cv dX4_about_151 rfl (by decide) w_107 wi_X4_isBarred ws_X4_isBarred w_96 wc_X4_isBarred wd_X4_isBarred (s_if_eq dX4_about_154 (by decide) t_X4_about_161 (s_iconst dX4_about_157 (by decide) (s_goto dX4_about_158 (by decide) t_X4_about_162)))))) t_X4_about_161))))))
def k_X4_about_134 (l : Launch) (X : Nat → aw_Kt) (d : Nat) (Q : Option Value → aw_H → Prop) : aw_Kt := o_ic 0 (o_is 3 (SW l m_X4_about none X d 0 0 Q 136))
theorem t_X4_about_134 {l : Launch} {X : Nat → aw_Kt} {d : Nat} {Q : Option Value → aw_H → Prop} : aw_Sn l m_X4_about none X d 0 0 Q 134 (k_X4_about_134 l X d Q) := by
  unfold k_X4_about_134
  exact s_iconst dX4_about_134 (by decide) (s_istore_n dX4_about_135 rfl (by decide) s_stop)
def k_X4_about_126 (l : Launch) (X : Nat → aw_Kt) (d : Nat) (Q : Option Value → aw_H → Prop) : aw_Kt := o_ib (fun x y => x + y) (o_is 2 (o_ii 3 1 (SW l m_X4_about none X d 0 0 Q 52)))
theorem t_X4_about_126 {l : Launch} {X : Nat → aw_Kt} {d : Nat} {Q : Option Value → aw_H → Prop} : aw_Sn l m_X4_about none X d 0 0 Q 126 (k_X4_about_126 l X d Q) := by
  unfold k_X4_about_126
  exact s_iadd dX4_about_126 (s_istore_n dX4_about_127 rfl (by decide) (s_iinc dX4_about_128 (by decide) (by decide) (s_goto dX4_about_131 (by decide) s_stop)))
def k_X4_about_125 (l : Launch) (X : Nat → aw_Kt) (d : Nat) (Q : Option Value → aw_H → Prop) : aw_Kt := o_ic 0 (k_X4_about_126 l X d Q)
theorem t_X4_about_125 {l : Launch} {X : Nat → aw_Kt} {d : Nat} {Q : Option Value → aw_H → Prop} : aw_Sn l m_X4_about none X d 0 0 Q 125 (k_X4_about_125 l X d Q) := by
  unfold k_X4_about_125
  exact s_iconst dX4_about_125 (by decide) t_X4_about_126
def k_X4_about_121 (l : Launch) (X : Nat → aw_Kt) (d : Nat) (Q : Option Value → aw_H → Prop) : aw_Kt := o_ic 1 (k_X4_about_126 l X d Q)
theorem t_X4_about_121 {l : Launch} {X : Nat → aw_Kt} {d : Nat} {Q : Option Value → aw_H → Prop} : aw_Sn l m_X4_about none X d 0 0 Q 121 (k_X4_about_121 l X d Q) := by
  unfold k_X4_about_121
  exact s_iconst dX4_about_121 (by decide) (s_goto dX4_about_122 (by decide) t_X4_about_126)
def k_X4_about_107 (l : Launch) (X : Nat → aw_Kt) (d : Nat) (Q : Option Value → aw_H → Prop) : aw_Kt := o_il 1 (o_ic 7 (o_i3 (fun x y => x = y) (o_al 0 (o_il 3 (o_cv l d m_X4_isUnlike 4 1 (o_if (fun x => x = 0) (k_X4_about_125 l X d Q) (k_X4_about_121 l X d Q))))) (k_X4_about_125 l X d Q)))
theorem t_X4_about_107 {l : Launch} {X : Nat → aw_Kt} {d : Nat} {Q : Option Value → aw_H → Prop} : aw_Sn l m_X4_about none X d 0 0 Q 107 (k_X4_about_107 l X d Q) := by
  unfold k_X4_about_107
  exact s_iload_n dX4_about_107 rfl (s_bipush dX4_about_108 (by decide) (s_icmp_ne dX4_about_110 (by decide) (s_aload_n dX4_about_113 rfl (s_iload_n dX4_about_114 rfl (s_cv dX4_about_115 rfl (by decide) w_129 wi_X4_isUnlike ws_X4_isUnlike w_96 wc_X4_isUnlike wd_X4_isUnlike (s_if_eq dX4_about_118 (by decide) t_X4_about_125 t_X4_about_121)))) t_X4_about_125))
def k_X4_about_92 (l : Launch) (X : Nat → aw_Kt) (d : Nat) (Q : Option Value → aw_H → Prop) : aw_Kt := o_il 1 (o_ic 4 (o_i3 (fun x y => x = y) (o_al 0 (o_gf 4 4 (o_il 3 (o_ia 0 (o_ic (-1) (o_i3 (fun x y => x = y) (k_X4_about_107 l X d Q) (k_X4_about_121 l X d Q))))))) (k_X4_about_107 l X d Q)))
theorem t_X4_about_92 {l : Launch} {X : Nat → aw_Kt} {d : Nat} {Q : Option Value → aw_H → Prop} : aw_Sn l m_X4_about none X d 0 0 Q 92 (k_X4_about_92 l X d Q) := by
  unfold k_X4_about_92
  exact s_iload_n dX4_about_92 rfl (s_iconst dX4_about_93 (by decide) (s_icmp_ne dX4_about_94 (by decide) (s_aload_n dX4_about_97 rfl (s_getf dX4_about_98 rfl u_X4 (by decide) w_99 (s_iload_n dX4_about_101 rfl (s_iaload dX4_about_102 (s_iconst dX4_about_103 (by decide) (s_icmp_ne dX4_about_104 (by decide) t_X4_about_107 t_X4_about_121)))))) t_X4_about_107))
def k_X4_about_75 (l : Launch) (X : Nat → aw_Kt) (d : Nat) (Q : Option Value → aw_H → Prop) : aw_Kt := o_ib (fun x y => x + y) (o_is 2 (o_il 2 (o_il 1 (o_ic 3 (o_i3 (fun x y => x = y) (o_al 0 (o_il 3 (o_cv l d m_X4_decidedOf 4 1 (o_ic (-1) (o_i3 (fun x y => x = y) (k_X4_about_92 l X d Q) (k_X4_about_121 l X d Q)))))) (k_X4_about_92 l X d Q))))))
theorem t_X4_about_75 {l : Launch} {X : Nat → aw_Kt} {d : Nat} {Q : Option Value → aw_H → Prop} : aw_Sn l m_X4_about none X d 0 0 Q 75 (k_X4_about_75 l X d Q) := by
  unfold k_X4_about_75
  exact s_iadd dX4_about_75 (s_istore_n dX4_about_76 rfl (by decide) (s_iload_n dX4_about_77 rfl (s_iload_n dX4_about_78 rfl (s_iconst dX4_about_79 (by decide) (s_icmp_ne dX4_about_80 (by decide) (s_aload_n dX4_about_83 rfl (s_iload_n dX4_about_84 rfl (s_cv dX4_about_85 rfl (by decide) w_122 wi_X4_decidedOf ws_X4_decidedOf w_96 wc_X4_decidedOf wd_X4_decidedOf (s_iconst dX4_about_88 (by decide) (s_icmp_ne dX4_about_89 (by decide) t_X4_about_92 t_X4_about_121))))) t_X4_about_92)))))
def k_X4_about_74 (l : Launch) (X : Nat → aw_Kt) (d : Nat) (Q : Option Value → aw_H → Prop) : aw_Kt := o_ic 0 (k_X4_about_75 l X d Q)
theorem t_X4_about_74 {l : Launch} {X : Nat → aw_Kt} {d : Nat} {Q : Option Value → aw_H → Prop} : aw_Sn l m_X4_about none X d 0 0 Q 74 (k_X4_about_74 l X d Q) := by
  unfold k_X4_about_74
  exact s_iconst dX4_about_74 (by decide) t_X4_about_75
def k_X4_about_52 (l : Launch) (X : Nat → aw_Kt) (d : Nat) (Q : Option Value → aw_H → Prop) : aw_Kt := o_il 3 (o_al 0 (o_gf 4 1 (o_i3 (fun x y => y ≤ x) (k_X4_about_134 l X d Q) (o_il 2 (o_il 1 (o_ic 1 (o_i3 (fun x y => x = y) (o_al 0 (o_il 3 (o_cv l d m_X4_labellings 4 1 (k_X4_about_75 l X d Q)))) (k_X4_about_74 l X d Q))))))))
theorem t_X4_about_52 {l : Launch} {X : Nat → aw_Kt} {d : Nat} {Q : Option Value → aw_H → Prop} : aw_Sn l m_X4_about none X d 0 0 Q 52 (k_X4_about_52 l X d Q) := by
  unfold k_X4_about_52
  exact s_iload_n dX4_about_52 rfl (s_aload_n dX4_about_53 rfl (s_getf dX4_about_54 rfl u_X4 (by decide) w_95 (s_icmp_ge dX4_about_57 (by decide) t_X4_about_134 (s_iload_n dX4_about_60 rfl (s_iload_n dX4_about_61 rfl (s_iconst dX4_about_62 (by decide) (s_icmp_ne dX4_about_63 (by decide) (s_aload_n dX4_about_66 rfl (s_iload_n dX4_about_67 rfl (s_cv dX4_about_68 rfl (by decide) w_128 wi_X4_labellings ws_X4_labellings w_96 wc_X4_labellings wd_X4_labellings (s_goto dX4_about_71 (by decide) t_X4_about_75)))) t_X4_about_74)))))))
def k_X4_about_49 (l : Launch) (X : Nat → aw_Kt) (d : Nat) (Q : Option Value → aw_H → Prop) : aw_Kt := o_is 2 (o_ic 0 (o_is 3 (SW l m_X4_about none X d 0 0 Q 52)))
theorem t_X4_about_49 {l : Launch} {X : Nat → aw_Kt} {d : Nat} {Q : Option Value → aw_H → Prop} : aw_Sn l m_X4_about none X d 0 0 Q 49 (k_X4_about_49 l X d Q) := by
  unfold k_X4_about_49
  exact s_istore_n dX4_about_49 rfl (by decide) (s_iconst dX4_about_50 (by decide) (s_istore_n dX4_about_51 rfl (by decide) s_stop))
def k_X4_about_48 (l : Launch) (X : Nat → aw_Kt) (d : Nat) (Q : Option Value → aw_H → Prop) : aw_Kt := o_ic 0 (k_X4_about_49 l X d Q)
theorem t_X4_about_48 {l : Launch} {X : Nat → aw_Kt} {d : Nat} {Q : Option Value → aw_H → Prop} : aw_Sn l m_X4_about none X d 0 0 Q 48 (k_X4_about_48 l X d Q) := by
  unfold k_X4_about_48
  exact s_iconst dX4_about_48 (by decide) t_X4_about_49
def k_X4_about_36 (l : Launch) (X : Nat → aw_Kt) (d : Nat) (Q : Option Value → aw_H → Prop) : aw_Kt := o_il 1 (o_ic 5 (o_i3 (fun x y => x = y) (o_al 0 (o_gf 4 5 (k_X4_about_49 l X d Q))) (k_X4_about_48 l X d Q)))
theorem t_X4_about_36 {l : Launch} {X : Nat → aw_Kt} {d : Nat} {Q : Option Value → aw_H → Prop} : aw_Sn l m_X4_about none X d 0 0 Q 36 (k_X4_about_36 l X d Q) := by
  unfold k_X4_about_36
  exact s_iload_n dX4_about_36 rfl (s_iconst dX4_about_37 (by decide) (s_icmp_ne dX4_about_38 (by decide) (s_aload_n dX4_about_41 rfl (s_getf dX4_about_42 rfl u_X4 (by decide) w_103 (s_goto dX4_about_45 (by decide) t_X4_about_49))) t_X4_about_48))
def k_X4_about_24 (l : Launch) (X : Nat → aw_Kt) (d : Nat) (Q : Option Value → aw_H → Prop) : aw_Kt := o_il 1 (o_ic 2 (o_i3 (fun x y => x = y) (o_al 0 (o_gf 4 9 (k_X4_about_49 l X d Q))) (k_X4_about_36 l X d Q)))
theorem t_X4_about_24 {l : Launch} {X : Nat → aw_Kt} {d : Nat} {Q : Option Value → aw_H → Prop} : aw_Sn l m_X4_about none X d 0 0 Q 24 (k_X4_about_24 l X d Q) := by
  unfold k_X4_about_24
  exact s_iload_n dX4_about_24 rfl (s_iconst dX4_about_25 (by decide) (s_icmp_ne dX4_about_26 (by decide) (s_aload_n dX4_about_29 rfl (s_getf dX4_about_30 rfl u_X4 (by decide) w_110 (s_goto dX4_about_33 (by decide) t_X4_about_49))) t_X4_about_36))
def k_X4_about_13 (l : Launch) (X : Nat → aw_Kt) (d : Nat) (Q : Option Value → aw_H → Prop) : aw_Kt := o_il 1 (o_if (fun x => x = 0) (o_al 0 (o_gf 4 1 (k_X4_about_49 l X d Q))) (k_X4_about_24 l X d Q))
theorem t_X4_about_13 {l : Launch} {X : Nat → aw_Kt} {d : Nat} {Q : Option Value → aw_H → Prop} : aw_Sn l m_X4_about none X d 0 0 Q 13 (k_X4_about_13 l X d Q) := by
  unfold k_X4_about_13
  exact s_iload_n dX4_about_13 rfl (s_if_ne dX4_about_14 (by decide) (s_aload_n dX4_about_17 rfl (s_getf dX4_about_18 rfl u_X4 (by decide) w_95 (s_goto dX4_about_21 (by decide) t_X4_about_49))) t_X4_about_24)
def k_X4_about_0 (l : Launch) (X : Nat → aw_Kt) (d : Nat) (Q : Option Value → aw_H → Prop) : aw_Kt := o_il 1 (o_ic 0 (o_ic 7 (o_cs l d m_X4_in 3 (o_if (fun x => x = 0) (o_ic (-102) (o_ri Q)) (k_X4_about_13 l X d Q)))))
theorem t_X4_about_0 {l : Launch} {X : Nat → aw_Kt} {d : Nat} {Q : Option Value → aw_H → Prop} : aw_Sn l m_X4_about none X d 0 0 Q 0 (k_X4_about_0 l X d Q) := by
  unfold k_X4_about_0
  exact s_iload_n dX4_about_0 rfl (s_iconst dX4_about_1 (by decide) (s_bipush dX4_about_2 (by decide) (s_cs dX4_about_4 (by decide) w_97 wt_X4_in w_96 wc_X4_in wd_X4_in (s_if_ne dX4_about_7 (by decide) (s_bipush dX4_about_10 (by decide) (s_iret dX4_about_12 rfl)) t_X4_about_13))))
end
section
/-! L_law -/
def k_L_law_948 (l : Launch) (xl : Option (Nat × (Nat → Int32))) (X : Nat → aw_Kt) (d kc ks : Nat) (Q : Option Value → aw_H → Prop) : aw_Kt := o_ic 1 (o_rz Q)
theorem t_L_law_948 {l : Launch} {xl : Option (Nat × (Nat → Int32))} {X : Nat → aw_Kt} {d kc ks : Nat} {Q : Option Value → aw_H → Prop} : aw_Sn l m_L_law xl X d kc ks Q 948 (k_L_law_948 l xl X d kc ks Q) := by
  unfold k_L_law_948
  exact s_iconst dL_law_948 (by decide) (s_zret dL_law_949 rfl)
def k_L_law_942 (l : Launch) (xl : Option (Nat × (Nat → Int32))) (X : Nat → aw_Kt) (d kc ks : Nat) (Q : Option Value → aw_H → Prop) : aw_Kt := o_ii 4 5 (SW l m_L_law xl X d kc ks Q 23)
theorem t_L_law_942 {l : Launch} {xl : Option (Nat × (Nat → Int32))} {X : Nat → aw_Kt} {d kc ks : Nat} {Q : Option Value → aw_H → Prop} : aw_Sn l m_L_law xl X d kc ks Q 942 (k_L_law_942 l xl X d kc ks Q) := by
  unfold k_L_law_942
  exact s_iinc dL_law_942 (by decide) (by decide) (s_goto dL_law_945 (by decide) s_stop)
def k_L_law_917 (l : Launch) (xl : Option (Nat × (Nat → Int32))) (X : Nat → aw_Kt) (d kc ks : Nat) (Q : Option Value → aw_H → Prop) : aw_Kt := o_al 1 (o_al 0 (o_il 4 (o_ic 1 (o_ib (fun x y => x + y) (o_sa xl (o_cv l d m_X3_about 3 1 (o_al 2 (o_al 0 (o_il 4 (o_ic 1 (o_ib (fun x y => x + y) (o_sa xl (o_cv l d m_X4_about 4 1 (o_i3 (fun x y => x = y) (k_L_law_942 l xl X d kc ks Q) (o_ic 0 (o_rz Q))))))))))))))))
theorem t_L_law_917 {l : Launch} {xl : Option (Nat × (Nat → Int32))} {X : Nat → aw_Kt} {d kc ks : Nat} {Q : Option Value → aw_H → Prop} : aw_Sn l m_L_law xl X d kc ks Q 917 (k_L_law_917 l xl X d kc ks Q) := by
  unfold k_L_law_917
  exact s_aload_n dL_law_917 rfl (s_aload_n dL_law_918 rfl (s_iload dL_law_919 (s_iconst dL_law_921 (by decide) (s_iadd dL_law_922 (s_sld dL_law_923 (s_cv dL_law_924 rfl (by decide) w_131 wi_X3_about ws_X3_about w_10 wc_X3_about wd_X3_about (s_aload_n dL_law_927 rfl (s_aload_n dL_law_928 rfl (s_iload dL_law_929 (s_iconst dL_law_931 (by decide) (s_iadd dL_law_932 (s_sld dL_law_933 (s_cv dL_law_934 rfl (by decide) w_130 wi_X4_about ws_X4_about w_96 wc_X4_about wd_X4_about (s_icmp_eq dL_law_937 (by decide) t_L_law_942 (s_iconst dL_law_940 (by decide) (s_zret dL_law_941 rfl))))))))))))))))
def k_L_law_892 (l : Launch) (xl : Option (Nat × (Nat → Int32))) (X : Nat → aw_Kt) (d kc ks : Nat) (Q : Option Value → aw_H → Prop) : aw_Kt := o_al 1 (o_al 0 (o_il 4 (o_ic 1 (o_ib (fun x y => x + y) (o_sa xl (o_cv l d m_X3_next 3 1 (o_al 2 (o_al 0 (o_il 4 (o_ic 1 (o_ib (fun x y => x + y) (o_sa xl (o_cv l d m_X4_next 4 1 (o_i3 (fun x y => x = y) (k_L_law_942 l xl X d kc ks Q) (o_ic 0 (o_rz Q))))))))))))))))
theorem t_L_law_892 {l : Launch} {xl : Option (Nat × (Nat → Int32))} {X : Nat → aw_Kt} {d kc ks : Nat} {Q : Option Value → aw_H → Prop} : aw_Sn l m_L_law xl X d kc ks Q 892 (k_L_law_892 l xl X d kc ks Q) := by
  unfold k_L_law_892
  exact s_aload_n dL_law_892 rfl (s_aload_n dL_law_893 rfl (s_iload dL_law_894 (s_iconst dL_law_896 (by decide) (s_iadd dL_law_897 (s_sld dL_law_898 (s_cv dL_law_899 rfl (by decide) w_133 wi_X3_next ws_X3_next w_10 wc_X3_next wd_X3_next (s_aload_n dL_law_902 rfl (s_aload_n dL_law_903 rfl (s_iload dL_law_904 (s_iconst dL_law_906 (by decide) (s_iadd dL_law_907 (s_sld dL_law_908 (s_cv dL_law_909 rfl (by decide) w_132 wi_X4_next ws_X4_next w_96 wc_X4_next wd_X4_next (s_icmp_eq dL_law_912 (by decide) t_L_law_942 (s_iconst dL_law_915 (by decide) (s_zret dL_law_916 rfl))))))))))))))))
def k_L_law_889 (l : Launch) (xl : Option (Nat × (Nat → Int32))) (X : Nat → aw_Kt) (d kc ks : Nat) (Q : Option Value → aw_H → Prop) : aw_Kt := (k_L_law_942 l xl X d kc ks Q)
theorem t_L_law_889 {l : Launch} {xl : Option (Nat × (Nat → Int32))} {X : Nat → aw_Kt} {d kc ks : Nat} {Q : Option Value → aw_H → Prop} : aw_Sn l m_L_law xl X d kc ks Q 889 (k_L_law_889 l xl X d kc ks Q) := by
  unfold k_L_law_889
  exact s_goto dL_law_889 (by decide) t_L_law_942
def k_L_law_873 (l : Launch) (xl : Option (Nat × (Nat → Int32))) (X : Nat → aw_Kt) (d kc ks : Nat) (Q : Option Value → aw_H → Prop) : aw_Kt := o_il 5 (o_if (fun x => x = 0) (o_al 3 (o_ic 0 (o_ja (o_ll 6 (o_cm (o_if (fun x => x = 0) (k_L_law_889 l xl X d kc ks Q) (o_ic 0 (o_rz Q)))))))) (k_L_law_889 l xl X d kc ks Q))
theorem t_L_law_873 {l : Launch} {xl : Option (Nat × (Nat → Int32))} {X : Nat → aw_Kt} {d kc ks : Nat} {Q : Option Value → aw_H → Prop} : aw_Sn l m_L_law xl X d kc ks Q 873 (k_L_law_873 l xl X d kc ks Q) := by
  unfold k_L_law_873
  exact s_iload dL_law_873 (s_if_ne dL_law_875 (by decide) (s_aload_n dL_law_878 rfl (s_iconst dL_law_879 (by decide) (s_laload dL_law_880 (s_lload dL_law_881 (s_lcmp dL_law_883 (s_if_eq dL_law_884 (by decide) t_L_law_889 (s_iconst dL_law_887 (by decide) (s_zret dL_law_888 rfl)))))))) t_L_law_889)
def k_L_law_837 (l : Launch) (xl : Option (Nat × (Nat → Int32))) (X : Nat → aw_Kt) (d kc ks : Nat) (Q : Option Value → aw_H → Prop) : aw_Kt := o_al 1 (o_al 0 (o_il 4 (o_ic 1 (o_ib (fun x y => x + y) (o_sa xl (o_al 3 (SW l m_L_law xl X d kc ks Q 845)))))))
theorem t_L_law_837 {l : Launch} {xl : Option (Nat × (Nat → Int32))} {X : Nat → aw_Kt} {d kc ks : Nat} {Q : Option Value → aw_H → Prop} : aw_Sn l m_L_law xl X d kc ks Q 837 (k_L_law_837 l xl X d kc ks Q) := by
  unfold k_L_law_837
  exact s_aload_n dL_law_837 rfl (s_aload_n dL_law_838 rfl (s_iload dL_law_839 (s_iconst dL_law_841 (by decide) (s_iadd dL_law_842 (s_sld dL_law_843 (s_aload_n dL_law_844 rfl s_stop))))))
def k_L_law_834 (l : Launch) (xl : Option (Nat × (Nat → Int32))) (X : Nat → aw_Kt) (d kc ks : Nat) (Q : Option Value → aw_H → Prop) : aw_Kt := (k_L_law_942 l xl X d kc ks Q)
theorem t_L_law_834 {l : Launch} {xl : Option (Nat × (Nat → Int32))} {X : Nat → aw_Kt} {d kc ks : Nat} {Q : Option Value → aw_H → Prop} : aw_Sn l m_L_law xl X d kc ks Q 834 (k_L_law_834 l xl X d kc ks Q) := by
  unfold k_L_law_834
  exact s_goto dL_law_834 (by decide) t_L_law_942
def k_L_law_818 (l : Launch) (xl : Option (Nat × (Nat → Int32))) (X : Nat → aw_Kt) (d kc ks : Nat) (Q : Option Value → aw_H → Prop) : aw_Kt := o_il 5 (o_if (fun x => x = 0) (o_al 3 (o_ic 0 (o_ja (o_ll 6 (o_cm (o_if (fun x => x = 0) (k_L_law_834 l xl X d kc ks Q) (o_ic 0 (o_rz Q)))))))) (k_L_law_834 l xl X d kc ks Q))
theorem t_L_law_818 {l : Launch} {xl : Option (Nat × (Nat → Int32))} {X : Nat → aw_Kt} {d kc ks : Nat} {Q : Option Value → aw_H → Prop} : aw_Sn l m_L_law xl X d kc ks Q 818 (k_L_law_818 l xl X d kc ks Q) := by
  unfold k_L_law_818
  exact s_iload dL_law_818 (s_if_ne dL_law_820 (by decide) (s_aload_n dL_law_823 rfl (s_iconst dL_law_824 (by decide) (s_laload dL_law_825 (s_lload dL_law_826 (s_lcmp dL_law_828 (s_if_eq dL_law_829 (by decide) t_L_law_834 (s_iconst dL_law_832 (by decide) (s_zret dL_law_833 rfl)))))))) t_L_law_834)
def k_L_law_758 (l : Launch) (xl : Option (Nat × (Nat → Int32))) (X : Nat → aw_Kt) (d kc ks : Nat) (Q : Option Value → aw_H → Prop) : aw_Kt := o_al 1 (o_al 0 (o_il 4 (o_ic 1 (o_ib (fun x y => x + y) (o_sa xl (o_al 0 (o_il 4 (o_ic 2 (o_ib (fun x y => x + y) (o_sa xl (o_al 0 (o_il 4 (o_ic 3 (o_ib (fun x y => x + y) (o_sa xl (o_al 3 (SW l m_L_law xl X d kc ks Q 778)))))))))))))))))
theorem t_L_law_758 {l : Launch} {xl : Option (Nat × (Nat → Int32))} {X : Nat → aw_Kt} {d kc ks : Nat} {Q : Option Value → aw_H → Prop} : aw_Sn l m_L_law xl X d kc ks Q 758 (k_L_law_758 l xl X d kc ks Q) := by
  unfold k_L_law_758
  exact s_aload_n dL_law_758 rfl (s_aload_n dL_law_759 rfl (s_iload dL_law_760 (s_iconst dL_law_762 (by decide) (s_iadd dL_law_763 (s_sld dL_law_764 (s_aload_n dL_law_765 rfl (s_iload dL_law_766 (s_iconst dL_law_768 (by decide) (s_iadd dL_law_769 (s_sld dL_law_770 (s_aload_n dL_law_771 rfl (s_iload dL_law_772 (s_iconst dL_law_774 (by decide) (s_iadd dL_law_775 (s_sld dL_law_776 (s_aload_n dL_law_777 rfl s_stop))))))))))))))))
def k_L_law_733 (l : Launch) (xl : Option (Nat × (Nat → Int32))) (X : Nat → aw_Kt) (d kc ks : Nat) (Q : Option Value → aw_H → Prop) : aw_Kt := o_al 1 (o_al 0 (o_il 4 (o_ic 1 (o_ib (fun x y => x + y) (o_sa xl (o_cv l d m_X3_learn 3 1 (o_al 2 (o_al 0 (o_il 4 (o_ic 1 (o_ib (fun x y => x + y) (o_sa xl (o_cv l d m_X4_learn 4 1 (o_i3 (fun x y => x = y) (k_L_law_942 l xl X d kc ks Q) (o_ic 0 (o_rz Q))))))))))))))))
theorem t_L_law_733 {l : Launch} {xl : Option (Nat × (Nat → Int32))} {X : Nat → aw_Kt} {d kc ks : Nat} {Q : Option Value → aw_H → Prop} : aw_Sn l m_L_law xl X d kc ks Q 733 (k_L_law_733 l xl X d kc ks Q) := by
  unfold k_L_law_733
  exact s_aload_n dL_law_733 rfl (s_aload_n dL_law_734 rfl (s_iload dL_law_735 (s_iconst dL_law_737 (by decide) (s_iadd dL_law_738 (s_sld dL_law_739 (s_cv dL_law_740 rfl (by decide) w_135 wi_X3_learn ws_X3_learn w_10 wc_X3_learn wd_X3_learn (s_aload_n dL_law_743 rfl (s_aload_n dL_law_744 rfl (s_iload dL_law_745 (s_iconst dL_law_747 (by decide) (s_iadd dL_law_748 (s_sld dL_law_749 (s_cv dL_law_750 rfl (by decide) w_134 wi_X4_learn ws_X4_learn w_96 wc_X4_learn wd_X4_learn (s_icmp_eq dL_law_753 (by decide) t_L_law_942 (s_iconst dL_law_756 (by decide) (s_zret dL_law_757 rfl))))))))))))))))
def k_L_law_708 (l : Launch) (xl : Option (Nat × (Nat → Int32))) (X : Nat → aw_Kt) (d kc ks : Nat) (Q : Option Value → aw_H → Prop) : aw_Kt := o_al 1 (o_al 0 (o_il 4 (o_ic 1 (o_ib (fun x y => x + y) (o_sa xl (o_cv l d m_X3_decided 3 1 (o_al 2 (o_al 0 (o_il 4 (o_ic 1 (o_ib (fun x y => x + y) (o_sa xl (o_cv l d m_X4_decided 4 1 (o_i3 (fun x y => x = y) (k_L_law_942 l xl X d kc ks Q) (o_ic 0 (o_rz Q))))))))))))))))
theorem t_L_law_708 {l : Launch} {xl : Option (Nat × (Nat → Int32))} {X : Nat → aw_Kt} {d kc ks : Nat} {Q : Option Value → aw_H → Prop} : aw_Sn l m_L_law xl X d kc ks Q 708 (k_L_law_708 l xl X d kc ks Q) := by
  unfold k_L_law_708
  exact s_aload_n dL_law_708 rfl (s_aload_n dL_law_709 rfl (s_iload dL_law_710 (s_iconst dL_law_712 (by decide) (s_iadd dL_law_713 (s_sld dL_law_714 (s_cv dL_law_715 rfl (by decide) w_137 wi_X3_decided ws_X3_decided w_10 wc_X3_decided wd_X3_decided (s_aload_n dL_law_718 rfl (s_aload_n dL_law_719 rfl (s_iload dL_law_720 (s_iconst dL_law_722 (by decide) (s_iadd dL_law_723 (s_sld dL_law_724 (s_cv dL_law_725 rfl (by decide) w_136 wi_X4_decided ws_X4_decided w_96 wc_X4_decided wd_X4_decided (s_icmp_eq dL_law_728 (by decide) t_L_law_942 (s_iconst dL_law_731 (by decide) (s_zret dL_law_732 rfl))))))))))))))))
def k_L_law_671 (l : Launch) (xl : Option (Nat × (Nat → Int32))) (X : Nat → aw_Kt) (d kc ks : Nat) (Q : Option Value → aw_H → Prop) : aw_Kt := o_al 1 (o_al 0 (o_il 4 (o_ic 1 (o_ib (fun x y => x + y) (o_sa xl (o_al 0 (o_il 4 (o_ic 2 (o_ib (fun x y => x + y) (o_sa xl (o_cv l d m_X3_votes 3 2 (o_al 2 (o_al 0 (o_il 4 (o_ic 1 (o_ib (fun x y => x + y) (o_sa xl (o_al 0 (o_il 4 (o_ic 2 (o_ib (fun x y => x + y) (o_sa xl (o_cv l d m_X4_votes 4 2 (o_i3 (fun x y => x = y) (k_L_law_942 l xl X d kc ks Q) (o_ic 0 (o_rz Q))))))))))))))))))))))))))
theorem t_L_law_671 {l : Launch} {xl : Option (Nat × (Nat → Int32))} {X : Nat → aw_Kt} {d kc ks : Nat} {Q : Option Value → aw_H → Prop} : aw_Sn l m_L_law xl X d kc ks Q 671 (k_L_law_671 l xl X d kc ks Q) := by
  unfold k_L_law_671
  exact s_aload_n dL_law_671 rfl (s_aload_n dL_law_672 rfl (s_iload dL_law_673 (s_iconst dL_law_675 (by decide) (s_iadd dL_law_676 (s_sld dL_law_677 (s_aload_n dL_law_678 rfl (s_iload dL_law_679 (s_iconst dL_law_681 (by decide) (s_iadd dL_law_682 (s_sld dL_law_683 (s_cv dL_law_684 rfl (by decide) w_139 wi_X3_votes ws_X3_votes w_10 wc_X3_votes wd_X3_votes (s_aload_n dL_law_687 rfl (s_aload_n dL_law_688 rfl (s_iload dL_law_689 (s_iconst dL_law_691 (by decide) (s_iadd dL_law_692 (s_sld dL_law_693 (s_aload_n dL_law_694 rfl (s_iload dL_law_695 (s_iconst dL_law_697 (by decide) (s_iadd dL_law_698 (s_sld dL_law_699 (s_cv dL_law_700 rfl (by decide) w_138 wi_X4_votes ws_X4_votes w_96 wc_X4_votes wd_X4_votes (s_icmp_eq dL_law_703 (by decide) t_L_law_942 (s_iconst dL_law_706 (by decide) (s_zret dL_law_707 rfl))))))))))))))))))))))))))
def k_L_law_646 (l : Launch) (xl : Option (Nat × (Nat → Int32))) (X : Nat → aw_Kt) (d kc ks : Nat) (Q : Option Value → aw_H → Prop) : aw_Kt := o_al 1 (o_al 0 (o_il 4 (o_ic 1 (o_ib (fun x y => x + y) (o_sa xl (o_cv l d m_X3_abstains 3 1 (o_al 2 (o_al 0 (o_il 4 (o_ic 1 (o_ib (fun x y => x + y) (o_sa xl (o_cv l d m_X4_abstains 4 1 (o_i3 (fun x y => x = y) (k_L_law_942 l xl X d kc ks Q) (o_ic 0 (o_rz Q))))))))))))))))
theorem t_L_law_646 {l : Launch} {xl : Option (Nat × (Nat → Int32))} {X : Nat → aw_Kt} {d kc ks : Nat} {Q : Option Value → aw_H → Prop} : aw_Sn l m_L_law xl X d kc ks Q 646 (k_L_law_646 l xl X d kc ks Q) := by
  unfold k_L_law_646
  exact s_aload_n dL_law_646 rfl (s_aload_n dL_law_647 rfl (s_iload dL_law_648 (s_iconst dL_law_650 (by decide) (s_iadd dL_law_651 (s_sld dL_law_652 (s_cv dL_law_653 rfl (by decide) w_141 wi_X3_abstains ws_X3_abstains w_10 wc_X3_abstains wd_X3_abstains (s_aload_n dL_law_656 rfl (s_aload_n dL_law_657 rfl (s_iload dL_law_658 (s_iconst dL_law_660 (by decide) (s_iadd dL_law_661 (s_sld dL_law_662 (s_cv dL_law_663 rfl (by decide) w_140 wi_X4_abstains ws_X4_abstains w_96 wc_X4_abstains wd_X4_abstains (s_icmp_eq dL_law_666 (by decide) t_L_law_942 (s_iconst dL_law_669 (by decide) (s_zret dL_law_670 rfl))))))))))))))))
def k_L_law_643 (l : Launch) (xl : Option (Nat × (Nat → Int32))) (X : Nat → aw_Kt) (d kc ks : Nat) (Q : Option Value → aw_H → Prop) : aw_Kt := (k_L_law_942 l xl X d kc ks Q)
theorem t_L_law_643 {l : Launch} {xl : Option (Nat × (Nat → Int32))} {X : Nat → aw_Kt} {d kc ks : Nat} {Q : Option Value → aw_H → Prop} : aw_Sn l m_L_law xl X d kc ks Q 643 (k_L_law_643 l xl X d kc ks Q) := by
  unfold k_L_law_643
  exact s_goto dL_law_643 (by decide) t_L_law_942
def k_L_law_626 (l : Launch) (xl : Option (Nat × (Nat → Int32))) (X : Nat → aw_Kt) (d kc ks : Nat) (Q : Option Value → aw_H → Prop) : aw_Kt := o_il 5 (o_if (fun x => x = 0) (o_al 3 (o_ic 0 (o_ja (o_il 6 (o_i2 (o_cm (o_if (fun x => x = 0) (k_L_law_643 l xl X d kc ks Q) (o_ic 0 (o_rz Q))))))))) (k_L_law_643 l xl X d kc ks Q))
theorem t_L_law_626 {l : Launch} {xl : Option (Nat × (Nat → Int32))} {X : Nat → aw_Kt} {d kc ks : Nat} {Q : Option Value → aw_H → Prop} : aw_Sn l m_L_law xl X d kc ks Q 626 (k_L_law_626 l xl X d kc ks Q) := by
  unfold k_L_law_626
  exact s_iload dL_law_626 (s_if_ne dL_law_628 (by decide) (s_aload_n dL_law_631 rfl (s_iconst dL_law_632 (by decide) (s_laload dL_law_633 (s_iload dL_law_634 (s_i2l dL_law_636 (s_lcmp dL_law_637 (s_if_eq dL_law_638 (by decide) t_L_law_643 (s_iconst dL_law_641 (by decide) (s_zret dL_law_642 rfl))))))))) t_L_law_643)
def k_L_law_578 (l : Launch) (xl : Option (Nat × (Nat → Int32))) (X : Nat → aw_Kt) (d kc ks : Nat) (Q : Option Value → aw_H → Prop) : aw_Kt := o_al 1 (o_al 0 (o_il 4 (o_ic 1 (o_ib (fun x y => x + y) (o_sa xl (o_al 0 (o_il 4 (o_ic 2 (o_ib (fun x y => x + y) (o_sa xl (o_al 3 (SW l m_L_law xl X d kc ks Q 592))))))))))))
theorem t_L_law_578 {l : Launch} {xl : Option (Nat × (Nat → Int32))} {X : Nat → aw_Kt} {d kc ks : Nat} {Q : Option Value → aw_H → Prop} : aw_Sn l m_L_law xl X d kc ks Q 578 (k_L_law_578 l xl X d kc ks Q) := by
  unfold k_L_law_578
  exact s_aload_n dL_law_578 rfl (s_aload_n dL_law_579 rfl (s_iload dL_law_580 (s_iconst dL_law_582 (by decide) (s_iadd dL_law_583 (s_sld dL_law_584 (s_aload_n dL_law_585 rfl (s_iload dL_law_586 (s_iconst dL_law_588 (by decide) (s_iadd dL_law_589 (s_sld dL_law_590 (s_aload_n dL_law_591 rfl s_stop)))))))))))
def k_L_law_541 (l : Launch) (xl : Option (Nat × (Nat → Int32))) (X : Nat → aw_Kt) (d kc ks : Nat) (Q : Option Value → aw_H → Prop) : aw_Kt := o_al 1 (o_al 0 (o_il 4 (o_ic 1 (o_ib (fun x y => x + y) (o_sa xl (o_al 0 (o_il 4 (o_ic 2 (o_ib (fun x y => x + y) (o_sa xl (o_cv l d m_X3_table 3 2 (o_al 2 (o_al 0 (o_il 4 (o_ic 1 (o_ib (fun x y => x + y) (o_sa xl (o_al 0 (o_il 4 (o_ic 2 (o_ib (fun x y => x + y) (o_sa xl (o_cv l d m_X4_table 4 2 (o_i3 (fun x y => x = y) (k_L_law_942 l xl X d kc ks Q) (o_ic 0 (o_rz Q))))))))))))))))))))))))))
theorem t_L_law_541 {l : Launch} {xl : Option (Nat × (Nat → Int32))} {X : Nat → aw_Kt} {d kc ks : Nat} {Q : Option Value → aw_H → Prop} : aw_Sn l m_L_law xl X d kc ks Q 541 (k_L_law_541 l xl X d kc ks Q) := by
  unfold k_L_law_541
  exact s_aload_n dL_law_541 rfl (s_aload_n dL_law_542 rfl (s_iload dL_law_543 (s_iconst dL_law_545 (by decide) (s_iadd dL_law_546 (s_sld dL_law_547 (s_aload_n dL_law_548 rfl (s_iload dL_law_549 (s_iconst dL_law_551 (by decide) (s_iadd dL_law_552 (s_sld dL_law_553 (s_cv dL_law_554 rfl (by decide) w_143 wi_X3_table ws_X3_table w_10 wc_X3_table wd_X3_table (s_aload_n dL_law_557 rfl (s_aload_n dL_law_558 rfl (s_iload dL_law_559 (s_iconst dL_law_561 (by decide) (s_iadd dL_law_562 (s_sld dL_law_563 (s_aload_n dL_law_564 rfl (s_iload dL_law_565 (s_iconst dL_law_567 (by decide) (s_iadd dL_law_568 (s_sld dL_law_569 (s_cv dL_law_570 rfl (by decide) w_142 wi_X4_table ws_X4_table w_96 wc_X4_table wd_X4_table (s_icmp_eq dL_law_573 (by decide) t_L_law_942 (s_iconst dL_law_576 (by decide) (s_zret dL_law_577 rfl))))))))))))))))))))))))))
def k_L_law_533 (l : Launch) (xl : Option (Nat × (Nat → Int32))) (X : Nat → aw_Kt) (d kc ks : Nat) (Q : Option Value → aw_H → Prop) : aw_Kt := o_cv l d m_X4_turn 4 2 (o_i3 (fun x y => x = y) (k_L_law_942 l xl X d kc ks Q) (o_ic 0 (o_rz Q)))
theorem t_L_law_533 {l : Launch} {xl : Option (Nat × (Nat → Int32))} {X : Nat → aw_Kt} {d kc ks : Nat} {Q : Option Value → aw_H → Prop} : aw_Sn l m_L_law xl X d kc ks Q 533 (k_L_law_533 l xl X d kc ks Q) := by
  unfold k_L_law_533
  exact s_cv dL_law_533 rfl (by decide) w_144 wi_X4_turn ws_X4_turn w_96 wc_X4_turn wd_X4_turn (s_icmp_eq dL_law_536 (by decide) t_L_law_942 (s_iconst dL_law_539 (by decide) (s_zret dL_law_540 rfl)))
def k_L_law_532 (l : Launch) (xl : Option (Nat × (Nat → Int32))) (X : Nat → aw_Kt) (d kc ks : Nat) (Q : Option Value → aw_H → Prop) : aw_Kt := o_ic 0 (k_L_law_533 l xl X d kc ks Q)
theorem t_L_law_532 {l : Launch} {xl : Option (Nat × (Nat → Int32))} {X : Nat → aw_Kt} {d kc ks : Nat} {Q : Option Value → aw_H → Prop} : aw_Sn l m_L_law xl X d kc ks Q 532 (k_L_law_532 l xl X d kc ks Q) := by
  unfold k_L_law_532
  exact s_iconst dL_law_532 (by decide) t_L_law_533
def k_L_law_509 (l : Launch) (xl : Option (Nat × (Nat → Int32))) (X : Nat → aw_Kt) (d kc ks : Nat) (Q : Option Value → aw_H → Prop) : aw_Kt := o_cv l d m_X3_turn 3 2 (o_al 2 (o_al 0 (o_il 4 (o_ic 1 (o_ib (fun x y => x + y) (o_sa xl (o_al 0 (o_il 4 (o_ic 2 (o_ib (fun x y => x + y) (o_sa xl (o_if (fun x => x = 0) (k_L_law_532 l xl X d kc ks Q) (o_ic 1 (k_L_law_533 l xl X d kc ks Q))))))))))))))
theorem t_L_law_509 {l : Launch} {xl : Option (Nat × (Nat → Int32))} {X : Nat → aw_Kt} {d kc ks : Nat} {Q : Option Value → aw_H → Prop} : aw_Sn l m_L_law xl X d kc ks Q 509 (k_L_law_509 l xl X d kc ks Q) := by
  unfold k_L_law_509
  exact s_cv dL_law_509 rfl (by decide) w_145 wi_X3_turn ws_X3_turn w_10 wc_X3_turn wd_X3_turn (s_aload_n dL_law_512 rfl (s_aload_n dL_law_513 rfl (s_iload dL_law_514 (s_iconst dL_law_516 (by decide) (s_iadd dL_law_517 (s_sld dL_law_518 (s_aload_n dL_law_519 rfl (s_iload dL_law_520 (s_iconst dL_law_522 (by decide) (s_iadd dL_law_523 (s_sld dL_law_524 (s_if_eq dL_law_525 (by decide) t_L_law_532 (s_iconst dL_law_528 (by decide) (s_goto dL_law_529 (by decide) t_L_law_533))))))))))))))
def k_L_law_508 (l : Launch) (xl : Option (Nat × (Nat → Int32))) (X : Nat → aw_Kt) (d kc ks : Nat) (Q : Option Value → aw_H → Prop) : aw_Kt := o_ic 0 (k_L_law_509 l xl X d kc ks Q)
theorem t_L_law_508 {l : Launch} {xl : Option (Nat × (Nat → Int32))} {X : Nat → aw_Kt} {d kc ks : Nat} {Q : Option Value → aw_H → Prop} : aw_Sn l m_L_law xl X d kc ks Q 508 (k_L_law_508 l xl X d kc ks Q) := by
  unfold k_L_law_508
  exact s_iconst dL_law_508 (by decide) t_L_law_509
def k_L_law_488 (l : Launch) (xl : Option (Nat × (Nat → Int32))) (X : Nat → aw_Kt) (d kc ks : Nat) (Q : Option Value → aw_H → Prop) : aw_Kt := o_al 1 (o_al 0 (o_il 4 (o_ic 1 (o_ib (fun x y => x + y) (o_sa xl (o_al 0 (o_il 4 (o_ic 2 (o_ib (fun x y => x + y) (o_sa xl (o_if (fun x => x = 0) (k_L_law_508 l xl X d kc ks Q) (o_ic 1 (k_L_law_509 l xl X d kc ks Q)))))))))))))
theorem t_L_law_488 {l : Launch} {xl : Option (Nat × (Nat → Int32))} {X : Nat → aw_Kt} {d kc ks : Nat} {Q : Option Value → aw_H → Prop} : aw_Sn l m_L_law xl X d kc ks Q 488 (k_L_law_488 l xl X d kc ks Q) := by
  unfold k_L_law_488
  exact s_aload_n dL_law_488 rfl (s_aload_n dL_law_489 rfl (s_iload dL_law_490 (s_iconst dL_law_492 (by decide) (s_iadd dL_law_493 (s_sld dL_law_494 (s_aload_n dL_law_495 rfl (s_iload dL_law_496 (s_iconst dL_law_498 (by decide) (s_iadd dL_law_499 (s_sld dL_law_500 (s_if_eq dL_law_501 (by decide) t_L_law_508 (s_iconst dL_law_504 (by decide) (s_goto dL_law_505 (by decide) t_L_law_509)))))))))))))
def k_L_law_427 (l : Launch) (xl : Option (Nat × (Nat → Int32))) (X : Nat → aw_Kt) (d kc ks : Nat) (Q : Option Value → aw_H → Prop) : aw_Kt := o_al 1 (o_al 0 (o_il 4 (o_ic 1 (o_ib (fun x y => x + y) (o_sa xl (o_al 0 (o_il 4 (o_ic 2 (o_ib (fun x y => x + y) (o_sa xl (o_al 0 (o_il 4 (o_ic 3 (o_ib (fun x y => x + y) (o_sa xl (o_al 0 (o_il 4 (o_ic 4 (o_ib (fun x y => x + y) (o_sa xl (o_cv l d m_X3_rule 3 4 (o_al 2 (o_al 0 (o_il 4 (o_ic 1 (o_ib (fun x y => x + y) (o_sa xl (o_al 0 (o_il 4 (o_ic 2 (o_ib (fun x y => x + y) (o_sa xl (o_al 0 (o_il 4 (o_ic 3 (o_ib (fun x y => x + y) (o_sa xl (o_al 0 (o_il 4 (o_ic 4 (o_ib (fun x y => x + y) (o_sa xl (o_cv l d m_X4_rule 4 4 (o_i3 (fun x y => x = y) (k_L_law_942 l xl X d kc ks Q) (o_ic 0 (o_rz Q))))))))))))))))))))))))))))))))))))))))))))))
theorem t_L_law_427 {l : Launch} {xl : Option (Nat × (Nat → Int32))} {X : Nat → aw_Kt} {d kc ks : Nat} {Q : Option Value → aw_H → Prop} : aw_Sn l m_L_law xl X d kc ks Q 427 (k_L_law_427 l xl X d kc ks Q) := by
  unfold k_L_law_427
  exact s_aload_n dL_law_427 rfl (s_aload_n dL_law_428 rfl (s_iload dL_law_429 (s_iconst dL_law_431 (by decide) (s_iadd dL_law_432 (s_sld dL_law_433 (s_aload_n dL_law_434 rfl (s_iload dL_law_435 (s_iconst dL_law_437 (by decide) (s_iadd dL_law_438 (s_sld dL_law_439 (s_aload_n dL_law_440 rfl (s_iload dL_law_441 (s_iconst dL_law_443 (by decide) (s_iadd dL_law_444 (s_sld dL_law_445 (s_aload_n dL_law_446 rfl (s_iload dL_law_447 (s_iconst dL_law_449 (by decide) (s_iadd dL_law_450 (s_sld dL_law_451 (s_cv dL_law_452 rfl (by decide) w_147 wi_X3_rule ws_X3_rule w_10 wc_X3_rule wd_X3_rule (s_aload_n dL_law_455 rfl (s_aload_n dL_law_456 rfl (s_iload dL_law_457 (s_iconst dL_law_459 (by decide) (s_iadd dL_law_460 (s_sld dL_law_461 (s_aload_n dL_law_462 rfl (s_iload dL_law_463 (s_iconst dL_law_465 (by decide) (s_iadd dL_law_466 (s_sld dL_law_467 (s_aload_n dL_law_468 rfl (s_iload dL_law_469 (s_iconst dL_law_471 (by decide) (s_iadd dL_law_472 (s_sld dL_law_473 (s_aload_n dL_law_474 rfl (s_iload dL_law_475 (s_iconst dL_law_477 (by decide) (s_iadd dL_law_478 (s_sld dL_law_479 (s_cv dL_law_480 rfl (by decide) w_146 wi_X4_rule ws_X4_rule w_96 wc_X4_rule wd_X4_rule (s_icmp_eq dL_law_483 (by decide) t_L_law_942 (s_iconst dL_law_486 (by decide) (s_zret dL_law_487 rfl))))))))))))))))))))))))))))))))))))))))))))))
def k_L_law_390 (l : Launch) (xl : Option (Nat × (Nat → Int32))) (X : Nat → aw_Kt) (d kc ks : Nat) (Q : Option Value → aw_H → Prop) : aw_Kt := o_al 1 (o_al 0 (o_il 4 (o_ic 1 (o_ib (fun x y => x + y) (o_sa xl (o_al 0 (o_il 4 (o_ic 2 (o_ib (fun x y => x + y) (o_sa xl (o_cv l d m_X3_person 3 2 (o_al 2 (o_al 0 (o_il 4 (o_ic 1 (o_ib (fun x y => x + y) (o_sa xl (o_al 0 (o_il 4 (o_ic 2 (o_ib (fun x y => x + y) (o_sa xl (o_cv l d m_X4_person 4 2 (o_i3 (fun x y => x = y) (k_L_law_942 l xl X d kc ks Q) (o_ic 0 (o_rz Q))))))))))))))))))))))))))
theorem t_L_law_390 {l : Launch} {xl : Option (Nat × (Nat → Int32))} {X : Nat → aw_Kt} {d kc ks : Nat} {Q : Option Value → aw_H → Prop} : aw_Sn l m_L_law xl X d kc ks Q 390 (k_L_law_390 l xl X d kc ks Q) := by
  unfold k_L_law_390
  exact s_aload_n dL_law_390 rfl (s_aload_n dL_law_391 rfl (s_iload dL_law_392 (s_iconst dL_law_394 (by decide) (s_iadd dL_law_395 (s_sld dL_law_396 (s_aload_n dL_law_397 rfl (s_iload dL_law_398 (s_iconst dL_law_400 (by decide) (s_iadd dL_law_401 (s_sld dL_law_402 (s_cv dL_law_403 rfl (by decide) w_149 wi_X3_person ws_X3_person w_10 wc_X3_person wd_X3_person (s_aload_n dL_law_406 rfl (s_aload_n dL_law_407 rfl (s_iload dL_law_408 (s_iconst dL_law_410 (by decide) (s_iadd dL_law_411 (s_sld dL_law_412 (s_aload_n dL_law_413 rfl (s_iload dL_law_414 (s_iconst dL_law_416 (by decide) (s_iadd dL_law_417 (s_sld dL_law_418 (s_cv dL_law_419 rfl (by decide) w_148 wi_X4_person ws_X4_person w_96 wc_X4_person wd_X4_person (s_icmp_eq dL_law_422 (by decide) t_L_law_942 (s_iconst dL_law_425 (by decide) (s_zret dL_law_426 rfl))))))))))))))))))))))))))
def k_L_law_382 (l : Launch) (xl : Option (Nat × (Nat → Int32))) (X : Nat → aw_Kt) (d kc ks : Nat) (Q : Option Value → aw_H → Prop) : aw_Kt := o_cv l d m_X4_expert 4 2 (o_i3 (fun x y => x = y) (k_L_law_942 l xl X d kc ks Q) (o_ic 0 (o_rz Q)))
theorem t_L_law_382 {l : Launch} {xl : Option (Nat × (Nat → Int32))} {X : Nat → aw_Kt} {d kc ks : Nat} {Q : Option Value → aw_H → Prop} : aw_Sn l m_L_law xl X d kc ks Q 382 (k_L_law_382 l xl X d kc ks Q) := by
  unfold k_L_law_382
  exact s_cv dL_law_382 rfl (by decide) w_150 wi_X4_expert ws_X4_expert w_96 wc_X4_expert wd_X4_expert (s_icmp_eq dL_law_385 (by decide) t_L_law_942 (s_iconst dL_law_388 (by decide) (s_zret dL_law_389 rfl)))
def k_L_law_381 (l : Launch) (xl : Option (Nat × (Nat → Int32))) (X : Nat → aw_Kt) (d kc ks : Nat) (Q : Option Value → aw_H → Prop) : aw_Kt := o_ic 0 (k_L_law_382 l xl X d kc ks Q)
theorem t_L_law_381 {l : Launch} {xl : Option (Nat × (Nat → Int32))} {X : Nat → aw_Kt} {d kc ks : Nat} {Q : Option Value → aw_H → Prop} : aw_Sn l m_L_law xl X d kc ks Q 381 (k_L_law_381 l xl X d kc ks Q) := by
  unfold k_L_law_381
  exact s_iconst dL_law_381 (by decide) t_L_law_382
def k_L_law_358 (l : Launch) (xl : Option (Nat × (Nat → Int32))) (X : Nat → aw_Kt) (d kc ks : Nat) (Q : Option Value → aw_H → Prop) : aw_Kt := o_cv l d m_X3_expert 3 2 (o_al 2 (o_al 0 (o_il 4 (o_ic 1 (o_ib (fun x y => x + y) (o_sa xl (o_al 0 (o_il 4 (o_ic 2 (o_ib (fun x y => x + y) (o_sa xl (o_if (fun x => x = 0) (k_L_law_381 l xl X d kc ks Q) (o_ic 1 (k_L_law_382 l xl X d kc ks Q))))))))))))))
theorem t_L_law_358 {l : Launch} {xl : Option (Nat × (Nat → Int32))} {X : Nat → aw_Kt} {d kc ks : Nat} {Q : Option Value → aw_H → Prop} : aw_Sn l m_L_law xl X d kc ks Q 358 (k_L_law_358 l xl X d kc ks Q) := by
  unfold k_L_law_358
  exact s_cv dL_law_358 rfl (by decide) w_151 wi_X3_expert ws_X3_expert w_10 wc_X3_expert wd_X3_expert (s_aload_n dL_law_361 rfl (s_aload_n dL_law_362 rfl (s_iload dL_law_363 (s_iconst dL_law_365 (by decide) (s_iadd dL_law_366 (s_sld dL_law_367 (s_aload_n dL_law_368 rfl (s_iload dL_law_369 (s_iconst dL_law_371 (by decide) (s_iadd dL_law_372 (s_sld dL_law_373 (s_if_eq dL_law_374 (by decide) t_L_law_381 (s_iconst dL_law_377 (by decide) (s_goto dL_law_378 (by decide) t_L_law_382))))))))))))))
def k_L_law_357 (l : Launch) (xl : Option (Nat × (Nat → Int32))) (X : Nat → aw_Kt) (d kc ks : Nat) (Q : Option Value → aw_H → Prop) : aw_Kt := o_ic 0 (k_L_law_358 l xl X d kc ks Q)
theorem t_L_law_357 {l : Launch} {xl : Option (Nat × (Nat → Int32))} {X : Nat → aw_Kt} {d kc ks : Nat} {Q : Option Value → aw_H → Prop} : aw_Sn l m_L_law xl X d kc ks Q 357 (k_L_law_357 l xl X d kc ks Q) := by
  unfold k_L_law_357
  exact s_iconst dL_law_357 (by decide) t_L_law_358
def k_L_law_337 (l : Launch) (xl : Option (Nat × (Nat → Int32))) (X : Nat → aw_Kt) (d kc ks : Nat) (Q : Option Value → aw_H → Prop) : aw_Kt := o_al 1 (o_al 0 (o_il 4 (o_ic 1 (o_ib (fun x y => x + y) (o_sa xl (o_al 0 (o_il 4 (o_ic 2 (o_ib (fun x y => x + y) (o_sa xl (o_if (fun x => x = 0) (k_L_law_357 l xl X d kc ks Q) (o_ic 1 (k_L_law_358 l xl X d kc ks Q)))))))))))))
theorem t_L_law_337 {l : Launch} {xl : Option (Nat × (Nat → Int32))} {X : Nat → aw_Kt} {d kc ks : Nat} {Q : Option Value → aw_H → Prop} : aw_Sn l m_L_law xl X d kc ks Q 337 (k_L_law_337 l xl X d kc ks Q) := by
  unfold k_L_law_337
  exact s_aload_n dL_law_337 rfl (s_aload_n dL_law_338 rfl (s_iload dL_law_339 (s_iconst dL_law_341 (by decide) (s_iadd dL_law_342 (s_sld dL_law_343 (s_aload_n dL_law_344 rfl (s_iload dL_law_345 (s_iconst dL_law_347 (by decide) (s_iadd dL_law_348 (s_sld dL_law_349 (s_if_eq dL_law_350 (by decide) t_L_law_357 (s_iconst dL_law_353 (by decide) (s_goto dL_law_354 (by decide) t_L_law_358)))))))))))))
def k_L_law_312 (l : Launch) (xl : Option (Nat × (Nat → Int32))) (X : Nat → aw_Kt) (d kc ks : Nat) (Q : Option Value → aw_H → Prop) : aw_Kt := o_al 1 (o_al 0 (o_il 4 (o_ic 1 (o_ib (fun x y => x + y) (o_sa xl (o_cv l d m_X3_bound 3 1 (o_al 2 (o_al 0 (o_il 4 (o_ic 1 (o_ib (fun x y => x + y) (o_sa xl (o_cv l d m_X4_bound 4 1 (o_i3 (fun x y => x = y) (k_L_law_942 l xl X d kc ks Q) (o_ic 0 (o_rz Q))))))))))))))))
theorem t_L_law_312 {l : Launch} {xl : Option (Nat × (Nat → Int32))} {X : Nat → aw_Kt} {d kc ks : Nat} {Q : Option Value → aw_H → Prop} : aw_Sn l m_L_law xl X d kc ks Q 312 (k_L_law_312 l xl X d kc ks Q) := by
  unfold k_L_law_312
  exact s_aload_n dL_law_312 rfl (s_aload_n dL_law_313 rfl (s_iload dL_law_314 (s_iconst dL_law_316 (by decide) (s_iadd dL_law_317 (s_sld dL_law_318 (s_cv dL_law_319 rfl (by decide) w_153 wi_X3_bound ws_X3_bound w_10 wc_X3_bound wd_X3_bound (s_aload_n dL_law_322 rfl (s_aload_n dL_law_323 rfl (s_iload dL_law_324 (s_iconst dL_law_326 (by decide) (s_iadd dL_law_327 (s_sld dL_law_328 (s_cv dL_law_329 rfl (by decide) w_152 wi_X4_bound ws_X4_bound w_96 wc_X4_bound wd_X4_bound (s_icmp_eq dL_law_332 (by decide) t_L_law_942 (s_iconst dL_law_335 (by decide) (s_zret dL_law_336 rfl))))))))))))))))
def k_L_law_275 (l : Launch) (xl : Option (Nat × (Nat → Int32))) (X : Nat → aw_Kt) (d kc ks : Nat) (Q : Option Value → aw_H → Prop) : aw_Kt := o_al 1 (o_al 0 (o_il 4 (o_ic 1 (o_ib (fun x y => x + y) (o_sa xl (o_al 0 (o_il 4 (o_ic 2 (o_ib (fun x y => x + y) (o_sa xl (o_cv l d m_X3_gold 3 2 (o_al 2 (o_al 0 (o_il 4 (o_ic 1 (o_ib (fun x y => x + y) (o_sa xl (o_al 0 (o_il 4 (o_ic 2 (o_ib (fun x y => x + y) (o_sa xl (o_cv l d m_X4_gold 4 2 (o_i3 (fun x y => x = y) (k_L_law_942 l xl X d kc ks Q) (o_ic 0 (o_rz Q))))))))))))))))))))))))))
theorem t_L_law_275 {l : Launch} {xl : Option (Nat × (Nat → Int32))} {X : Nat → aw_Kt} {d kc ks : Nat} {Q : Option Value → aw_H → Prop} : aw_Sn l m_L_law xl X d kc ks Q 275 (k_L_law_275 l xl X d kc ks Q) := by
  unfold k_L_law_275
  exact s_aload_n dL_law_275 rfl (s_aload_n dL_law_276 rfl (s_iload dL_law_277 (s_iconst dL_law_279 (by decide) (s_iadd dL_law_280 (s_sld dL_law_281 (s_aload_n dL_law_282 rfl (s_iload dL_law_283 (s_iconst dL_law_285 (by decide) (s_iadd dL_law_286 (s_sld dL_law_287 (s_cv dL_law_288 rfl (by decide) w_155 wi_X3_gold ws_X3_gold w_10 wc_X3_gold wd_X3_gold (s_aload_n dL_law_291 rfl (s_aload_n dL_law_292 rfl (s_iload dL_law_293 (s_iconst dL_law_295 (by decide) (s_iadd dL_law_296 (s_sld dL_law_297 (s_aload_n dL_law_298 rfl (s_iload dL_law_299 (s_iconst dL_law_301 (by decide) (s_iadd dL_law_302 (s_sld dL_law_303 (s_cv dL_law_304 rfl (by decide) w_154 wi_X4_gold ws_X4_gold w_96 wc_X4_gold wd_X4_gold (s_icmp_eq dL_law_307 (by decide) t_L_law_942 (s_iconst dL_law_310 (by decide) (s_zret dL_law_311 rfl))))))))))))))))))))))))))
def k_L_law_238 (l : Launch) (xl : Option (Nat × (Nat → Int32))) (X : Nat → aw_Kt) (d kc ks : Nat) (Q : Option Value → aw_H → Prop) : aw_Kt := o_al 1 (o_al 0 (o_il 4 (o_ic 1 (o_ib (fun x y => x + y) (o_sa xl (o_al 0 (o_il 4 (o_ic 2 (o_ib (fun x y => x + y) (o_sa xl (o_cv l d m_X3_said 3 2 (o_al 2 (o_al 0 (o_il 4 (o_ic 1 (o_ib (fun x y => x + y) (o_sa xl (o_al 0 (o_il 4 (o_ic 2 (o_ib (fun x y => x + y) (o_sa xl (o_cv l d m_X4_said 4 2 (o_i3 (fun x y => x = y) (k_L_law_942 l xl X d kc ks Q) (o_ic 0 (o_rz Q))))))))))))))))))))))))))
theorem t_L_law_238 {l : Launch} {xl : Option (Nat × (Nat → Int32))} {X : Nat → aw_Kt} {d kc ks : Nat} {Q : Option Value → aw_H → Prop} : aw_Sn l m_L_law xl X d kc ks Q 238 (k_L_law_238 l xl X d kc ks Q) := by
  unfold k_L_law_238
  exact s_aload_n dL_law_238 rfl (s_aload_n dL_law_239 rfl (s_iload dL_law_240 (s_iconst dL_law_242 (by decide) (s_iadd dL_law_243 (s_sld dL_law_244 (s_aload_n dL_law_245 rfl (s_iload dL_law_246 (s_iconst dL_law_248 (by decide) (s_iadd dL_law_249 (s_sld dL_law_250 (s_cv dL_law_251 rfl (by decide) w_157 wi_X3_said ws_X3_said w_10 wc_X3_said wd_X3_said (s_aload_n dL_law_254 rfl (s_aload_n dL_law_255 rfl (s_iload dL_law_256 (s_iconst dL_law_258 (by decide) (s_iadd dL_law_259 (s_sld dL_law_260 (s_aload_n dL_law_261 rfl (s_iload dL_law_262 (s_iconst dL_law_264 (by decide) (s_iadd dL_law_265 (s_sld dL_law_266 (s_cv dL_law_267 rfl (by decide) w_156 wi_X4_said ws_X4_said w_96 wc_X4_said wd_X4_said (s_icmp_eq dL_law_270 (by decide) t_L_law_942 (s_iconst dL_law_273 (by decide) (s_zret dL_law_274 rfl))))))))))))))))))))))))))
def k_L_law_189 (l : Launch) (xl : Option (Nat × (Nat → Int32))) (X : Nat → aw_Kt) (d kc ks : Nat) (Q : Option Value → aw_H → Prop) : aw_Kt := o_al 1 (o_al 0 (o_il 4 (o_ic 1 (o_ib (fun x y => x + y) (o_sa xl (o_al 0 (o_il 4 (o_ic 2 (o_ib (fun x y => x + y) (o_sa xl (o_al 0 (o_il 4 (o_ic 3 (o_ib (fun x y => x + y) (o_sa xl (o_cv l d m_X3_label 3 3 (o_al 2 (o_al 0 (o_il 4 (o_ic 1 (o_ib (fun x y => x + y) (o_sa xl (o_al 0 (o_il 4 (o_ic 2 (o_ib (fun x y => x + y) (o_sa xl (o_al 0 (o_il 4 (o_ic 3 (o_ib (fun x y => x + y) (o_sa xl (o_cv l d m_X4_label 4 3 (o_i3 (fun x y => x = y) (k_L_law_942 l xl X d kc ks Q) (o_ic 0 (o_rz Q))))))))))))))))))))))))))))))))))))
theorem t_L_law_189 {l : Launch} {xl : Option (Nat × (Nat → Int32))} {X : Nat → aw_Kt} {d kc ks : Nat} {Q : Option Value → aw_H → Prop} : aw_Sn l m_L_law xl X d kc ks Q 189 (k_L_law_189 l xl X d kc ks Q) := by
  unfold k_L_law_189
  exact s_aload_n dL_law_189 rfl (s_aload_n dL_law_190 rfl (s_iload dL_law_191 (s_iconst dL_law_193 (by decide) (s_iadd dL_law_194 (s_sld dL_law_195 (s_aload_n dL_law_196 rfl (s_iload dL_law_197 (s_iconst dL_law_199 (by decide) (s_iadd dL_law_200 (s_sld dL_law_201 (s_aload_n dL_law_202 rfl (s_iload dL_law_203 (s_iconst dL_law_205 (by decide) (s_iadd dL_law_206 (s_sld dL_law_207 (s_cv dL_law_208 rfl (by decide) w_159 wi_X3_label ws_X3_label w_10 wc_X3_label wd_X3_label (s_aload_n dL_law_211 rfl (s_aload_n dL_law_212 rfl (s_iload dL_law_213 (s_iconst dL_law_215 (by decide) (s_iadd dL_law_216 (s_sld dL_law_217 (s_aload_n dL_law_218 rfl (s_iload dL_law_219 (s_iconst dL_law_221 (by decide) (s_iadd dL_law_222 (s_sld dL_law_223 (s_aload_n dL_law_224 rfl (s_iload dL_law_225 (s_iconst dL_law_227 (by decide) (s_iadd dL_law_228 (s_sld dL_law_229 (s_cv dL_law_230 rfl (by decide) w_158 wi_X4_label ws_X4_label w_96 wc_X4_label wd_X4_label (s_icmp_eq dL_law_233 (by decide) t_L_law_942 (s_iconst dL_law_236 (by decide) (s_zret dL_law_237 rfl))))))))))))))))))))))))))))))))))))
def k_L_law_128 (l : Launch) (xl : Option (Nat × (Nat → Int32))) (X : Nat → aw_Kt) (d kc ks : Nat) (Q : Option Value → aw_H → Prop) : aw_Kt := o_al 1 (o_al 0 (o_il 4 (o_ic 1 (o_ib (fun x y => x + y) (o_sa xl (o_al 0 (o_il 4 (o_ic 2 (o_ib (fun x y => x + y) (o_sa xl (o_al 0 (o_il 4 (o_ic 3 (o_ib (fun x y => x + y) (o_sa xl (o_al 0 (o_il 4 (o_ic 4 (o_ib (fun x y => x + y) (o_sa xl (o_cv l d m_X3_row 3 4 (o_al 2 (o_al 0 (o_il 4 (o_ic 1 (o_ib (fun x y => x + y) (o_sa xl (o_al 0 (o_il 4 (o_ic 2 (o_ib (fun x y => x + y) (o_sa xl (o_al 0 (o_il 4 (o_ic 3 (o_ib (fun x y => x + y) (o_sa xl (o_al 0 (o_il 4 (o_ic 4 (o_ib (fun x y => x + y) (o_sa xl (o_cv l d m_X4_row 4 4 (o_i3 (fun x y => x = y) (k_L_law_942 l xl X d kc ks Q) (o_ic 0 (o_rz Q))))))))))))))))))))))))))))))))))))))))))))))
theorem t_L_law_128 {l : Launch} {xl : Option (Nat × (Nat → Int32))} {X : Nat → aw_Kt} {d kc ks : Nat} {Q : Option Value → aw_H → Prop} : aw_Sn l m_L_law xl X d kc ks Q 128 (k_L_law_128 l xl X d kc ks Q) := by
  unfold k_L_law_128
  exact s_aload_n dL_law_128 rfl (s_aload_n dL_law_129 rfl (s_iload dL_law_130 (s_iconst dL_law_132 (by decide) (s_iadd dL_law_133 (s_sld dL_law_134 (s_aload_n dL_law_135 rfl (s_iload dL_law_136 (s_iconst dL_law_138 (by decide) (s_iadd dL_law_139 (s_sld dL_law_140 (s_aload_n dL_law_141 rfl (s_iload dL_law_142 (s_iconst dL_law_144 (by decide) (s_iadd dL_law_145 (s_sld dL_law_146 (s_aload_n dL_law_147 rfl (s_iload dL_law_148 (s_iconst dL_law_150 (by decide) (s_iadd dL_law_151 (s_sld dL_law_152 (s_cv dL_law_153 rfl (by decide) w_161 wi_X3_row ws_X3_row w_10 wc_X3_row wd_X3_row (s_aload_n dL_law_156 rfl (s_aload_n dL_law_157 rfl (s_iload dL_law_158 (s_iconst dL_law_160 (by decide) (s_iadd dL_law_161 (s_sld dL_law_162 (s_aload_n dL_law_163 rfl (s_iload dL_law_164 (s_iconst dL_law_166 (by decide) (s_iadd dL_law_167 (s_sld dL_law_168 (s_aload_n dL_law_169 rfl (s_iload dL_law_170 (s_iconst dL_law_172 (by decide) (s_iadd dL_law_173 (s_sld dL_law_174 (s_aload_n dL_law_175 rfl (s_iload dL_law_176 (s_iconst dL_law_178 (by decide) (s_iadd dL_law_179 (s_sld dL_law_180 (s_cv dL_law_181 rfl (by decide) w_160 wi_X4_row ws_X4_row w_96 wc_X4_row wd_X4_row (s_icmp_eq dL_law_184 (by decide) t_L_law_942 (s_iconst dL_law_187 (by decide) (s_zret dL_law_188 rfl))))))))))))))))))))))))))))))))))))))))))))))
def k_L_law_23 (l : Launch) (xl : Option (Nat × (Nat → Int32))) (X : Nat → aw_Kt) (d kc ks : Nat) (Q : Option Value → aw_H → Prop) : aw_Kt := o_il 4 (o_al 0 (o_sn xl (o_ic 5 (o_ib (fun x y => x - y) (o_i3 (fun x y => y < x) (k_L_law_948 l xl X d kc ks Q) (o_al 0 (o_il 4 (o_sa xl (o_ic 31 (o_ib (fun x y => x &&& y) (o_ts 0 18 [(k_L_law_128 l xl X d kc ks Q), (k_L_law_189 l xl X d kc ks Q), (k_L_law_238 l xl X d kc ks Q), (k_L_law_275 l xl X d kc ks Q), (k_L_law_312 l xl X d kc ks Q), (k_L_law_337 l xl X d kc ks Q), (k_L_law_390 l xl X d kc ks Q), (k_L_law_427 l xl X d kc ks Q), (k_L_law_488 l xl X d kc ks Q), (k_L_law_541 l xl X d kc ks Q), (k_L_law_578 l xl X d kc ks Q), (k_L_law_646 l xl X d kc ks Q), (k_L_law_671 l xl X d kc ks Q), (k_L_law_708 l xl X d kc ks Q), (k_L_law_733 l xl X d kc ks Q), (k_L_law_758 l xl X d kc ks Q), (k_L_law_837 l xl X d kc ks Q), (k_L_law_892 l xl X d kc ks Q), (k_L_law_917 l xl X d kc ks Q)] (k_L_law_942 l xl X d kc ks Q))))))))))))
theorem t_L_law_23 {l : Launch} {xl : Option (Nat × (Nat → Int32))} {X : Nat → aw_Kt} {d kc ks : Nat} {Q : Option Value → aw_H → Prop} : aw_Sn l m_L_law xl X d kc ks Q 23 (k_L_law_23 l xl X d kc ks Q) := by
  unfold k_L_law_23
  exact s_iload dL_law_23 (s_aload_n dL_law_25 rfl (s_slen dL_law_26 (s_iconst dL_law_27 (by decide) (s_isub dL_law_28 (s_icmp_gt dL_law_29 (by decide) t_L_law_948 (s_aload_n dL_law_32 rfl (s_iload dL_law_33 (s_sld dL_law_35 (s_bipush dL_law_36 (by decide) (s_iand dL_law_38 (s_tsw dL_law_39 (by decide) (by decide) (by decide) t_L_law_942 ⟨⟨128, by decide, t_L_law_128⟩, ⟨⟨189, by decide, t_L_law_189⟩, ⟨⟨238, by decide, t_L_law_238⟩, ⟨⟨275, by decide, t_L_law_275⟩, ⟨⟨312, by decide, t_L_law_312⟩, ⟨⟨337, by decide, t_L_law_337⟩, ⟨⟨390, by decide, t_L_law_390⟩, ⟨⟨427, by decide, t_L_law_427⟩, ⟨⟨488, by decide, t_L_law_488⟩, ⟨⟨541, by decide, t_L_law_541⟩, ⟨⟨578, by decide, t_L_law_578⟩, ⟨⟨646, by decide, t_L_law_646⟩, ⟨⟨671, by decide, t_L_law_671⟩, ⟨⟨708, by decide, t_L_law_708⟩, ⟨⟨733, by decide, t_L_law_733⟩, ⟨⟨758, by decide, t_L_law_758⟩, ⟨⟨837, by decide, t_L_law_837⟩, ⟨⟨892, by decide, t_L_law_892⟩, ⟨⟨917, by decide, t_L_law_917⟩, trivial⟩⟩⟩⟩⟩⟩⟩⟩⟩⟩⟩⟩⟩⟩⟩⟩⟩⟩⟩)))))))))))
end
section
/-! the class's state, as values; its world -/
abbrev vF : Type := Nat → Int32
abbrev cSh : Type := (Nat → vF) × (Nat → vF) × vF × vF × Nat
abbrev cBk : Type := vF × vF × vF × vF × vF × vF × Nat
/-- what calls show -/
abbrev cK : Type := cSh × cBk × vF × vF × Int32
/-- what is only used again -/
abbrev cZ : Type := (vF × vF × Int64 × Int64 × Int32 × Int32) × vF × vF × vF
abbrev k_ft (k : cK) : Nat → vF := k.1.1
abbrev k_gv (k : cK) : Nat → vF := k.1.2.1
abbrev k_kn (k : cK) : vF := k.1.2.2.1
abbrev k_wr (k : cK) : vF := k.1.2.2.2.1
abbrev k_n (k : cK) : Nat := k.1.2.2.2.2
abbrev k_kd (k : cK) : vF := k.2.1.1
abbrev k_fi (k : cK) : vF := k.2.1.2.1
abbrev k_se (k : cK) : vF := k.2.1.2.2.1
abbrev k_co (k : cK) : vF := k.2.1.2.2.2.1
abbrev k_on (k : cK) : vF := k.2.1.2.2.2.2.1
abbrev k_pl (k : cK) : vF := k.2.1.2.2.2.2.2.1
abbrev k_rn (k : cK) : Nat := k.2.1.2.2.2.2.2.2
abbrev k_ex (k : cK) : vF := k.2.2.1
abbrev k_tr (k : cK) : vF := k.2.2.2.1
abbrev k_bd (k : cK) : Int32 := k.2.2.2.2
abbrev z_og (z : cZ) : vF := z.1.1
abbrev z_tg (z : cZ) : vF := z.1.2.1
abbrev z_tp (z : cZ) : Int64 := z.1.2.2.1
abbrev z_bt (z : cZ) : Int64 := z.1.2.2.2.1
abbrev z_rc (z : cZ) : Int32 := z.1.2.2.2.2.1
abbrev z_sc (z : cZ) : Int32 := z.1.2.2.2.2.2
abbrev z_ta (z : cZ) : vF := z.2.1
abbrev z_de (z : cZ) : vF := z.2.2.1
abbrev z_fr (z : cZ) : vF := z.2.2.2
abbrev a_i (n : Nat) (f : vF) : aw_Cel := .inl (0, n, .inl f)
abbrev a_z (n : Nat) (f : vF) : aw_Cel := .inl (1, n, .inl f)
def xC (k : cK) (z : cZ) : aw_H := [
  .inr (3, [.ref 1, .ref 2, .ref 3, .ref 4, .ref 5, .int (k_bd k), .ref 6, .ref 7, .ref 8]),
  .inr (2, [.ref 9, .ref 10, .ref 23, .ref 24, .int (nI (k_n k))]),
  .inr (1, [.ref 25, .ref 26, .ref 27, .ref 28, .ref 29, .ref 30, .int (nI (k_rn k))]),
  .inr (0, [.ref 31, .ref 32, .long (z_tp z), .long (z_bt z), .int (z_rc z), .int (z_sc z)]),
  a_z 8 (k_ex k), a_i 8 (k_tr k), a_i 5 (z_ta z), a_i 40 (z_de z), a_i 8 (z_fr z),
  .inl (3, 4, .inr (.inr (.inr (.inr (fun i => some (11 + i)))))),
  .inl (3, 8, .inr (.inr (.inr (.inr (fun i => some (15 + i)))))),
  a_i 40 (k_ft k 0), a_i 40 (k_ft k 1), a_i 40 (k_ft k 2), a_i 40 (k_ft k 3),
  a_i 40 (k_gv k 0), a_i 40 (k_gv k 1), a_i 40 (k_gv k 2), a_i 40 (k_gv k 3), a_i 40 (k_gv k 4), a_i 40 (k_gv k 5), a_i 40 (k_gv k 6), a_i 40 (k_gv k 7),
  a_i 40 (k_kn k), a_i 8 (k_wr k),
  a_i 6 (k_kd k), a_i 6 (k_fi k), a_i 6 (k_se k), a_i 6 (k_co k), a_z 6 (k_on k), a_i 8 (k_pl k),
  a_i 5 (z_og z), a_i 5 (z_tg z)]
theorem xC_gv (k : cK) (z : cZ) {p : Nat} (h : p < 8) : aw_g (xC k z) (15 + p) = some (a_i 40 (k_gv k p)) := by
  rcases (show p = 0 ∨ p = 1 ∨ p = 2 ∨ p = 3 ∨ p = 4 ∨ p = 5 ∨ p = 6 ∨ p = 7 by omega) with rfl | rfl | rfl | rfl | rfl | rfl | rfl | rfl <;> rfl
theorem xC_ft (k : cK) (z : cZ) {p : Nat} (h : p < 4) : aw_g (xC k z) (11 + p) = some (a_i 40 (k_ft k p)) := by
  rcases (show p = 0 ∨ p = 1 ∨ p = 2 ∨ p = 3 by omega) with rfl | rfl | rfl | rfl <;> rfl
/-- the answer of a method that changes nothing -/
abbrev rI (k : cK) (z : cZ) (x : Int32) : Option Value → aw_H → Prop := fun v C => v = some (.int x) ∧ C = xC k z
/-- a truth value as an int -/
noncomputable def bI (b : Prop) : Int32 := @ite Int32 b (Classical.propDecidable b) 1 0
theorem bI_t {b : Prop} (h : b) : bI b = 1 := if_pos h
theorem bI_f {b : Prop} (h : ¬ b) : bI b = 0 := if_neg h
theorem bI_01 {b : Prop} : bI b = 0 ∨ bI b = 1 := by
  by_cases h : b
  · exact Or.inr (bI_t h)
  · exact Or.inl (bI_f h)
theorem bI_0 {b : Prop} : bI b = 0 ↔ ¬ b := by
  by_cases h : b
  · rw [bI_t h]; simp [h]
  · rw [bI_f h]; simp [h]
theorem bI_c {a b : Prop} (h : a ↔ b) : bI a = bI b := by rw [propext h]
theorem br_b {b A B : Prop} (f : ¬ b → A) (g : b → B) : (bI b = 0 → A) ∧ (¬ bI b = 0 → B) := ⟨fun h => f (bI_0.mp h), fun h => g (Classical.byContradiction fun q => h (bI_0.mpr q))⟩
/-- a place of n -/
def ix (x : Int32) (n : Nat) : Prop := ∃ j : Nat, j < n ∧ x = nI j
theorem ix_neg {x : Int32} {n : Nat} (h : x < 0) (hn : n < 2 ^ 31) : ¬ ix x n := by
  rintro ⟨j, hj, rfl⟩
  exact nI_pos (by omega) h
theorem ix_ge {x : Int32} {n : Nat} (h : nI n ≤ x) (hn : n < 2 ^ 31) : ¬ ix x n := by
  rintro ⟨j, hj, rfl⟩
  exact nI_ge hj hn h
theorem ix_of {x : Int32} {n : Nat} (h0 : ¬ x < 0) (h : ¬ nI n ≤ x) (hn : n < 2 ^ 31) : ix x n := by
  rcases pk_ix x hn with q | q | q
  · exact absurd q h0
  · exact absurd q h
  · exact q
/-- how many of the first k -/
noncomputable def cnt : Nat → (Nat → Prop) → Nat
  | 0, _ => 0
  | k + 1, P => @ite Nat (P k) (Classical.propDecidable _) (cnt k P + 1) (cnt k P)
theorem cnt_t {k : Nat} {P : Nat → Prop} (h : P k) : cnt (k + 1) P = cnt k P + 1 := if_pos h
theorem cnt_f {k : Nat} {P : Nat → Prop} (h : ¬ P k) : cnt (k + 1) P = cnt k P := if_neg h
theorem cnt_le (P : Nat → Prop) : ∀ k, cnt k P ≤ k
  | 0 => Nat.le_refl _
  | k + 1 => by
    have := cnt_le P k
    by_cases h : P k
    · rw [cnt_t h]; omega
    · rw [cnt_f h]; omega
theorem cnt_c {P P' : Nat → Prop} : ∀ k, (∀ i, i < k → (P i ↔ P' i)) → cnt k P = cnt k P'
  | 0, _ => rfl
  | k + 1, h => by
    have ih := cnt_c k (fun i hi => h i (by omega))
    by_cases q : P k
    · rw [cnt_t q, cnt_t ((h k (by omega)).mp q), ih]
    · rw [cnt_f q, cnt_f (fun z => q ((h k (by omega)).mpr z)), ih]
theorem aw_up (n : Nat) (P : Nat → Prop) (h0 : P n) (hs : ∀ r, r < n → P (r + 1) → P r) : ∀ r, r ≤ n → P r := by
  intro r hr
  obtain ⟨k, hk⟩ : ∃ k, n = r + k := ⟨n - r, by omega⟩
  induction k generalizing r with
  | zero =>
    have : r = n := by omega
    rw [this]
    exact h0
  | succ k ih => exact hs r (by omega) (ih (r + 1) (by omega) (by omega))
theorem i_r {C : aw_H} {a t n : Nat} {f : Nat → Int32} {k : Nat → (Nat → Int32) → Prop} (h : aw_g C a = some (.inl (t, n, .inl f))) (hb : (Nat.beq t t && Nat.ble n 100000) = true) (hk : k n f) : p_r C a t k := by
  unfold p_r
  rw [h]
  show p_t (Nat.beq t t && Nat.ble n 100000) (k n f)
  rw [hb]
  exact hk
end
section
/-! small tests, and the sheet -/
theorem c_isPerson (l : Launch) (d : Nat) (C : aw_H) (x : Int32) : SMet l m_X3_isPerson d [.int x] C (fun v C' => v = some (.int (bI (ix x 8))) ∧ C' = C) := by
  refine SMet_of 0 (by decide) (Nat.le_of_ble_eq_true rfl) (t_X3_isPerson_0 _ _ _ ?_)
  refine ⟨fun c => ⟨Or.inl rfl, by rw [bI_f (ix_neg c (by decide))], rfl⟩, fun c => ⟨fun c2 => ⟨Or.inl rfl, by rw [bI_f (ix_ge c2 (by decide))], rfl⟩, fun c2 => ⟨Or.inr rfl, by rw [bI_t (ix_of c c2 (by decide))], rfl⟩⟩⟩
theorem c_isLabel (l : Launch) (d : Nat) (C : aw_H) (x : Int32) : SMet l m_X3_isLabel d [.int x] C (fun v C' => v = some (.int (bI (ix x 5))) ∧ C' = C) := by
  refine SMet_of 0 (by decide) (Nat.le_of_ble_eq_true rfl) (t_X3_isLabel_0 _ _ _ ?_)
  refine ⟨fun c => ⟨Or.inl rfl, by rw [bI_f (ix_neg c (by decide))], rfl⟩, fun c => ⟨fun c2 => ⟨Or.inl rfl, by rw [bI_f (ix_ge c2 (by decide))], rfl⟩, fun c2 => ⟨Or.inr rfl, by rw [bI_t (ix_of c c2 (by decide))], rfl⟩⟩⟩
theorem c_isFeature (l : Launch) (d : Nat) (C : aw_H) (x : Int32) : SMet l m_X3_isFeature d [.int x] C (fun v C' => v = some (.int (bI (ix x 4))) ∧ C' = C) := by
  refine SMet_of 0 (by decide) (Nat.le_of_ble_eq_true rfl) (t_X3_isFeature_0 _ _ _ ?_)
  refine ⟨fun c => ⟨Or.inl rfl, by rw [bI_f (ix_neg c (by decide))], rfl⟩, fun c => ⟨fun c2 => ⟨Or.inl rfl, by rw [bI_f (ix_ge c2 (by decide))], rfl⟩, fun c2 => ⟨Or.inr rfl, by rw [bI_t (ix_of c c2 (by decide))], rfl⟩⟩⟩
theorem c_isPlace (l : Launch) (d : Nat) (C : aw_H) (x : Int32) : SMet l m_X3_isPlace d [.int x] C (fun v C' => v = some (.int (bI (ix x 8))) ∧ C' = C) := by
  refine SMet_of 0 (by decide) (Nat.le_of_ble_eq_true rfl) (t_X3_isPlace_0 _ _ _ ?_)
  refine ⟨fun c => ⟨Or.inl rfl, by rw [bI_f (ix_neg c (by decide))], rfl⟩, fun c => ⟨fun c2 => ⟨Or.inl rfl, by rw [bI_f (ix_ge c2 (by decide))], rfl⟩, fun c2 => ⟨Or.inr rfl, by rw [bI_t (ix_of c c2 (by decide))], rfl⟩⟩⟩
theorem c_size (l : Launch) (d : Nat) (k : cK) (z : cZ) : SMet l m_X2_size d [.ref 1] (xC k z) (rI k z (nI (k_n k))) := SMet_of 0 (by decide) (by decide) (t_X2_size_0 _ _ _ ⟨rfl, rfl⟩)
theorem c_hasRow (l : Launch) (d : Nat) (k : cK) (z : cZ) (x : Int32) (hn : k_n k ≤ 40) : SMet l m_X2_hasRow d [.ref 1, .int x] (xC k z) (rI k z (bI (ix x (k_n k)))) := by
  refine SMet_of 0 (by decide) (Nat.le_of_ble_eq_true rfl) (t_X2_hasRow_0 _ _ _ ?_)
  refine ⟨fun c => ⟨Or.inl rfl, by rw [bI_f (ix_neg c (by omega))], rfl⟩, fun c => ⟨fun c2 => ⟨Or.inl rfl, by rw [bI_f (ix_ge c2 (by omega))], rfl⟩, fun c2 => ⟨Or.inr rfl, by rw [bI_t (ix_of c c2 (by omega))], rfl⟩⟩⟩
theorem c_given (l : Launch) (d : Nat) (k : cK) (z : cZ) {p r : Nat} (hp : p < 8) (hr : r < 40) : SMet l m_X2_given d [.ref 1, .int (nI p), .int (nI r)] (xC k z) (rI k z (k_gv k p r)) := by
  refine SMet_of 0 (by decide) (Nat.le_of_ble_eq_true rfl) (t_X2_given_0 _ _ _ ?_)
  refine ⟨p, rfl, hp, ?_⟩
  refine i_r (xC_gv k z hp) rfl ?_
  exact ⟨r, rfl, hr, rfl, rfl⟩
theorem c_feature (l : Launch) (d : Nat) (k : cK) (z : cZ) {p r : Nat} (hp : p < 4) (hr : r < 40) : SMet l m_X2_feature d [.ref 1, .int (nI p), .int (nI r)] (xC k z) (rI k z (k_ft k p r)) := by
  refine SMet_of 0 (by decide) (Nat.le_of_ble_eq_true rfl) (t_X2_feature_0 _ _ _ ?_)
  refine ⟨p, rfl, hp, ?_⟩
  refine i_r (xC_ft k z hp) rfl ?_
  exact ⟨r, rfl, hr, rfl, rfl⟩
end
section
/-! the sheet: counts and changes -/
def wrP (k : cK) (p : Nat) : Nat → Prop := fun r => k_gv k p r ≠ -1 ∧ k_kn k r ≠ -1 ∧ k_gv k p r ≠ k_kn k r
noncomputable def wrN (k : cK) (p : Nat) : Nat := cnt (k_n k) (wrP k p)
abbrev s_wr (k : cK) (f : vF) : cK := ((k_ft k, k_gv k, k_kn k, f, k_n k), k.2)
abbrev s_gv (k : cK) (f : Nat → vF) : cK := ((k_ft k, f, k_kn k, k_wr k, k_n k), k.2)
abbrev s_kn (k : cK) (f : vF) : cK := ((k_ft k, k_gv k, f, k_wr k, k_n k), k.2)
abbrev rV (k : cK) (z : cZ) : Option Value → aw_H → Prop := fun v C => v = none ∧ C = xC k z
theorem c_countWrong (l : Launch) (d : Nat) (k : cK) (z : cZ) {p : Nat} (hp : p < 8) (hn : k_n k ≤ 40) : SMet l m_X2_countWrong d [.ref 1, .int (nI p)] (xC k z) (rV (s_wr k (upd (k_wr k) p (nI (wrN k p)))) z) := by
  refine SMet_of 3 (by decide) (Nat.le_of_ble_eq_true rfl) (t_X2_countWrong_0 _ _ _ ?_)
  refine aw_up (k_n k) (fun r => ∀ j, SW l m_X2_countWrong none _ d 0 0 _ 4 [some (.ref 1), some (.int (nI p)), some (.int (nI (cnt r (wrP k p)))), some (.int (nI r)), j] [] (xC k z)) ?_ ?_ 0 (Nat.zero_le _) none
  · intro j
    refine t_X2_countWrong_4 _ _ _ (br_t (nI_le (Nat.le_refl _) (by omega)) ?_)
    exact ⟨p, rfl, hp, rfl, rfl⟩
  · intro r hr ih j
    simp only [nI_succ] at ih
    refine t_X2_countWrong_4 _ _ _ (br_f (nI_ge hr (by omega)) ?_)
    refine ⟨p, rfl, hp, i_r (xC_gv k z hp) rfl ?_⟩
    refine ⟨r, rfl, by omega, ⟨fun c => ?_, fun c => ?_⟩⟩
    · rw [cnt_f (fun h => h.1 c)] at ih
      exact ih _
    · refine ⟨r, rfl, by omega, ⟨fun c2 => ?_, fun c2 => ?_⟩⟩
      · rw [cnt_f (fun h => h.2.1 c2)] at ih
        exact ih _
      · refine ⟨r, rfl, by omega, ⟨fun c3 => ?_, fun c3 => ?_⟩⟩
        · rw [cnt_f (fun h => h.2.2 c3)] at ih
          exact ih _
        · rw [cnt_t (show wrP k p r from ⟨c, c2, c3⟩), nI_succ] at ih
          exact ih _
theorem c_known (l : Launch) (d : Nat) (k : cK) (z : cZ) {r : Nat} (hr : r < 40) : SMet l m_X2_known d [.ref 1, .int (nI r)] (xC k z) (rI k z (k_kn k r)) := SMet_of 0 (by decide) (Nat.le_of_ble_eq_true rfl) (t_X2_known_0 _ _ _ ⟨r, rfl, hr, rfl, rfl⟩)
theorem c_wrongOf (l : Launch) (d : Nat) (k : cK) (z : cZ) {p : Nat} (hp : p < 8) : SMet l m_X2_wrongOf d [.ref 1, .int (nI p)] (xC k z) (rI k z (k_wr k p)) := SMet_of 0 (by decide) (Nat.le_of_ble_eq_true rfl) (t_X2_wrongOf_0 _ _ _ ⟨p, rfl, hp, rfl, rfl⟩)
noncomputable def gbN (k : cK) (p : Nat) : Nat := cnt (k_n k) (fun r => k_gv k p r ≠ -1)
theorem c_givenBy (l : Launch) (d : Nat) (k : cK) (z : cZ) {p : Nat} (hp : p < 8) (hn : k_n k ≤ 40) : SMet l m_X2_givenBy d [.ref 1, .int (nI p)] (xC k z) (rI k z (nI (gbN k p))) := by
  refine SMet_of 2 (by decide) (Nat.le_of_ble_eq_true rfl) (t_X2_givenBy_0 _ _ _ ?_)
  refine aw_up (k_n k) (fun r => SW l m_X2_givenBy none _ d 0 0 _ 4 [some (.ref 1), some (.int (nI p)), some (.int (nI (cnt r (fun r => k_gv k p r ≠ -1)))), some (.int (nI r))] [] (xC k z)) ?_ ?_ 0 (Nat.zero_le _)
  · exact t_X2_givenBy_4 _ _ _ (br_t (nI_le (Nat.le_refl _) (by omega)) ⟨rfl, rfl⟩)
  · intro r hr ih
    simp only [nI_succ] at ih
    refine t_X2_givenBy_4 _ _ _ (br_f (nI_ge hr (by omega)) ?_)
    refine ⟨p, rfl, hp, i_r (xC_gv k z hp) rfl ?_⟩
    refine ⟨r, rfl, by omega, ⟨fun c => ?_, fun c => ?_⟩⟩
    · rw [cnt_f (fun h => h c)] at ih
      exact ih
    · rw [cnt_t (P := fun r => k_gv k p r ≠ -1) c, nI_succ] at ih
      exact ih
noncomputable def goN (k : cK) (r : Nat) : Nat := cnt 8 (fun p => k_gv k p r ≠ -1)
theorem c_givenOn (l : Launch) (d : Nat) (k : cK) (z : cZ) {r : Nat} (hr : r < 40) : SMet l m_X2_givenOn d [.ref 1, .int (nI r)] (xC k z) (rI k z (nI (goN k r))) := by
  refine SMet_of 2 (by decide) (Nat.le_of_ble_eq_true rfl) (t_X2_givenOn_0 _ _ _ ?_)
  refine aw_up 8 (fun p => SW l m_X2_givenOn none _ d 0 0 _ 4 [some (.ref 1), some (.int (nI r)), some (.int (nI (cnt p (fun p => k_gv k p r ≠ -1)))), some (.int (nI p))] [] (xC k z)) ?_ ?_ 0 (Nat.zero_le _)
  · exact t_X2_givenOn_4 _ _ _ (br_t (nI_le (Nat.le_refl _) (by omega)) ⟨rfl, rfl⟩)
  · intro p hp ih
    simp only [nI_succ] at ih
    refine t_X2_givenOn_4 _ _ _ (br_f (nI_ge (b := 8) hp (by decide)) ?_)
    refine ⟨p, rfl, hp, i_r (xC_gv k z hp) rfl ?_⟩
    refine ⟨r, rfl, hr, ⟨fun c => ?_, fun c => ?_⟩⟩
    · rw [cnt_f (fun h => h c)] at ih
      exact ih
    · rw [cnt_t (P := fun p => k_gv k p r ≠ -1) c, nI_succ] at ih
      exact ih
noncomputable def knN (k : cK) : Nat := cnt (k_n k) (fun r => k_kn k r ≠ -1)
theorem c_countKnown (l : Launch) (d : Nat) (k : cK) (z : cZ) (hn : k_n k ≤ 40) : SMet l m_X2_countKnown d [.ref 1] (xC k z) (rI k z (nI (knN k))) := by
  refine SMet_of 2 (by decide) (Nat.le_of_ble_eq_true rfl) (t_X2_countKnown_0 _ _ _ ?_)
  refine aw_up (k_n k) (fun r => SW l m_X2_countKnown none _ d 0 0 _ 4 [some (.ref 1), some (.int (nI (cnt r (fun r => k_kn k r ≠ -1)))), some (.int (nI r))] [] (xC k z)) ?_ ?_ 0 (Nat.zero_le _)
  · exact t_X2_countKnown_4 _ _ _ (br_t (nI_le (Nat.le_refl _) (by omega)) ⟨rfl, rfl⟩)
  · intro r hr ih
    simp only [nI_succ] at ih
    refine t_X2_countKnown_4 _ _ _ (br_f (nI_ge hr (by omega)) ?_)
    refine ⟨r, rfl, by omega, ⟨fun c => ?_, fun c => ?_⟩⟩
    · rw [cnt_f (fun h => h c)] at ih
      exact ih
    · rw [cnt_t (P := fun r => k_kn k r ≠ -1) c, nI_succ] at ih
      exact ih
/-- one label more -/
abbrev u2 (f : Nat → vF) (p r : Nat) (x : Int32) : Nat → vF := fun q => if q = p then upd (f p) r x else f q
theorem xC_s_gv (k : cK) (z : cZ) {p : Nat} (h : p < 8) (r : Nat) (x : Int32) : aw_s (xC k z) (15 + p) (a_i 40 (upd (k_gv k p) r x)) = xC (s_gv k (u2 (k_gv k) p r x)) z := by
  rcases (show p = 0 ∨ p = 1 ∨ p = 2 ∨ p = 3 ∨ p = 4 ∨ p = 5 ∨ p = 6 ∨ p = 7 by omega) with rfl | rfl | rfl | rfl | rfl | rfl | rfl | rfl <;> rfl
abbrev s_give (k : cK) (p r : Nat) (x : Int32) : cK := s_gv k (u2 (k_gv k) p r x)
theorem c_give (l : Launch) (d : Nat) (k : cK) (z : cZ) {p r : Nat} (x : Int32) (hp : p < 8) (hr : r < 40) (hn : k_n k ≤ 40) : SMet l m_X2_give (d + 1) [.ref 1, .int (nI p), .int (nI r), .int x] (xC k z) (rV (s_wr (s_give k p r x) (upd (k_wr k) p (nI (wrN (s_give k p r x) p)))) z) := by
  refine SMet_of 0 (by decide) (Nat.le_of_ble_eq_true rfl) (t_X2_give_0 _ _ _ ?_)
  refine ⟨p, rfl, hp, i_r (xC_gv k z hp) rfl ?_⟩
  refine ⟨r, rfl, hr, ?_⟩
  rw [xC_s_gv k z hp]
  refine ⟨_, c_countWrong l d (s_give k p r x) z hp hn, ?_⟩
  rintro _ _ ⟨rfl, rfl⟩
  exact ⟨rfl, rfl⟩
/-- all of WRONG counted anew -/
noncomputable def wrUp (k : cK) (f : vF) : Nat → vF
  | 0 => f
  | q + 1 => upd (wrUp k f q) q (nI (wrN k q))
theorem c_setKnown (l : Launch) (d : Nat) (k : cK) (z : cZ) {r : Nat} (x : Int32) (hr : r < 40) (hn : k_n k ≤ 40) : SMet l m_X2_setKnown (d + 1) [.ref 1, .int (nI r), .int x] (xC k z) (rV (s_wr (s_kn k (upd (k_kn k) r x)) (wrUp (s_kn k (upd (k_kn k) r x)) (k_wr k) 8)) z) := by
  refine SMet_of 1 (by decide) (Nat.le_of_ble_eq_true rfl) (t_X2_setKnown_0 _ _ _ ?_)
  refine ⟨r, rfl, hr, ?_⟩
  refine aw_up 8 (fun q => SW l m_X2_setKnown none _ (d + 1) 0 0 _ 9 [some (.ref 1), some (.int (nI r)), some (.int x), some (.int (nI q))] [] (xC (s_wr (s_kn k (upd (k_kn k) r x)) (wrUp (s_kn k (upd (k_kn k) r x)) (k_wr k) q)) z)) ?_ ?_ 0 (Nat.zero_le _)
  · exact t_X2_setKnown_9 _ _ _ (br_t (nI_le (Nat.le_refl _) (by omega)) ⟨rfl, rfl⟩)
  · intro q hq ih
    simp only [nI_succ] at ih
    refine t_X2_setKnown_9 _ _ _ (br_f (nI_ge (b := 8) hq (by decide)) ?_)
    refine ⟨_, c_countWrong l d (s_wr (s_kn k (upd (k_kn k) r x)) (wrUp (s_kn k (upd (k_kn k) r x)) (k_wr k) q)) z hq hn, ?_⟩
    rintro _ _ ⟨rfl, rfl⟩
    exact ih
/-- one row more -/
abbrev s_row (k : cK) (f0 f1 f2 f3 : Int32) : cK := ((fun i => if i = 0 then upd (k_ft k 0) (k_n k) f0 else if i = 1 then upd (k_ft k 1) (k_n k) f1 else if i = 2 then upd (k_ft k 2) (k_n k) f2 else if i = 3 then upd (k_ft k 3) (k_n k) f3 else k_ft k i, k_gv k, k_kn k, k_wr k, k_n k + 1), k.2)
theorem c_addRow (l : Launch) (d : Nat) (k : cK) (z : cZ) (f0 f1 f2 f3 : Int32) (hn : k_n k ≤ 40) : SMet l m_X2_addRow d [.ref 1, .int f0, .int f1, .int f2, .int f3] (xC k z) (fun v C => (k_n k < 40 ∧ v = some (.int (nI (k_n k))) ∧ C = xC (s_row k f0 f1 f2 f3) z) ∨ (¬ k_n k < 40 ∧ v = some (.int (-104)) ∧ C = xC k z)) := by
  refine SMet_of 0 (by decide) (Nat.le_of_ble_eq_true rfl) (t_X2_addRow_0 _ _ _ ?_)
  by_cases h : k_n k < 40
  · refine br_t (nI_lt (b := 40) h (by decide)) ?_
    refine ⟨0, rfl, by decide, ⟨k_n k, rfl, h, ?_⟩⟩
    refine ⟨1, rfl, by decide, ⟨k_n k, rfl, h, ?_⟩⟩
    refine ⟨2, rfl, by decide, ⟨k_n k, rfl, h, ?_⟩⟩
    refine ⟨3, rfl, by decide, ⟨k_n k, rfl, h, ?_⟩⟩
    refine Or.inl ⟨h, rfl, ?_⟩
    simp only [xC, nI_succ]
    rfl
  · exact br_f (nI_nlt (b := 40) (by omega) (by omega)) (Or.inr ⟨h, rfl, rfl⟩)
end
section
/-! Arrays.fill, Math.floorMod, the rule book -/
/-- a row of n places with x in the first k of them -/
def flF (f : vF) (x : Int32) (k : Nat) : vF := fun i => if i < k then x else f i
theorem flF_s (f : vF) (x : Int32) (k : Nat) : flF f x (k + 1) = upd (flF f x k) k x := by
  funext i
  unfold flF upd
  by_cases h : i = k
  · simp [h]
  · by_cases h2 : i < k
    · simp [h, h2, show i < k + 1 by omega]
    · simp [h, h2, show ¬ i < k + 1 by omega]
theorem flF_0 (f : vF) (x : Int32) : flF f x 0 = f := by
  funext i
  unfold flF
  simp
theorem aw_ss {α : Type} (l : List α) (i : Nat) (x y : α) : aw_s (aw_s l i x) i y = aw_s l i y := by
  rw [aw_s_eq, aw_s_eq, aw_s_eq, List.set_set]
theorem aw_gs {α : Type} {l : List α} {i : Nat} {x y : α} (h : aw_g l i = some y) : aw_g (aw_s l i x) i = some x := by
  have hl := aw_lt h
  rw [aw_g_eq, aw_s_eq, List.getElem?_set_self hl]
theorem aw_s_id {α : Type} {l : List α} {i : Nat} {y : α} (h : aw_g l i = some y) : aw_s l i y = l := by
  rw [aw_g_eq] at h
  rw [aw_s_eq]
  obtain ⟨h1, h2⟩ := List.getElem?_eq_some_iff.mp h
  rw [← h2]
  exact List.set_getElem_self h1
theorem c_fill (l : Launch) (d : Nat) (C : aw_H) {a n : Nat} {f : vF} (x : Int32) (ha : aw_g C a = some (a_i n f)) (hn : n ≤ 1000) : SMet l m_J7_fill_53178 d [.ref a, .int x] C (fun v C' => v = none ∧ C' = aw_s C a (a_i n (flF f x n))) := by
  have hb : (Nat.beq 0 0 && Nat.ble n 100000) = true := by
    rw [Nat.ble_eq_true_of_le (by omega)]
    rfl
  refine SMet_of 2 (by decide) (Nat.le_of_ble_eq_true rfl) (t_J7_fill_53178_0 _ _ _ ?_)
  refine i_r ha hb ?_
  have e0 : C = aw_s C a (a_i n (flF f x 0)) := by rw [flF_0, aw_s_id ha]
  show SW l m_J7_fill_53178 none _ d 0 0 _ 5 [some (.ref a), some (.int x), some (.int 0), some (.int (nI n))] [] C
  have key := aw_up n (fun q => SW l m_J7_fill_53178 none (fun _ _ _ _ => False) d 0 0 (fun v C' => v = none ∧ C' = aw_s C a (a_i n (flF f x n))) 5 [some (.ref a), some (.int x), some (.int (nI q)), some (.int (nI n))] [] (aw_s C a (a_i n (flF f x q)))) ?_ ?_ 0 (Nat.zero_le _)
  · rw [← e0] at key
    exact key
  · exact t_J7_fill_53178_5 _ _ _ (br_t (nI_le (Nat.le_refl _) (by omega)) ⟨rfl, rfl⟩)
  · intro q hq ih
    simp only [nI_succ, flF_s] at ih
    refine t_J7_fill_53178_5 _ _ _ (br_f (nI_ge hq (by omega)) ?_)
    refine i_r (aw_gs ha) hb ?_
    refine ⟨q, rfl, hq, ?_⟩
    rw [aw_ss]
    exact ih
/-- the rest by 5, not below 0 -/
def rest5 (x : Int32) : Int32 := if x - x / 5 * 5 < 0 then x - x / 5 * 5 + 5 else x - x / 5 * 5
theorem xor5 (x : Int32) : (0 ≤ x ^^^ 5) ↔ ¬ x < 0 := by
  rw [Int32.le_iff_toInt_le, Int32.lt_iff_toInt_lt]
  have h : (x ^^^ 5).toBitVec.msb = x.toBitVec.msb := by
    rw [Int32.toBitVec_xor, BitVec.msb_xor]
    show (x.toBitVec.msb ^^ (5#32).msb) = x.toBitVec.msb
    rw [show (5#32).msb = false from by decide]
    simp
  have a := BitVec.msb_eq_toInt (x := (x ^^^ 5).toBitVec)
  have b := BitVec.msb_eq_toInt (x := x.toBitVec)
  rw [h] at a
  rw [a] at b
  have a2 : (x ^^^ 5).toBitVec.toInt = (x ^^^ 5).toInt := rfl
  have b2 : x.toBitVec.toInt = x.toInt := rfl
  rw [a2, b2] at b
  have c := decide_eq_decide.mp b
  rw [Int32.toInt_zero]
  omega
theorem m5_toInt (x : Int32) : (x - x / 5 * 5).toInt = x.toInt.tmod 5 := rem_toInt x 5
theorem c_floorMod (l : Launch) (d : Nat) (C : aw_H) (x : Int32) : SMet l m_J9_floorMod_7cf53 d [.int x, .int 5] C (fun v C' => v = some (.int (rest5 x)) ∧ C' = C) := by
  refine SMet_ofF 1 (by decide +kernel) (Nat.le_of_ble_eq_true rfl) (t_J9_floorMod_7cf53_0 _ _ _ ?_)
  have hm := m5_toInt x
  have hb := tmod_bounds (a := x.toInt) (M := 5) (by decide)
  refine ⟨by decide, ⟨fun c => ⟨?_, rfl⟩, fun c => ⟨fun c2 => ⟨?_, rfl⟩, fun c2 => ⟨?_, rfl⟩⟩⟩⟩
  · have c' := (xor5 x).mp c
    have h : ¬ x - x / 5 * 5 < 0 := by
      rw [Int32.lt_iff_toInt_lt, Int32.toInt_zero] at c' ⊢
      rw [hm, Int.tmod_eq_emod_of_nonneg (by omega)]
      omega
    rw [rest5, if_neg h]
  · have h : ¬ x - x / 5 * 5 < 0 := by
      have c2' : x - x / 5 * 5 = 0 := c2
      rw [c2']
      decide
    rw [rest5, if_neg h]
  · have c' : x < 0 := Classical.byContradiction fun q => c ((xor5 x).mpr q)
    have h : x - x / 5 * 5 < 0 := by
      have c2' : ¬ x - x / 5 * 5 = 0 := c2
      rw [← Int32.toInt_inj, Int32.toInt_zero, hm] at c2'
      rw [Int32.lt_iff_toInt_lt, Int32.toInt_zero] at c' ⊢
      rw [hm]
      have e : x.toInt.tmod 5 = -((-x.toInt).tmod 5) := by rw [Int.neg_tmod, Int.neg_neg]
      rw [Int.tmod_eq_emod_of_nonneg (a := -x.toInt) (by omega)] at e
      omega
    rw [rest5, if_pos h]
theorem ix_toInt {x : Int32} {n : Nat} (h0 : 0 ≤ x.toInt) (h : x.toInt < n) (hn : n < 2 ^ 31) : ix x n := by
  refine ix_of ?_ ?_ hn
  · rw [Int32.lt_iff_toInt_lt, Int32.toInt_zero]
    omega
  · rw [Int32.le_iff_toInt_le, nI_toInt hn]
    omega
theorem rest5_ix (x : Int32) : ix (rest5 x) 5 := by
  have hm := m5_toInt x
  have hb := tmod_bounds (a := x.toInt) (M := 5) (by decide)
  unfold rest5
  split
  next h =>
    rw [Int32.lt_iff_toInt_lt, Int32.toInt_zero] at h
    have e : (x - x / 5 * 5 + 5).toInt = (x - x / 5 * 5).toInt + 5 := by
      rw [Int32.toInt_add, show (5 : Int32).toInt = 5 from rfl]
      exact Int.bmod_eq_of_le (by omega) (by omega)
    exact ix_toInt (by omega) (by omega) (by decide)
  next h =>
    rw [Int32.lt_iff_toInt_lt, Int32.toInt_zero] at h
    exact ix_toInt (by omega) (by omega) (by decide)
/-- a choice -/
noncomputable def cI (b : Prop) (x y : Int32) : Int32 := @ite Int32 b (Classical.propDecidable b) x y
theorem cI_t {b : Prop} {x y : Int32} (h : b) : cI b x y = x := if_pos h
theorem cI_f {b : Prop} {x y : Int32} (h : ¬ b) : cI b x y = y := if_neg h
/-- what a state of the class is -/
def WF (k : cK) : Prop := k_n k ≤ 40 ∧ k_rn k ≤ 6 ∧ (∀ q, q < k_rn k → ix (k_kd k q) 4 ∧ ix (k_fi k q) 4 ∧ ix (k_se k q) 4) ∧ (∀ q, q < 6 → k_on k q = 0 ∨ k_on k q = 1) ∧ (∀ p, p < 8 → k_ex k p = 0 ∨ k_ex k p = 1) ∧
  (∀ p, p < 8 → ∃ t : Nat, t ≤ 10 ∧ k_tr k p = nI t) ∧ (∀ p r, p < 8 → r < 40 → k_gv k p r = -1 ∨ ix (k_gv k p r) 5) ∧ (∀ r, r < 40 → k_kn k r = -1 ∨ ix (k_kn k r) 5) ∧ (∀ p, p < 8 → k_wr k p = nI (wrN k p)) ∧ (∀ p r, p < 8 → k_n k ≤ r → r < 40 → k_gv k p r = -1) ∧ (∀ r, k_n k ≤ r → r < 40 → k_kn k r = -1)
theorem WF.n {k : cK} (h : WF k) : k_n k ≤ 40 := h.1
theorem WF.rn {k : cK} (h : WF k) : k_rn k ≤ 6 := h.2.1
theorem WF.ru {k : cK} (h : WF k) {q : Nat} (hq : q < k_rn k) : ix (k_kd k q) 4 ∧ ix (k_fi k q) 4 ∧ ix (k_se k q) 4 := h.2.2.1 q hq
theorem WF.on {k : cK} (h : WF k) {q : Nat} (hq : q < 6) : k_on k q = 0 ∨ k_on k q = 1 := h.2.2.2.1 q hq
theorem WF.ex {k : cK} (h : WF k) {q : Nat} (hq : q < 8) : k_ex k q = 0 ∨ k_ex k q = 1 := h.2.2.2.2.1 q hq
theorem WF.tr {k : cK} (h : WF k) {q : Nat} (hq : q < 8) : ∃ t : Nat, t ≤ 10 ∧ k_tr k q = nI t := h.2.2.2.2.2.1 q hq
theorem WF.gv {k : cK} (h : WF k) {p r : Nat} (hp : p < 8) (hr : r < 40) : k_gv k p r = -1 ∨ ix (k_gv k p r) 5 := h.2.2.2.2.2.2.1 p r hp hr
theorem WF.kn {k : cK} (h : WF k) {r : Nat} (hr : r < 40) : k_kn k r = -1 ∨ ix (k_kn k r) 5 := h.2.2.2.2.2.2.2.1 r hr
theorem WF.wr {k : cK} (h : WF k) {p : Nat} (hp : p < 8) : k_wr k p = nI (wrN k p) := h.2.2.2.2.2.2.2.2.1 p hp
theorem c_bsize (l : Launch) (d : Nat) (k : cK) (z : cZ) : SMet l m_X1_size d [.ref 2] (xC k z) (rI k z (nI (k_rn k))) := SMet_of 0 (by decide) (by decide) (t_X1_size_0 _ _ _ ⟨rfl, rfl⟩)
theorem c_hasRule (l : Launch) (d : Nat) (k : cK) (z : cZ) (x : Int32) (hn : k_rn k ≤ 6) : SMet l m_X1_hasRule d [.ref 2, .int x] (xC k z) (rI k z (bI (ix x (k_rn k)))) := by
  refine SMet_of 0 (by decide) (Nat.le_of_ble_eq_true rfl) (t_X1_hasRule_0 _ _ _ ?_)
  refine ⟨fun c => ⟨Or.inl rfl, by rw [bI_f (ix_neg c (by omega))], rfl⟩, fun c => ⟨fun c2 => ⟨Or.inl rfl, by rw [bI_f (ix_ge c2 (by omega))], rfl⟩, fun c2 => ⟨Or.inr rfl, by rw [bI_t (ix_of c c2 (by omega))], rfl⟩⟩⟩
/-- one rule more -/
abbrev s_rule (k : cK) (a i j c : Int32) : cK := (k.1, (upd (k_kd k) (k_rn k) a, upd (k_fi k) (k_rn k) i, upd (k_se k) (k_rn k) j, upd (k_co k) (k_rn k) c, upd (k_on k) (k_rn k) 1, k_pl k, k_rn k + 1), k.2.2)
theorem c_addRule (l : Launch) (d : Nat) (k : cK) (z : cZ) (a i j c : Int32) (hn : k_rn k ≤ 6) : SMet l m_X1_addRule d [.ref 2, .int a, .int i, .int j, .int c] (xC k z) (fun v C => (k_rn k < 6 ∧ v = some (.int (nI (k_rn k))) ∧ C = xC (s_rule k a i j c) z) ∨ (¬ k_rn k < 6 ∧ v = some (.int (-104)) ∧ C = xC k z)) := by
  refine SMet_of 0 (by decide) (Nat.le_of_ble_eq_true rfl) (t_X1_addRule_0 _ _ _ ?_)
  by_cases h : k_rn k < 6
  · refine br_t (nI_lt (b := 6) h (by decide)) ?_
    refine ⟨k_rn k, rfl, h, ⟨k_rn k, rfl, h, ⟨k_rn k, rfl, h, ⟨k_rn k, rfl, h, ⟨k_rn k, rfl, h, Or.inr rfl, ?_⟩⟩⟩⟩⟩
    refine Or.inl ⟨h, rfl, ?_⟩
    simp only [xC, nI_succ]
    rfl
  · exact br_f (nI_nlt (b := 6) (by omega) (by omega)) (Or.inr ⟨h, rfl, rfl⟩)
theorem c_isOn (l : Launch) (d : Nat) (k : cK) (z : cZ) {q : Nat} (hq : q < 6) (w : WF k) : SMet l m_X1_isOn d [.ref 2, .int (nI q)] (xC k z) (rI k z (k_on k q)) := SMet_of 0 (by decide) (Nat.le_of_ble_eq_true rfl) (t_X1_isOn_0 _ _ _ ⟨q, rfl, hq, w.on hq, rfl, rfl⟩)
abbrev s_on (k : cK) (f : vF) : cK := (k.1, (k_kd k, k_fi k, k_se k, k_co k, f, k_pl k, k_rn k), k.2.2)
theorem c_setOn (l : Launch) (d : Nat) (k : cK) (z : cZ) {q : Nat} (x : Int32) (hq : q < 6) (hx : x = 0 ∨ x = 1) : SMet l m_X1_setOn d [.ref 2, .int (nI q), .int x] (xC k z) (rV (s_on k (upd (k_on k) q x)) z) := SMet_of 0 (by decide) (Nat.le_of_ble_eq_true rfl) (t_X1_setOn_0 _ _ _ ⟨q, rfl, hq, hx, rfl, rfl⟩)
abbrev s_pl (k : cK) (f : vF) : cK := (k.1, (k_kd k, k_fi k, k_se k, k_co k, k_on k, f, k_rn k), k.2.2)
theorem c_replace (l : Launch) (d : Nat) (k : cK) (z : cZ) {q : Nat} (x : Int32) (hq : q < 8) : SMet l m_X1_replace d [.ref 2, .int (nI q), .int x] (xC k z) (rI (s_pl k (upd (k_pl k) q x)) z (k_pl k q)) := SMet_of 1 (by decide) (Nat.le_of_ble_eq_true rfl) (t_X1_replace_0 _ _ _ ⟨q, rfl, hq, ⟨q, rfl, hq, rfl, rfl⟩⟩)
/-- what a rule says of a row; -2, -3: it abstains -/
noncomputable def wI (k : cK) (q r : Nat) : Int32 :=
  cI (k_kd k q = 0) (cI (k_ft k (k_se k q).toNatClampNeg r = 0) (-2) (rest5 (k_ft k (k_fi k q).toNatClampNeg r / k_ft k (k_se k q).toNatClampNeg r)))
  (cI (k_kd k q = 1) (cI (k_ft k (k_se k q).toNatClampNeg r = 0) (-2) (rest5 (k_ft k (k_fi k q).toNatClampNeg r - k_ft k (k_fi k q).toNatClampNeg r / k_ft k (k_se k q).toNatClampNeg r * k_ft k (k_se k q).toNatClampNeg r)))
  (cI (k_kd k q = 2) (cI (ix (k_ft k (k_fi k q).toNatClampNeg r + k_co k q) 8) (rest5 (k_pl k (k_ft k (k_fi k q).toNatClampNeg r + k_co k q).toNatClampNeg)) (-3))
  (cI (k_co k q ≤ k_ft k (k_fi k q).toNatClampNeg r) 1 0)))
theorem c_featureX (l : Launch) (d : Nat) (k : cK) (z : cZ) {x : Int32} {p r : Nat} (hx : x = nI p) (hp : p < 4) (hr : r < 40) : SMet l m_X2_feature d [.ref 1, .int x, .int (nI r)] (xC k z) (rI k z (k_ft k p r)) := by
  subst hx
  exact c_feature l d k z hp hr
theorem c_wordOn (l : Launch) (d : Nat) (k : cK) (z : cZ) {q r : Nat} (hq : q < k_rn k) (hr : r < 40) (w : WF k) : SMet l m_X1_wordOn (d + 1) [.ref 2, .int (nI q), .ref 1, .int (nI r)] (xC k z) (rI k z (wI k q r)) := by
  have h6 : q < 6 := Nat.lt_of_lt_of_le hq w.rn
  obtain ⟨-, ⟨i, hi, ei⟩, ⟨j, hj, ej⟩⟩ := w.ru hq
  have ci : (k_fi k q).toNatClampNeg = i := by rw [ei]; exact nI_clamp (by omega)
  have cj : (k_se k q).toNatClampNeg = j := by rw [ej]; exact nI_clamp (by omega)
  refine SMet_of 3 (by decide) (Nat.le_of_ble_eq_true rfl) (t_X1_wordOn_0 _ _ _ ?_)
  refine ⟨q, rfl, h6, ⟨_, c_featureX l d k z ei hi hr, ?_⟩⟩
  rintro _ _ ⟨rfl, rfl⟩
  refine ⟨q, rfl, h6, ⟨_, c_featureX l d k z ej hj hr, ?_⟩⟩
  rintro _ _ ⟨rfl, rfl⟩
  refine ⟨q, rfl, h6, ?_⟩
  unfold wI
  rw [ci, cj]
  refine ⟨fun c => ?_, fun c => ?_, fun c => ?_, fun c => ?_, trivial⟩
  · have n0 : ¬ k_kd k q = 0 := fun e => by rw [e] at c; revert c; decide
    have n1 : ¬ k_kd k q = 1 := fun e => by rw [e] at c; revert c; decide
    have n2 : ¬ k_kd k q = 2 := fun e => by rw [e] at c; revert c; decide
    rw [cI_f n0, cI_f n1, cI_f n2]
    exact ⟨q, rfl, h6, ⟨fun c => ⟨by rw [cI_t c], rfl⟩, fun c => ⟨by rw [cI_f c], rfl⟩⟩⟩
  · have e0 : k_kd k q = 0 := c
    rw [cI_t e0]
    refine ⟨fun c => ⟨by rw [cI_t c], rfl⟩, fun c => ⟨c, ⟨_, c_floorMod l d _ _, ?_⟩⟩⟩
    rintro _ _ ⟨rfl, rfl⟩
    exact ⟨by rw [cI_f c], rfl⟩
  · have e1 : k_kd k q = 1 := c
    have n0 : ¬ k_kd k q = 0 := fun e => by rw [e1] at e; revert e; decide
    rw [cI_f n0, cI_t e1]
    refine ⟨fun c => ⟨by rw [cI_t c], rfl⟩, fun c => ⟨c, ⟨_, c_floorMod l d _ _, ?_⟩⟩⟩
    rintro _ _ ⟨rfl, rfl⟩
    exact ⟨by rw [cI_f c], rfl⟩
  · have e2 : k_kd k q = 2 := c
    have n0 : ¬ k_kd k q = 0 := fun e => by rw [e2] at e; revert e; decide
    have n1 : ¬ k_kd k q = 1 := fun e => by rw [e2] at e; revert e; decide
    rw [cI_f n0, cI_f n1, cI_t e2]
    refine ⟨q, rfl, h6, ⟨_, c_isPlace l d _ _, ?_⟩⟩
    rintro _ _ ⟨rfl, rfl⟩
    refine br_b (fun c => ⟨by rw [cI_f c], rfl⟩) (fun c => ?_)
    rw [cI_t c]
    obtain ⟨g, hg, eg⟩ := c
    refine ⟨g, eg, hg, ⟨_, c_floorMod l d _ _, ?_⟩⟩
    rintro _ _ ⟨rfl, rfl⟩
    refine ⟨?_, rfl⟩
    have eg2 : k_ft k i r + k_co k q = nI g := eg
    rw [eg2, nI_clamp (by omega)]
end
section
/-! votes and decisions -/
abbrev rZ (k : cK) (x : Int32) : Option Value → aw_H → Prop := fun v C => v = some (.int x) ∧ ∃ z, C = xC k z
def brd (k : cK) (p : Nat) : Prop := ¬ k_wr k p < k_bd k
theorem c_isBarred (l : Launch) (d : Nat) (k : cK) (z : cZ) {p : Nat} (hp : p < 8) : SMet l m_X3_isBarred (d + 1) [.ref 0, .int (nI p)] (xC k z) (rI k z (bI (brd k p))) := by
  refine SMet_of 0 (by decide) (Nat.le_of_ble_eq_true rfl) (t_X3_isBarred_0 _ _ _ ?_)
  refine ⟨_, c_wrongOf l d k z hp, ?_⟩
  rintro _ _ ⟨rfl, rfl⟩
  exact ⟨fun c => ⟨Or.inl rfl, by rw [bI_f (fun h => h c)], rfl⟩, fun c => ⟨Or.inr rfl, by rw [bI_t (show brd k p from c)], rfl⟩⟩
abbrev z_sta (z : cZ) (f : vF) : cZ := (z.1, f, z_de z, z_fr z)
/-- VOTES of a label on a row: of the first persons, of all and the first rules -/
noncomputable def vP (k : cK) (r a : Nat) : Nat → Int32
  | 0 => 0
  | p + 1 => cI (k_gv k p r = nI a ∧ ¬ brd k p) (vP k r a p + k_tr k p) (vP k r a p)
noncomputable def vR (k : cK) (r a : Nat) : Nat → Int32
  | 0 => vP k r a 8
  | q + 1 => cI (k_on k q ≠ 0 ∧ wI k q r = nI a) (vR k r a q + 1) (vR k r a q)
noncomputable def vtI (k : cK) (r a : Nat) : Int32 := vR k r a (k_rn k)
theorem c_countVotes (l : Launch) (d : Nat) (k : cK) (z : cZ) {r : Nat} (hr : r < 40) (w : WF k) : SMet l m_X3_countVotes (d + 2) [.ref 0, .int (nI r)] (xC k z) (fun v C => v = none ∧ ∃ f, C = xC k (z_sta z f) ∧ ∀ a, a < 5 → f a = vtI k r a) := by
  refine SMet_of 2 (by decide) (Nat.le_of_ble_eq_true rfl) (t_X3_countVotes_0 _ _ _ ?_)
  refine ⟨_, c_fill l (d + 1) (xC k z) (a := 6) (n := 5) (f := z_ta z) 0 rfl (by decide), ?_⟩
  rintro _ _ ⟨rfl, rfl⟩
  have rules : ∀ q, q ≤ k_rn k → ∀ (f : vF) (j : Option Value), (∀ a, a < 5 → f a = vR k r a q) → SW l m_X3_countVotes none (fun _ _ _ _ => False) (d + 2) 0 0 (fun v C => v = none ∧ ∃ f, C = xC k (z_sta z f) ∧ ∀ a, a < 5 → f a = vtI k r a) 64 [some (.ref 0), some (.int (nI r)), some (.int (nI q)), j] [] (xC k (z_sta z f)) := by
    refine aw_up (k_rn k) _ ?_ ?_
    · intro f j hf
      refine t_X3_countVotes_64 _ _ _ ⟨_, c_bsize l (d + 1) k _, ?_⟩
      rintro _ _ ⟨rfl, rfl⟩
      exact br_t (nI_le (Nat.le_refl _) (by have := w.rn; omega)) ⟨rfl, f, rfl, hf⟩
    · intro q hq ih f j hf
      simp only [nI_succ] at ih
      have h6 : q < 6 := Nat.lt_of_lt_of_le hq w.rn
      refine t_X3_countVotes_64 _ _ _ ⟨_, c_bsize l (d + 1) k _, ?_⟩
      rintro _ _ ⟨rfl, rfl⟩
      refine br_f (nI_ge hq (by have := w.rn; omega)) ⟨_, c_isOn l (d + 1) k _ h6 w, ?_⟩
      rintro _ _ ⟨rfl, rfl⟩
      refine ⟨fun c => ?_, fun c => ⟨_, c_wordOn l d k _ hq hr w, ?_⟩⟩
      · refine ⟨_, c_isLabel l (d + 1) _ _, ?_⟩
        rintro _ _ ⟨rfl, rfl⟩
        refine br_t (bI_0.mpr (fun h => ?_)) (ih f _ (fun a ha => ?_))
        · exact ix_neg (by decide) (by decide) h
        · rw [hf a ha]
          exact (cI_f (fun h => h.1 c)).symm
      · rintro _ _ ⟨rfl, rfl⟩
        refine ⟨_, c_isLabel l (d + 1) _ _, ?_⟩
        rintro _ _ ⟨rfl, rfl⟩
        refine br_b (fun c2 => ih f _ (fun a ha => ?_)) (fun c2 => ?_)
        · rw [hf a ha]
          exact (cI_f (fun h => c2 ⟨a, ha, h.2⟩)).symm
        · obtain ⟨g, hg, eg⟩ := c2
          refine ⟨g, eg, hg, ⟨g, eg, hg, ih (upd f g (f g + 1)) _ (fun a ha => ?_)⟩⟩
          by_cases e : a = g
          · subst e
            rw [pk_us, hf a ha]
            exact (cI_t ⟨c, eg⟩).symm
          · rw [pk_un e, hf a ha]
            exact (cI_f (fun h => e ((nI_eq (by omega) (by omega)).mp (h.2.symm.trans eg)))).symm
  have persons : ∀ p, p ≤ 8 → ∀ (f : vF) (j : Option Value), (∀ a, a < 5 → f a = vP k r a p) → SW l m_X3_countVotes none (fun _ _ _ _ => False) (d + 2) 0 0 (fun v C => v = none ∧ ∃ f, C = xC k (z_sta z f) ∧ ∀ a, a < 5 → f a = vtI k r a) 10 [some (.ref 0), some (.int (nI r)), some (.int (nI p)), j] [] (xC k (z_sta z f)) := by
    refine aw_up 8 _ ?_ ?_
    · intro f j hf
      exact t_X3_countVotes_10 _ _ _ (br_t (nI_le (Nat.le_refl _) (by decide)) (rules 0 (Nat.zero_le _) f j hf))
    · intro p hp ih f j hf
      simp only [nI_succ] at ih
      refine t_X3_countVotes_10 _ _ _ (br_f (nI_ge (b := 8) hp (by decide)) ⟨_, c_given l (d + 1) k _ hp hr, ?_⟩)
      rintro _ _ ⟨rfl, rfl⟩
      refine ⟨_, c_isLabel l (d + 1) _ _, ?_⟩
      rintro _ _ ⟨rfl, rfl⟩
      refine br_b (fun c => ih f _ (fun a ha => ?_)) (fun c => ⟨_, c_isBarred l d k _ hp, ?_⟩)
      · rw [hf a ha]
        exact (cI_f (fun h => c ⟨a, ha, h.1⟩)).symm
      · rintro _ _ ⟨rfl, rfl⟩
        refine br_b (fun c2 => ?_) (fun c2 => ih f _ (fun a ha => ?_))
        · obtain ⟨g, hg, eg⟩ := c
          refine ⟨g, eg, hg, ⟨p, rfl, hp, ⟨g, eg, hg, ih (upd f g (f g + k_tr k p)) _ (fun a ha => ?_)⟩⟩⟩
          by_cases e : a = g
          · subst e
            rw [pk_us, hf a ha]
            exact (cI_t ⟨eg, c2⟩).symm
          · rw [pk_un e, hf a ha]
            exact (cI_f (fun h => e ((nI_eq (by omega) (by omega)).mp (h.1.symm.trans eg)))).symm
        · rw [hf a ha]
          exact (cI_f (fun h => h.2 c2)).symm
  exact persons 0 (Nat.zero_le _) (flF (z_ta z) 0 5) none (fun a ha => by simp [flF, ha, vP])
/-- the winner among the first, and the most -/
noncomputable def wnF (f : vF) : Nat → Int32 × Int32
  | 0 => (-1, 0)
  | a + 1 => (cI (f a ≤ (wnF f a).2) (cI (f a = (wnF f a).2) (-1) (wnF f a).1) (nI a), cI (f a ≤ (wnF f a).2) (wnF f a).2 (f a))
theorem wnF_c {f g : vF} : ∀ n, (∀ a, a < n → f a = g a) → wnF f n = wnF g n
  | 0, _ => rfl
  | n + 1, h => by
    unfold wnF
    rw [wnF_c n (fun a ha => h a (by omega)), h n (by omega)]
theorem c_winnerInTally (l : Launch) (d : Nat) (k : cK) (z : cZ) : SMet l m_X3_winnerInTally d [.ref 0] (xC k z) (rI k z (wnF (z_ta z) 5).1) := by
  refine SMet_of 3 (by decide) (Nat.le_of_ble_eq_true rfl) (t_X3_winnerInTally_0 _ _ _ ?_)
  refine aw_up 5 (fun a => SW l m_X3_winnerInTally none _ d 0 0 _ 6 [some (.ref 0), some (.int (wnF (z_ta z) a).1), some (.int (wnF (z_ta z) a).2), some (.int (nI a))] [] (xC k z)) ?_ ?_ 0 (Nat.zero_le _)
  · exact t_X3_winnerInTally_6 _ _ _ (br_t (nI_le (Nat.le_refl _) (by decide)) ⟨rfl, rfl⟩)
  · intro a ha ih
    simp only [nI_succ, wnF] at ih
    refine t_X3_winnerInTally_6 _ _ _ (br_f (nI_ge (b := 5) ha (by decide)) ⟨a, rfl, ha, ⟨fun c => ⟨a, rfl, ha, ⟨fun c2 => ?_, fun c2 => ?_⟩⟩, fun c => ⟨a, rfl, ha, ?_⟩⟩⟩)
    · rw [cI_t c, cI_t c, cI_t c2] at ih
      exact ih
    · rw [cI_t c, cI_t c, cI_f c2] at ih
      exact ih
    · rw [cI_f c, cI_f c] at ih
      exact ih
/-- the first of m from p on -/
noncomputable def fst1 (c : Nat → Prop) (g : vF) : Nat → Nat → Int32
  | 0, _ => -1
  | m + 1, p => cI (c p) (g p) (fst1 c g m (p + 1))
def exC (k : cK) (r : Nat) : Nat → Prop := fun p => k_ex k p ≠ 0 ∧ k_gv k p r ≠ -1 ∧ ¬ brd k p
noncomputable def exI (k : cK) (r : Nat) : Int32 := fst1 (exC k r) (fun p => k_gv k p r) 8 0
theorem c_expertOn (l : Launch) (d : Nat) (k : cK) (z : cZ) {r : Nat} (hr : r < 40) (w : WF k) : SMet l m_X3_expertOn (d + 2) [.ref 0, .int (nI r)] (xC k z) (rI k z (exI k r)) := by
  refine SMet_of 2 (by decide) (Nat.le_of_ble_eq_true rfl) (t_X3_expertOn_0 _ _ _ ?_)
  have key : ∀ m p, p + m = 8 → ∀ j, exI k r = fst1 (exC k r) (fun p => k_gv k p r) m p → SW l m_X3_expertOn none (fun _ _ _ _ => False) (d + 2) 0 0 (rI k z (exI k r)) 2 [some (.ref 0), some (.int (nI r)), some (.int (nI p)), j] [] (xC k z) := by
    intro m
    induction m with
    | zero =>
      intro p hp j e
      have : p = 8 := by omega
      subst this
      exact t_X3_expertOn_2 _ _ _ (br_t (nI_le (Nat.le_refl _) (by decide)) ⟨by rw [e]; rfl, rfl⟩)
    | succ m ih =>
      intro p hp j e
      have hp8 : p < 8 := by omega
      have ih := ih (p + 1) (by omega)
      simp only [nI_succ] at ih
      unfold fst1 at e
      refine t_X3_expertOn_2 _ _ _ (br_f (nI_ge (b := 8) hp8 (by decide)) ⟨_, c_given l (d + 1) k _ hp8 hr, ?_⟩)
      rintro _ _ ⟨rfl, rfl⟩
      refine ⟨p, rfl, hp8, ⟨fun c => ih _ ?_, fun c => ⟨fun c2 => ih _ ?_, fun c2 => ⟨_, c_isBarred l d k _ hp8, ?_⟩⟩⟩⟩
      · rw [e, cI_f (fun h => h.1 c)]
      · rw [e, cI_f (fun h => h.2.1 c2)]
      · rintro _ _ ⟨rfl, rfl⟩
        refine br_b (fun c3 => ⟨?_, rfl⟩) (fun c3 => ih _ ?_)
        · rw [e, cI_t ⟨c, c2, c3⟩]
        · rw [e, cI_f (fun h => h.2.2 c3)]
  exact key 8 0 rfl none rfl
noncomputable def decI (k : cK) (r : Nat) : Int32 := cI (k_kn k r = -1) (cI ((wnF (vtI k r) 5).1 = -1) (exI k r) (wnF (vtI k r) 5).1) (k_kn k r)
theorem c_decide (l : Launch) (d : Nat) (k : cK) (z : cZ) {r : Nat} (hr : r < 40) (w : WF k) : SMet l m_X3_decide (d + 3) [.ref 0, .int (nI r)] (xC k z) (rZ k (decI k r)) := by
  refine SMet_of 1 (by decide) (Nat.le_of_ble_eq_true rfl) (t_X3_decide_0 _ _ _ ?_)
  refine ⟨_, c_known l (d + 2) k z hr, ?_⟩
  rintro _ _ ⟨rfl, rfl⟩
  refine ⟨fun c => ⟨_, c_countVotes l d k z hr w, ?_⟩, fun c => ⟨_, c_known l (d + 2) k z hr, ?_⟩⟩
  · rintro _ _ ⟨rfl, f, rfl, hf⟩
    refine ⟨_, c_winnerInTally l (d + 2) k _, ?_⟩
    rintro _ _ ⟨rfl, rfl⟩
    have e : (wnF f 5).1 = (wnF (vtI k r) 5).1 := by rw [wnF_c 5 hf]
    refine ⟨fun c2 => ⟨_, c_expertOn l d k _ hr w, ?_⟩, fun c2 => ⟨?_, _, rfl⟩⟩
    · rintro _ _ ⟨rfl, rfl⟩
      exact ⟨by rw [decI, cI_t c, cI_t (e.symm.trans c2)], _, rfl⟩
    · have c3 : ¬ (wnF (vtI k r) 5).1 = -1 := fun h => c2 (e.trans h)
      rw [decI, cI_t c, cI_f c3, ← e]
  · rintro _ _ ⟨rfl, rfl⟩
    exact ⟨by rw [decI, cI_f c], _, rfl⟩
/-- the most among the first, and the second most -/
noncomputable def ldF (f : vF) : Nat → Int32 × Int32
  | 0 => (0, 0)
  | a + 1 => (cI (f a ≤ (ldF f a).1) (ldF f a).1 (f a), cI (f a ≤ (ldF f a).1) (cI (f a ≤ (ldF f a).2) (ldF f a).2 (f a)) (ldF f a).1)
theorem ldF_c {f g : vF} : ∀ n, (∀ a, a < n → f a = g a) → ldF f n = ldF g n
  | 0, _ => rfl
  | n + 1, h => by
    unfold ldF
    rw [ldF_c n (fun a ha => h a (by omega)), h n (by omega)]
theorem c_leadInTally (l : Launch) (d : Nat) (k : cK) (z : cZ) : SMet l m_X3_leadInTally d [.ref 0] (xC k z) (rI k z ((ldF (z_ta z) 5).1 - (ldF (z_ta z) 5).2)) := by
  refine SMet_of 3 (by decide) (Nat.le_of_ble_eq_true rfl) (t_X3_leadInTally_0 _ _ _ ?_)
  refine aw_up 5 (fun a => SW l m_X3_leadInTally none _ d 0 0 _ 6 [some (.ref 0), some (.int (ldF (z_ta z) a).1), some (.int (ldF (z_ta z) a).2), some (.int (nI a))] [] (xC k z)) ?_ ?_ 0 (Nat.zero_le _)
  · exact t_X3_leadInTally_6 _ _ _ (br_t (nI_le (Nat.le_refl _) (by decide)) ⟨rfl, rfl⟩)
  · intro a ha ih
    simp only [nI_succ, ldF] at ih
    refine t_X3_leadInTally_6 _ _ _ (br_f (nI_ge (b := 5) ha (by decide)) ⟨a, rfl, ha, ⟨fun c => ⟨a, rfl, ha, ⟨fun c2 => ?_, fun c2 => ⟨a, rfl, ha, ?_⟩⟩⟩, fun c => ⟨a, rfl, ha, ?_⟩⟩⟩)
    · rw [cI_t c, cI_t c, cI_t c2] at ih
      exact ih
    · rw [cI_t c, cI_t c, cI_f c2] at ih
      exact ih
    · rw [cI_f c, cI_f c] at ih
      exact ih
end
